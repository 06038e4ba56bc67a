/-! A HOUSE ON THE TAPE: the object -/
theorem sk_sk {f : Nat → Int32} {n : Nat} : ∀ m a : Nat, a + m = n → sk f n (sk f n a) = sk f n a
  | 0, a, h => by rw [sk_end (a := a) (by omega), sk_end (by omega)]
  | m + 1, a, h => by
    by_cases e : f a = 32
    · rw [sk_step (by omega) e]
      exact sk_sk m (a + 1) (by omega)
    · rw [sk_stop (a := a) (by omega) e, sk_stop (by omega) e]
theorem sk_i {f : Nat → Int32} {n a : Nat} (h : a ≤ n) : sk f n (sk f n a) = sk f n a := sk_sk (n - a) a (by omega)
theorem chr_i {f : Nat → Int32} {n a : Nat} (h : a ≤ n) : chr f n (sk f n a) = chr f n a := by
  unfold chr
  rw [sk_i h]
theorem pDoor_le {f : Nat → Int32} {n a : Nat} (hok : ∀ i, i < n → okB (f i)) (ha : a ≤ n) : (pDoor f n a).2.1 ≤ n := by
  unfold pDoor
  by_cases c1 : dx f n a = -1
  · rw [if_pos c1]; exact sk_n ha
  · rw [if_neg c1]
    have l1 := sk_lt hok (pPl_n c1)
    by_cases c2 : ¬ chr f n (sk f n a + 1) = 45
    · rw [if_pos c2]; exact sk_n (by omega)
    · rw [if_neg c2]
      have l2 := sk_lt (a := sk f n a + 1) hok (by rw [Classical.not_not.mp c2]; decide)
      by_cases c3 : dy f n a = -1
      · rw [if_pos c3]; exact sk_n (a := d2 f n a) l2
      · rw [if_neg c3]
        have l3 : d3 f n a < n := sk_lt hok (pPl_n c3)
        by_cases m : mjB (dx f n a) (dy f n a) = false
        · rw [if_pos m]; exact Nat.le_of_lt l3
        · rw [if_neg m]
          by_cases c5 : chr f n (d3 f n a + 1) = 108
          · rw [if_pos c5]
            have l5 := sk_lt (a := d3 f n a + 1) hok (by rw [c5]; decide)
            by_cases c6 : 48 ≤ (chr f n (d4 f n a)).toInt ∧ (chr f n (d4 f n a)).toInt < 48 + 8
            · rw [if_pos c6]
              exact sk_lt (a := d4 f n a) hok (fun z => by rw [z] at c6; exact absurd c6.1 (by decide))
            · rw [if_neg c6]; exact sk_n (a := d4 f n a) l5
          · rw [if_neg c5]; exact sk_n (by omega)
theorem pDoor_ok {f : Nat → Int32} {n a : Nat} (hok : ∀ i, i < n → okB (f i)) (h : (pDoor f n a).1 = true) : (0 ≤ (dx f n a).toInt ∧ (dx f n a).toInt ≤ 10) ∧ (0 ≤ (dy f n a).toInt ∧ (dy f n a).toInt ≤ 10) ∧ dx f n a ≠ dy f n a ∧ 0 ≤ (pDoor f n a).2.2.toInt ∧ (pDoor f n a).2.2.toInt ≤ 8 := by
  by_cases c1 : dx f n a = -1
  · unfold pDoor at h; rw [if_pos c1] at h; exact absurd h Bool.false_ne_true
  by_cases c2 : ¬ chr f n (sk f n a + 1) = 45
  · unfold pDoor at h; rw [if_neg c1, if_pos c2] at h; exact absurd h Bool.false_ne_true
  by_cases c3 : dy f n a = -1
  · unfold pDoor at h; rw [if_neg c1, if_neg c2, if_pos c3] at h; exact absurd h Bool.false_ne_true
  by_cases m : mjB (dx f n a) (dy f n a) = false
  · unfold pDoor at h; rw [if_neg c1, if_neg c2, if_neg c3, if_pos m] at h; exact absurd h Bool.false_ne_true
  have hm : dx f n a ≠ dy f n a := by
    have : mjB (dx f n a) (dy f n a) = true := by
      cases hb : mjB (dx f n a) (dy f n a) with
      | false => exact absurd hb m
      | true => rfl
    exact (of_decide_eq_true this).1
  refine ⟨(pPl_r (chr_or hok)).resolve_left c1, (pPl_r (chr_or hok)).resolve_left c3, hm, ?_⟩
  by_cases c5 : chr f n (d3 f n a + 1) = 108
  · by_cases c6 : 48 ≤ (chr f n (d4 f n a)).toInt ∧ (chr f n (d4 f n a)).toInt < 48 + 8
    · have e : pDoor f n a = (true, sk f n (d4 f n a) + 1, chr f n (d4 f n a) - 48) := by unfold pDoor; rw [if_neg c1, if_neg c2, if_neg c3, if_neg m, if_pos c5, if_pos c6]
      rw [e]
      have s := sub48 (chr_or (a := d4 f n a) hok)
      show 0 ≤ (chr f n (d4 f n a) - 48).toInt ∧ (chr f n (d4 f n a) - 48).toInt ≤ 8
      omega
    · unfold pDoor at h; rw [if_neg c1, if_neg c2, if_neg c3, if_neg m, if_pos c5, if_neg c6] at h; exact absurd h Bool.false_ne_true
  · have e : pDoor f n a = (true, sk f n (d3 f n a + 1), 8) := by unfold pDoor; rw [if_neg c1, if_neg c2, if_neg c3, if_neg m, if_neg c5]
    rw [e]
    show 0 ≤ (8 : Int32).toInt ∧ (8 : Int32).toInt ≤ 8
    decide
theorem tC_23 {S : tS} {b : Nat} {x : Int32} (h : S 23 0 = x) : (tC S b) 23 0 = x := by
  unfold tC
  rw [tk_up_n (by decide)]
  exact h
theorem tC_at {S : tS} {b : Nat} : (tC S b) 21 1 = nI b := tk_up_ss
def hP (f : Nat → Int32) (n : Nat) : Nat → Nat
  | 0 => 0
  | k + 1 => sk f n (pDoor f n (hP f n k)).2.1 + 1
def pH (f : Nat → Int32) (n : Nat) : Nat → Nat → Bool × Nat × Nat
  | 0, k => (false, 0, k)
  | m + 1, k =>
    if (pDoor f n (hP f n k)).1 = false then (false, sk f n (pDoor f n (hP f n k)).2.1, k)
    else if chr f n (pDoor f n (hP f n k)).2.1 = -1 then (true, sk f n (pDoor f n (hP f n k)).2.1, k + 1)
    else if chr f n (pDoor f n (hP f n k)).2.1 = 44 ∧ k ≠ 15 then pH f n m (k + 1)
    else (false, sk f n (pDoor f n (hP f n k)).2.1, k)
def frC (S T : tS) : Prop := (∀ c, c ≠ 21 → (c < 23 ∨ 26 < c) → T c = S c) ∧ T 21 0 = S 21 0
theorem frC.tc {S T : tS} (h : frC S T) {b : Nat} : frC S (tC T b) := by
  refine ⟨fun c h1 h2 => ?_, ?_⟩
  · unfold tC
    rw [tk_up_n h1]
    exact h.1 c h1 h2
  · unfold tC
    rw [tk_up_sn (by decide)]
    exact h.2
theorem frC.add {S T : tS} (h : frC S T) {k : Nat} {x y l : Int32} : frC S (dAdd T k x y l) := by
  refine ⟨fun c h1 h2 => ?_, ?_⟩
  · unfold dAdd
    rw [tk_up_n (by omega), tk_up_n (by omega), tk_up_n (by omega), tk_up_n (by omega)]
    exact h.1 c h1 h2
  · exact h.2
theorem TpC.fr {f : Nat → Int32} {n : Nat} {S T : tS} (h : TpC f n S) (g : frC S T) : TpC f n T := by
  unfold TpC
  rw [g.2, g.1 22 (by decide) (by decide)]
  exact h
def AR (f : Nat → Int32) (n : Nat) (T : tS) (k : Nat) : Prop := ∀ i, i < k → T 24 i = dx f n (hP f n i) ∧ T 25 i = dy f n (hP f n i) ∧ T 26 i = (pDoor f n (hP f n i)).2.2 ∧ (pDoor f n (hP f n i)).1 = true
theorem AR.tc {f : Nat → Int32} {n : Nat} {T : tS} {k b : Nat} (h : AR f n T k) : AR f n (tC T b) k := by
  unfold AR tC
  rw [tk_up_n (by decide), tk_up_n (by decide), tk_up_n (by decide)]
  exact h
theorem AR.add {f : Nat → Int32} {n : Nat} {T : tS} {k : Nat} (h : AR f n T k) (hk : (pDoor f n (hP f n k)).1 = true) : AR f n (dAdd T k (dx f n (hP f n k)) (dy f n (hP f n k)) (pDoor f n (hP f n k)).2.2) (k + 1) := by
  intro i hi
  show upd (T 24) k (dx f n (hP f n k)) i = _ ∧ upd (T 25) k (dy f n (hP f n k)) i = _ ∧ upd (T 26) k (pDoor f n (hP f n k)).2.2 i = _ ∧ _
  by_cases e : i = k
  · subst e
    rw [upd_s, upd_s, upd_s]
    exact ⟨rfl, rfl, rfl, hk⟩
  · rw [upd_n e, upd_n e, upd_n e]
    exact h i (by omega)
def bl (T : tS) : tS := tk_upR (tk_upR (tk_upR (tk_up T 1 0 (T 23 0)) 2 (va_cpy (T 24) (T 2) 0 0 16)) 3 (va_cpy (T 25) (T 3) 0 0 16)) 4 (va_cpy (T 26) (T 4) 0 0 16)
theorem sp_X2_like {Q : Int32 → tS → Prop} {T : tS} (k : Q 0 (bl T)) : tk_Ms mX2_becomeLike [.ref 1, .ref 23] T Q :=
  w_X2_becomeLike_1_23 ⟨no0, no0, no16, b17, b17, no0, no0, no16, b17, b17, no0, no0, no16, b17, b17, okI (by decide) k⟩
theorem lp_X7_readHouse {Q : Int32 → tS → Prop} {f : Nat → Int32} {n : Nat} {S : tS} (hT : TpC f n S) (r : Bool × Nat × Nat) (kF : ∀ T, frC S T → r.1 = false → Q (-20 - nI r.2.1) T) (kT : ∀ T, frC S T → r.1 = true → T 23 0 = nI r.2.2 → r.2.2 ≤ 16 → AR f n T r.2.2 → Q (nI r.2.2) (bl T)) : ∀ (m k : Nat) (T : tS), m + k = 16 → 0 < m → r = pH f n m k → frC S T → T 21 1 = nI (hP f n k) → hP f n k ≤ n → T 23 0 = nI k → AR f n T k → tk_Gs mX7_readHouse none 20 [.ref 0, .int 1, .int (nI (k + 1))] [] T Q := by
  intro m
  induction m with
  | zero => exact fun _ _ _ h => absurd h (Nat.lt_irrefl 0)
  | succ m ih =>
    intro k T e _ er hfr hat hle h23 hAR
    have hok := hT.ok
    have hd := pDoor_le hok hle
    generalize hD : (pDoor f n (hP f n k)).2.1 = b at *
    have er' : r = (if (pDoor f n (hP f n k)).1 = false then (false, sk f n b, k) else if chr f n b = -1 then (true, sk f n b, k + 1) else if chr f n b = 44 ∧ k ≠ 15 then pH f n m (k + 1) else (false, sk f n b, k)) := by
      rw [er]
      show (if _ then _ else _) = _
      rw [hD]
    have hd0 : ∀ (T' : tS) (b' : Nat) (l2 : Int32), (pDoor f n (hP f n k)).1 = true → (b' = b ∨ b' = sk f n b) → ¬ (chr f n b = 44 ∧ k ≠ 15) → frC S T' → T' 21 1 = nI b' → T' 23 0 = nI (k + 1) → AR f n T' (k + 1) → tk_Gs mX7_readHouse none 20 [.ref 0, .int 0, .int l2] [] T' Q := by
      intro T' b' l2 hp hb' hn44 f1 f2 f3 f4
      have hb2 : b' ≤ n ∧ sk f n b' = sk f n b ∧ chr f n b' = chr f n b := by
        rcases hb' with z | z
        · subst z; exact ⟨hd, rfl, rfl⟩
        · subst z; exact ⟨sk_n hd, sk_i hd, chr_i hd⟩
      rw [if_neg (by rw [hp]; decide)] at er'
      refine w_X7_readHouse_20 _ _ (zf (sp_X5_ahead hb2.1 (hT.fr f1) f2 ⟨fun z => ?_, fun z => ?_⟩))
      · rw [hb2.2.2] at z
        rw [if_pos z] at er'
        refine sp_X2_like ?_
        have := kT (tC T' (sk f n b')) f1.tc (by rw [er']) (by rw [er']; exact tC_23 f3) (by rw [er']; show k + 1 ≤ 16; omega) (by rw [er']; exact f4.tc)
        rw [er'] at this
        show Q (T' 23 0) _
        rw [f3]
        exact this
      · rw [hb2.2.2] at z
        rw [if_neg z, if_neg hn44] at er'
        refine sp_X5_fault (f := f) (n := n) (a := sk f n b') (sk_n hb2.1) (hT.fr f1.tc) tC_at ?_
        rw [sk_i hb2.1, hb2.2.1]
        have := kF (tC (tC T' (sk f n b)) (sk f n b)) f1.tc.tc (by rw [er'])
        rw [er'] at this
        exact this
    refine w_X7_readHouse_20 _ _ (zt ⟨fun c => absurd c (nI_nlt (a := 16) (b := k + 1) (by omega) (by omega)), fun _ => sp_X7_readDoor hle (hT.fr hfr) hat (by omega) h23 (fun z => zf' ?_) (fun z => zt' ?_)⟩)
    · rw [hD]
      refine sp_X5_fault (f := f) (n := n) (a := b) hd (hT.fr hfr.tc) tC_at ?_
      rw [if_pos z] at er'
      have := kF (tC (tC T b) (sk f n b)) hfr.tc.tc (by rw [er'])
      rw [er'] at this
      exact this
    · rw [hD]
      have f1 : frC S (dAdd (tC T b) k (dx f n (hP f n k)) (dy f n (hP f n k)) (pDoor f n (hP f n k)).2.2) := hfr.tc.add
      have f4 : AR f n (dAdd (tC T b) k (dx f n (hP f n k)) (dy f n (hP f n k)) (pDoor f n (hP f n k)).2.2) (k + 1) := hAR.tc.add z
      have f2 : (dAdd (tC T b) k (dx f n (hP f n k)) (dy f n (hP f n k)) (pDoor f n (hP f n k)).2.2) 21 1 = nI b := by
        unfold dAdd
        rw [tk_up_n (by decide), tk_up_n (by decide), tk_up_n (by decide), tk_up_n (by decide)]
        exact tk_up_ss
      have f3 : (dAdd (tC T b) k (dx f n (hP f n k)) (dy f n (hP f n k)) (pDoor f n (hP f n k)).2.2) 23 0 = nI (k + 1) := by unfold dAdd; exact tk_up_ss
      generalize dAdd (tC T b) k (dx f n (hP f n k)) (dy f n (hP f n k)) (pDoor f n (hP f n k)).2.2 = T1 at *
      refine ⟨fun c => hd0 T1 b _ z (Or.inl rfl) ?_ f1 f2 f3 f4, fun c => sp_X5_take (f := f) (n := n) (a := b) hd (hT.fr f1) f2 (fun y => zf (hd0 _ (sk f n b) _ z (Or.inr rfl) (fun w => y w.1) f1.tc tC_at (tC_23 f3) f4.tc)) (fun y => zt ?_)⟩
      · rw [xle, nI_t (by omega)] at c
        simp only [Int32.reduceToInt] at c
        omega
      · have hk15 : k ≠ 15 := fun w => by
          subst w
          exact c (by decide)
        rw [if_neg (by rw [z]; decide), if_neg (by rw [y]; decide), if_pos ⟨y, hk15⟩] at er'
        have hP1 : hP f n (k + 1) = sk f n b + 1 := by
          show sk f n (pDoor f n (hP f n k)).2.1 + 1 = _
          rw [hD]
        have lt := sk_lt (a := b) hok (by rw [y]; decide)
        rw [nI_1]
        exact ih (k + 1) (tC T1 (sk f n b + 1)) (by omega) (by omega) er' f1.tc (by rw [hP1]; exact tC_at) (by omega) (tC_23 f3) f4.tc
