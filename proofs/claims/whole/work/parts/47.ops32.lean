/-! A HOUSE ON THE TAPE: the reference, and both -/
def frH (S T : tS) : Prop := (∀ c, c ≠ 55 → c ≠ 45 → T c = S c) ∧ ∀ j, j ≠ 13 → j ≠ 14 → T 45 j = S 45 j
theorem frH.m {S T U : tS} (h : frH S T) (g : frM T U) : frH S U :=
  ⟨fun c h1 h2 => (g.1 c h1 h2).trans (h.1 c h1 h2), fun j h1 h2 => (g.2 j h1).trans (h.2 j h1 h2)⟩
theorem frH.r {S T : tS} (h : frH S T) {x : Int32} : frH S (tk_up T 45 14 x) := by
  refine ⟨fun c h1 h2 => ?_, fun j h1 h2 => ?_⟩
  · rw [tk_up_n h2]
    exact h.1 c h1 h2
  · rw [tk_up_sn h2]
    exact h.2 j h1 h2
theorem TpM.frh {f : Nat → Int32} {n : Nat} {S T : tS} (h : TpM f n S) (g : frH S T) : TpM f n T := by
  unfold TpM
  rw [g.2 12 (by decide) (by decide), g.1 54 (by decide) (by decide)]
  exact h
def RD (f : Nat → Int32) (n : Nat) (T : tS) (k : Nat) : Prop := ∀ i, i < k → T 55 (3 * i) = dx f n (hP f n i) ∧ T 55 (3 * i + 1) = dy f n (hP f n i) ∧ T 55 (3 * i + 2) = (pDoor f n (hP f n i)).2.2
theorem RD.e {f : Nat → Int32} {n : Nat} {T U : tS} {k : Nat} (h : RD f n T k) (e : U 55 = T 55) : RD f n U k := by
  unfold RD
  rw [e]
  exact h
theorem RD.add {f : Nat → Int32} {n : Nat} {T : tS} {k : Nat} (h : RD f n T k) : RD f n (tk_up (tk_up (tk_up T 55 (3 * k) (dx f n (hP f n k))) 55 (3 * k + 1) (dy f n (hP f n k))) 55 (3 * k + 2) (pDoor f n (hP f n k)).2.2) (k + 1) := by
  intro i hi
  by_cases e : i = k
  · subst e
    refine ⟨?_, ?_, tk_up_ss⟩
    · rw [tk_up_sn (by omega), tk_up_sn (by omega)]
      exact tk_up_ss
    · rw [tk_up_sn (by omega)]
      exact tk_up_ss
  · obtain ⟨h1, h2, h3⟩ := h i (by omega)
    refine ⟨?_, ?_, ?_⟩
    · rw [tk_up_sn (by omega), tk_up_sn (by omega), tk_up_sn (by omega)]
      exact h1
    · rw [tk_up_sn (by omega), tk_up_sn (by omega), tk_up_sn (by omega)]
      exact h2
    · rw [tk_up_sn (by omega), tk_up_sn (by omega), tk_up_sn (by omega)]
      exact h3
theorem tM_at {S : tS} {b : Nat} : (tM' S b) 45 13 = nI b := tk_up_ss
theorem tM_55 {S : tS} {b : Nat} : (tM' S b) 55 = S 55 := tk_up_n (by decide)
theorem tM_14 {S : tS} {b : Nat} : (tM' S b) 45 14 = S 45 14 := tk_up_sn (by decide)
theorem lp_X8_readHouse {Q : Int32 → tS → Prop} {f : Nat → Int32} {n : Nat} {S : tS} (hT : TpM f n S) (r : Bool × Nat × Nat) (kF : ∀ T b, frH S T → T 45 13 = nI b → b ≤ n → sk f n b = r.2.1 → r.1 = false → Q 0 T) (kT : ∀ T, frH S T → r.1 = true → T 45 14 = nI r.2.2 → r.2.2 ≤ 16 → RD f n T r.2.2 → Q 1 T) : ∀ (m k : Nat) (T : tS), m + k = 16 → 0 < m → r = pH f n m k → frH S T → T 45 13 = nI (hP f n k) → hP f n k ≤ n → RD f n T k → tk_Gs mX8_readHouse none 7 [.ref 45, .int (nI k), .null] [] T Q := by
  intro m
  induction m with
  | zero => exact fun _ _ _ h => absurd h (Nat.lt_irrefl 0)
  | succ m ih =>
    intro k T e _ er hfr hat hle hRD
    have hok := hT.ok
    have hd := pDoor_le hok hle
    have e3 : (3 : Int32) * nI k = nI (3 * k) := pk_mul 3 _
    refine w_X8_readHouse_7 _ ⟨fun c => absurd c (nI_ge (a := k) (b := 16) (by omega) (by omega)), fun _ => ?_⟩
    rw [e3]
    refine sp_X8_readDoor hle (hT.frh hfr) hat (by omega) (fun U hU hU2 z => zf' ?_) (fun z => zt' ?_)
    · have er' : r = (false, sk f n (pDoor f n (hP f n k)).2.1, k) := by rw [er]; exact if_pos z
      exact kF U _ (hfr.m hU) hU2 hd (by rw [er']) (by rw [er'])
    · generalize hD : (pDoor f n (hP f n k)).2.1 = b at *
      have er' : r = (if chr f n b = -1 then (true, sk f n b, k + 1) else if chr f n b = 44 ∧ k ≠ 15 then pH f n m (k + 1) else (false, sk f n b, k)) := by
        rw [er]
        show (if _ then _ else _) = _
        rw [hD, if_neg (by rw [z]; decide)]
      have hR1 := hRD.add
      have f1 : frM T (tk_up (tk_up (tk_up T 55 (3 * k) (dx f n (hP f n k))) 55 (3 * k + 1) (dy f n (hP f n k))) 55 (3 * k + 2) (pDoor f n (hP f n k)).2.2) := frM.refl.r55.r55.r55
      generalize tk_up (tk_up (tk_up T 55 (3 * k) (dx f n (hP f n k))) 55 (3 * k + 1) (dy f n (hP f n k))) 55 (3 * k + 2) (pDoor f n (hP f n k)).2.2 = U at *
      have g1 : frH S (tk_up (tM' U b) 45 14 (nI k + 1)) := (hfr.m f1.tm).r
      have g2 : (tk_up (tM' U b) 45 14 (nI k + 1)) 45 13 = nI b := by rw [tk_up_sn (by decide)]; exact tM_at
      have g3 : RD f n (tk_up (tM' U b) 45 14 (nI k + 1)) (k + 1) := hR1.e (by rw [tk_up_n (by decide)]; exact tM_55)
      have g4 : (tk_up (tM' U b) 45 14 (nI k + 1)) 45 14 = nI (k + 1) := by rw [tk_up_ss, nI_1]
      generalize tk_up (tM' U b) 45 14 (nI k + 1) = V at *
      refine sp_X8_nextByte hd (hT.frh g1) g2 ⟨fun c => ⟨fun c2 => ?_, fun c2 => ⟨fun c3 => ?_, fun c3 => ?_⟩⟩, fun c => ?_⟩
      · have n1 : chr f n b ≠ -1 := fun w => by rw [w] at c; exact absurd c (by decide)
        rw [if_neg n1, if_neg (fun w => c2 w.1)] at er'
        exact kF _ (sk f n b) (g1.m frM.refl.tm) tM_at (sk_n hd) (by rw [er']; exact sk_i hd) (by rw [er'])
      · have k15 : k ≠ 15 := fun w => c3 (by rw [w]; rfl)
        rw [if_neg (by rw [c2]; decide), if_pos ⟨c2, k15⟩] at er'
        have hP1 : hP f n (k + 1) = sk f n b + 1 := by
          show sk f n (pDoor f n (hP f n k)).2.1 + 1 = _
          rw [hD]
        have lt := sk_lt (a := b) hok (by rw [c2]; decide)
        rw [tM2, nI_1]
        exact ih (k + 1) (tM' V (sk f n b + 1)) (by omega) (by omega) er' (g1.m frM.refl.tm) (by rw [hP1]; exact tM_at) (by omega) (g3.e tM_55)
      · have k15 : k = 15 := nI_ij (b := 15) (by omega) (by omega) c3
        rw [if_neg (by rw [c2]; decide), if_neg (fun w => w.2 k15)] at er'
        exact kF _ (sk f n b) (g1.m frM.refl.tm) tM_at (sk_n hd) (by rw [er']; exact sk_i hd) (by rw [er'])
      · have n1 : chr f n b = -1 := by
          rcases chr_ok (a := b) hok with w | w
          · exact w.1
          · rw [le0'] at c
            have := w.1.1
            omega
        rw [if_pos n1] at er'
        exact kT _ (g1.m frM.refl.tm) (by rw [er']) (by rw [er', tM_14]; exact g4) (by rw [er']; show k + 1 ≤ 16; omega) (by rw [er']; exact g3.e tM_55)
def cp46 (f : Nat → Int32) (n : Nat) (S T : tS) (j : Nat) : Prop := (∀ c, c < 46 ∨ 48 < c → T c = S c) ∧ ∀ i, (i < j → T 46 i = dx f n (hP f n i) ∧ T 47 i = dy f n (hP f n i) ∧ T 48 i = (pDoor f n (hP f n i)).2.2) ∧ (j ≤ i → T 46 i = S 46 i ∧ T 47 i = S 47 i ∧ T 48 i = S 48 i)
theorem lp_X8_house {Q : Int32 → tS → Prop} {f : Nat → Int32} {n N : Nat} {S : tS} {l1 : Int32} (hN : S 45 3 = nI N) (h16 : N ≤ 16) (hR : RD f n S N) (k : ∀ T, cp46 f n S T N → Q (nI N) T) : ∀ (m j : Nat) (T : tS), j + m = N → cp46 f n S T j → tk_Gs mX8_house none 25 [.ref 45, .int l1, .int (nI j)] [] T Q
  | 0, j, T, e, h => by
    have e : j = N := e
    subst e
    have e45 := h.1 45 (by decide)
    refine w_X8_house_25 _ _ ⟨fun _ => ?_, fun c => absurd (by rw [e45, hN]; exact nI_le (Nat.le_refl _) (by omega)) c⟩
    rw [e45, hN]
    exact k T h
  | m + 1, j, T, e, h => by
    have e45 := h.1 45 (by decide)
    have e55 := h.1 55 (by decide)
    have vj : vp_in (nI j) 17 := vp_in_nI (by omega) (by omega)
    have e3 : (3 : Int32) * nI j = nI (3 * j) := pk_mul 3 _
    have e31 : nI (3 * j) + 1 = nI (3 * j + 1) := nI_1 _
    have e32 : nI (3 * j) + 2 = nI (3 * j + 2) := nI_add (3 * j) 2
    have cj : (nI j).toNatClampNeg = j := nI_c (by omega)
    have c0 : (nI (3 * j)).toNatClampNeg = 3 * j := nI_c (by omega)
    have c1 : (nI (3 * j + 1)).toNatClampNeg = 3 * j + 1 := nI_c (by omega)
    have c2 : (nI (3 * j + 2)).toNatClampNeg = 3 * j + 2 := nI_c (by omega)
    obtain ⟨r1, r2, r3⟩ := hR j (by omega)
    refine w_X8_house_25 _ _ ⟨fun c => absurd c (by rw [e45, hN]; exact nI_ge (by omega) (by omega)), fun _ => ?_⟩
    rw [e3, e31, e32, nI_1]
    simp only [cj, c0, c1, c2, e55, r1, r2, r3]
    refine ⟨vp_in_nI (by omega) (by omega), vj, vp_in_nI (by omega) (by omega), vj, vp_in_nI (by omega) (by omega), vj, lp_X8_house hN h16 hR k m (j + 1) _ (by omega) ⟨fun c hc => ?_, fun i => ?_⟩⟩
    · rw [tk_up_n (by omega), tk_up_n (by omega), tk_up_n (by omega)]
      exact h.1 c hc
    · obtain ⟨h1, h2⟩ := h.2 i
      by_cases ei : i = j
      · subst ei
        refine ⟨fun _ => ⟨?_, ?_, tk_up_ss⟩, fun z => absurd z (by omega)⟩
        · rw [tk_up_n (by decide), tk_up_n (by decide)]
          exact tk_up_ss
        · rw [tk_up_n (by decide)]
          exact tk_up_ss
      · have q46 : ∀ x y z : Int32, (tk_up (tk_up (tk_up T 46 j x) 47 j y) 48 j z) 46 i = T 46 i := fun x y z => by rw [tk_up_n (by decide), tk_up_n (by decide), tk_up_sn ei]
        have q47 : ∀ x y z : Int32, (tk_up (tk_up (tk_up T 46 j x) 47 j y) 48 j z) 47 i = T 47 i := fun x y z => by rw [tk_up_n (by decide), tk_up_sn ei, tk_up_n (by decide)]
        have q48 : ∀ x y z : Int32, (tk_up (tk_up (tk_up T 46 j x) 47 j y) 48 j z) 48 i = T 48 i := fun x y z => by rw [tk_up_sn ei, tk_up_n (by decide), tk_up_n (by decide)]
        rw [q46, q47, q48]
        exact ⟨fun z => h1 (by omega), fun z => h2 (by omega)⟩
