/-! A NUMBER ON THE TAPE -/
def nst (f : Nat → Int32) (b w : Nat) : Nat := if 31 < 10 * w + (f b).toNatClampNeg - 48 then 31 else 10 * w + (f b).toNatClampNeg - 48
def nu (f : Nat → Int32) : Nat → Nat → Nat → Nat × Nat
  | 0, b, w => (b, w)
  | m + 1, b, w => if 48 ≤ (f b).toInt ∧ (f b).toInt ≤ 57 then nu f m (b + 1) (nst f b w) else (b, w)
def pNum (f : Nat → Int32) (n a : Nat) : Nat × Int32 :=
  if 48 ≤ (chr f n a).toInt ∧ (chr f n a).toInt ≤ 57 then
    (if (nu f (n - sk f n a) (sk f n a) 0).2 ≤ 30 then ((nu f (n - sk f n a) (sk f n a) 0).1, nI (nu f (n - sk f n a) (sk f n a) 0).2) else (sk f n a, -1))
  else (sk f n a, -1)
theorem nst_le {f : Nat → Int32} {b w : Nat} : nst f b w ≤ 31 := by
  unfold nst
  split <;> omega
theorem nu_le {f : Nat → Int32} : ∀ m b w : Nat, b ≤ (nu f m b w).1 ∧ (nu f m b w).1 ≤ b + m
  | 0, b, w => ⟨Nat.le_refl _, Nat.le_refl _⟩
  | m + 1, b, w => by
    show b ≤ (if _ then _ else _ : Nat × Nat).1 ∧ (if _ then _ else _ : Nat × Nat).1 ≤ b + (m + 1)
    by_cases h : 48 ≤ (f b).toInt ∧ (f b).toInt ≤ 57
    · rw [if_pos h]
      have := nu_le (f := f) m (b + 1) (nst f b w)
      omega
    · rw [if_neg h]
      exact ⟨Nat.le_refl _, Nat.le_add_right _ _⟩
theorem dig_c {x : Int32} (h : 48 ≤ x.toInt ∧ x.toInt ≤ 57) : x = nI x.toNatClampNeg ∧ 48 ≤ x.toNatClampNeg ∧ x.toNatClampNeg ≤ 57 := by
  have t := tn (i := x) (by omega)
  exact ⟨nI_of_t (by omega), by omega, by omega⟩
theorem acc_eq {x : Int32} {w : Nat} (h : 48 ≤ x.toInt ∧ x.toInt ≤ 57) : (10 : Int32) * nI w + x - 48 = nI (10 * w + x.toNatClampNeg - 48) := by
  obtain ⟨e, h1, h2⟩ := dig_c h
  have e2 : (10 : Int32) * nI w = nI (10 * w) := pk_mul 10 _
  conv => lhs; rw [e2, e]
  rw [nI_add]
  exact pk_sub (b := 48) (by omega)
theorem lp_X5_num {Q : Int32 → tS → Prop} {f : Nat → Int32} {n s : Nat} {S : tS} (hT : TpC f n S) (r : Nat × Nat) (k1 : r.2 ≤ 30 → Q (nI r.2) (tC S r.1)) (k0 : ¬ r.2 ≤ 30 → Q (-1) (tC S s)) : ∀ m b w : Nat, b + m = n → w ≤ 31 → r = nu f m b w → tk_Gs mX5_numberUpTo none 19 [.ref 21, .int 30, .int (nI s), .int (nI w)] [] (tC S b) Q := by
  have n160 := hT.1
  intro m
  induction m with
  | zero =>
    intro b w e hw er
    have er : r = (b, w) := er
    subst er
    have c : (tC S b) 21 0 ≤ (tC S b) 21 1 := by rw [tC_at, show (tC S b) 21 0 = S 21 0 from tk_up_sn (by decide), hT.2.1]; exact nI_le (by omega) (by omega)
    refine w_X5_numberUpTo_19 _ _ _ ⟨fun _ => ⟨fun d => ?_, fun d => ?_⟩, fun z => absurd c z⟩
    · rw [xle, nI_t (by omega)] at d
      simp only [Int32.reduceToInt] at d
      exact k1 (by show w ≤ 30; omega)
    · rw [xle, nI_t (by omega)] at d
      simp only [Int32.reduceToInt] at d
      have := k0 (by show ¬ w ≤ 30; omega)
      show Q (-1) (tC (tC S b) s)
      rw [tC_tC]
      exact this
  | succ m ih =>
    intro b w e hw er
    have er : r = if 48 ≤ (f b).toInt ∧ (f b).toInt ≤ 57 then nu f m (b + 1) (nst f b w) else (b, w) := er
    have c : ¬ (tC S b) 21 0 ≤ (tC S b) 21 1 := by rw [tC_at, show (tC S b) 21 0 = S 21 0 from tk_up_sn (by decide), hT.2.1]; exact nI_ge (by omega) (by omega)
    have cb : (nI b).toNatClampNeg = b := nI_c (by omega)
    have fb : (tC S b) 22 b = f b := by rw [show (tC S b) 22 = S 22 from tk_up_n (by decide)]; exact (hT.2.2 b (by omega)).1
    have vb : vp_in (nI b) 160 := vp_in_nI (by omega) (by omega)
    refine w_X5_numberUpTo_19 _ _ _ ⟨fun z => absurd z c, fun _ => ?_⟩
    rw [tC_at]
    refine ⟨vb, ?_⟩
    rw [cb, fb]
    refine sp_X5_isDigit (fun h => zf ⟨fun d => ?_, fun d => ?_⟩) (fun h => zt ?_)
    · rw [if_neg h] at er
      subst er
      rw [xle, nI_t (by omega)] at d
      simp only [Int32.reduceToInt] at d
      exact k1 (by show w ≤ 30; omega)
    · rw [if_neg h] at er
      subst er
      rw [xle, nI_t (by omega)] at d
      simp only [Int32.reduceToInt] at d
      have := k0 (by show ¬ w ≤ 30; omega)
      show Q (-1) (tC (tC S b) s)
      rw [tC_tC]
      exact this
    · rw [if_pos h] at er
      rw [tC_at, cb, fb, acc_eq h]
      refine ⟨vb, ?_⟩
      have e31 : (30 : Int32) + 1 = nI 31 := by decide
      obtain ⟨-, h1, h2⟩ := dig_c h
      have ew : (if (30 : Int32) + 1 < nI (10 * w + (f b).toNatClampNeg - 48) then (30 : Int32) + 1 else nI (10 * w + (f b).toNatClampNeg - 48)) = nI (nst f b w) := by
        rw [e31]
        unfold nst
        by_cases q : 31 < 10 * w + (f b).toNatClampNeg - 48
        · rw [if_pos q, if_pos (by rw [xlt, nI_t (by omega), nI_t (by omega)]; omega)]
        · rw [if_neg q, if_neg (by rw [xlt, nI_t (by omega), nI_t (by omega)]; omega)]
      rw [ew, nI_1]
      show tk_Gs mX5_numberUpTo none 19 _ [] (tC (tC S b) (b + 1)) Q
      rw [tC_tC]
      exact ih (b + 1) (nst f b w) (by omega) nst_le er
theorem sp_X5_num {Q : Int32 → tS → Prop} {f : Nat → Int32} {n a : Nat} {S : tS} (ha : a ≤ n) (hT : TpC f n S) (hat : S 21 1 = nI a) (k : Q (pNum f n a).2 (tC S (pNum f n a).1)) : tk_Ms mX5_numberUpTo [.ref 21, .int 30] S Q := by
  unfold pNum at k
  refine w_X5_numberUpTo _ (sp_X5_ahead ha hT hat (sp_X5_isDigit (fun h => zf' (okI (by decide) ?_)) (fun h => zt' ?_)))
  · rw [if_neg h] at k
    exact k
  · rw [if_pos h] at k
    rw [tC_at]
    have hs := sk_n (f := f) ha
    refine lp_X5_num hT _ (fun q => okI (by decide) ?_) (fun q => okI (by decide) ?_) (n - sk f n a) (sk f n a) 0 (by omega) (by omega) rfl
    · rw [if_pos q] at k
      exact k
    · rw [if_neg q] at k
      exact k
def vw (v w : Nat) : Prop := (v ≤ 30 ∧ w = v) ∨ (31 ≤ v ∧ v ≤ 100000 ∧ w = 31)
theorem lp_X8_num {Q : Int32 → tS → Prop} {f : Nat → Int32} {n s : Nat} {S : tS} (hT : TpM f n S) (hs : s ≤ 160) (r : Nat × Nat) (k1 : r.1 ≠ s → r.2 ≤ 30 → Q (nI r.2) (tM' S r.1)) (k0 : ¬ (r.1 ≠ s ∧ r.2 ≤ 30) → Q (-1) (tM' S s)) : ∀ m b w v : Nat, b + m = n → vw v w → r = nu f m b w → tk_Gs mX8_readMinutes none 12 [.ref 45, .int (nI s), .int (nI v)] [] (tM' S b) Q := by
  have n160 := hT.1
  have stop : ∀ b w v : Nat, b ≤ n → vw v w → r = (b, w) → ((¬ nI b = nI s → ((nI v ≤ 30 → Q (nI v) (tM' S b)) ∧ (¬ nI v ≤ 30 → Q (-1) (tk_up (tM' S b) 45 13 (nI s))))) ∧ (nI b = nI s → Q (-1) (tM' S b))) := by
    intro b w v hb hv er
    subst er
    have hv2 : v ≤ 100000 := by rcases hv with h | h <;> omega
    refine ⟨fun g => ⟨fun d => ?_, fun d => ?_⟩, fun g => ?_⟩
    · rw [xle, nI_t (by omega)] at d
      simp only [Int32.reduceToInt] at d
      rcases hv with h | h
      · have := k1 (fun z => g (by rw [show b = s from z])) (by show w ≤ 30; omega)
        rw [← h.2]
        exact this
      · omega
    · rw [xle, nI_t (by omega)] at d
      simp only [Int32.reduceToInt] at d
      have := k0 (fun z => by have h2 : w ≤ 30 := z.2; rcases hv with h | h <;> omega)
      show Q (-1) (tM' (tM' S b) s)
      rw [tM_tM]
      exact this
    · have e : b = s := nI_ij (by omega) (by omega) g
      have := k0 (fun z => z.1 e)
      rw [e]
      exact this
  have e12 : ∀ b, (tM' S b) 45 12 = nI n := fun b => by rw [show (tM' S b) 45 12 = S 45 12 from tk_up_sn (by decide)]; exact hT.2.1
  intro m
  induction m with
  | zero =>
    intro b w v e hv er
    have c : (tM' S b) 45 12 ≤ (tM' S b) 45 13 := by rw [tM_at, e12]; exact nI_le (by omega) (by omega)
    refine w_X8_readMinutes_12 _ _ ⟨fun _ => ?_, fun z => absurd c z⟩
    rw [tM_at]
    exact stop b w v (by omega) hv er
  | succ m ih =>
    intro b w v e hv er
    have er : r = if 48 ≤ (f b).toInt ∧ (f b).toInt ≤ 57 then nu f m (b + 1) (nst f b w) else (b, w) := er
    have c : ¬ (tM' S b) 45 12 ≤ (tM' S b) 45 13 := by rw [tM_at, e12]; exact nI_ge (by omega) (by omega)
    have cb : (nI b).toNatClampNeg = b := nI_c (by omega)
    have fb : (tM' S b) 54 b = f b := by rw [show (tM' S b) 54 = S 54 from tk_up_n (by decide)]; exact (hT.2.2 b (by omega)).1
    have vb : vp_in (nI b) 160 := vp_in_nI (by omega) (by omega)
    refine w_X8_readMinutes_12 _ _ ⟨fun z => absurd z c, fun _ => ?_⟩
    rw [tM_at]
    refine ⟨vb, ?_⟩
    rw [cb, fb]
    refine sp_X8_in (fun h => zf ?_) (fun h => zt ?_)
    · rw [l64] at h
      rw [if_neg (show ¬ (48 ≤ (f b).toInt ∧ (f b).toInt ≤ 57) from h)] at er
      rw [tM_at]
      exact stop b w v (by omega) hv er
    · rw [l64] at h
      have h : 48 ≤ (f b).toInt ∧ (f b).toInt ≤ 57 := h
      rw [if_pos h] at er
      obtain ⟨-, h1, h2⟩ := dig_c h
      rw [tM_at, cb, fb, acc_eq h, nI_1]
      have nxt : ∀ v', vw v' (nst f b w) → tk_Gs mX8_readMinutes none 12 [.ref 45, .int (nI s), .int (nI v')] [] (tk_up (tM' S b) 45 13 (nI (b + 1))) Q := by
        intro v' hv'
        show tk_Gs mX8_readMinutes none 12 _ [] (tM' (tM' S b) (b + 1)) Q
        rw [tM_tM]
        exact ih (b + 1) (nst f b w) v' (by omega) hv' er
      have hv2 : v ≤ 100000 := by rcases hv with h | h <;> omega
      refine ⟨fun d => ⟨vb, nxt _ ?_⟩, fun d => nxt _ ?_⟩
      · rw [xle, nI_t (by omega)] at d
        simp only [Int32.reduceToInt] at d
        unfold vw nst
        rcases hv with g | g
        · rw [g.2]
          by_cases q : 31 < 10 * v + (f b).toNatClampNeg - 48
          · rw [if_pos q]; omega
          · rw [if_neg q]; omega
        · rw [g.2.2, if_pos (by omega)]
          omega
      · rw [xle, nI_t (by omega)] at d
        simp only [Int32.reduceToInt] at d
        unfold vw nst
        rcases hv with g | g
        · omega
        · rw [g.2.2, if_pos (by omega)]
          omega
theorem sp_X8_num {Q : Int32 → tS → Prop} {f : Nat → Int32} {n a : Nat} {S : tS} (ha : a ≤ n) (hT : TpM f n S) (hat : S 45 13 = nI a) (k : Q (pNum f n a).2 (tM' S (pNum f n a).1)) : tk_Ms mX8_readMinutes [.ref 45] S Q := by
  have n160 := hT.1
  have hs := sk_n (f := f) ha
  refine w_X8_readMinutes (sp_X8_nextByte ha hT hat ?_)
  rw [tM_at]
  have key : ∀ {x : Nat}, (48 ≤ (chr f n a).toInt ∧ (chr f n a).toInt ≤ 57) → sk f n a < n ∧ f (sk f n a) = chr f n a := by
    intro _ h
    have h1 : chr f n a ≠ -1 := fun z => by rw [z] at h; exact absurd h.1 (by decide)
    have h2 := sk_lt hT.ok h1
    refine ⟨h2, ?_⟩
    unfold chr
    rw [if_pos h2]
  refine lp_X8_num hT (by omega) _ (fun q1 q2 => okI (by decide) ?_) (fun q => okI (by decide) ?_) (n - sk f n a) (sk f n a) 0 0 (by omega) (Or.inl ⟨by omega, rfl⟩) rfl
  · have h : 48 ≤ (chr f n a).toInt ∧ (chr f n a).toInt ≤ 57 := by
      refine Classical.byContradiction (fun h => q1 ?_)
      by_cases hl : sk f n a < n
      · rw [show n - sk f n a = (n - sk f n a - 1) + 1 by omega]
        have : f (sk f n a) = chr f n a := by unfold chr; rw [if_pos hl]
        show (if 48 ≤ (f (sk f n a)).toInt ∧ (f (sk f n a)).toInt ≤ 57 then _ else _ : Nat × Nat).1 = _
        rw [this, if_neg h]
      · rw [show n - sk f n a = 0 by omega]
        rfl
    unfold pNum at k
    rw [if_pos h, if_pos q2] at k
    exact k
  · have e : pNum f n a = (sk f n a, -1) := by
      unfold pNum
      by_cases h : 48 ≤ (chr f n a).toInt ∧ (chr f n a).toInt ≤ 57
      · rw [if_pos h, if_neg (fun z => q ⟨?_, z⟩)]
        obtain ⟨hl, hc⟩ := key (x := 0) h
        rw [show n - sk f n a = (n - sk f n a - 1) + 1 by omega]
        show (if 48 ≤ (f (sk f n a)).toInt ∧ (f (sk f n a)).toInt ≤ 57 then nu f (n - sk f n a - 1) (sk f n a + 1) (nst f (sk f n a) 0) else _ : Nat × Nat).1 ≠ _
        rw [hc, if_pos h]
        have := (nu_le (f := f) (n - sk f n a - 1) (sk f n a + 1) (nst f (sk f n a) 0)).1
        omega
      · rw [if_neg h]
    rw [e] at k
    exact k
