/-! TYPE -/
def bo (v : Int64) (i : Int32) : Int32 := ((v >>> (((8 * i : Int32)).toInt64 &&& 63)).toInt32) &&& 255
theorem l255 (x : Int64) : (x &&& (255 : Int64)).toInt32 = x.toInt32 &&& 255 := by
  rw [Int64.toInt32_and]
  rfl
theorem l255n (x : Int64) : (x &&& (255 : Int64)).toInt = ((x &&& (255 : Int64)).toBitVec.toNat : Int) ∧ (x &&& (255 : Int64)).toBitVec.toNat ≤ 255 := by
  have h : (x &&& (255 : Int64)).toBitVec.toNat ≤ 255 := by
    rw [Int64.toBitVec_and, BitVec.toNat_and]
    exact Nat.and_le_right
  refine ⟨?_, h⟩
  show (x &&& (255 : Int64)).toBitVec.toInt = _
  exact BitVec.toInt_eq_toNat_of_lt (by omega)
theorem l255t (x : Int64) : (x &&& (255 : Int64)).toInt = (x.toInt32 &&& 255).toInt := by
  obtain ⟨h1, h2⟩ := l255n x
  rw [← l255, Int64.toInt_toInt32, h1]
  rw [Int.bmod_eq_of_le] <;> omega
theorem bo_m (v : Int64) (i : Int32) : ((v >>> (((8 * i : Int32)).toInt64 &&& 63)) &&& (255 : Int64)).toInt32 = bo v i := l255 _
theorem bo_t (v : Int64) (i : Int32) : ((v >>> (((8 * i : Int32)).toInt64 &&& 63)) &&& (255 : Int64)).toInt = (bo v i).toInt := l255t _
theorem nar_b : ∀ c, c < 127 → vp_nar .byte (nI c).toInt8.toInt32 = nI c := by decide +kernel
def okB (x : Int32) : Prop := 32 ≤ x.toInt ∧ x.toInt ≤ 126
theorem nar_ok {x : Int32} (h : okB x) : vp_nar .byte x.toInt8.toInt32 = x := by
  have h1 : 0 ≤ x.toInt := by have := h.1; omega
  have h2 := tn h1
  have e := nI_of_t h1
  have := nar_b x.toNatClampNeg (by have := h.2; omega)
  rw [← e] at this
  exact this
def tset (S : tS) (a : Nat) (f : Nat → Int32) (b j : Nat) (x : Int32) : tS := tk_up (tk_upR S a f) b j x
theorem tset_step {S : tS} {a b j : Nat} {f g : Nat → Int32} {x y : Int32} (h : a ≠ b) : tset (tset S a f b j x) a g b j y = tset S a g b j y := by
  funext k i
  unfold tset tk_up tk_upR upd
  by_cases h1 : k = b
  · subst h1
    by_cases h2 : i = j
    · simp [h2]
    · simp [h2, h.symm]
  · by_cases h2 : k = a
    · subst h2; simp [h1]
    · simp [h1, h2]
theorem tset_0 {S : tS} {a b j : Nat} {x : Int32} (h : S b j = x) (hab : a ≠ b) : tset S a (S a) b j x = S := by
  funext k i
  unfold tset tk_up tk_upR upd
  by_cases h1 : k = b
  · subst h1
    by_cases h2 : i = j
    · simp [h2, h]
    · simp [h2, hab.symm]
  · by_cases h2 : k = a
    · subst h2; simp [h1]
    · simp [h1, h2]
def wr (v : Int64) : Nat → (Nat → Int32) → Nat → (Nat → Int32)
  | 0, f, _ => f
  | i + 1, f, n => wr v i (upd f n (bo v (nI i))) (n + 1)
theorem wr_same (v : Int64) : ∀ (i : Nat) (f g : Nat → Int32) (n : Nat), (∀ k, k < n → g k = f k ∧ okB (f k)) → (∀ k, k < i → okB (bo v (nI k))) → ∀ k, k < n + i → wr v i g n k = wr v i f n k ∧ okB (wr v i f n k)
  | 0, f, g, n, h, _ => h
  | i + 1, f, g, n, h, hb => by
    intro k hk
    refine wr_same v i _ _ (n + 1) (fun j hj => ?_) (fun j hj => hb j (by omega)) k (by omega)
    by_cases e : j = n
    · subst e
      rw [upd_s, upd_s]
      exact ⟨rfl, hb i (by omega)⟩
    · rw [upd_n e, upd_n e]
      exact h j (by omega)
theorem add_m1 {x : Int32} : x + 1 + (-1) = x := by rw [Int32.add_assoc, show (1 : Int32) + -1 = 0 by decide, Int32.add_zero]
theorem sub_m1 {x : Int32} : x - 1 = x + (-1) := Int32.sub_eq_add_neg _ _
theorem nI_s1 {i : Nat} : nI (i + 1) + (-1) = nI i := by
  rw [← nI_1]
  exact add_m1
theorem lp_X7_type2 {Q : Int32 → tS → Prop} {v : Int64} {m : Int32} : ∀ (i n : Nat) (S : tS), S 21 0 = nI n → n + i ≤ 160 → (∀ k, k < i → okB (bo v (nI k))) → Q (nI (n + i)) (tset S 22 (wr v i (S 22) n) 21 0 (nI (n + i))) → tk_Gs mX7_type none 75 [.ref 0, .long v, .null, .int m, .int (nI i + (-1)), .null] [] S Q
  | 0, n, S, hn, hs, hb, k => by
    refine w_X7_type_75 _ _ _ ⟨fun _ => ?_, fun c => absurd (by decide) c⟩
    have := tset_0 (S := S) (a := 22) hn (by decide)
    rw [hn]
    rw [Nat.add_zero] at k
    show Q (nI n) S
    rw [← this]
    exact k
  | i + 1, n, S, hn, hs, hb, k => by
    rw [nI_s1]
    refine w_X7_type_75 _ _ _ ⟨fun c => absurd c (nI_nlt (a := i) (b := 0) (by omega) (by omega)), fun _ => w_X7_byteOf _ _ (okI (by decide) (w_X5_add _ ⟨fun c => ?_, fun c => ⟨?_, ok0 ?_⟩⟩))⟩
    · rw [hn] at c
      exact absurd c (nI_ge (a := n) (b := 160) (by omega) (by omega))
    · rw [hn]
      exact vp_in_nI (by omega) (by omega)
    · have hbi := hb i (by omega)
      show tk_Gs mX7_type none 75 _ [] (tset S 22 (upd (S 22) (S 21 0).toNatClampNeg (vp_nar .byte (bo v (nI i)).toInt8.toInt32)) 21 0 (S 21 0 + 1)) Q
      rw [nar_ok hbi, hn, nI_1, nI_c (by omega)]
      refine lp_X7_type2 i (n + 1) _ rfl (by omega) (fun k hk => hb k (by omega)) ?_
      rw [show n + 1 + i = n + (i + 1) by omega, tset_step (by decide)]
      exact k
theorem lp_X8_type2 {Q : Int32 → tS → Prop} {v : Int64} {m : Int32} : ∀ (i n : Nat) (S : tS), S 45 12 = nI n → n + i ≤ 160 → Q (nI (n + i)) (tset S 54 (wr v i (S 54) n) 45 12 (nI (n + i))) → tk_Gs mX8_type none 75 [.ref 45, .long v, .null, .int m, .int (nI i + (-1))] [] S Q
  | 0, n, S, hn, hs, k => by
    refine w_X8_type_75 _ _ _ ⟨fun _ => ?_, fun c => absurd (by decide) c⟩
    have := tset_0 (S := S) (a := 54) hn (by decide)
    rw [hn]
    rw [Nat.add_zero] at k
    show Q (nI n) S
    rw [← this]
    exact k
  | i + 1, n, S, hn, hs, k => by
    rw [nI_s1]
    refine w_X8_type_75 _ _ _ ⟨fun c => absurd c (nI_nlt (a := i) (b := 0) (by omega) (by omega)), fun _ => ⟨?_, ?_⟩⟩
    · rw [hn]
      exact vp_in_nI (by omega) (by omega)
    · show tk_Gs mX8_type none 75 _ [] (tset S 54 (upd (S 54) (S 45 12).toNatClampNeg (((v >>> (((8 * nI i : Int32)).toInt64 &&& 63)) &&& (255 : Int64)).toInt32)) 45 12 (S 45 12 + 1)) Q
      rw [bo_m, hn, nI_1, nI_c (by omega)]
      refine lp_X8_type2 i (n + 1) _ rfl (by omega) ?_
      rw [show n + 1 + i = n + (i + 1) by omega, tset_step (by decide)]
      exact k
def okW (v : Int64) (m : Nat) : Prop := ∀ k, k < m → okB (bo v (nI k))
theorem lp_X7_type1 {Q : Int32 → tS → Prop} {S : tS} {v : Int64} {n m : Nat} (hn : S 21 0 = nI n) (hn2 : n ≤ 160) (hm : m ≤ 8) (kb : ¬ okW v m → Q (-1) S) (kf : okW v m → 160 < n + m → Q (-3) S) (k : okW v m → n + m ≤ 160 → tk_Gs mX7_type none 75 [.ref 0, .long v, .null, .int (nI m), .int (nI m + (-1)), .null] [] S Q) : ∀ r i : Nat, i + r = m → okW v i → tk_Gs mX7_type none 16 [.ref 0, .long v, .null, .int (nI m), .int (nI i), .null] [] S Q
  | 0, i, e, h => by
    have e : i = m := e
    subst e
    have es : (160 : Int32) - nI n = nI (160 - n) := pk_sub (b := n) (a := 160) (by omega)
    refine w_X7_type_16 _ _ _ ⟨fun _ => ⟨fun c => ?_, fun c => kf h ?_⟩, fun c => absurd (nI_le (by omega) (by omega)) c⟩
    · rw [hn, es, xle, nI_t (by omega), nI_t (by omega)] at c
      rw [sub_m1]
      exact k h (by omega)
    · rw [hn, es, xle, nI_t (by omega), nI_t (by omega)] at c
      omega
  | r + 1, i, e, h => by
    refine w_X7_type_16 _ _ _ ⟨fun c => absurd c (nI_ge (by omega) (by omega)), fun _ => w_X7_byteOf _ _ (okI (by decide) ⟨fun c => kb (fun g => ?_), fun c => ⟨fun d => ?_, fun d => kb (fun g => ?_)⟩⟩)⟩
    · have := (g i (by omega)).1
      rw [xlt] at c
      simp only [Int32.reduceToInt] at c
      unfold bo at this
      omega
    · rw [nI_1]
      refine lp_X7_type1 hn hn2 hm kb kf k r (i + 1) (by omega) (fun j hj => ?_)
      by_cases ej : j = i
      · subst ej
        rw [xlt] at c
        rw [xle] at d
        simp only [Int32.reduceToInt] at c d
        exact ⟨by unfold bo; omega, by unfold bo; omega⟩
      · exact h j (by omega)
    · have := (g i (by omega)).2
      rw [xle] at d
      simp only [Int32.reduceToInt] at d
      unfold bo at this
      omega
theorem lp_X8_type1 {Q : Int32 → tS → Prop} {S : tS} {v : Int64} {n m : Nat} (hn : S 45 12 = nI n) (hn2 : n ≤ 160) (hm : m ≤ 8) (kb : ¬ okW v m → Q (-1) S) (kf : okW v m → 160 < n + m → Q (-3) S) (k : okW v m → n + m ≤ 160 → tk_Gs mX8_type none 75 [.ref 45, .long v, .null, .int (nI m), .int (nI m + (-1))] [] S Q) : ∀ i : Nat, i ≤ m → (∀ j, i ≤ j → j < m → okB (bo v (nI j))) → tk_Gs mX8_type none 19 [.ref 45, .long v, .null, .int (nI m), .int (nI i + (-1))] [] S Q
  | 0, e, h => by
    have h' : okW v m := fun j hj => h j (by omega) hj
    refine w_X8_type_19 _ _ _ ⟨fun _ => ⟨fun c => ?_, fun c => kf h' ?_⟩, fun c => absurd (by decide) c⟩
    · rw [hn, nI_add, xle, nI_t (by omega)] at c
      rw [sub_m1]
      exact k h' (by simp only [Int32.reduceToInt] at c; omega)
    · rw [hn, nI_add, xle, nI_t (by omega)] at c
      simp only [Int32.reduceToInt] at c
      omega
  | i + 1, e, h => by
    rw [nI_s1]
    refine w_X8_type_19 _ _ _ ⟨fun c => absurd c (nI_nlt (a := i) (b := 0) (by omega) (by omega)), fun _ => sp_X8_in (fun c => zf' (kb (fun g => ?_))) (fun c => zt' ?_)⟩
    · rw [bo_t] at c
      exact c (g i (by omega))
    · rw [bo_t] at c
      refine lp_X8_type1 hn hn2 hm kb kf k i (by omega) (fun j hj1 hj2 => ?_)
      by_cases ej : j = i
      · subst ej
        exact c
      · exact h j (by omega) hj2
theorem pr_type {S : tS} (hI : Inv S) (v : Int64) (m : Int32) : tk_Ms mX7_type [.ref 0, .long v, .int m] S (fun x S1 => tk_Ms mX8_type [.ref 45, .long v, .int m] S1 (fun y S2 => x = y ∧ Inv S2)) := by
  have hI0 := hI
  obtain ⟨h1, h2', h3, h4, ⟨n, hn, n1, n2, hB⟩, h6⟩ := hI
  have mB : ¬ (1 ≤ m.toInt ∧ m.toInt ≤ 8) → tk_Ms mX8_type [.ref 45, .long v, .int m] S (fun y S2 => -1 = y ∧ Inv S2) := fun h =>
    w_X8_type v m (sp_X8_in (fun _ => zf' (okI (by decide) ⟨rfl, hI0⟩)) (fun g => absurd (by simpa only [l64, Int64.reduceToInt] using g) h))
  refine w_X7_type v m ⟨fun c => okI (by decide) (mB (by simp only [xlt, xle, xeq, Int32.reduceToInt, tneg1, l64, Int64.reduceToInt] at *; omega)), fun c => ⟨fun d => ?_, fun d => okI (by decide) (mB (by simp only [xlt, xle, xeq, Int32.reduceToInt, tneg1, l64, Int64.reduceToInt] at *; omega))⟩⟩
  have hm : 1 ≤ m.toInt ∧ m.toInt ≤ 8 := by
    rw [xlt] at c
    rw [xle] at d
    simp only [Int32.reduceToInt] at c d
    omega
  have em := nI_of_t (x := m) (by omega)
  have tm := tn (i := m) (by omega)
  generalize m.toNatClampNeg = k at em tm
  subst em
  have sp8 : ∀ {S1 : tS} {T : Int32 → tS → Prop}, S1 45 12 = nI n → (¬ okW v k → T (-1) S1) → (okW v k → 160 < n + k → T (-3) S1) → (okW v k → n + k ≤ 160 → T (nI (n + k)) (tset S1 54 (wr v k (S1 54) n) 45 12 (nI (n + k)))) → tk_Ms mX8_type [.ref 45, .long v, .int (nI k)] S1 T := by
    intro S1 T g1 kb kf kk
    refine w_X8_type v (nI k) (sp_X8_in (fun g => absurd hm (by simpa only [l64, Int64.reduceToInt] using g)) (fun _ => zt' ?_))
    rw [sub_m1]
    exact lp_X8_type1 g1 hn (by omega) (fun h => okI (by decide) (kb h)) (fun h h2 => okI (by decide) (kf h h2)) (fun h h2 => lp_X8_type2 k n S1 g1 h2 (okI (by decide) (kk h h2))) k (Nat.le_refl _) (fun j hj1 hj2 => absurd hj1 (by omega))
  refine lp_X7_type1 n1 hn (by omega) (fun h => okI (by decide) (sp8 n2 (fun _ => ⟨rfl, hI0⟩) (fun g _ => absurd g h) (fun g _ => absurd g h))) (fun h h2 => okI (by decide) (sp8 n2 (fun g => absurd h g) (fun _ _ => ⟨rfl, hI0⟩) (fun _ g => absurd g (by omega)))) (fun h h2 => lp_X7_type2 k n S n1 h2 h (okI (by decide) (sp8 (S1 := tset S 22 (wr v k (S 22) n) 21 0 (nI (n + k))) (T := fun y S2 => nI (n + k) = y ∧ Inv S2) n2 (fun g => absurd h g) (fun _ g => absurd g (by omega)) (fun _ _ => ⟨rfl, h1, h2', h3, h4, ⟨n + k, h2, rfl, rfl, wr_same v k (S 22) (S 54) n hB h⟩, h6⟩)))) k 0 (by omega) (fun j hj => absurd hj (by omega))
