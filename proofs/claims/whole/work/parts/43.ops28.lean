/-! READING THE TAPE -/
def ski (f : Nat → Int32) : Nat → Nat → Nat
  | 0, a => a
  | m + 1, a => if f a = 32 then ski f m (a + 1) else a
def sk (f : Nat → Int32) (n a : Nat) : Nat := ski f (n - a) a
def chr (f : Nat → Int32) (n a : Nat) : Int32 := if sk f n a < n then f (sk f n a) else -1
theorem sk_end {f : Nat → Int32} {n a : Nat} (h : n ≤ a) : sk f n a = a := by
  unfold sk
  rw [show n - a = 0 by omega]
  rfl
theorem sk_step {f : Nat → Int32} {n a : Nat} (h : a < n) (e : f a = 32) : sk f n a = sk f n (a + 1) := by
  unfold sk
  rw [show n - a = (n - (a + 1)) + 1 by omega]
  exact if_pos e
theorem sk_stop {f : Nat → Int32} {n a : Nat} (h : a < n) (e : ¬ f a = 32) : sk f n a = a := by
  unfold sk
  rw [show n - a = (n - (a + 1)) + 1 by omega]
  exact if_neg e
theorem sk_le {f : Nat → Int32} {n : Nat} : ∀ m a : Nat, a + m = n → sk f n a ≤ n
  | 0, a, h => by rw [sk_end (by omega)]; omega
  | m + 1, a, h => by
    by_cases e : f a = 32
    · rw [sk_step (by omega) e]
      exact sk_le m (a + 1) (by omega)
    · rw [sk_stop (by omega) e]
      omega
theorem sk_n {f : Nat → Int32} {n a : Nat} (h : a ≤ n) : sk f n a ≤ n := sk_le (n - a) a (by omega)
theorem upup {S : tS} {k j : Nat} {x y : Int32} : tk_up (tk_up S k j x) k j y = tk_up S k j y := by
  funext c i
  unfold tk_up tk_upR upd
  by_cases h : c = k
  · subst h
    by_cases h2 : i = j <;> simp [h2]
  · simp [h]
theorem up_same {S : tS} {k j : Nat} {x : Int32} (h : S k j = x) : tk_up S k j x = S := by rw [← h]; exact upSelf
def TpC (f : Nat → Int32) (n : Nat) (S : tS) : Prop := n ≤ 160 ∧ S 21 0 = nI n ∧ ∀ i, i < n → S 22 i = f i ∧ okB (f i)
def TpM (f : Nat → Int32) (n : Nat) (S : tS) : Prop := n ≤ 160 ∧ S 45 12 = nI n ∧ ∀ i, i < n → S 54 i = f i ∧ okB (f i)
def tC (S : tS) (a : Nat) : tS := tk_up S 21 1 (nI a)
def tM' (S : tS) (a : Nat) : tS := tk_up S 45 13 (nI a)
theorem tC_tC {S : tS} {a b : Nat} : tC (tC S a) b = tC S b := upup
theorem tM_tM {S : tS} {a b : Nat} : tM' (tM' S a) b = tM' S b := upup
theorem lp_X5_ahead {Q : Int32 → tS → Prop} {f : Nat → Int32} {n : Nat} : ∀ (m a : Nat) (S : tS), a + m = n → TpC f n S → S 21 1 = nI a → Q (chr f n a) (tC S (sk f n a)) → tk_Gs mX5_ahead none 0 [.ref 21] [] S Q
  | 0, a, S, e, hT, hat, k => by
    have hn := hT.1
    have c : S 21 0 ≤ S 21 1 := by rw [hT.2.1, hat]; exact nI_le (by omega) (by omega)
    unfold chr tC at k
    rw [sk_end (by omega), if_neg (by omega), up_same hat] at k
    exact w_X5_ahead_0 ⟨fun _ => ⟨fun _ => k, fun z => absurd c z⟩, fun z => absurd c z⟩
  | m + 1, a, S, e, hT, hat, k => by
    have hn := hT.1
    have c : ¬ S 21 0 ≤ S 21 1 := by rw [hT.2.1, hat]; exact nI_ge (by omega) (by omega)
    have ca : (nI a).toNatClampNeg = a := nI_c (by omega)
    have e22 := (hT.2.2 a (by omega)).1
    have va : vp_in (S 21 1) 160 := by rw [hat]; exact vp_in_nI (by omega) (by omega)
    refine w_X5_ahead_0 ⟨fun z => absurd z c, fun _ => ⟨va, fun z => ⟨fun y => absurd y c, fun _ => ⟨va, ?_⟩⟩, fun z => ?_⟩⟩
    · rw [hat, ca, e22] at z
      unfold chr tC at k
      rw [sk_stop (by omega) z, if_pos (by omega), up_same hat] at k
      rw [hat, ca, e22]
      exact k
    · rw [hat, ca, e22] at z
      have e1 : chr f n a = chr f n (a + 1) := by unfold chr; rw [sk_step (by omega) z]
      rw [e1, sk_step (by omega) z] at k
      rw [hat, nI_1]
      refine lp_X5_ahead m (a + 1) _ (by omega) hT rfl ?_
      show Q _ (tC (tC S (a + 1)) _)
      rw [tC_tC]
      exact k
theorem sp_X5_ahead {Q : Int32 → tS → Prop} {f : Nat → Int32} {n a : Nat} {S : tS} (ha : a ≤ n) (hT : TpC f n S) (hat : S 21 1 = nI a) (k : Q (chr f n a) (tC S (sk f n a))) : tk_Ms mX5_ahead [.ref 21] S Q :=
  w_X5_ahead (lp_X5_ahead (n - a) a S (by omega) hT hat (okI (by decide) k))
theorem lp_X8_nextByte {Q : Int32 → tS → Prop} {f : Nat → Int32} {n : Nat} : ∀ (m a : Nat) (S : tS), a + m = n → TpM f n S → S 45 13 = nI a → Q (chr f n a) (tM' S (sk f n a)) → tk_Gs mX8_nextByte none 0 [.ref 45] [] S Q
  | 0, a, S, e, hT, hat, k => by
    have hn := hT.1
    have c : S 45 12 ≤ S 45 13 := by rw [hT.2.1, hat]; exact nI_le (by omega) (by omega)
    unfold chr tM' at k
    rw [sk_end (by omega), if_neg (by omega), up_same hat] at k
    exact w_X8_nextByte_0 ⟨fun _ => ⟨fun _ => k, fun z => absurd c z⟩, fun z => absurd c z⟩
  | m + 1, a, S, e, hT, hat, k => by
    have hn := hT.1
    have c : ¬ S 45 12 ≤ S 45 13 := by rw [hT.2.1, hat]; exact nI_ge (by omega) (by omega)
    have ca : (nI a).toNatClampNeg = a := nI_c (by omega)
    have e22 := (hT.2.2 a (by omega)).1
    have va : vp_in (S 45 13) 160 := by rw [hat]; exact vp_in_nI (by omega) (by omega)
    refine w_X8_nextByte_0 ⟨fun z => absurd z c, fun _ => ⟨va, fun z => ⟨fun y => absurd y c, fun _ => ⟨va, ?_⟩⟩, fun z => ?_⟩⟩
    · rw [hat, ca, e22] at z
      unfold chr tM' at k
      rw [sk_stop (by omega) z, if_pos (by omega), up_same hat] at k
      rw [hat, ca, e22]
      exact k
    · rw [hat, ca, e22] at z
      have e1 : chr f n a = chr f n (a + 1) := by unfold chr; rw [sk_step (by omega) z]
      rw [e1, sk_step (by omega) z] at k
      rw [hat, nI_1]
      refine lp_X8_nextByte m (a + 1) _ (by omega) hT rfl ?_
      show Q _ (tM' (tM' S (a + 1)) _)
      rw [tM_tM]
      exact k
theorem sp_X8_nextByte {Q : Int32 → tS → Prop} {f : Nat → Int32} {n a : Nat} {S : tS} (ha : a ≤ n) (hT : TpM f n S) (hat : S 45 13 = nI a) (k : Q (chr f n a) (tM' S (sk f n a))) : tk_Ms mX8_nextByte [.ref 45] S Q :=
  w_X8_nextByte (lp_X8_nextByte (n - a) a S (by omega) hT hat (okI (by decide) k))
theorem chr_ok {f : Nat → Int32} {n a : Nat} (h : ∀ i, i < n → okB (f i)) : chr f n a = -1 ∧ n ≤ sk f n a ∨ okB (chr f n a) ∧ sk f n a < n := by
  unfold chr
  by_cases e : sk f n a < n
  · rw [if_pos e]
    exact Or.inr ⟨h _ e, e⟩
  · rw [if_neg e]
    exact Or.inl ⟨rfl, by omega⟩
theorem TpC.ok {f : Nat → Int32} {n : Nat} {S : tS} (h : TpC f n S) : ∀ i, i < n → okB (f i) := fun i hi => (h.2.2 i hi).2
theorem TpM.ok {f : Nat → Int32} {n : Nat} {S : tS} (h : TpM f n S) : ∀ i, i < n → okB (f i) := fun i hi => (h.2.2 i hi).2
theorem sk_lt {f : Nat → Int32} {n a : Nat} (h : ∀ i, i < n → okB (f i)) (hc : chr f n a ≠ -1) : sk f n a < n := by
  rcases chr_ok (a := a) h with g | g
  · exact absurd g.1 hc
  · exact g.2
theorem sp_X5_fault {Q : Int32 → tS → Prop} {f : Nat → Int32} {n a : Nat} {S : tS} (ha : a ≤ n) (hT : TpC f n S) (hat : S 21 1 = nI a) (k : Q (-20 - nI (sk f n a)) (tC S (sk f n a))) : tk_Ms mX5_fault [.ref 21] S Q :=
  w_X5_fault (sp_X5_ahead ha hT hat (okI (by decide) k))
theorem sp_X5_take {Q : Int32 → tS → Prop} {f : Nat → Int32} {n a : Nat} {S : tS} {c : Int32} (ha : a ≤ n) (hT : TpC f n S) (hat : S 21 1 = nI a) (k0 : ¬ chr f n a = c → Q 0 (tC S (sk f n a))) (k1 : chr f n a = c → Q 1 (tC S (sk f n a + 1))) : tk_Ms mX5_take [.ref 21, .int c] S Q := by
  refine w_X5_take c (sp_X5_ahead ha hT hat ⟨fun z => ok1 ?_, fun z => ok0 (k0 z)⟩)
  show Q 1 (tk_up (tC S (sk f n a)) 21 1 (nI (sk f n a) + 1))
  rw [nI_1]
  show Q 1 (tC (tC S _) _)
  rw [tC_tC]
  exact k1 z
theorem sp_X8_takes {Q : Int32 → tS → Prop} {f : Nat → Int32} {n a : Nat} {S : tS} {c : Int32} (ha : a ≤ n) (hT : TpM f n S) (hat : S 45 13 = nI a) (k0 : ¬ chr f n a = c → Q 0 (tM' S (sk f n a))) (k1 : chr f n a = c → Q 1 (tM' S (sk f n a + 1))) : tk_Ms mX8_takes [.ref 45, .int c] S Q := by
  refine w_X8_takes c (sp_X8_nextByte ha hT hat ⟨fun z => zf (ok0 ?_), fun z => zt (ok1 ?_)⟩)
  · show Q 0 (tk_up (tM' S (sk f n a)) 45 13 (nI (sk f n a) + 0))
    rw [add0]
    show Q 0 (tM' (tM' S _) _)
    rw [tM_tM]
    exact k0 z
  · show Q 1 (tk_up (tM' S (sk f n a)) 45 13 (nI (sk f n a) + 1))
    rw [nI_1]
    show Q 1 (tM' (tM' S _) _)
    rw [tM_tM]
    exact k1 z
def isD (c : Int32) : Prop := 48 ≤ c.toInt ∧ c.toInt ≤ 57
def pPl (c : Int32) : Int32 := if c = 103 then 10 else if 48 ≤ c.toInt ∧ c.toInt ≤ 57 then c - 48 else -1
theorem sp_X5_placeAhead {Q : Int32 → tS → Prop} {f : Nat → Int32} {n a : Nat} {S : tS} (ha : a ≤ n) (hT : TpC f n S) (hat : S 21 1 = nI a) (k : Q (pPl (chr f n a)) (tC S (sk f n a))) : tk_Ms mX5_placeAhead [.ref 21] S Q := by
  unfold pPl at k
  refine w_X5_placeAhead (sp_X5_ahead ha hT hat ⟨fun z => sp_X5_isDigit (fun g => zf (okI (by decide) ?_)) (fun g => zt (okI (by decide) ?_)), fun z => okI (by decide) ?_⟩)
  · rw [if_neg z, if_neg g] at k
    exact k
  · rw [if_neg z, if_pos g] at k
    exact k
  · rw [if_pos z] at k
    exact k
theorem sp_X8_signOf {Q : Int32 → tS → Prop} {S : tS} {c : Int32} (k : Q (pPl c) S) : tk_Ms mX8_signOf [.ref 45, .int c] S Q := by
  unfold pPl at k
  refine w_X8_signOf c ⟨fun z => sp_X8_in (fun g => zf (okI (by decide) ?_)) (fun g => zt (okI (by decide) ?_)), fun z => okI (by decide) ?_⟩
  · rw [l64] at g
    rw [if_neg z, if_neg (show ¬ (48 ≤ c.toInt ∧ c.toInt ≤ 57) from g)] at k
    exact k
  · rw [l64] at g
    rw [if_neg z, if_pos (show 48 ≤ c.toInt ∧ c.toInt ≤ 57 from g)] at k
    exact k
  · rw [if_pos z] at k
    exact k
theorem sub48 {c : Int32} (h : c = -1 ∨ okB c) : (c - 48).toInt = c.toInt - 48 := by
  rcases h with h | h
  · rw [h]; decide
  · rw [subT] <;> simp only [Int32.reduceToInt] <;> have := h.1 <;> have := h.2 <;> omega
theorem chr_or {f : Nat → Int32} {n a : Nat} (h : ∀ i, i < n → okB (f i)) : chr f n a = -1 ∨ okB (chr f n a) := by
  rcases chr_ok (a := a) h with g | g
  · exact Or.inl g.1
  · exact Or.inr g.1
/-- a digit below b is ahead -/
def dgB (c : Int32) (b : Int) : Prop := 48 ≤ c.toInt ∧ c.toInt < 48 + b
theorem sp_X5_digit {Q : Int32 → tS → Prop} {f : Nat → Int32} {n a : Nat} {S : tS} {b : Int32} (h1 : b.toInt ≤ 10) (ha : a ≤ n) (hT : TpC f n S) (hat : S 21 1 = nI a) (k0 : ¬ dgB (chr f n a) b.toInt → Q (-1) (tC S (sk f n a))) (k1 : dgB (chr f n a) b.toInt → Q (chr f n a - 48) (tC S (sk f n a + 1))) : tk_Ms mX5_digit [.ref 21, .int b] S Q := by
  have s := sub48 (chr_or (a := a) hT.ok)
  refine w_X5_digit b (sp_X5_ahead ha hT hat (sp_X5_isDigit (fun g => zf (okI (by decide) (k0 (fun z => g ⟨z.1, by have := z.2; omega⟩)))) (fun g => zt ⟨fun z => okI (by decide) ?_, fun z => okI (by decide) (k0 (fun y => z ?_))⟩)))
  · show Q _ (tk_up (tC S (sk f n a)) 21 1 (nI (sk f n a) + 1))
    rw [nI_1]
    show Q _ (tC (tC S _) _)
    rw [tC_tC]
    rw [xlt, s] at z
    exact k1 ⟨g.1, by omega⟩
  · rw [xlt, s]
    have := y.2
    omega
theorem sp_X8_readDigit {Q : Int32 → tS → Prop} {f : Nat → Int32} {n a : Nat} {S : tS} {b : Int32} (ha : a ≤ n) (hT : TpM f n S) (hat : S 45 13 = nI a) (k0 : ¬ dgB (chr f n a) (b.toInt + 1) → Q (-1) (tM' S (sk f n a))) (k1 : dgB (chr f n a) (b.toInt + 1) → Q (chr f n a - 48) (tM' S (sk f n a + 1))) : tk_Ms mX8_readDigit [.ref 45, .int b] S Q := by
  have s := sub48 (chr_or (a := a) hT.ok)
  refine w_X8_readDigit b (sp_X8_nextByte ha hT hat (sp_X8_in (fun g => zf' (okI (by decide) (k0 (fun z => g ?_)))) (fun g => zt' (okI (by decide) ?_))))
  · rw [l64, l64, s]
    simp only [Int64.reduceToInt]
    have := z.1
    have := z.2
    omega
  · rw [l64, l64, s] at g
    simp only [Int64.reduceToInt] at g
    show Q _ (tk_up (tM' S (sk f n a)) 45 13 (nI (sk f n a) + 1))
    rw [nI_1]
    show Q _ (tM' (tM' S _) _)
    rw [tM_tM]
    exact k1 ⟨by omega, by omega⟩
