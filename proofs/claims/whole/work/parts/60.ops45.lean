/-! THE ACTS OF A WEEK, and the object's first reading -/
def wP (f : Nat → Int32) (n m : Nat) : Nat → Nat
  | 0 => 0
  | k + 1 => sk f n (pA f n m (wP f n m k)).2.1 + 1
/-- how a reading from the k-th act on ends: whether well, where, and after how many acts -/
def pW (f : Nat → Int32) (n m : Nat) : Nat → Nat → Bool × Nat × Nat
  | 0, k => (false, 0, k)
  | q + 1, k =>
    if (pA f n m (wP f n m k)).1 = false then (false, sk f n (pA f n m (wP f n m k)).2.1, k)
    else if chr f n (pA f n m (wP f n m k)).2.1 = 59 then pW f n m q (k + 1)
    else if chr f n (pA f n m (wP f n m k)).2.1 = -1 then (true, sk f n (pA f n m (wP f n m k)).2.1, k + 1)
    else (false, sk f n (pA f n m (wP f n m k)).2.1, k + 1)
theorem wP_ge {f : Nat → Int32} {n m k : Nat} (hok : ∀ i, i < n → okB (f i)) (hle : wP f n m k ≤ n) (hp : (pA f n m (wP f n m k)).1 = true) : wP f n m k + 2 ≤ wP f n m (k + 1) := by
  have h1 := (pA_le (m := m) hok hle).2 hp
  have h2 := sk_ge (f := f) (n := n) (a := (pA f n m (wP f n m k)).2.1)
  show wP f n m k + 2 ≤ sk f n (pA f n m (wP f n m k)).2.1 + 1
  omega
theorem lp_X7_week1 {Q : Int32 → tS → Prop} {f : Nat → Int32} {n m : Nat} {S : tS} (hT : TpC f n S) (h8 : m ≤ 8) (hm : S 5 0 = nI m) (r : Bool × Nat × Nat) (kF : ∀ T, frA S T → r.1 = false → Q (-20 - nI r.2.1) T) (kT : ∀ T, frA S T → r.1 = true → Q (nI r.2.2) T) : ∀ (q k : Nat) (T : tS), q + k = 160 → 0 < q → 2 * k ≤ wP f n m k → r = pW f n m q k → frA S T → T 21 1 = nI (wP f n m k) → wP f n m k ≤ n → tk_Gs mX7_readWeek none 15 [.ref 0, .int 0, .int (nI k), .int 1, .int (nI k)] [] T Q := by
  have n160 := hT.1
  have hok := hT.ok
  intro q
  induction q with
  | zero => exact fun _ _ _ h => absurd h (Nat.lt_irrefl 0)
  | succ q ih =>
    intro k T e _ h2k er hfr hat hle
    obtain ⟨hd, hgt⟩ := pA_le (m := m) hok hle
    have hwp := wP_ge (m := m) (k := k) hok hle
    have hw1 : wP f n m (k + 1) = sk f n (pA f n m (wP f n m k)).2.1 + 1 := rfl
    generalize hD : (pA f n m (wP f n m k)).2.1 = b at *
    have er' : r = (if (pA f n m (wP f n m k)).1 = false then (false, sk f n b, k) else if chr f n b = 59 then pW f n m q (k + 1) else if chr f n b = -1 then (true, sk f n b, k + 1) else (false, sk f n b, k + 1)) := by
      rw [er]
      show (if _ then _ else _) = _
      rw [hD]
    refine w_X7_readWeek_15 _ _ _ _ (zt ⟨fun c => absurd c (nI_ge (a := k) (b := 160) (by omega) (by omega)), fun _ => sp_X7_readAct hle (hT.fra hfr) hat h8 ((congrFun (hfr.1 5 (by decide) (by decide)) 0).trans hm) (fun U h1 h3 h4 => zf' ?_) (fun U h1 h3 h4 _ _ => zt' (zf ?_))⟩)
    · rw [hD] at h3
      have fU : frA S U := ⟨fun c q1 q2 => (h1.1 c q1 q2).trans (hfr.1 c q1 q2), h1.2.trans hfr.2⟩
      refine sp_X5_fault hd (hT.fra fU) h3 ?_
      rw [if_pos h4] at er'
      have := kF (tC U (sk f n b)) fU.tc (by rw [er'])
      rw [er'] at this
      exact this
    · rw [hD] at h3
      have fU : frA S U := ⟨fun c q1 q2 => (h1.1 c q1 q2).trans (hfr.1 c q1 q2), h1.2.trans hfr.2⟩
      rw [if_neg (by rw [h4]; decide)] at er'
      refine sp_X5_take hd (hT.fra fU) h3 (fun y => ?_) (fun y => ?_)
      · rw [if_neg y] at er'
        refine w_X7_readWeek_15 _ _ _ _ (zf (sp_X5_ahead (f := f) (n := n) (a := sk f n b) (sk_n hd) (hT.fra fU.tc) tC_at ⟨fun z => ?_, fun z => ?_⟩))
        · rw [chr_i hd] at z
          rw [if_neg z] at er'
          rw [sk_i hd, tC_tC]
          refine sp_X5_fault (f := f) (n := n) (a := sk f n b) (sk_n hd) (hT.fra fU.tc) tC_at ?_
          rw [sk_i hd, tC_tC]
          have := kF (tC U (sk f n b)) fU.tc (by rw [er'])
          rw [er'] at this
          exact this
        · rw [chr_i hd] at z
          rw [if_pos z] at er'
          rw [sk_i hd, tC_tC, nI_1]
          have := kT (tC U (sk f n b)) fU.tc (by rw [er'])
          rw [er'] at this
          exact this
      · rw [if_pos y] at er'
        have lt := sk_lt (a := b) hok (by rw [y]; decide)
        have h5 := hwp h4
        rw [nI_1]
        exact ih (k + 1) (tC U (sk f n b + 1)) (by omega) (by omega) (by omega) er' fU.tc (by rw [hw1]; exact tC_at) (by omega)
