/-! FITS -/
theorem le0' {x : Int32} : 0 ≤ x ↔ 0 ≤ x.toInt := by rw [xle]; rfl
def enc (v : Int32) (A : Prop) : Prop := (v = 1 ∧ A) ∨ (v = 0 ∧ ¬ A)
theorem enc1 {A : Prop} (h : A) : enc 1 A := Or.inl ⟨rfl, h⟩
theorem enc0 {A : Prop} (h : ¬ A) : enc 0 A := Or.inr ⟨rfl, h⟩
theorem enc.z {v : Int32} {A : Prop} (h : enc v A) : v = 0 ↔ ¬ A := by
  rcases h with ⟨h1, h2⟩ | ⟨h1, h2⟩
  · subst h1
    exact ⟨fun z => absurd z (by decide), fun z => absurd h2 z⟩
  · exact ⟨fun _ => h2, fun _ => h1⟩
def lkAt (f g h : Nat → Int32) (q l : Int32) (n : Nat) : Prop := ∃ d, d < n ∧ (f d = q ∨ g d = q) ∧ h d = l
theorem lkAt_1 {f g h : Nat → Int32} {q l : Int32} {n : Nat} : lkAt f g h q l (n + 1) ↔ lkAt f g h q l n ∨ ((f n = q ∨ g n = q) ∧ h n = l) := by
  constructor
  · rintro ⟨d, h1, h2⟩
    by_cases e : d = n
    · subst e; exact Or.inr h2
    · exact Or.inl ⟨d, by omega, h2⟩
  · rintro (⟨d, h1, h2⟩ | h2)
    · exact ⟨d, by omega, h2⟩
    · exact ⟨n, by omega, h2⟩
theorem lp_X2_hasLockAt {Q : Int32 → tS → Prop} {S : tS} {n : Nat} {q l : Int32} (hn : S 1 0 = nI n) (h16 : n ≤ 16) (k0 : ¬ lkAt (S 2) (S 3) (S 4) q l n → Q 0 S) (k1 : lkAt (S 2) (S 3) (S 4) q l n → Q 1 S) : ∀ m j : Nat, j + m = n → ¬ lkAt (S 2) (S 3) (S 4) q l j → tk_Gs mX2_hasLockAt none 2 [.ref 1, .int q, .int l, .int (nI j)] [] S Q
  | 0, j, e, h => by
    have e : j = n := e
    subst e
    exact w_X2_hasLockAt_2 _ _ _ ⟨fun _ => k0 h, fun c => absurd (by rw [hn]; exact nI_le (Nat.le_refl _) (by omega)) c⟩
  | m + 1, j, e, h => by
    have cj : (nI j).toNatClampNeg = j := nI_c (by omega)
    refine w_X2_hasLockAt_2 _ _ _ ⟨fun c => absurd c (by rw [hn]; exact nI_ge (by omega) (by omega)), fun _ => sp_X2_isAt (vp_in_nI (by omega) (by omega)) (fun g => zf ?_) (fun g => zt ⟨vp_in_nI (by omega) (by omega), fun c => ?_, fun c => ?_⟩)⟩
    · rw [cj] at g
      rw [nI_1]
      exact lp_X2_hasLockAt hn h16 k0 k1 m (j + 1) (by omega) (fun z => (lkAt_1.mp z).elim h (fun y => g y.1))
    · rw [cj] at c
      rw [nI_1]
      exact lp_X2_hasLockAt hn h16 k0 k1 m (j + 1) (by omega) (fun z => (lkAt_1.mp z).elim h (fun y => c y.2))
    · rw [cj] at c g
      exact k1 ⟨j, by omega, g, c⟩
theorem sp_X2_hasLockAt {Q : Int32 → tS → Prop} {S : tS} {n : Nat} {q l : Int32} (hn : S 1 0 = nI n) (h16 : n ≤ 16) (k0 : ¬ lkAt (S 2) (S 3) (S 4) q l n → Q 0 S) (k1 : lkAt (S 2) (S 3) (S 4) q l n → Q 1 S) : tk_Ms mX2_hasLockAt [.ref 1, .int q, .int l] S Q :=
  w_X2_hasLockAt _ _ (lp_X2_hasLockAt hn h16 (fun h => ok0 (k0 h)) (fun h => ok1 (k1 h)) n 0 (by omega) (fun ⟨_, h, _⟩ => absurd h (Nat.not_lt_zero _)))
def fitP (f g h w : Nat → Int32) (n : Nat) (l1 l2 l3 : Int32) (p : Nat) : Prop := (l1 = -1 ∨ nI (cnt (fun i => decide (f i = nI p ∨ g i = nI p)) n) = l1) ∧ (l2 = -1 ∨ lkAt f g h (nI p) l2 n) ∧ (l3 = -1 ∨ w p = l3)
theorem lp_X7_fits {Q : Int32 → tS → Prop} {S : tS} {n : Nat} {l1 l2 l3 : Int32} (hn : S 1 0 = nI n) (h16 : n ≤ 16) (k : ∀ r, (∀ i, i < 32 → (bt r i = true ↔ (1 ≤ i ∧ i < 10) ∧ fitP (S 2) (S 3) (S 4) (S 29) n l1 l2 l3 i)) → Q r S) : ∀ (m j : Nat) (r : Int32), j + m = 10 → 1 ≤ j → (∀ i, i < 32 → (bt r i = true ↔ (1 ≤ i ∧ i < j) ∧ fitP (S 2) (S 3) (S 4) (S 29) n l1 l2 l3 i)) → tk_Gs mX7_fits none 62 [.ref 0, .int l1, .int l2, .int l3, .int r, .int (nI j), .null, .null, .null] [] S Q
  | 0, j, r, e, _, h => by
    have e : j = 10 := e
    subst e
    exact w_X7_fits_62 _ _ _ _ _ ⟨fun _ => k r h, fun c => absurd (by decide) c⟩
  | m + 1, j, r, e, hj, h => by
    have cj : (nI j).toNatClampNeg = j := nI_c (by omega)
    have no : ¬ fitP (S 2) (S 3) (S 4) (S 29) n l1 l2 l3 j → ∀ x6 x7 x8, tk_Gs mX7_fits none 169 [.ref 0, .int l1, .int l2, .int l3, .int r, .int (nI j), .int x6, .int x7, .int x8] [] S Q := by
      intro g x6 x7 x8
      refine w_X7_fits_169 _ _ _ _ _ _ _ _ ?_
      rw [nI_1]
      refine lp_X7_fits hn h16 k m (j + 1) r (by omega) (by omega) (fun i hi => ?_)
      rw [h i hi]
      by_cases ei : i = j
      · subst ei
        exact ⟨fun z => absurd z.1.2 (by omega), fun z => absurd z.2 g⟩
      · exact ⟨fun z => ⟨by omega, z.2⟩, fun z => ⟨by omega, z.2⟩⟩
    have yes : fitP (S 2) (S 3) (S 4) (S 29) n l1 l2 l3 j → ∀ x6 x7 x8, tk_Gs mX7_fits none 169 [.ref 0, .int l1, .int l2, .int l3, .int (r ||| (1 <<< (nI j &&& 31))), .int (nI j), .int x6, .int x7, .int x8] [] S Q := by
      intro g x6 x7 x8
      refine w_X7_fits_169 _ _ _ _ _ _ _ _ ?_
      rw [nI_1]
      refine lp_X7_fits hn h16 k m (j + 1) _ (by omega) (by omega) (fun i hi => ?_)
      rw [orbit r (by omega) hi, Bool.or_eq_true, decide_eq_true_eq, h i hi]
      by_cases ei : i = j
      · subst ei
        exact ⟨fun _ => ⟨by omega, g⟩, fun _ => Or.inr rfl⟩
      · exact ⟨fun z => z.elim (fun z => ⟨by omega, z.2⟩) (fun z => absurd z ei), fun z => Or.inl ⟨by omega, z.2⟩⟩
    have s143 : ∀ x6 x7 x8, enc x6 (l1 = -1 ∨ nI (cnt (fun i => decide (S 2 i = nI j ∨ S 3 i = nI j)) n) = l1) → enc x7 (l2 = -1 ∨ lkAt (S 2) (S 3) (S 4) (nI j) l2 n) → enc x8 (l3 = -1 ∨ S 29 j = l3) → tk_Gs mX7_fits none 143 [.ref 0, .int l1, .int l2, .int l3, .int r, .int (nI j), .int x6, .int x7, .null] [.int x8] S Q := by
      intro x6 x7 x8 e6 e7 e8
      refine w_X7_fits_143 _ _ _ _ _ _ _ _ ⟨fun c => no (fun g => e6.z.mp c g.1) _ _ _, fun c => ⟨fun d => no (fun g => e7.z.mp d g.2.1) _ _ _, fun d => ⟨fun z => no (fun g => e8.z.mp z g.2.2) _ _ _, fun z => yes ⟨?_, ?_, ?_⟩ _ _ _⟩⟩⟩
      · exact Classical.byContradiction (fun w => c (e6.z.mpr w))
      · exact Classical.byContradiction (fun w => d (e7.z.mpr w))
      · exact Classical.byContradiction (fun w => z (e8.z.mpr w))
    have s117 : ∀ x6 x7, enc x6 (l1 = -1 ∨ nI (cnt (fun i => decide (S 2 i = nI j ∨ S 3 i = nI j)) n) = l1) → enc x7 (l2 = -1 ∨ lkAt (S 2) (S 3) (S 4) (nI j) l2 n) → tk_Gs mX7_fits none 117 [.ref 0, .int l1, .int l2, .int l3, .int r, .int (nI j), .int x6, .null, .null] [.int x7] S Q := by
      intro x6 x7 e6 e7
      refine w_X7_fits_117 _ _ _ _ _ _ _ ⟨fun c => w_X7_fits_138 _ _ _ _ _ _ _ (s143 _ _ _ e6 e7 (enc1 (Or.inl c))), fun c => ⟨vp_in_nI (by omega) (by omega), fun d => s143 _ _ _ e6 e7 (enc0 (fun g => ?_)), fun d => w_X7_fits_138 _ _ _ _ _ _ _ (s143 _ _ _ e6 e7 (enc1 (Or.inr ?_)))⟩⟩
      · rw [cj] at d
        exact g.elim c d
      · rw [cj] at d
        exact d
    have s92 : ∀ x6, enc x6 (l1 = -1 ∨ nI (cnt (fun i => decide (S 2 i = nI j ∨ S 3 i = nI j)) n) = l1) → tk_Gs mX7_fits none 92 [.ref 0, .int l1, .int l2, .int l3, .int r, .int (nI j), .null, .null, .null] [.int x6] S Q := by
      intro x6 e6
      refine w_X7_fits_92 _ _ _ _ _ _ ⟨fun c => w_X7_fits_112 _ _ _ _ _ _ (s117 _ _ e6 (enc1 (Or.inl c))), fun c => sp_X2_hasLockAt hn h16 (fun g => zf (s117 _ _ e6 (enc0 (fun z => z.elim c g)))) (fun g => zt (w_X7_fits_112 _ _ _ _ _ _ (s117 _ _ e6 (enc1 (Or.inr g)))))⟩
    refine w_X7_fits_62 _ _ _ _ _ ⟨fun c => absurd c (nI_nlt (a := 9) (b := j) (by omega) (by omega)), fun _ => ⟨fun c => w_X7_fits_87 _ _ _ _ _ (s92 _ (enc1 (Or.inl c))), fun c => sp_X2_at hn h16 ⟨fun d => s92 _ (enc0 (fun g => g.elim c d)), fun d => w_X7_fits_87 _ _ _ _ _ (s92 _ (enc1 (Or.inr d)))⟩⟩⟩
def hasL (f g h : Nat → Int32) (l2 : Int32) (p j : Nat) : Prop := l2.toInt < 0 ∨ lkAt f g h (nI p) l2 j
theorem lp_X8_fits2 {Q : Int32 → tS → Prop} {S : tS} {n p : Nat} {l1 l2 l3 r : Int32} (hn : S 45 3 = nI n) (h16 : n ≤ 16) (hp : p < 10) (no : ¬ ((l1.toInt < 0 ∨ nI (cnt (fun i => decide (S 46 i = nI p ∨ S 47 i = nI p)) n) = l1) ∧ hasL (S 46) (S 47) (S 48) l2 p n ∧ (l3.toInt < 0 ∨ S 56 p = l3)) → tk_Gs mX8_fits none 62 [.ref 45, .int l1, .int l2, .int l3, .int r, .int (nI (p + 1)), .null, .null, .null, .null] [] S Q) (yes : ((l1.toInt < 0 ∨ nI (cnt (fun i => decide (S 46 i = nI p ∨ S 47 i = nI p)) n) = l1) ∧ hasL (S 46) (S 47) (S 48) l2 p n ∧ (l3.toInt < 0 ∨ S 56 p = l3)) → tk_Gs mX8_fits none 62 [.ref 45, .int l1, .int l2, .int l3, .int (r ||| (1 <<< (nI p &&& 31))), .int (nI (p + 1)), .null, .null, .null, .null] [] S Q) : ∀ (m j : Nat) (x7 : Int32), j + m = n → enc x7 (hasL (S 46) (S 47) (S 48) l2 p j) → tk_Gs mX8_fits none 86 [.ref 45, .int l1, .int l2, .int l3, .int r, .int (nI p), .int (nI (cnt (fun i => decide (S 46 i = nI p ∨ S 47 i = nI p)) j)), .int x7, .int (nI j), .null] [] S Q
  | 0, j, x7, e, h => by
    have e : j = n := e
    subst e
    have cp : (nI p).toNatClampNeg = p := nI_c (by omega)
    have vp : vp_in (nI p) 11 := vp_in_nI (by omega) (by omega)
    refine w_X8_fits_86 _ _ _ _ _ _ _ _ ⟨fun _ => ?_, fun c => absurd (by rw [hn]; exact nI_le (Nat.le_refl _) (by omega)) c⟩
    rw [or0, nI_1, cp]
    refine ⟨fun z => no (fun g => h.z.mp z g.2.1), fun z => ?_⟩
    have h2 : hasL (S 46) (S 47) (S 48) l2 p j := Classical.byContradiction (fun w => z (h.z.mpr w))
    refine ⟨fun c => ⟨fun d => yes ⟨Or.inl (lt0.mp c), h2, Or.inl (lt0.mp d)⟩, fun d => ⟨vp, fun w => no (fun g => g.2.2.elim (fun y => d (lt0.mpr y)) w), fun w => yes ⟨Or.inl (lt0.mp c), h2, Or.inr w⟩⟩⟩, fun c => ⟨fun x => no (fun g => g.1.elim (fun y => c (lt0.mpr y)) x), fun x => ⟨fun d => yes ⟨Or.inr x, h2, Or.inl (lt0.mp d)⟩, fun d => ⟨vp, fun w => no (fun g => g.2.2.elim (fun y => d (lt0.mpr y)) w), fun w => yes ⟨Or.inr x, h2, Or.inr w⟩⟩⟩⟩⟩
  | m + 1, j, x7, e, h => by
    have cj : (nI j).toNatClampNeg = j := nI_c (by omega)
    have vj : vp_in (nI j) 17 := vp_in_nI (by omega) (by omega)
    have stF : ∀ y, ¬ (S 46 j = nI p ∨ S 47 j = nI p) → enc y (hasL (S 46) (S 47) (S 48) l2 p (j + 1)) → tk_Gs mX8_fits none 86 [.ref 45, .int l1, .int l2, .int l3, .int r, .int (nI p), .int (nI (cnt (fun i => decide (S 46 i = nI p ∨ S 47 i = nI p)) j) + 0), .int y, .int (nI j + 1), .null] [] S Q := by
      intro y hy hh
      rw [add0, nI_1, ← cnt_f (p := fun i => decide (S 46 i = nI p ∨ S 47 i = nI p)) (by simpa using hy)]
      exact lp_X8_fits2 hn h16 hp no yes m (j + 1) y (by omega) hh
    have stT : ∀ y, (S 46 j = nI p ∨ S 47 j = nI p) → enc y (hasL (S 46) (S 47) (S 48) l2 p (j + 1)) → tk_Gs mX8_fits none 86 [.ref 45, .int l1, .int l2, .int l3, .int r, .int (nI p), .int (nI (cnt (fun i => decide (S 46 i = nI p ∨ S 47 i = nI p)) j) + 1), .int y, .int (nI j + 1), .null] [] S Q := by
      intro y hy hh
      rw [nI_1, nI_1, ← cnt_t (p := fun i => decide (S 46 i = nI p ∨ S 47 i = nI p)) (by simpa using hy)]
      exact lp_X8_fits2 hn h16 hp no yes m (j + 1) y (by omega) hh
    have up : hasL (S 46) (S 47) (S 48) l2 p (j + 1) ↔ hasL (S 46) (S 47) (S 48) l2 p j ∨ ((S 46 j = nI p ∨ S 47 j = nI p) ∧ S 48 j = l2) := by
      unfold hasL
      rw [lkAt_1, or_assoc]
    have hx : ¬ x7 = 0 → hasL (S 46) (S 47) (S 48) l2 p j := fun z => Classical.byContradiction (fun w => z (h.z.mpr w))
    have A : (S 46 j = nI p ∨ S 47 j = nI p) → ((¬ x7 = 0 → tk_Gs mX8_fits none 86 [.ref 45, .int l1, .int l2, .int l3, .int r, .int (nI p), .int (nI (cnt (fun i => decide (S 46 i = nI p ∨ S 47 i = nI p)) j) + 1), .int 1, .int (nI j + 1), .null] [] S Q) ∧ (x7 = 0 → (((1 : Int32) = 0 → tk_Gs mX8_fits none 86 [.ref 45, .int l1, .int l2, .int l3, .int r, .int (nI p), .int (nI (cnt (fun i => decide (S 46 i = nI p ∨ S 47 i = nI p)) j) + 1), .int 0, .int (nI j + 1), .null] [] S Q) ∧ (¬ (1 : Int32) = 0 → (vp_in (nI j) 17 ∧ ((¬ (S 48 (nI j).toNatClampNeg) = l2 → tk_Gs mX8_fits none 86 [.ref 45, .int l1, .int l2, .int l3, .int r, .int (nI p), .int (nI (cnt (fun i => decide (S 46 i = nI p ∨ S 47 i = nI p)) j) + 1), .int 0, .int (nI j + 1), .null] [] S Q) ∧ ((S 48 (nI j).toNatClampNeg) = l2 → tk_Gs mX8_fits none 86 [.ref 45, .int l1, .int l2, .int l3, .int r, .int (nI p), .int (nI (cnt (fun i => decide (S 46 i = nI p ∨ S 47 i = nI p)) j) + 1), .int 1, .int (nI j + 1), .null] [] S Q))))))) := by
      intro hat
      rw [cj]
      exact ⟨fun z => stT _ hat (enc1 (up.mpr (Or.inl (hx z)))), fun z => zt ⟨vj, fun w => stT _ hat (enc0 (fun g => (up.mp g).elim (h.z.mp z) (fun y => w y.2))), fun w => stT _ hat (enc1 (up.mpr (Or.inr ⟨hat, w⟩)))⟩⟩
    refine w_X8_fits_86 _ _ _ _ _ _ _ _ ⟨fun c => absurd c (by rw [hn]; exact nI_ge (by omega) (by omega)), fun _ => ⟨vj, fun c => zt (A (Or.inl (by rw [cj] at c; exact c))), fun c => ⟨vj, fun d => zf ?_, fun d => zt (A (Or.inr (by rw [cj] at d; exact d)))⟩⟩⟩
    rw [cj] at c d
    have nat : ¬ (S 46 j = nI p ∨ S 47 j = nI p) := fun g => g.elim c d
    exact ⟨fun z => stF _ nat (enc1 (up.mpr (Or.inl (hx z)))), fun z => zf (stF _ nat (enc0 (fun g => (up.mp g).elim (h.z.mp z) (fun y => nat y.1))))⟩
theorem lp_X8_fits {Q : Int32 → tS → Prop} {S : tS} {n : Nat} {l1 l2 l3 : Int32} (g1 : -1 ≤ l1.toInt) (g2 : -1 ≤ l2.toInt) (g3 : -1 ≤ l3.toInt) (hn : S 45 3 = nI n) (h16 : n ≤ 16) (k : ∀ r, (∀ i, i < 32 → (bt r i = true ↔ (1 ≤ i ∧ i < 10) ∧ fitP (S 46) (S 47) (S 48) (S 56) n l1 l2 l3 i)) → Q r S) : ∀ (m j : Nat) (r : Int32), j + m = 10 → 1 ≤ j → (∀ i, i < 32 → (bt r i = true ↔ (1 ≤ i ∧ i < j) ∧ fitP (S 46) (S 47) (S 48) (S 56) n l1 l2 l3 i)) → tk_Gs mX8_fits none 62 [.ref 45, .int l1, .int l2, .int l3, .int r, .int (nI j), .null, .null, .null, .null] [] S Q
  | 0, j, r, e, _, h => by
    have e : j = 10 := e
    subst e
    exact w_X8_fits_62 _ _ _ _ _ ⟨fun _ => k r h, fun c => absurd (by decide) c⟩
  | m + 1, j, r, e, hj, h => by
    have neg : ∀ {l : Int32}, -1 ≤ l.toInt → (l.toInt < 0 ↔ l = -1) := fun {l} hl => by
      rw [xeq, tneg1]
      omega
    have ff : ((l1.toInt < 0 ∨ nI (cnt (fun i => decide (S 46 i = nI j ∨ S 47 i = nI j)) n) = l1) ∧ hasL (S 46) (S 47) (S 48) l2 j n ∧ (l3.toInt < 0 ∨ S 56 j = l3)) ↔ fitP (S 46) (S 47) (S 48) (S 56) n l1 l2 l3 j := by
      unfold fitP hasL
      rw [neg g1, neg g2, neg g3]
    have nx := lp_X8_fits2 (Q := Q) (S := S) (n := n) (p := j) (l1 := l1) (l2 := l2) (l3 := l3) (r := r) hn h16 (by omega) (fun z => by
      have z := fun y => z (ff.mpr y)
      refine lp_X8_fits g1 g2 g3 hn h16 k m (j + 1) r (by omega) (by omega) (fun i hi => ?_)
      rw [h i hi]
      by_cases ei : i = j
      · subst ei
        exact ⟨fun y => absurd y.1.2 (by omega), fun y => absurd y.2 z⟩
      · exact ⟨fun y => ⟨by omega, y.2⟩, fun y => ⟨by omega, y.2⟩⟩) (fun z => by
      have z := ff.mp z
      refine lp_X8_fits g1 g2 g3 hn h16 k m (j + 1) _ (by omega) (by omega) (fun i hi => ?_)
      rw [orbit r (by omega) hi, Bool.or_eq_true, decide_eq_true_eq, h i hi]
      by_cases ei : i = j
      · subst ei
        exact ⟨fun _ => ⟨by omega, z⟩, fun _ => Or.inr rfl⟩
      · exact ⟨fun y => y.elim (fun y => ⟨by omega, y.2⟩) (fun y => absurd y ei), fun y => Or.inl ⟨by omega, y.2⟩⟩) n 0
    refine w_X8_fits_62 _ _ _ _ _ ⟨fun c => absurd c (nI_ge (a := j) (b := 10) (by omega) (by omega)), fun _ => ⟨fun c => nx 0 (by omega) (enc0 (fun g => ?_)), fun c => nx 1 (by omega) (enc1 (Or.inl ?_))⟩⟩
    · rw [le0'] at c
      rcases g with g | ⟨_, g, _⟩
      · omega
      · exact absurd g (Nat.not_lt_zero _)
    · rw [le0'] at c
      omega
