/-! LOOPS THAT COUNT: COUNT, CHANGE, WASH -/
def cnt (p : Nat → Bool) : Nat → Nat
  | 0 => 0
  | n + 1 => cnt p n + (if p n = true then 1 else 0)
theorem cnt_le (p : Nat → Bool) : ∀ n, cnt p n ≤ n
  | 0 => Nat.le_refl _
  | n + 1 => by
    have := cnt_le p n
    show cnt p n + (if p n = true then 1 else 0) ≤ n + 1
    split <;> omega
theorem cnt_t {p : Nat → Bool} {n : Nat} (h : p n = true) : cnt p (n + 1) = cnt p n + 1 := by show cnt p n + (if p n = true then 1 else 0) = _; rw [if_pos h]
theorem cnt_f {p : Nat → Bool} {n : Nat} (h : ¬ p n = true) : cnt p (n + 1) = cnt p n := by show cnt p n + (if p n = true then 1 else 0) = _; rw [if_neg h, Nat.add_zero]
theorem cnt_cong {p q : Nat → Bool} : ∀ {n : Nat}, (∀ i, i < n → p i = q i) → cnt p n = cnt q n
  | 0, _ => rfl
  | n + 1, h => by
    show cnt p n + (if p n = true then 1 else 0) = cnt q n + (if q n = true then 1 else 0)
    rw [cnt_cong (fun i hi => h i (by omega)), h n (by omega)]
theorem add0 {x : Int32} : x + 0 = x := Int32.add_zero x
theorem lp_X2_at {Q : Int32 → tS → Prop} {S : tS} {n : Nat} {q : Int32} (hn : S 1 0 = nI n) (hn2 : n ≤ 16) (k : Q (nI (cnt (fun i => decide (S 2 i = q ∨ S 3 i = q)) n)) S) : ∀ m i : Nat, i + m = n → tk_Gs mX2_at none 4 [.ref 1, .int q, .int (nI (cnt (fun i => decide (S 2 i = q ∨ S 3 i = q)) i)), .int (nI i)] [] S Q
  | 0, i, e => by
    have e : i = n := e
    subst e
    refine w_X2_at_4 _ _ _ ⟨fun _ => k, fun c => absurd (by rw [hn]; exact nI_le (Nat.le_refl _) (by omega)) c⟩
  | m + 1, i, e => by
    refine w_X2_at_4 _ _ _ ⟨fun c => absurd c (by rw [hn]; exact nI_ge (by omega) (by omega)), fun c => sp_X2_isAt (vp_in_nI (by omega) (by omega)) (fun h => zf ?_) (fun h => zt ?_)⟩
    · rw [nI_c (by omega)] at h
      rw [add0, nI_1, ← cnt_f (p := fun i => decide (S 2 i = q ∨ S 3 i = q)) (by simpa using h)]
      exact lp_X2_at hn hn2 k m (i + 1) (by omega)
    · rw [nI_c (by omega)] at h
      rw [nI_1, nI_1, ← cnt_t (p := fun i => decide (S 2 i = q ∨ S 3 i = q)) (by simpa using h)]
      exact lp_X2_at hn hn2 k m (i + 1) (by omega)
theorem sp_X2_at {Q : Int32 → tS → Prop} {S : tS} {n : Nat} {q : Int32} (hn : S 1 0 = nI n) (hn2 : n ≤ 16) (k : Q (nI (cnt (fun i => decide (S 2 i = q ∨ S 3 i = q)) n)) S) : tk_Ms mX2_at [.ref 1, .int q] S Q :=
  w_X2_at q (lp_X2_at hn hn2 (okI (by decide) k) n 0 (by omega))
theorem lp_X3_stained {Q : Int32 → tS → Prop} {S : tS} {n : Nat} (hn : S 5 0 = nI n) (hn2 : n ≤ 8) (k : Q (nI (cnt (fun i => decide (0 < (S 9 i).toInt)) n)) S) : ∀ m i : Nat, i + m = n → tk_Gs mX3_stained none 4 [.ref 5, .int (nI (cnt (fun i => decide (0 < (S 9 i).toInt)) i)), .int (nI i)] [] S Q
  | 0, i, e => by
    have e : i = n := e
    subst e
    refine w_X3_stained_4 _ _ ⟨fun _ => k, fun c => absurd (by rw [hn]; exact nI_le (Nat.le_refl _) (by omega)) c⟩
  | m + 1, i, e => by
    refine w_X3_stained_4 _ _ ⟨fun c => absurd c (by rw [hn]; exact nI_ge (by omega) (by omega)), fun c => ⟨vp_in_nI (by omega) (by omega), fun h => ?_, fun h => ?_⟩⟩
    · rw [nI_c (by omega), le0] at h
      rw [add0, nI_1, ← cnt_f (p := fun i => decide (0 < (S 9 i).toInt)) (by simpa using h)]
      exact lp_X3_stained hn hn2 k m (i + 1) (by omega)
    · rw [nI_c (by omega), le0] at h
      rw [nI_1, nI_1, ← cnt_t (p := fun i => decide (0 < (S 9 i).toInt)) (by simpa using h)]
      exact lp_X3_stained hn hn2 k m (i + 1) (by omega)
theorem sp_X3_stained {Q : Int32 → tS → Prop} {S : tS} {n : Nat} (hn : S 5 0 = nI n) (hn2 : n ≤ 8) (k : Q (nI (cnt (fun i => decide (0 < (S 9 i).toInt)) n)) S) : tk_Ms mX3_stained [.ref 5] S Q :=
  w_X3_stained (lp_X3_stained hn hn2 (okI (by decide) k) n 0 (by omega))
theorem lp_X3_showing {Q : Int32 → tS → Prop} {S : tS} {n : Nat} {d : Int32} (hn : S 5 0 = nI n) (hn2 : n ≤ 8) (hK : ∀ i, i < n → kOk S i) (h0 : (S 0 2).toInt ≤ d.toInt) (h1 : d.toInt ≤ 999) (k : Q (nI (cnt (fun i => decide (0 < kx S d i)) n)) S) : ∀ m i : Nat, i + m = n → tk_Gs mX3_showing none 4 [.ref 5, .int d, .int (nI (cnt (fun i => decide (0 < kx S d i)) i)), .int (nI i)] [] S Q
  | 0, i, e => by
    have e : i = n := e
    subst e
    refine w_X3_showing_4 _ _ _ ⟨fun _ => k, fun c => absurd (by rw [hn]; exact nI_le (Nat.le_refl _) (by omega)) c⟩
  | m + 1, i, e => by
    refine w_X3_showing_4 _ _ _ ⟨fun c => absurd c (by rw [hn]; exact nI_ge (by omega) (by omega)), fun c => sp_X3_showsOn (by omega) rfl (hK i (by omega)) h0 h1 (fun x hx => ⟨fun h => ?_, fun h => ?_⟩)⟩
    · rw [le0, hx] at h
      rw [add0, nI_1, ← cnt_f (p := fun i => decide (0 < kx S d i)) (by simpa using h)]
      exact lp_X3_showing hn hn2 hK h0 h1 k m (i + 1) (by omega)
    · rw [le0, hx] at h
      rw [nI_1, nI_1, ← cnt_t (p := fun i => decide (0 < kx S d i)) (by simpa using h)]
      exact lp_X3_showing hn hn2 hK h0 h1 k m (i + 1) (by omega)
theorem sp_X3_showing {Q : Int32 → tS → Prop} {S : tS} {n : Nat} {d : Int32} (hn : S 5 0 = nI n) (hn2 : n ≤ 8) (hK : ∀ i, i < n → kOk S i) (h0 : (S 0 2).toInt ≤ d.toInt) (h1 : d.toInt ≤ 999) (k : Q (nI (cnt (fun i => decide (0 < kx S d i)) n)) S) : tk_Ms mX3_showing [.ref 5, .int d] S Q :=
  w_X3_showing d (lp_X3_showing hn hn2 hK h0 h1 (okI (by decide) k) n 0 (by omega))
/-- the reference's count, its second loop -/
theorem lp_X8_count2 {Q : Int32 → tS → Prop} {S : tS} {n : Nat} {a u w : Int32} (hn : S 45 3 = nI n) (hn2 : n ≤ 16) (k : ∀ z : Int32, z = nI (cnt (fun i => decide (S 46 i = 10 ∨ S 47 i = 10)) n) → (a = 0 → Q (S 45 3) S) ∧ ((a = 1 → Q (S 45 9) S) ∧ ((a = 2 → Q u S) ∧ ((a = 3 → Q (S 45 10) S) ∧ ((a = 4 → Q w S) ∧ ((a = 5 → Q z S) ∧ (¬ a = 0 ∧ ¬ a = 1 ∧ ¬ a = 2 ∧ ¬ a = 3 ∧ ¬ a = 4 ∧ ¬ a = 5 → Q (-1) S))))))) : ∀ m i : Nat, i + m = n → tk_Gs mX8_count none 67 [.ref 45, .int a, .int u, .int w, .int (nI (cnt (fun i => decide (S 46 i = 10 ∨ S 47 i = 10)) i)), .int (nI i)] [] S Q
  | 0, i, e => by
    have e : i = n := e
    subst e
    refine w_X8_count_67 _ _ _ _ _ ⟨fun _ => k _ rfl, fun c => absurd (by rw [hn]; exact nI_le (Nat.le_refl _) (by omega)) c⟩
  | m + 1, i, e => by
    refine w_X8_count_67 _ _ _ _ _ ⟨fun c => absurd c (by rw [hn]; exact nI_ge (by omega) (by omega)), fun c => ⟨vp_in_nI (by omega) (by omega), fun h => ?_, fun h => ⟨vp_in_nI (by omega) (by omega), fun g => ?_, fun g => ?_⟩⟩⟩
    · rw [nI_c (by omega)] at h
      rw [nI_1, nI_1, ← cnt_t (p := fun i => decide (S 46 i = 10 ∨ S 47 i = 10)) (by simp [h])]
      exact lp_X8_count2 hn hn2 k m (i + 1) (by omega)
    · rw [nI_c (by omega)] at h g
      rw [add0, nI_1, ← cnt_f (p := fun i => decide (S 46 i = 10 ∨ S 47 i = 10)) (by simp [h, g])]
      exact lp_X8_count2 hn hn2 k m (i + 1) (by omega)
    · rw [nI_c (by omega)] at h g
      rw [nI_1, nI_1, ← cnt_t (p := fun i => decide (S 46 i = 10 ∨ S 47 i = 10)) (by simp [g])]
      exact lp_X8_count2 hn hn2 k m (i + 1) (by omega)
theorem lp_X8_count1 {Q : Int32 → tS → Prop} {S : tS} {n : Nat} {a : Int32} (hn : S 45 9 = nI n) (hn2 : n ≤ 8) (hK : ∀ i, i < n → kOk S i) (ht : S 45 10 = S 0 2 ∧ 0 ≤ (S 0 2).toInt ∧ (S 0 2).toInt ≤ 999) (k : tk_Gs mX8_count none 67 [.ref 45, .int a, .int (nI (cnt (fun i => decide (0 < (S 9 i).toInt)) n)), .int (nI (cnt (fun i => decide (0 < kx S (S 0 2) i)) n)), .int 0, .int 0] [] S Q) : ∀ m i : Nat, i + m = n → tk_Gs mX8_count none 7 [.ref 45, .int a, .int (nI (cnt (fun i => decide (0 < (S 9 i).toInt)) i)), .int (nI (cnt (fun i => decide (0 < kx S (S 0 2) i)) i)), .int (nI i), .null] [] S Q
  | 0, i, e => by
    have e : i = n := e
    subst e
    refine w_X8_count_7 _ _ _ _ ⟨fun _ => k, fun c => absurd (by rw [hn]; exact nI_le (Nat.le_refl _) (by omega)) c⟩
  | m + 1, i, e => by
    have hm := (hK i (by omega)).2.2.2.1
    refine w_X8_count_7 _ _ _ _ ⟨fun c => absurd c (by rw [hn]; exact nI_ge (by omega) (by omega)), fun c => ⟨vp_in_nI (by omega) (by omega), fun h => ?_, fun h => ?_⟩⟩
    · rw [nI_c (by omega), le0, hm] at h
      rw [ht.1]
      refine sp_X8_shownBy (by omega) rfl (hK i (by omega)) ht.2.1 (Int.le_refl _) ht.2.2 (fun x hx => ⟨fun g => ?_, fun g => ?_⟩)
      · rw [le0, hx] at g
        rw [add0, add0, nI_1, ← cnt_f (p := fun i => decide (0 < (S 9 i).toInt)) (by simpa using h), ← cnt_f (p := fun i => decide (0 < kx S (S 0 2) i)) (by simpa using g)]
        exact lp_X8_count1 hn hn2 hK ht k m (i + 1) (by omega)
      · rw [le0, hx] at g
        rw [add0, nI_1, nI_1, ← cnt_f (p := fun i => decide (0 < (S 9 i).toInt)) (by simpa using h), ← cnt_t (p := fun i => decide (0 < kx S (S 0 2) i)) (by simpa using g)]
        exact lp_X8_count1 hn hn2 hK ht k m (i + 1) (by omega)
    · rw [nI_c (by omega), le0, hm] at h
      rw [ht.1]
      refine sp_X8_shownBy (by omega) rfl (hK i (by omega)) ht.2.1 (Int.le_refl _) ht.2.2 (fun x hx => ⟨fun g => ?_, fun g => ?_⟩)
      · rw [le0, hx] at g
        rw [add0, nI_1, nI_1, ← cnt_t (p := fun i => decide (0 < (S 9 i).toInt)) (by simpa using h), ← cnt_f (p := fun i => decide (0 < kx S (S 0 2) i)) (by simpa using g)]
        exact lp_X8_count1 hn hn2 hK ht k m (i + 1) (by omega)
      · rw [le0, hx] at g
        rw [nI_1, nI_1, nI_1, ← cnt_t (p := fun i => decide (0 < (S 9 i).toInt)) (by simpa using h), ← cnt_t (p := fun i => decide (0 < kx S (S 0 2) i)) (by simpa using g)]
        exact lp_X8_count1 hn hn2 hK ht k m (i + 1) (by omega)
theorem pr_count {S : tS} (hI : Inv S) (a : Int32) : tk_Ms mX7_count [.ref 0, .int a] S (fun x S1 => tk_Ms mX8_count [.ref 45, .int a] S1 (fun y S2 => x = y ∧ Inv S2)) := by
  obtain ⟨n, hn, e1, e2, hK⟩ := hI.keys
  obtain ⟨nd, hnd, d1, d2, hD⟩ := hI.1
  have ht := hI.today
  have hc : cnt (fun i => decide (S 46 i = 10 ∨ S 47 i = 10)) nd = cnt (fun i => decide (S 2 i = 10 ∨ S 3 i = 10)) nd := cnt_cong (fun i hi => by rw [(hD i hi).1, (hD i hi).2.1])
  have hm : ∀ {x : Int32}, ((a = 0 → x = S 45 3) ∧ (a = 1 → x = S 45 9) ∧ (a = 2 → x = nI (cnt (fun i => decide (0 < (S 9 i).toInt)) n)) ∧ (a = 3 → x = S 45 10) ∧ (a = 4 → x = nI (cnt (fun i => decide (0 < kx S (S 0 2) i)) n)) ∧ (a = 5 → x = nI (cnt (fun i => decide (S 2 i = 10 ∨ S 3 i = 10)) nd)) ∧ (¬ a = 0 ∧ ¬ a = 1 ∧ ¬ a = 2 ∧ ¬ a = 3 ∧ ¬ a = 4 ∧ ¬ a = 5 → x = -1)) → tk_Ms mX8_count [.ref 45, .int a] S (fun y S2 => x = y ∧ Inv S2) := by
    intro x hx
    obtain ⟨x0, x1, x2, x3, x4, x5, x6⟩ := hx
    refine w_X8_count a (lp_X8_count1 e2 hn hK ht (lp_X8_count2 d2 hnd (fun z hz => ?_) nd 0 (by omega)) n 0 (by omega))
    rw [hc] at hz
    exact ⟨fun c => okI (by decide) ⟨x0 c, hI⟩, fun c => okI (by decide) ⟨x1 c, hI⟩, fun c => okI (by decide) ⟨x2 c, hI⟩, fun c => okI (by decide) ⟨x3 c, hI⟩, fun c => okI (by decide) ⟨x4 c, hI⟩, fun c => okI (by decide) ⟨(x5 c).trans hz.symm, hI⟩, fun c => okI (by decide) ⟨x6 c, hI⟩⟩
  have no : ∀ {u w : Int32} {P : Prop}, a = u → u ≠ w → a = w → P := fun h1 h2 h3 => absurd (h1.symm.trans h3) h2
  refine w_X7_count a ⟨fun c => okI (by decide) (hm ⟨fun _ => by rw [d1, d2], no c (by decide), no c (by decide), no c (by decide), no c (by decide), no c (by decide), fun g => absurd c g.1⟩), fun c => okI (by decide) (hm ⟨no c (by decide), fun _ => by rw [e1, e2], no c (by decide), no c (by decide), no c (by decide), no c (by decide), fun g => absurd c g.2.1⟩), fun c => sp_X3_stained e1 hn (okI (by decide) (hm ⟨no c (by decide), no c (by decide), fun _ => rfl, no c (by decide), no c (by decide), no c (by decide), fun g => absurd c g.2.2.1⟩)), fun c => okI (by decide) (hm ⟨no c (by decide), no c (by decide), no c (by decide), fun _ => ht.1.symm, no c (by decide), no c (by decide), fun g => absurd c g.2.2.2.1⟩), fun c => sp_X3_showing e1 hn hK (Int.le_refl _) ht.2.2 (okI (by decide) (hm ⟨no c (by decide), no c (by decide), no c (by decide), no c (by decide), fun _ => rfl, no c (by decide), fun g => absurd c g.2.2.2.2.1⟩)), fun c => sp_X2_at d1 hnd (okI (by decide) (hm ⟨no c (by decide), no c (by decide), no c (by decide), no c (by decide), no c (by decide), fun _ => rfl, fun g => absurd c g.2.2.2.2.2⟩)), fun c => okI (by decide) (hm ⟨fun z => absurd z c.1, fun z => absurd z c.2.1, fun z => absurd z c.2.2.1, fun z => absurd z c.2.2.2.1, fun z => absurd z c.2.2.2.2.1, fun z => absurd z c.2.2.2.2.2, fun _ => rfl⟩)⟩
theorem pr_change {S : tS} (hI : Inv S) (a b : Int32) : tk_Ms mX7_change [.ref 0, .int a, .int b] S (fun x S1 => tk_Ms mX8_change [.ref 45, .int a, .int b] S1 (fun y S2 => x = y ∧ Inv S2)) := by
  have hI0 := hI
  obtain ⟨n, hn, e1, e2, hK⟩ := hI.keys
  have e3 : S 45 9 = S 5 0 := by rw [e1, e2]
  have q1 : 0 ≤ (S 45 9).toInt := by rw [e2, nI_t (by omega)]; omega
  have mB : ¬ (0 ≤ a.toInt ∧ a.toInt < (S 5 0).toInt) ∨ ¬ (0 ≤ b.toInt ∧ b.toInt ≤ 4) → tk_Ms mX8_change [.ref 45, .int a, .int b] S (fun y S2 => -1 = y ∧ Inv S2) := fun h =>
    w_X8_change a b (sp_X8_isKey q1 (fun _ => zf (okI (by decide) ⟨rfl, hI0⟩)) (fun g => zt (sp_X8_in (fun _ => zf' (okI (by decide) ⟨rfl, hI0⟩)) (fun z => absurd (show (0 ≤ a.toInt ∧ a.toInt < (S 5 0).toInt) ∧ (0 ≤ b.toInt ∧ b.toInt ≤ 4) from ⟨by rw [← e3]; exact g, by simp only [l64, Int64.reduceToInt] at z; exact z⟩) (by rcases h with h | h <;> intro w; exact h w.1; exact h w.2)))))
  refine w_X7_change a b (sp_X3_has (fun h => zf (okI (by decide) (mB (Or.inl h)))) (fun h => zt ⟨fun c => okI (by decide) (mB (Or.inr (fun g => ?_))), fun c => ⟨fun d => ?_, fun d => okI (by decide) (mB (Or.inr (fun g => ?_)))⟩⟩))
  · rw [lt0] at c; omega
  · have hb : 0 ≤ b.toInt ∧ b.toInt ≤ 4 := by
      rw [lt0] at c
      rw [xle] at d
      simp only [Int32.reduceToInt] at d
      omega
    obtain ⟨hlt, ea⟩ := plc e1 (by omega) h
    have v : vp_in a 8 := vin h.1 (by have := h.2; rw [e1, nI_t (by omega)] at this; omega)
    have key := hK _ hlt
    have mK : ∀ {S1 : tS} {T : Int32 → tS → Prop}, S1 45 9 = S 45 9 → S1 51 = S 51 → (¬ S 51 a.toNatClampNeg = b → T (S 51 a.toNatClampNeg) (tk_up S1 51 a.toNatClampNeg b)) → (S 51 a.toNatClampNeg = b → T (-2) S1) → tk_Ms mX8_change [.ref 45, .int a, .int b] S1 T := by
      intro S1 T g1 g2 ka kb
      refine w_X8_change a b (sp_X8_isKey (by rw [g1]; exact q1) (fun z => absurd (by rw [g1, e3]; exact h) z) (fun _ => zt (sp_X8_in (fun z => absurd (by simp only [l64, Int64.reduceToInt]; exact hb) z) (fun _ => zt' ⟨v, fun z => ⟨v, okI (by decide) ?_⟩, fun z => okI (by decide) ?_⟩))))
      · rw [g2] at z ⊢
        exact ka z
      · rw [g2] at z
        exact kb z
    refine ⟨v, fun z => ⟨v, okI (by decide) (mK rfl rfl (fun _ => ⟨key.2.2.1.symm, ?_⟩) (fun w => absurd (key.2.2.1.symm.trans w) z))⟩, fun z => okI (by decide) (mK rfl rfl (fun w => absurd (key.2.2.1.trans z) w) (fun _ => ⟨rfl, hI0⟩))⟩
    obtain ⟨g1, g2, -, g4⟩ := hI0
    refine ⟨g1, g2, ⟨n, hn, e1, e2, fun i hi => ?_⟩, g4⟩
    have ki := hK i hi
    show S 49 i = S 6 i ∧ S 50 i = S 7 i ∧ upd (S 51) a.toNatClampNeg b i = upd (S 8) a.toNatClampNeg b i ∧ S 52 i = S 9 i ∧ (S 9 i ≠ 0 → S 53 i = S 10 i) ∧ (S 9 i = 0 → S 10 i = 0) ∧ 0 ≤ (S 6 i).toInt ∧ (S 6 i).toInt ≤ 3 ∧ (S 7 i = 0 ∨ S 7 i = 1) ∧ 0 ≤ (upd (S 8) a.toNatClampNeg b i).toInt ∧ (upd (S 8) a.toNatClampNeg b i).toInt ≤ 4 ∧ 0 ≤ (S 9 i).toInt ∧ (S 9 i).toInt ≤ 30 ∧ 0 ≤ (S 10 i).toInt ∧ (S 10 i).toInt ≤ (S 0 2).toInt
    obtain ⟨k1, k2, k3, k4, k5, k6, k7, k8, k9, k10, k11, k12⟩ := ki
    by_cases hia : i = a.toNatClampNeg
    · subst hia
      simp only [upd_s]
      exact ⟨k1, k2, trivial, k4, k5, k6, k7, k8, k9, hb.1, hb.2, k12⟩
    · simp only [upd_n hia]
      exact ⟨k1, k2, k3, k4, k5, k6, k7, k8, k9, k10, k11, k12⟩
  · rw [xle] at d
    simp only [Int32.reduceToInt] at d
    omega
