/-! SHEETS: parts -/
theorem four {p : Nat} (hp : p < 4) {A : Nat → Prop} (h : A p) : (nI p = 0 → A 0) ∧ (nI p = 1 → A 1) ∧ (nI p = 2 → A 2) ∧ (nI p = 3 → A 3) := by
  have g : ∀ k, k < 4 → nI p = nI k → A k := fun k hk e => by
    have e' : p = k := by
      rw [xeq, nI_t (by omega), nI_t (by omega)] at e
      omega
    rw [← e']
    exact h
  exact ⟨g 0 (by omega), g 1 (by omega), g 2 (by omega), g 3 (by omega)⟩
def hd (S : tS) (p : Nat) (a n : Int32) : Prop := 0 ≤ a.toInt ∧ 0 ≤ n.toInt ∧ a.toInt + n.toInt ≤ (S (37 + 2 * p) 1).toInt
def asL (l x : Int32) : Int32 := if l = 0 then x.toInt8.toInt32 else if l = 1 then x.toInt16.toInt32 else x
def z24 (f : Nat → Int32) (n : Nat) : Nat → Int32 := fun j => if j < n then 0 else f j
theorem z24_0 {f : Nat → Int32} : z24 f 0 = f := by
  funext j
  exact if_neg (Nat.not_lt_zero _)
theorem z24_1 {f : Nat → Int32} {n : Nat} : upd (z24 f n) n 0 = z24 f (n + 1) := by
  funext j
  unfold upd z24
  by_cases h : j = n
  · subst h; simp
  · by_cases h2 : j < n
    · simp [h, h2, show j < n + 1 by omega]
    · simp [h, h2, show ¬ j < n + 1 by omega]

theorem sp_X4_holds_37 {Q : Int32 → tS → Prop} {S : tS} {a n : Int32} (h1 : -1 ≤ (S 37 1).toInt ∧ (S 37 1).toInt ≤ 24) (k0 : ¬ hd S 0 a n → Q 0 S) (k1 : hd S 0 a n → Q 1 S) : tk_Ms mX4_holds [.ref 37, .int a, .int n] S Q := by
  have h1 : -1 ≤ (S (37 + 2 * 0) 1).toInt ∧ (S (37 + 2 * 0) 1).toInt ≤ 24 := h1
  refine w_X4_holds_37 a n ⟨fun c => ok0 (k0 (fun g => ?_)), fun c => ⟨fun d => ok0 (k0 (fun g => ?_)), fun d => ⟨fun e => ok0 (k0 (fun g => ?_)), fun e => ⟨fun f => ok0 (k0 (fun g => ?_)), fun f => ok1 (k1 ?_)⟩⟩⟩⟩
  · obtain ⟨g1, g2, g3⟩ := g
    rw [lt0] at c
    omega
  · obtain ⟨g1, g2, g3⟩ := g
    rw [lt0] at d
    omega
  · obtain ⟨g1, g2, g3⟩ := g
    have e : S (37 + 2 * 0) 1 < a := e
    rw [xlt] at e
    omega
  · obtain ⟨g1, g2, g3⟩ := g
    have f : S (37 + 2 * 0) 1 - a < n := f
    rw [xlt, subT (by omega) (by omega)] at f
    omega
  · have e : ¬ S (37 + 2 * 0) 1 < a := e
    have f : ¬ S (37 + 2 * 0) 1 - a < n := f
    rw [lt0] at c d
    rw [xlt] at e
    rw [xlt, subT (by omega) (by omega)] at f
    exact ⟨by omega, by omega, by omega⟩
theorem sp_X4_put_37 {Q : Int32 → tS → Prop} {S : tS} {i : Nat} {x : Int32} (hi : i < 24) (k : Q 0 (tk_up S 38 i (asL (S 37 0) x))) : tk_Ms mX4_put [.ref 37, .int (nI i), .int x] S Q := by
  have v : vp_in (nI i) 24 := vp_in_nI hi (by omega)
  refine w_X4_put_37 _ _ ⟨fun c => ⟨fun d => ⟨v, ok0 ?_⟩, fun d => ⟨v, ok0 ?_⟩⟩, fun c => ⟨v, ok0 ?_⟩⟩ <;> rw [nI_c (by omega)]
  · unfold asL at k
    rw [if_neg c, if_neg d] at k
    exact k
  · unfold asL at k
    rw [if_neg c, if_pos d] at k
    exact k
  · unfold asL at k
    rw [if_pos c] at k
    exact k
theorem lp_X4_renew_37 {Q : Int32 → tS → Prop} {S : tS} {b c : Int32} (k : Q 0 (tk_upR S 38 (z24 (S 38) 24))) : ∀ m i : Nat, i + m = 24 → tk_Gs mX4_renew none 12 [.ref 37, .int b, .int c, .int (nI i)] [] (tk_upR S 38 (z24 (S 38) i)) Q
  | 0, i, e => by
    have e : i = 24 := e
    subst e
    exact w_X4_renew_37_12 _ _ _ ⟨fun _ => k, fun c => absurd (nI_le (a := 24) (b := 24) (by omega) (by omega)) c⟩
  | m + 1, i, e => by
    refine w_X4_renew_37_12 _ _ _ ⟨fun c => absurd c (nI_ge (a := i) (b := 24) (by omega) (by omega)), fun _ => ⟨vp_in_nI (by omega) (by omega), ?_⟩⟩
    rw [nI_1, nI_c (by omega), upR_up, z24_1]
    exact lp_X4_renew_37 k m (i + 1) (by omega)
theorem sp_X4_renew_37 {Q : Int32 → tS → Prop} {S : tS} {b c : Int32} (k : Q 0 (tk_upR (tk_up (tk_up S 37 0 b) 37 1 c) 38 (z24 (S 38) 24))) : tk_Ms mX4_renew [.ref 37, .int b, .int c] S Q := by
  refine w_X4_renew_37 b c ?_
  have := lp_X4_renew_37 (S := tk_up (tk_up S 37 0 b) 37 1 c) (b := b) (c := c) (ok0 (μ := mX4_renew) k) 24 0 rfl
  rw [z24_0, upR_self] at this
  exact this

theorem sp_X4_holds_39 {Q : Int32 → tS → Prop} {S : tS} {a n : Int32} (h1 : -1 ≤ (S 39 1).toInt ∧ (S 39 1).toInt ≤ 24) (k0 : ¬ hd S 1 a n → Q 0 S) (k1 : hd S 1 a n → Q 1 S) : tk_Ms mX4_holds [.ref 39, .int a, .int n] S Q := by
  have h1 : -1 ≤ (S (37 + 2 * 1) 1).toInt ∧ (S (37 + 2 * 1) 1).toInt ≤ 24 := h1
  refine w_X4_holds_39 a n ⟨fun c => ok0 (k0 (fun g => ?_)), fun c => ⟨fun d => ok0 (k0 (fun g => ?_)), fun d => ⟨fun e => ok0 (k0 (fun g => ?_)), fun e => ⟨fun f => ok0 (k0 (fun g => ?_)), fun f => ok1 (k1 ?_)⟩⟩⟩⟩
  · obtain ⟨g1, g2, g3⟩ := g
    rw [lt0] at c
    omega
  · obtain ⟨g1, g2, g3⟩ := g
    rw [lt0] at d
    omega
  · obtain ⟨g1, g2, g3⟩ := g
    have e : S (37 + 2 * 1) 1 < a := e
    rw [xlt] at e
    omega
  · obtain ⟨g1, g2, g3⟩ := g
    have f : S (37 + 2 * 1) 1 - a < n := f
    rw [xlt, subT (by omega) (by omega)] at f
    omega
  · have e : ¬ S (37 + 2 * 1) 1 < a := e
    have f : ¬ S (37 + 2 * 1) 1 - a < n := f
    rw [lt0] at c d
    rw [xlt] at e
    rw [xlt, subT (by omega) (by omega)] at f
    exact ⟨by omega, by omega, by omega⟩
theorem sp_X4_put_39 {Q : Int32 → tS → Prop} {S : tS} {i : Nat} {x : Int32} (hi : i < 24) (k : Q 0 (tk_up S 40 i (asL (S 39 0) x))) : tk_Ms mX4_put [.ref 39, .int (nI i), .int x] S Q := by
  have v : vp_in (nI i) 24 := vp_in_nI hi (by omega)
  refine w_X4_put_39 _ _ ⟨fun c => ⟨fun d => ⟨v, ok0 ?_⟩, fun d => ⟨v, ok0 ?_⟩⟩, fun c => ⟨v, ok0 ?_⟩⟩ <;> rw [nI_c (by omega)]
  · unfold asL at k
    rw [if_neg c, if_neg d] at k
    exact k
  · unfold asL at k
    rw [if_neg c, if_pos d] at k
    exact k
  · unfold asL at k
    rw [if_pos c] at k
    exact k
theorem lp_X4_renew_39 {Q : Int32 → tS → Prop} {S : tS} {b c : Int32} (k : Q 0 (tk_upR S 40 (z24 (S 40) 24))) : ∀ m i : Nat, i + m = 24 → tk_Gs mX4_renew none 12 [.ref 39, .int b, .int c, .int (nI i)] [] (tk_upR S 40 (z24 (S 40) i)) Q
  | 0, i, e => by
    have e : i = 24 := e
    subst e
    exact w_X4_renew_39_12 _ _ _ ⟨fun _ => k, fun c => absurd (nI_le (a := 24) (b := 24) (by omega) (by omega)) c⟩
  | m + 1, i, e => by
    refine w_X4_renew_39_12 _ _ _ ⟨fun c => absurd c (nI_ge (a := i) (b := 24) (by omega) (by omega)), fun _ => ⟨vp_in_nI (by omega) (by omega), ?_⟩⟩
    rw [nI_1, nI_c (by omega), upR_up, z24_1]
    exact lp_X4_renew_39 k m (i + 1) (by omega)
theorem sp_X4_renew_39 {Q : Int32 → tS → Prop} {S : tS} {b c : Int32} (k : Q 0 (tk_upR (tk_up (tk_up S 39 0 b) 39 1 c) 40 (z24 (S 40) 24))) : tk_Ms mX4_renew [.ref 39, .int b, .int c] S Q := by
  refine w_X4_renew_39 b c ?_
  have := lp_X4_renew_39 (S := tk_up (tk_up S 39 0 b) 39 1 c) (b := b) (c := c) (ok0 (μ := mX4_renew) k) 24 0 rfl
  rw [z24_0, upR_self] at this
  exact this

theorem sp_X4_holds_41 {Q : Int32 → tS → Prop} {S : tS} {a n : Int32} (h1 : -1 ≤ (S 41 1).toInt ∧ (S 41 1).toInt ≤ 24) (k0 : ¬ hd S 2 a n → Q 0 S) (k1 : hd S 2 a n → Q 1 S) : tk_Ms mX4_holds [.ref 41, .int a, .int n] S Q := by
  have h1 : -1 ≤ (S (37 + 2 * 2) 1).toInt ∧ (S (37 + 2 * 2) 1).toInt ≤ 24 := h1
  refine w_X4_holds_41 a n ⟨fun c => ok0 (k0 (fun g => ?_)), fun c => ⟨fun d => ok0 (k0 (fun g => ?_)), fun d => ⟨fun e => ok0 (k0 (fun g => ?_)), fun e => ⟨fun f => ok0 (k0 (fun g => ?_)), fun f => ok1 (k1 ?_)⟩⟩⟩⟩
  · obtain ⟨g1, g2, g3⟩ := g
    rw [lt0] at c
    omega
  · obtain ⟨g1, g2, g3⟩ := g
    rw [lt0] at d
    omega
  · obtain ⟨g1, g2, g3⟩ := g
    have e : S (37 + 2 * 2) 1 < a := e
    rw [xlt] at e
    omega
  · obtain ⟨g1, g2, g3⟩ := g
    have f : S (37 + 2 * 2) 1 - a < n := f
    rw [xlt, subT (by omega) (by omega)] at f
    omega
  · have e : ¬ S (37 + 2 * 2) 1 < a := e
    have f : ¬ S (37 + 2 * 2) 1 - a < n := f
    rw [lt0] at c d
    rw [xlt] at e
    rw [xlt, subT (by omega) (by omega)] at f
    exact ⟨by omega, by omega, by omega⟩
theorem sp_X4_put_41 {Q : Int32 → tS → Prop} {S : tS} {i : Nat} {x : Int32} (hi : i < 24) (k : Q 0 (tk_up S 42 i (asL (S 41 0) x))) : tk_Ms mX4_put [.ref 41, .int (nI i), .int x] S Q := by
  have v : vp_in (nI i) 24 := vp_in_nI hi (by omega)
  refine w_X4_put_41 _ _ ⟨fun c => ⟨fun d => ⟨v, ok0 ?_⟩, fun d => ⟨v, ok0 ?_⟩⟩, fun c => ⟨v, ok0 ?_⟩⟩ <;> rw [nI_c (by omega)]
  · unfold asL at k
    rw [if_neg c, if_neg d] at k
    exact k
  · unfold asL at k
    rw [if_neg c, if_pos d] at k
    exact k
  · unfold asL at k
    rw [if_pos c] at k
    exact k
theorem lp_X4_renew_41 {Q : Int32 → tS → Prop} {S : tS} {b c : Int32} (k : Q 0 (tk_upR S 42 (z24 (S 42) 24))) : ∀ m i : Nat, i + m = 24 → tk_Gs mX4_renew none 12 [.ref 41, .int b, .int c, .int (nI i)] [] (tk_upR S 42 (z24 (S 42) i)) Q
  | 0, i, e => by
    have e : i = 24 := e
    subst e
    exact w_X4_renew_41_12 _ _ _ ⟨fun _ => k, fun c => absurd (nI_le (a := 24) (b := 24) (by omega) (by omega)) c⟩
  | m + 1, i, e => by
    refine w_X4_renew_41_12 _ _ _ ⟨fun c => absurd c (nI_ge (a := i) (b := 24) (by omega) (by omega)), fun _ => ⟨vp_in_nI (by omega) (by omega), ?_⟩⟩
    rw [nI_1, nI_c (by omega), upR_up, z24_1]
    exact lp_X4_renew_41 k m (i + 1) (by omega)
theorem sp_X4_renew_41 {Q : Int32 → tS → Prop} {S : tS} {b c : Int32} (k : Q 0 (tk_upR (tk_up (tk_up S 41 0 b) 41 1 c) 42 (z24 (S 42) 24))) : tk_Ms mX4_renew [.ref 41, .int b, .int c] S Q := by
  refine w_X4_renew_41 b c ?_
  have := lp_X4_renew_41 (S := tk_up (tk_up S 41 0 b) 41 1 c) (b := b) (c := c) (ok0 (μ := mX4_renew) k) 24 0 rfl
  rw [z24_0, upR_self] at this
  exact this

theorem sp_X4_holds_43 {Q : Int32 → tS → Prop} {S : tS} {a n : Int32} (h1 : -1 ≤ (S 43 1).toInt ∧ (S 43 1).toInt ≤ 24) (k0 : ¬ hd S 3 a n → Q 0 S) (k1 : hd S 3 a n → Q 1 S) : tk_Ms mX4_holds [.ref 43, .int a, .int n] S Q := by
  have h1 : -1 ≤ (S (37 + 2 * 3) 1).toInt ∧ (S (37 + 2 * 3) 1).toInt ≤ 24 := h1
  refine w_X4_holds_43 a n ⟨fun c => ok0 (k0 (fun g => ?_)), fun c => ⟨fun d => ok0 (k0 (fun g => ?_)), fun d => ⟨fun e => ok0 (k0 (fun g => ?_)), fun e => ⟨fun f => ok0 (k0 (fun g => ?_)), fun f => ok1 (k1 ?_)⟩⟩⟩⟩
  · obtain ⟨g1, g2, g3⟩ := g
    rw [lt0] at c
    omega
  · obtain ⟨g1, g2, g3⟩ := g
    rw [lt0] at d
    omega
  · obtain ⟨g1, g2, g3⟩ := g
    have e : S (37 + 2 * 3) 1 < a := e
    rw [xlt] at e
    omega
  · obtain ⟨g1, g2, g3⟩ := g
    have f : S (37 + 2 * 3) 1 - a < n := f
    rw [xlt, subT (by omega) (by omega)] at f
    omega
  · have e : ¬ S (37 + 2 * 3) 1 < a := e
    have f : ¬ S (37 + 2 * 3) 1 - a < n := f
    rw [lt0] at c d
    rw [xlt] at e
    rw [xlt, subT (by omega) (by omega)] at f
    exact ⟨by omega, by omega, by omega⟩
theorem sp_X4_put_43 {Q : Int32 → tS → Prop} {S : tS} {i : Nat} {x : Int32} (hi : i < 24) (k : Q 0 (tk_up S 44 i (asL (S 43 0) x))) : tk_Ms mX4_put [.ref 43, .int (nI i), .int x] S Q := by
  have v : vp_in (nI i) 24 := vp_in_nI hi (by omega)
  refine w_X4_put_43 _ _ ⟨fun c => ⟨fun d => ⟨v, ok0 ?_⟩, fun d => ⟨v, ok0 ?_⟩⟩, fun c => ⟨v, ok0 ?_⟩⟩ <;> rw [nI_c (by omega)]
  · unfold asL at k
    rw [if_neg c, if_neg d] at k
    exact k
  · unfold asL at k
    rw [if_neg c, if_pos d] at k
    exact k
  · unfold asL at k
    rw [if_pos c] at k
    exact k
theorem lp_X4_renew_43 {Q : Int32 → tS → Prop} {S : tS} {b c : Int32} (k : Q 0 (tk_upR S 44 (z24 (S 44) 24))) : ∀ m i : Nat, i + m = 24 → tk_Gs mX4_renew none 12 [.ref 43, .int b, .int c, .int (nI i)] [] (tk_upR S 44 (z24 (S 44) i)) Q
  | 0, i, e => by
    have e : i = 24 := e
    subst e
    exact w_X4_renew_43_12 _ _ _ ⟨fun _ => k, fun c => absurd (nI_le (a := 24) (b := 24) (by omega) (by omega)) c⟩
  | m + 1, i, e => by
    refine w_X4_renew_43_12 _ _ _ ⟨fun c => absurd c (nI_ge (a := i) (b := 24) (by omega) (by omega)), fun _ => ⟨vp_in_nI (by omega) (by omega), ?_⟩⟩
    rw [nI_1, nI_c (by omega), upR_up, z24_1]
    exact lp_X4_renew_43 k m (i + 1) (by omega)
theorem sp_X4_renew_43 {Q : Int32 → tS → Prop} {S : tS} {b c : Int32} (k : Q 0 (tk_upR (tk_up (tk_up S 43 0 b) 43 1 c) 44 (z24 (S 44) 24))) : tk_Ms mX4_renew [.ref 43, .int b, .int c] S Q := by
  refine w_X4_renew_43 b c ?_
  have := lp_X4_renew_43 (S := tk_up (tk_up S 43 0 b) 43 1 c) (b := b) (c := c) (ok0 (μ := mX4_renew) k) 24 0 rfl
  rw [z24_0, upR_self] at this
  exact this

theorem sp_X4_holds {Q : Int32 → tS → Prop} {S : tS} {a n : Int32} {p : Nat} (hp : p < 4) (h1 : -1 ≤ (S (37 + 2 * p) 1).toInt ∧ (S (37 + 2 * p) 1).toInt ≤ 24) (k0 : ¬ hd S p a n → Q 0 S) (k1 : hd S p a n → Q 1 S) : tk_Ms mX4_holds [.ref (37 + 2 * p), .int a, .int n] S Q := by
  match p, hp, h1, k0, k1 with
  | 0, _, h1, k0, k1 => exact sp_X4_holds_37 h1 k0 k1
  | 1, _, h1, k0, k1 => exact sp_X4_holds_39 h1 k0 k1
  | 2, _, h1, k0, k1 => exact sp_X4_holds_41 h1 k0 k1
  | 3, _, h1, k0, k1 => exact sp_X4_holds_43 h1 k0 k1
theorem sp_X4_put {Q : Int32 → tS → Prop} {S : tS} {i : Nat} {x : Int32} {p : Nat} (hp : p < 4) (hi : i < 24) (k : Q 0 (tk_up S (38 + 2 * p) i (asL (S (37 + 2 * p) 0) x))) : tk_Ms mX4_put [.ref (37 + 2 * p), .int (nI i), .int x] S Q := by
  match p, hp, k with
  | 0, _, k => exact sp_X4_put_37 hi k
  | 1, _, k => exact sp_X4_put_39 hi k
  | 2, _, k => exact sp_X4_put_41 hi k
  | 3, _, k => exact sp_X4_put_43 hi k
theorem sp_X4_renew {Q : Int32 → tS → Prop} {S : tS} {b c : Int32} {p : Nat} (hp : p < 4) (k : Q 0 (tk_upR (tk_up (tk_up S (37 + 2 * p) 0 b) (37 + 2 * p) 1 c) (38 + 2 * p) (z24 (S (38 + 2 * p)) 24))) : tk_Ms mX4_renew [.ref (37 + 2 * p), .int b, .int c] S Q := by
  match p, hp, k with
  | 0, _, k => exact sp_X4_renew_37 k
  | 1, _, k => exact sp_X4_renew_39 k
  | 2, _, k => exact sp_X4_renew_41 k
  | 3, _, k => exact sp_X4_renew_43 k
theorem i2s (x : Int32) : (x <<< ((16 : Int32) &&& 31)) >>> ((16 : Int32) &&& 31) = x.toInt16.toInt32 := by
  apply b_ext
  intro i hi
  rw [show (16 : Int32) = nI 16 by decide, b_sshr 16 (by omega) _ hi]
  have e : ∀ j, j < 32 → bt x.toInt16.toInt32 j = if j < 16 then bt x j else bt x 15 := by
    intro j hj
    show (BitVec.signExtend 32 (BitVec.signExtend 16 x.toBitVec)).getLsbD j = _
    rw [BitVec.getLsbD_signExtend]
    by_cases h : j < 16
    · rw [if_pos h, if_pos h, BitVec.getLsbD_signExtend]
      simp [h, show j < 32 by omega, hj, bt]
    · rw [if_neg h, if_neg h, BitVec.msb_eq_getLsbD_last, BitVec.getLsbD_signExtend]
      simp [hj, bt]
  rw [e i hi]
  by_cases h : i < 16
  · rw [if_pos (by omega), if_pos h, b_shl 16 (by omega) _ (by omega)]
    simp [show 16 ≤ 16 + i by omega]
  · rw [if_neg (by omega), if_neg h, b_shl 16 (by omega) _ (by omega)]
    simp
theorem i2b (x : Int32) : (x <<< ((24 : Int32) &&& 31)) >>> ((24 : Int32) &&& 31) = x.toInt8.toInt32 := by
  apply b_ext
  intro i hi
  rw [show (24 : Int32) = nI 24 by decide, b_sshr 24 (by omega) _ hi]
  have e : ∀ j, j < 32 → bt x.toInt8.toInt32 j = if j < 8 then bt x j else bt x 7 := by
    intro j hj
    show (BitVec.signExtend 32 (BitVec.signExtend 8 x.toBitVec)).getLsbD j = _
    rw [BitVec.getLsbD_signExtend]
    by_cases h : j < 8
    · rw [if_pos h, if_pos h, BitVec.getLsbD_signExtend]
      simp [h, show j < 32 by omega, hj, bt]
    · rw [if_neg h, if_neg h, BitVec.msb_eq_getLsbD_last, BitVec.getLsbD_signExtend]
      simp [hj, bt]
  rw [e i hi]
  by_cases h : i < 8
  · rw [if_pos (by omega), if_pos h, b_shl 24 (by omega) _ (by omega)]
    simp [show 24 ≤ 24 + i by omega]
  · rw [if_neg (by omega), if_neg h, b_shl 24 (by omega) _ (by omega)]
    simp
theorem sp_X8_asLane {Q : Int32 → tS → Prop} {S : tS} {l x : Int32} (k : Q (asL l x) S) : tk_Ms mX8_asLane [.int l, .int x] S Q := by
  unfold asL at k
  refine w_X8_asLane l x ⟨fun c => ⟨fun d => okI (by decide) ?_, fun d => okI (by decide) ?_⟩, fun c => okI (by decide) ?_⟩
  · rw [if_neg c, if_neg d] at k
    exact k
  · rw [if_neg c, if_pos d] at k
    rw [i2s]
    exact k
  · rw [if_pos c] at k
    rw [i2b]
    exact k

