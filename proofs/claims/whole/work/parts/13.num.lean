/-! small facts -/
theorem xlt {a b : Int32} : a < b ↔ a.toInt < b.toInt := Int32.lt_iff_toInt_lt
theorem xle {a b : Int32} : a ≤ b ↔ a.toInt ≤ b.toInt := Int32.le_iff_toInt_le
theorem xeq {a b : Int32} : a = b ↔ a.toInt = b.toInt := ⟨fun h => by rw [h], Int32.toInt_inj.mp⟩
theorem okZ {μ : tM} {Q : Int32 → tS → Prop} {x : Int32} {S : tS} (h : x = 0 ∨ x = 1) (q : Q x S) : tk_okQ μ Q x S := ⟨by unfold tk_ok; split; exact h; trivial, q⟩
theorem ok0 {μ : tM} {Q : Int32 → tS → Prop} {S : tS} (q : Q 0 S) : tk_okQ μ Q 0 S := okZ (Or.inl rfl) q
theorem ok1 {μ : tM} {Q : Int32 → tS → Prop} {S : tS} (q : Q 1 S) : tk_okQ μ Q 1 S := okZ (Or.inr rfl) q
theorem okI {μ : tM} {Q : Int32 → tS → Prop} {x : Int32} {S : tS} (h : μ.2.2.2.1 ≠ some .boolean) (q : Q x S) : tk_okQ μ Q x S := ⟨by unfold tk_ok; split; exact absurd (by assumption) h; trivial, q⟩
theorem upRR {S : tS} {k : Nat} {f g : Nat → Int32} : tk_upR (tk_upR S k f) k g = tk_upR S k g := by
  funext i
  by_cases h : i = k <;> simp [tk_upR, h]
theorem upR_up {S : tS} {k j : Nat} {f : Nat → Int32} {x : Int32} : tk_up (tk_upR S k f) k j x = tk_upR S k (upd f j x) := by
  unfold tk_up
  rw [upRR, tk_upR_s]
theorem upR_self {S : tS} {k : Nat} : tk_upR S k (S k) = S := by
  funext i
  by_cases h : i = k <;> simp [tk_upR, h]
theorem up_R {S : tS} {k j : Nat} {x : Int32} : tk_up S k j x = tk_upR S k (upd (S k) j x) := rfl
theorem upR_comm {S : tS} {k l : Nat} {f g : Nat → Int32} (h : k ≠ l) : tk_upR (tk_upR S k f) l g = tk_upR (tk_upR S l g) k f := by
  funext i
  by_cases h1 : i = k <;> by_cases h2 : i = l <;> simp [tk_upR, h1, h2] <;> (intro e; omega)
theorem upd_s {f : Nat → Int32} {k : Nat} {x : Int32} : upd f k x k = x := if_pos rfl
theorem upd_n {f : Nat → Int32} {k j : Nat} {x : Int32} (h : j ≠ k) : upd f k x j = f j := if_neg h
theorem vin {i : Int32} {n : Nat} (h1 : 0 ≤ i.toInt) (h2 : i.toInt < n) : vp_in i n := vp_in_iff.mpr ⟨h1, h2⟩
theorem tn {i : Int32} (h : 0 ≤ i.toInt) : (i.toNatClampNeg : Int) = i.toInt := by
  show ((i.toInt.toNat : Nat) : Int) = i.toInt
  omega
theorem nI_t {n : Nat} (h : n < 2147483648) : (nI n).toInt = (n : Int) := nI_toInt (by omega)
theorem nI_c {n : Nat} (h : n < 2147483648) : (nI n).toNatClampNeg = n := nI_clamp (by omega)
theorem nI_of_t {x : Int32} (h : 0 ≤ x.toInt) : x = nI x.toNatClampNeg := by
  obtain ⟨j, hj, e⟩ := nI_of (x := x) (by rw [xlt]; simp only [Int32.reduceToInt]; omega)
  rw [e, nI_clamp hj]
theorem addT {x y : Int32} (h1 : -2147483648 ≤ x.toInt + y.toInt) (h2 : x.toInt + y.toInt < 2147483648) : (x + y).toInt = x.toInt + y.toInt := by
  rw [Int32.toInt_add]
  simp only [Int.bmod]
  split <;> omega
theorem subT {x y : Int32} (h1 : -2147483648 ≤ x.toInt - y.toInt) (h2 : x.toInt - y.toInt < 2147483648) : (x - y).toInt = x.toInt - y.toInt := by
  rw [Int32.toInt_sub]
  simp only [Int.bmod]
  split <;> omega
theorem l64 {x : Int32} : x.toInt64.toInt = x.toInt := Int32.toInt_toInt64 x
theorem cmpL {x y : Int64} : lg_cmp x y < 0 ↔ x.toInt < y.toInt := by
  have h := lg_cmp_ge x y
  rw [Int64.le_iff_toInt_le] at h
  rw [xlt]
  rw [xle] at h
  simp only [Int32.reduceToInt] at h ⊢
  omega
theorem cmpG {x y : Int64} : 0 < lg_cmp x y ↔ y.toInt < x.toInt := by
  have h := lg_cmp_le x y
  rw [Int64.le_iff_toInt_le] at h
  rw [xlt]
  rw [xle] at h
  simp only [Int32.reduceToInt] at h ⊢
  omega
theorem addT1 {x : Int32} (h2 : x.toInt < 2147483647) : (x + 1).toInt = x.toInt + 1 := by
  have a := x.le_toInt
  exact addT (by simp only [Int32.reduceToInt]; omega) (by simp only [Int32.reduceToInt]; omega)
theorem nI_add1 {n : Nat} : nI n + 1 = nI (n + 1) := nI_1 n
theorem add_sub1 {x : Int32} : x + 1 - 1 = x := by
  apply Int32.toInt_inj.mp
  rw [Int32.toInt_sub, Int32.toInt_add]
  have a := x.le_toInt
  have b := x.toInt_lt
  simp only [Int.bmod, Int32.reduceToInt]
  split <;> split <;> omega
/-! ===== Int32 by its bits: bt x i ===== -/
def bt (x : Int32) (i : Nat) : Bool := x.toBitVec.getLsbD i
theorem b_ext {x y : Int32} (h : ∀ i, i < 32 → bt x i = bt y i) : x = y := Int32.toBitVec_inj.mp (BitVec.eq_of_getLsbD_eq (fun i hi => h i hi))
theorem b_or (x y : Int32) (i : Nat) : bt (x ||| y) i = (bt x i || bt y i) := by unfold bt; rw [Int32.toBitVec_or, BitVec.getLsbD_or]
theorem b_and (x y : Int32) (i : Nat) : bt (x &&& y) i = (bt x i && bt y i) := by unfold bt; rw [Int32.toBitVec_and, BitVec.getLsbD_and]
theorem b_xor (x y : Int32) (i : Nat) : bt (x ^^^ y) i = (bt x i ^^ bt y i) := by unfold bt; rw [Int32.toBitVec_xor, BitVec.getLsbD_xor]
theorem b_big {x : Int32} {i : Nat} (h : 32 ≤ i) : bt x i = false := BitVec.getLsbD_of_ge _ _ h
theorem b_255 (i : Nat) : bt 255 i = decide (i < 8) := by
  rcases Nat.lt_or_ge i 32 with h | h
  · exact (by decide +kernel : ∀ i, i < 32 → bt 255 i = decide (i < 8)) i h
  · rw [b_big h, decide_eq_false (by omega)]
theorem b_65535 (i : Nat) : bt 65535 i = decide (i < 16) := by
  rcases Nat.lt_or_ge i 32 with h | h
  · exact (by decide +kernel : ∀ i, i < 32 → bt 65535 i = decide (i < 16)) i h
  · rw [b_big h, decide_eq_false (by omega)]
theorem b_m1 : ∀ i, i < 32 → bt (-1) i = true := by decide +kernel
theorem b_0 (i : Nat) : bt 0 i = false := BitVec.getLsbD_zero
theorem s_l : ∀ n, n < 32 → ((nI n &&& 31).toBitVec.smod 32).toNat = n := by decide +kernel
theorem s_u : ∀ n, n < 32 → (((nI n).toUInt32 &&& Int32.toUInt32 31).toBitVec % 32).toNat = n := by decide +kernel
theorem b_shl (n : Nat) (hn : n < 32) (x : Int32) {i : Nat} (hi : i < 32) : bt (x <<< (nI n &&& 31)) i = (decide (n ≤ i) && bt x (i - n)) := by
  unfold bt
  rw [Int32.toBitVec_shiftLeft]
  show (x.toBitVec <<< ((nI n &&& 31).toBitVec.smod 32).toNat).getLsbD i = _
  rw [s_l n hn, BitVec.getLsbD_shiftLeft]
  rcases Nat.lt_or_ge i n with h | h
  · simp [h, Nat.not_le.mpr h]
  · simp [hi, h, Nat.not_lt.mpr h]
theorem b_ushr (n : Nat) (hn : n < 32) (x : Int32) (i : Nat) : bt ((x.toUInt32 >>> ((nI n).toUInt32 &&& Int32.toUInt32 31)).toInt32) i = bt x (n + i) := by
  show (x.toUInt32 >>> ((nI n).toUInt32 &&& Int32.toUInt32 31)).toBitVec.getLsbD i = x.toUInt32.toBitVec.getLsbD (n + i)
  rw [UInt32.toBitVec_shiftRight]
  show (x.toUInt32.toBitVec >>> (((nI n).toUInt32 &&& Int32.toUInt32 31).toBitVec % 32).toNat).getLsbD i = _
  rw [s_u n hn, BitVec.getLsbD_ushiftRight]
theorem b_sshr (n : Nat) (hn : n < 32) (x : Int32) {i : Nat} (hi : i < 32) : bt (x >>> (nI n &&& 31)) i = if n + i < 32 then bt x (n + i) else bt x 31 := by
  unfold bt
  rw [Int32.toBitVec_shiftRight]
  show (x.toBitVec.sshiftRight ((nI n &&& 31).toBitVec.smod 32).toNat).getLsbD i = _
  rw [s_l n hn, BitVec.getLsbD_sshiftRight, BitVec.msb_eq_getLsbD_last]
  simp [hi]
theorem b_shl8 (x : Int32) {i : Nat} (hi : i < 32) : bt (x <<< ((8 : Int32) &&& 31)) i = (decide (8 ≤ i) && bt x (i - 8)) := b_shl 8 (by omega) x hi
theorem b_shl16 (x : Int32) {i : Nat} (hi : i < 32) : bt (x <<< ((16 : Int32) &&& 31)) i = (decide (16 ≤ i) && bt x (i - 16)) := b_shl 16 (by omega) x hi
theorem b_shl24 (x : Int32) {i : Nat} (hi : i < 32) : bt (x <<< ((24 : Int32) &&& 31)) i = (decide (24 ≤ i) && bt x (i - 24)) := b_shl 24 (by omega) x hi
theorem b_sshr8 (x : Int32) {i : Nat} (hi : i < 32) : bt (x >>> ((8 : Int32) &&& 31)) i = if 8 + i < 32 then bt x (8 + i) else bt x 31 := b_sshr 8 (by omega) x hi
theorem bt_1 : ∀ i, i < 32 → bt 1 i = decide (i = 0) := by decide +kernel
theorem and1 (x : Int32) : x &&& 1 = if bt x 0 = true then 1 else 0 := by
  apply b_ext
  intro i hi
  rw [b_and, bt_1 i hi]
  by_cases h : bt x 0 = true
  · rw [if_pos h, bt_1 i hi]
    by_cases h2 : i = 0
    · subst h2; simp [h]
    · simp [h2]
  · rw [if_neg h, b_0]
    by_cases h2 : i = 0
    · subst h2; simp at h; simp [h]
    · simp [h2]
theorem has1 (s : Int32) {k : Nat} (hk : k < 32) : (s >>> (nI k &&& 31)) &&& 1 = if bt s k = true then 1 else 0 := by
  rw [and1, b_sshr k hk s (by omega : 0 < 32), if_pos (by omega : k + 0 < 32)]
  rfl
theorem has1' (s : Int32) {l : Int32} (h0 : 0 ≤ l.toInt) (h1 : l.toInt < 32) : (s >>> (l &&& 31)) &&& 1 = if bt s l.toNatClampNeg = true then 1 else 0 := by
  have e := nI_of_t h0
  have t := tn h0
  generalize hj : l.toNatClampNeg = j at *
  rw [e]
  exact has1 s (by omega)
theorem shl1 : ∀ k, k < 32 → ∀ i, i < 32 → bt ((1 : Int32) <<< (nI k &&& 31)) i = decide (i = k) := by
  intro k hk i hi
  rw [b_shl k hk 1 hi]
  by_cases h : k ≤ i
  · rw [bt_1 (i - k) (by omega)]
    by_cases h2 : i = k
    · subst h2; simp
    · simp [h, h2]; omega
  · have : ¬ i = k := by omega
    simp [h, this]
theorem orbit (s : Int32) {k i : Nat} (hk : k < 32) (hi : i < 32) : bt (s ||| ((1 : Int32) <<< (nI k &&& 31))) i = (bt s i || decide (i = k)) := by
  rw [b_or, shl1 k hk i hi]
theorem tneg1 : (-1 : Int32).toInt = -1 := by decide
theorem tneg2 : (-2 : Int32).toInt = -2 := by decide
theorem tneg3 : (-3 : Int32).toInt = -3 := by decide
theorem tneg4 : (-4 : Int32).toInt = -4 := by decide
theorem tneg20 : (-20 : Int32).toInt = -20 := by decide
