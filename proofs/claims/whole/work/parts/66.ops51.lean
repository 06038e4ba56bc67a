/-! ASKED: what the object takes down -/
def aK (it : Nat → Int32) (c j : Nat) : Int32 := it (c + 2 * j)
def aD (it : Nat → Int32) (c j : Nat) : Int32 := it (c + 2 * j + 1)
def okA (m : Nat) (td : Int) (it : Nat → Int32) (c j : Nat) : Prop := (0 ≤ (aK it c j).toInt ∧ (aK it c j).toInt < (m : Int)) ∧ (td ≤ (aD it c j).toInt ∧ (aD it c j).toInt ≤ 999) ∧ ∀ i, i < j → aK it c i ≠ aK it c j
def cMx (S : tS) (it : Nat → Int32) (c : Nat) (j o : Nat) : Bool := decide (kx S (aD it c j) (aK it c o).toNatClampNeg = 0)
def frQ (S T : tS) : Prop := ∀ c, c < 30 ∨ 35 < c → T c = S c
theorem frQ.refl {S : tS} : frQ S S := fun _ _ => rfl
theorem frQ.up {S T : tS} (h : frQ S T) {k j : Nat} {x : Int32} (hk : 30 ≤ k ∧ k ≤ 35) : frQ S (tk_up T k j x) := fun c hc => by
  rw [tk_up_n (by omega)]
  exact h c hc
theorem kOk.frQ {S T : tS} {i : Nat} (h : kOk S i) (g : frQ S T) : kOk T i := by
  unfold kOk
  rw [g 0 (by decide), g 6 (by decide), g 7 (by decide), g 8 (by decide), g 9 (by decide), g 10 (by decide), g 49 (by decide), g 50 (by decide), g 51 (by decide), g 52 (by decide), g 53 (by decide)]
  exact h
theorem kx_frQ {S T : tS} {d : Int32} {i : Nat} (g : frQ S T) : kx T d i = kx S d i := by
  unfold kx
  rw [g 6 (by decide), g 9 (by decide), g 10 (by decide)]
theorem tk_at {m : Nat} {x : Int32} (hm : m ≤ 8) (h : 0 ≤ x.toInt ∧ x.toInt < (m : Int)) : x = nI x.toNatClampNeg ∧ x.toNatClampNeg < m := by
  have t := tn h.1
  exact ⟨nI_of_t h.1, by omega⟩
theorem lp_X7_cleanFor {Q : Int32 → tS → Prop} {S T : tS} {it : Nat → Int32} {c n m : Nat} {d : Int32} (hm : m ≤ 8) (hn : n ≤ 6) (hK : ∀ i, i < m → kOk S i) (g : frQ S T) (h30 : T 30 0 = nI n) (h31 : ∀ j, j < n → T 31 j = aK it c j) (hA : ∀ j, j < n → 0 ≤ (aK it c j).toInt ∧ (aK it c j).toInt < (m : Int)) (hd : (S 0 2).toInt ≤ d.toInt ∧ d.toInt ≤ 999) (k : ∀ x, (∀ o, o < 32 → bt x o = (decide (o < n) && decide (kx S d (aK it c o).toNatClampNeg = 0))) → Q x T) : ∀ (q o : Nat) (u : Int32), o + q = n → (∀ t, t < 32 → bt u t = (decide (t < o) && decide (kx S d (aK it c t).toNatClampNeg = 0))) → tk_Gs mX7_cleanFor none 4 [.ref 0, .int d, .int u, .int (nI o)] [] T Q := by
  intro q
  induction q with
  | zero =>
    intro o u e hu
    have e : o = n := e
    subst e
    exact w_X7_cleanFor_4 _ _ _ ⟨fun _ => k u hu, fun z => absurd (by rw [h30]; exact nI_le (Nat.le_refl _) (by omega)) z⟩
  | succ q ih =>
    intro o u e hu
    obtain ⟨e1, e2⟩ := tk_at hm (hA o (by omega))
    refine w_X7_cleanFor_4 _ _ _ ⟨fun z => absurd z (by rw [h30]; exact nI_ge (by omega) (by omega)), fun _ => ⟨vp_in_nI (by omega) (by omega), ?_⟩⟩
    rw [nI_c (by omega), h31 o (by omega)]
    refine sp_X3_showsOn (i := (aK it c o).toNatClampNeg) (by omega) e1 ((hK _ e2).frQ g) (by rw [g 0 (by decide)]; exact hd.1) hd.2 (fun x hx => ?_)
    rw [kx_frQ g] at hx
    refine ⟨fun z => ?_, fun z => ?_⟩
    · rw [nI_1]
      refine ih (o + 1) u (by omega) (fun t ht => ?_)
      rw [hu t ht]
      by_cases et : t = o
      · subst et
        rw [decide_eq_false (Nat.lt_irrefl t), Bool.false_and, decide_eq_false (p := kx S d (aK it c t).toNatClampNeg = 0) (fun w => z (by rw [xeq, hx, w]; rfl)), Bool.and_false]
      · rw [show decide (t < o + 1) = decide (t < o) from decide_eq_decide.mpr (by omega)]
    · rw [nI_1]
      refine ih (o + 1) _ (by omega) (fun t ht => ?_)
      rw [orbit u (by omega) ht, hu t ht]
      by_cases et : t = o
      · subst et
        rw [decide_eq_true (show t < t + 1 by omega), decide_eq_true (p := kx S d (aK it c t).toNatClampNeg = 0) (by rw [← hx, z]; rfl), decide_eq_true (p := t = t) rfl, Bool.or_true]
        rfl
      · rw [show decide (t < o + 1) = decide (t < o) from decide_eq_decide.mpr (by omega), decide_eq_false et, Bool.or_false]
theorem tkn {u : Int32} {it : Nat → Int32} {c j m : Nat} (hm : m ≤ 8) (hA : ∀ i, i < j → 0 ≤ (aK it c i).toInt ∧ (aK it c i).toInt < (m : Int)) (hj : 0 ≤ (aK it c j).toInt ∧ (aK it c j).toInt < (m : Int)) (hu : ∀ t, t < 32 → (bt u t = true ↔ ∃ i, i < j ∧ aK it c i = nI t)) : (((u >>> (aK it c j &&& 31)) &&& 1) = 0 ↔ ∀ i, i < j → aK it c i ≠ aK it c j) ∧ ∀ t, t < 32 → (bt (u ||| ((1 : Int32) <<< (aK it c j &&& 31))) t = true ↔ ∃ i, i < j + 1 ∧ aK it c i = nI t) := by
  obtain ⟨e1, e2⟩ := tk_at hm hj
  generalize hx : (aK it c j).toNatClampNeg = x at e1 e2
  constructor
  · rw [e1, has1 u (by omega : x < 32)]
    by_cases b : bt u x = true
    · rw [if_pos b]
      obtain ⟨i, hi, ei⟩ := (hu x (by omega)).mp b
      exact ⟨fun z => absurd z (by decide), fun z => absurd ei (z i hi)⟩
    · rw [if_neg b]
      exact ⟨fun _ i hi ei => b ((hu x (by omega)).mpr ⟨i, hi, ei⟩), fun _ => rfl⟩
  · intro t ht
    rw [e1, orbit u (by omega : x < 32) ht, Bool.or_eq_true, decide_eq_true_eq, hu t ht]
    constructor
    · rintro (⟨i, hi, ei⟩ | h)
      · exact ⟨i, by omega, ei⟩
      · exact ⟨j, by omega, by rw [e1, h]⟩
    · rintro ⟨i, hi, ei⟩
      by_cases z : i = j
      · subst z
        exact Or.inr (nI_ij (by omega) (by omega) (ei.symm.trans e1))
      · exact Or.inl ⟨i, by omega, ei⟩
theorem lp_X7_tk2_37 {Q : Int32 → tS → Prop} {S : tS} {it : Nat → Int32} {c n m : Nat} {l4 : Int32} (hm : m ≤ 8) (hn : n ≤ 6) (hK : ∀ i, i < m → kOk S i) (hA : ∀ j, j < n → okA m (S 0 2).toInt it c j) (k : ∀ T, frQ S T → T 30 0 = nI n → T 30 1 = -1 → (∀ j, j < n → ∀ o, o < 32 → bt (T 33 j) o = (decide (o < n) && cMx S it c j o)) → Q 1 T) : ∀ (q j : Nat) (T : tS), j + q = n → frQ S T → T 30 0 = nI n → T 30 1 = -1 → (∀ j, j < n → T 31 j = aK it c j ∧ T 32 j = aD it c j) → (∀ i, i < j → ∀ o, o < 32 → bt (T 33 i) o = (decide (o < n) && cMx S it c i o)) → tk_Gs mX7_takeAsked none 131 [.ref 0, .ref 37, .int (nI c), .int (nI n), .int l4, .int (nI j), .null, .null] [] T Q := by
  intro q
  induction q with
  | zero =>
    intro j T e g h30 h31 hT h33
    have e : j = n := e
    subst e
    exact w_X7_takeAsked_37_131 _ _ _ _ ⟨fun _ => k T g h30 h31 h33, fun z => absurd (nI_le (Nat.le_refl _) (by omega)) z⟩
  | succ q ih =>
    intro j T e g h30 h31 hT h33
    have v : vp_in (nI j) 6 := vp_in_nI (by omega) (by omega)
    refine w_X7_takeAsked_37_131 _ _ _ _ ⟨fun z => absurd z (nI_ge (by omega) (by omega)), fun _ => ⟨v, ?_⟩⟩
    rw [nI_c (by omega), (hT j (by omega)).2]
    refine w_X7_cleanFor _ (lp_X7_cleanFor (it := it) (c := c) hm hn hK g h30 (fun i hi => (hT i hi).1) (fun i hi => (hA i hi).1) (hA j (by omega)).2.1 (fun x hx => okI (by decide) ⟨v, ?_⟩) n 0 0 (by omega) (fun t _ => ?_))
    · rw [b_0, decide_eq_false (Nat.not_lt_zero t)]
      rfl
    · rw [nI_1]
      refine ih (j + 1) _ (by omega) (g.up (by decide)) ?_ ?_ (fun i hi => ?_) (fun i hi o ho => ?_)
      · rw [tk_up_n (by decide)]; exact h30
      · rw [tk_up_n (by decide)]; exact h31
      · rw [tk_up_n (by decide), tk_up_n (by decide)]
        exact hT i hi
      · by_cases ei : i = j
        · subst ei
          rw [tk_up_ss]
          exact hx o ho
        · rw [tk_up_sn ei]
          exact h33 i (by omega) o ho
theorem lp_X7_tk1_37 {Q : Int32 → tS → Prop} {S : tS} {it : Nat → Int32} {c n m : Nat} (hm : m ≤ 8) (hn : n ≤ 6) (hc : c + 2 * n ≤ 24) (hit : S 38 = it) (h5 : S 5 0 = nI m) (kF : ¬ (∀ j, j < n → okA m (S 0 2).toInt it c j) → ∀ T, frQ S T → Q 0 T) (kT : (∀ j, j < n → okA m (S 0 2).toInt it c j) → ∀ (u : Int32) (T : tS), frQ S T → T 30 0 = nI n → T 30 1 = -1 → (∀ j, j < n → T 31 j = aK it c j ∧ T 32 j = aD it c j) → tk_Gs mX7_takeAsked none 131 [.ref 0, .ref 37, .int (nI c), .int (nI n), .int u, .int 0, .null, .null] [] T Q) : ∀ (q j : Nat) (T : tS) (u : Int32), j + q = n → (∀ i, i < j → okA m (S 0 2).toInt it c i) → (∀ t, t < 32 → (bt u t = true ↔ ∃ i, i < j ∧ aK it c i = nI t)) → frQ S T → (∀ i, i < j → T 31 i = aK it c i ∧ T 32 i = aD it c i) → tk_Gs mX7_takeAsked none 6 [.ref 0, .ref 37, .int (nI c), .int (nI n), .int u, .int (nI j), .null, .null] [] T Q := by
  intro q
  induction q with
  | zero =>
    intro j T u e hA hu g hT
    have e : j = n := e
    subst e
    refine w_X7_takeAsked_37_6 _ _ _ _ ⟨fun _ => kT hA u _ ((g.up (by decide)).up (by decide)) ?_ tk_up_ss (fun i hi => ?_), fun z => absurd (nI_le (Nat.le_refl _) (by omega)) z⟩
    · exact (tk_up_sn (by decide)).trans tk_up_ss
    · rw [tk_up_n (by decide), tk_up_n (by decide), tk_up_n (by decide), tk_up_n (by decide)]
      exact hT i hi
  | succ q ih =>
    intro j T u e hA hu g hT
    have v : vp_in (nI j) 6 := vp_in_nI (by omega) (by omega)
    have e2 : (2 : Int32) * nI j = nI (2 * j) := pk_mul 2 _
    have e3 : nI c + nI (2 * j) = nI (c + 2 * j) := nI_add _ _
    have e4 : nI (c + 2 * j) + 1 = nI (c + 2 * j + 1) := nI_1 _
    refine w_X7_takeAsked_37_6 _ _ _ _ ⟨fun z => absurd z (nI_ge (by omega) (by omega)), fun _ => ?_⟩
    rw [e2, e3, e4, nI_c (by omega), nI_c (by omega), nI_c (by omega), g 38 (by decide), hit]
    refine ⟨vp_in_nI (by omega) (by omega), vp_in_nI (by omega) (by omega), ?_⟩
    have t5 : (T 5 0).toInt = (m : Int) := by rw [g 5 (by decide), h5, nI_t (by omega)]
    have t0 : T 0 = S 0 := g 0 (by decide)
    refine sp_X3_has (fun z => zf (kF (fun w => z ?_) T g)) (fun z1 => zt (sp_X7_isDayAhead (fun z => zf (kF (fun w => z ?_) T g)) (fun z2 => zt ?_)))
    · rw [t5]
      exact (w j (by omega)).1
    · rw [t0]
      exact (w j (by omega)).2.1
    · rw [t5] at z1
      rw [t0] at z2
      have hj : 0 ≤ (aK it c j).toInt ∧ (aK it c j).toInt < (m : Int) := z1
      obtain ⟨b1, b2⟩ := tkn hm (fun i hi => (hA i hi).1) hj hu
      refine ⟨fun z => ⟨v, v, ?_⟩, fun z => kF (fun w => z (b1.mpr (w j (by omega)).2.2)) T g⟩
      rw [nI_1]
      refine ih (j + 1) _ _ (by omega) (fun i hi => ?_) b2 ((g.up (by decide)).up (by decide)) (fun i hi => ?_)
      · by_cases ei : i = j
        · subst ei
          exact ⟨hj, z2, b1.mp z⟩
        · exact hA i (by omega)
      · by_cases ei : i = j
        · subst ei
          rw [tk_up_n (by decide), tk_up_ss, tk_up_ss]
          exact ⟨rfl, rfl⟩
        · rw [tk_up_n (by decide), tk_up_sn ei, tk_up_sn ei, tk_up_n (by decide)]
          exact hT i (by omega)
theorem sp_X7_takeAsked_37 {Q : Int32 → tS → Prop} {S : tS} {it : Nat → Int32} {c n m : Nat} (hm : m ≤ 8) (hn : n ≤ 6) (hc : c + 2 * n ≤ 24) (hit : S 38 = it) (h5 : S 5 0 = nI m) (hK : ∀ i, i < m → kOk S i) (kF : ¬ (∀ j, j < n → okA m (S 0 2).toInt it c j) → ∀ T, frQ S T → Q 0 T) (kT : (∀ j, j < n → okA m (S 0 2).toInt it c j) → ∀ T, frQ S T → T 30 0 = nI n → T 30 1 = -1 → (∀ j, j < n → ∀ o, o < 32 → bt (T 33 j) o = (decide (o < n) && cMx S it c j o)) → Q 1 T) : tk_Ms mX7_takeAsked [.ref 0, .ref 37, .int (nI c), .int (nI n)] S Q := by
  refine w_X7_takeAsked_37 _ _ ?_
  refine lp_X7_tk1_37 (Q := tk_okQ mX7_takeAsked Q) (S := S) (it := it) hm hn hc hit h5 (fun w T g => ok0 (kF w T g)) (fun w u T g h1 h2 h3 => ?_) n 0 S 0 (by omega) (fun i hi => absurd hi (Nat.not_lt_zero _)) (fun t _ => ?_) frQ.refl (fun i hi => absurd hi (Nat.not_lt_zero _))
  · exact lp_X7_tk2_37 (Q := tk_okQ mX7_takeAsked Q) hm hn hK w (fun T g a1 a2 a3 => ok1 (kT w T g a1 a2 a3)) n 0 T (by omega) g h1 h2 h3 (fun i hi => absurd hi (Nat.not_lt_zero _))
  · rw [b_0]
    exact ⟨fun z => absurd z (by decide), fun ⟨i, hi, _⟩ => absurd hi (Nat.not_lt_zero _)⟩
theorem lp_X7_tk2_39 {Q : Int32 → tS → Prop} {S : tS} {it : Nat → Int32} {c n m : Nat} {l4 : Int32} (hm : m ≤ 8) (hn : n ≤ 6) (hK : ∀ i, i < m → kOk S i) (hA : ∀ j, j < n → okA m (S 0 2).toInt it c j) (k : ∀ T, frQ S T → T 30 0 = nI n → T 30 1 = -1 → (∀ j, j < n → ∀ o, o < 32 → bt (T 33 j) o = (decide (o < n) && cMx S it c j o)) → Q 1 T) : ∀ (q j : Nat) (T : tS), j + q = n → frQ S T → T 30 0 = nI n → T 30 1 = -1 → (∀ j, j < n → T 31 j = aK it c j ∧ T 32 j = aD it c j) → (∀ i, i < j → ∀ o, o < 32 → bt (T 33 i) o = (decide (o < n) && cMx S it c i o)) → tk_Gs mX7_takeAsked none 131 [.ref 0, .ref 39, .int (nI c), .int (nI n), .int l4, .int (nI j), .null, .null] [] T Q := by
  intro q
  induction q with
  | zero =>
    intro j T e g h30 h31 hT h33
    have e : j = n := e
    subst e
    exact w_X7_takeAsked_39_131 _ _ _ _ ⟨fun _ => k T g h30 h31 h33, fun z => absurd (nI_le (Nat.le_refl _) (by omega)) z⟩
  | succ q ih =>
    intro j T e g h30 h31 hT h33
    have v : vp_in (nI j) 6 := vp_in_nI (by omega) (by omega)
    refine w_X7_takeAsked_39_131 _ _ _ _ ⟨fun z => absurd z (nI_ge (by omega) (by omega)), fun _ => ⟨v, ?_⟩⟩
    rw [nI_c (by omega), (hT j (by omega)).2]
    refine w_X7_cleanFor _ (lp_X7_cleanFor (it := it) (c := c) hm hn hK g h30 (fun i hi => (hT i hi).1) (fun i hi => (hA i hi).1) (hA j (by omega)).2.1 (fun x hx => okI (by decide) ⟨v, ?_⟩) n 0 0 (by omega) (fun t _ => ?_))
    · rw [b_0, decide_eq_false (Nat.not_lt_zero t)]
      rfl
    · rw [nI_1]
      refine ih (j + 1) _ (by omega) (g.up (by decide)) ?_ ?_ (fun i hi => ?_) (fun i hi o ho => ?_)
      · rw [tk_up_n (by decide)]; exact h30
      · rw [tk_up_n (by decide)]; exact h31
      · rw [tk_up_n (by decide), tk_up_n (by decide)]
        exact hT i hi
      · by_cases ei : i = j
        · subst ei
          rw [tk_up_ss]
          exact hx o ho
        · rw [tk_up_sn ei]
          exact h33 i (by omega) o ho
theorem lp_X7_tk1_39 {Q : Int32 → tS → Prop} {S : tS} {it : Nat → Int32} {c n m : Nat} (hm : m ≤ 8) (hn : n ≤ 6) (hc : c + 2 * n ≤ 24) (hit : S 40 = it) (h5 : S 5 0 = nI m) (kF : ¬ (∀ j, j < n → okA m (S 0 2).toInt it c j) → ∀ T, frQ S T → Q 0 T) (kT : (∀ j, j < n → okA m (S 0 2).toInt it c j) → ∀ (u : Int32) (T : tS), frQ S T → T 30 0 = nI n → T 30 1 = -1 → (∀ j, j < n → T 31 j = aK it c j ∧ T 32 j = aD it c j) → tk_Gs mX7_takeAsked none 131 [.ref 0, .ref 39, .int (nI c), .int (nI n), .int u, .int 0, .null, .null] [] T Q) : ∀ (q j : Nat) (T : tS) (u : Int32), j + q = n → (∀ i, i < j → okA m (S 0 2).toInt it c i) → (∀ t, t < 32 → (bt u t = true ↔ ∃ i, i < j ∧ aK it c i = nI t)) → frQ S T → (∀ i, i < j → T 31 i = aK it c i ∧ T 32 i = aD it c i) → tk_Gs mX7_takeAsked none 6 [.ref 0, .ref 39, .int (nI c), .int (nI n), .int u, .int (nI j), .null, .null] [] T Q := by
  intro q
  induction q with
  | zero =>
    intro j T u e hA hu g hT
    have e : j = n := e
    subst e
    refine w_X7_takeAsked_39_6 _ _ _ _ ⟨fun _ => kT hA u _ ((g.up (by decide)).up (by decide)) ?_ tk_up_ss (fun i hi => ?_), fun z => absurd (nI_le (Nat.le_refl _) (by omega)) z⟩
    · exact (tk_up_sn (by decide)).trans tk_up_ss
    · rw [tk_up_n (by decide), tk_up_n (by decide), tk_up_n (by decide), tk_up_n (by decide)]
      exact hT i hi
  | succ q ih =>
    intro j T u e hA hu g hT
    have v : vp_in (nI j) 6 := vp_in_nI (by omega) (by omega)
    have e2 : (2 : Int32) * nI j = nI (2 * j) := pk_mul 2 _
    have e3 : nI c + nI (2 * j) = nI (c + 2 * j) := nI_add _ _
    have e4 : nI (c + 2 * j) + 1 = nI (c + 2 * j + 1) := nI_1 _
    refine w_X7_takeAsked_39_6 _ _ _ _ ⟨fun z => absurd z (nI_ge (by omega) (by omega)), fun _ => ?_⟩
    rw [e2, e3, e4, nI_c (by omega), nI_c (by omega), nI_c (by omega), g 40 (by decide), hit]
    refine ⟨vp_in_nI (by omega) (by omega), vp_in_nI (by omega) (by omega), ?_⟩
    have t5 : (T 5 0).toInt = (m : Int) := by rw [g 5 (by decide), h5, nI_t (by omega)]
    have t0 : T 0 = S 0 := g 0 (by decide)
    refine sp_X3_has (fun z => zf (kF (fun w => z ?_) T g)) (fun z1 => zt (sp_X7_isDayAhead (fun z => zf (kF (fun w => z ?_) T g)) (fun z2 => zt ?_)))
    · rw [t5]
      exact (w j (by omega)).1
    · rw [t0]
      exact (w j (by omega)).2.1
    · rw [t5] at z1
      rw [t0] at z2
      have hj : 0 ≤ (aK it c j).toInt ∧ (aK it c j).toInt < (m : Int) := z1
      obtain ⟨b1, b2⟩ := tkn hm (fun i hi => (hA i hi).1) hj hu
      refine ⟨fun z => ⟨v, v, ?_⟩, fun z => kF (fun w => z (b1.mpr (w j (by omega)).2.2)) T g⟩
      rw [nI_1]
      refine ih (j + 1) _ _ (by omega) (fun i hi => ?_) b2 ((g.up (by decide)).up (by decide)) (fun i hi => ?_)
      · by_cases ei : i = j
        · subst ei
          exact ⟨hj, z2, b1.mp z⟩
        · exact hA i (by omega)
      · by_cases ei : i = j
        · subst ei
          rw [tk_up_n (by decide), tk_up_ss, tk_up_ss]
          exact ⟨rfl, rfl⟩
        · rw [tk_up_n (by decide), tk_up_sn ei, tk_up_sn ei, tk_up_n (by decide)]
          exact hT i (by omega)
theorem sp_X7_takeAsked_39 {Q : Int32 → tS → Prop} {S : tS} {it : Nat → Int32} {c n m : Nat} (hm : m ≤ 8) (hn : n ≤ 6) (hc : c + 2 * n ≤ 24) (hit : S 40 = it) (h5 : S 5 0 = nI m) (hK : ∀ i, i < m → kOk S i) (kF : ¬ (∀ j, j < n → okA m (S 0 2).toInt it c j) → ∀ T, frQ S T → Q 0 T) (kT : (∀ j, j < n → okA m (S 0 2).toInt it c j) → ∀ T, frQ S T → T 30 0 = nI n → T 30 1 = -1 → (∀ j, j < n → ∀ o, o < 32 → bt (T 33 j) o = (decide (o < n) && cMx S it c j o)) → Q 1 T) : tk_Ms mX7_takeAsked [.ref 0, .ref 39, .int (nI c), .int (nI n)] S Q := by
  refine w_X7_takeAsked_39 _ _ ?_
  refine lp_X7_tk1_39 (Q := tk_okQ mX7_takeAsked Q) (S := S) (it := it) hm hn hc hit h5 (fun w T g => ok0 (kF w T g)) (fun w u T g h1 h2 h3 => ?_) n 0 S 0 (by omega) (fun i hi => absurd hi (Nat.not_lt_zero _)) (fun t _ => ?_) frQ.refl (fun i hi => absurd hi (Nat.not_lt_zero _))
  · exact lp_X7_tk2_39 (Q := tk_okQ mX7_takeAsked Q) hm hn hK w (fun T g a1 a2 a3 => ok1 (kT w T g a1 a2 a3)) n 0 T (by omega) g h1 h2 h3 (fun i hi => absurd hi (Nat.not_lt_zero _))
  · rw [b_0]
    exact ⟨fun z => absurd z (by decide), fun ⟨i, hi, _⟩ => absurd hi (Nat.not_lt_zero _)⟩
theorem lp_X7_tk2_41 {Q : Int32 → tS → Prop} {S : tS} {it : Nat → Int32} {c n m : Nat} {l4 : Int32} (hm : m ≤ 8) (hn : n ≤ 6) (hK : ∀ i, i < m → kOk S i) (hA : ∀ j, j < n → okA m (S 0 2).toInt it c j) (k : ∀ T, frQ S T → T 30 0 = nI n → T 30 1 = -1 → (∀ j, j < n → ∀ o, o < 32 → bt (T 33 j) o = (decide (o < n) && cMx S it c j o)) → Q 1 T) : ∀ (q j : Nat) (T : tS), j + q = n → frQ S T → T 30 0 = nI n → T 30 1 = -1 → (∀ j, j < n → T 31 j = aK it c j ∧ T 32 j = aD it c j) → (∀ i, i < j → ∀ o, o < 32 → bt (T 33 i) o = (decide (o < n) && cMx S it c i o)) → tk_Gs mX7_takeAsked none 131 [.ref 0, .ref 41, .int (nI c), .int (nI n), .int l4, .int (nI j), .null, .null] [] T Q := by
  intro q
  induction q with
  | zero =>
    intro j T e g h30 h31 hT h33
    have e : j = n := e
    subst e
    exact w_X7_takeAsked_41_131 _ _ _ _ ⟨fun _ => k T g h30 h31 h33, fun z => absurd (nI_le (Nat.le_refl _) (by omega)) z⟩
  | succ q ih =>
    intro j T e g h30 h31 hT h33
    have v : vp_in (nI j) 6 := vp_in_nI (by omega) (by omega)
    refine w_X7_takeAsked_41_131 _ _ _ _ ⟨fun z => absurd z (nI_ge (by omega) (by omega)), fun _ => ⟨v, ?_⟩⟩
    rw [nI_c (by omega), (hT j (by omega)).2]
    refine w_X7_cleanFor _ (lp_X7_cleanFor (it := it) (c := c) hm hn hK g h30 (fun i hi => (hT i hi).1) (fun i hi => (hA i hi).1) (hA j (by omega)).2.1 (fun x hx => okI (by decide) ⟨v, ?_⟩) n 0 0 (by omega) (fun t _ => ?_))
    · rw [b_0, decide_eq_false (Nat.not_lt_zero t)]
      rfl
    · rw [nI_1]
      refine ih (j + 1) _ (by omega) (g.up (by decide)) ?_ ?_ (fun i hi => ?_) (fun i hi o ho => ?_)
      · rw [tk_up_n (by decide)]; exact h30
      · rw [tk_up_n (by decide)]; exact h31
      · rw [tk_up_n (by decide), tk_up_n (by decide)]
        exact hT i hi
      · by_cases ei : i = j
        · subst ei
          rw [tk_up_ss]
          exact hx o ho
        · rw [tk_up_sn ei]
          exact h33 i (by omega) o ho
theorem lp_X7_tk1_41 {Q : Int32 → tS → Prop} {S : tS} {it : Nat → Int32} {c n m : Nat} (hm : m ≤ 8) (hn : n ≤ 6) (hc : c + 2 * n ≤ 24) (hit : S 42 = it) (h5 : S 5 0 = nI m) (kF : ¬ (∀ j, j < n → okA m (S 0 2).toInt it c j) → ∀ T, frQ S T → Q 0 T) (kT : (∀ j, j < n → okA m (S 0 2).toInt it c j) → ∀ (u : Int32) (T : tS), frQ S T → T 30 0 = nI n → T 30 1 = -1 → (∀ j, j < n → T 31 j = aK it c j ∧ T 32 j = aD it c j) → tk_Gs mX7_takeAsked none 131 [.ref 0, .ref 41, .int (nI c), .int (nI n), .int u, .int 0, .null, .null] [] T Q) : ∀ (q j : Nat) (T : tS) (u : Int32), j + q = n → (∀ i, i < j → okA m (S 0 2).toInt it c i) → (∀ t, t < 32 → (bt u t = true ↔ ∃ i, i < j ∧ aK it c i = nI t)) → frQ S T → (∀ i, i < j → T 31 i = aK it c i ∧ T 32 i = aD it c i) → tk_Gs mX7_takeAsked none 6 [.ref 0, .ref 41, .int (nI c), .int (nI n), .int u, .int (nI j), .null, .null] [] T Q := by
  intro q
  induction q with
  | zero =>
    intro j T u e hA hu g hT
    have e : j = n := e
    subst e
    refine w_X7_takeAsked_41_6 _ _ _ _ ⟨fun _ => kT hA u _ ((g.up (by decide)).up (by decide)) ?_ tk_up_ss (fun i hi => ?_), fun z => absurd (nI_le (Nat.le_refl _) (by omega)) z⟩
    · exact (tk_up_sn (by decide)).trans tk_up_ss
    · rw [tk_up_n (by decide), tk_up_n (by decide), tk_up_n (by decide), tk_up_n (by decide)]
      exact hT i hi
  | succ q ih =>
    intro j T u e hA hu g hT
    have v : vp_in (nI j) 6 := vp_in_nI (by omega) (by omega)
    have e2 : (2 : Int32) * nI j = nI (2 * j) := pk_mul 2 _
    have e3 : nI c + nI (2 * j) = nI (c + 2 * j) := nI_add _ _
    have e4 : nI (c + 2 * j) + 1 = nI (c + 2 * j + 1) := nI_1 _
    refine w_X7_takeAsked_41_6 _ _ _ _ ⟨fun z => absurd z (nI_ge (by omega) (by omega)), fun _ => ?_⟩
    rw [e2, e3, e4, nI_c (by omega), nI_c (by omega), nI_c (by omega), g 42 (by decide), hit]
    refine ⟨vp_in_nI (by omega) (by omega), vp_in_nI (by omega) (by omega), ?_⟩
    have t5 : (T 5 0).toInt = (m : Int) := by rw [g 5 (by decide), h5, nI_t (by omega)]
    have t0 : T 0 = S 0 := g 0 (by decide)
    refine sp_X3_has (fun z => zf (kF (fun w => z ?_) T g)) (fun z1 => zt (sp_X7_isDayAhead (fun z => zf (kF (fun w => z ?_) T g)) (fun z2 => zt ?_)))
    · rw [t5]
      exact (w j (by omega)).1
    · rw [t0]
      exact (w j (by omega)).2.1
    · rw [t5] at z1
      rw [t0] at z2
      have hj : 0 ≤ (aK it c j).toInt ∧ (aK it c j).toInt < (m : Int) := z1
      obtain ⟨b1, b2⟩ := tkn hm (fun i hi => (hA i hi).1) hj hu
      refine ⟨fun z => ⟨v, v, ?_⟩, fun z => kF (fun w => z (b1.mpr (w j (by omega)).2.2)) T g⟩
      rw [nI_1]
      refine ih (j + 1) _ _ (by omega) (fun i hi => ?_) b2 ((g.up (by decide)).up (by decide)) (fun i hi => ?_)
      · by_cases ei : i = j
        · subst ei
          exact ⟨hj, z2, b1.mp z⟩
        · exact hA i (by omega)
      · by_cases ei : i = j
        · subst ei
          rw [tk_up_n (by decide), tk_up_ss, tk_up_ss]
          exact ⟨rfl, rfl⟩
        · rw [tk_up_n (by decide), tk_up_sn ei, tk_up_sn ei, tk_up_n (by decide)]
          exact hT i (by omega)
theorem sp_X7_takeAsked_41 {Q : Int32 → tS → Prop} {S : tS} {it : Nat → Int32} {c n m : Nat} (hm : m ≤ 8) (hn : n ≤ 6) (hc : c + 2 * n ≤ 24) (hit : S 42 = it) (h5 : S 5 0 = nI m) (hK : ∀ i, i < m → kOk S i) (kF : ¬ (∀ j, j < n → okA m (S 0 2).toInt it c j) → ∀ T, frQ S T → Q 0 T) (kT : (∀ j, j < n → okA m (S 0 2).toInt it c j) → ∀ T, frQ S T → T 30 0 = nI n → T 30 1 = -1 → (∀ j, j < n → ∀ o, o < 32 → bt (T 33 j) o = (decide (o < n) && cMx S it c j o)) → Q 1 T) : tk_Ms mX7_takeAsked [.ref 0, .ref 41, .int (nI c), .int (nI n)] S Q := by
  refine w_X7_takeAsked_41 _ _ ?_
  refine lp_X7_tk1_41 (Q := tk_okQ mX7_takeAsked Q) (S := S) (it := it) hm hn hc hit h5 (fun w T g => ok0 (kF w T g)) (fun w u T g h1 h2 h3 => ?_) n 0 S 0 (by omega) (fun i hi => absurd hi (Nat.not_lt_zero _)) (fun t _ => ?_) frQ.refl (fun i hi => absurd hi (Nat.not_lt_zero _))
  · exact lp_X7_tk2_41 (Q := tk_okQ mX7_takeAsked Q) hm hn hK w (fun T g a1 a2 a3 => ok1 (kT w T g a1 a2 a3)) n 0 T (by omega) g h1 h2 h3 (fun i hi => absurd hi (Nat.not_lt_zero _))
  · rw [b_0]
    exact ⟨fun z => absurd z (by decide), fun ⟨i, hi, _⟩ => absurd hi (Nat.not_lt_zero _)⟩
theorem lp_X7_tk2_43 {Q : Int32 → tS → Prop} {S : tS} {it : Nat → Int32} {c n m : Nat} {l4 : Int32} (hm : m ≤ 8) (hn : n ≤ 6) (hK : ∀ i, i < m → kOk S i) (hA : ∀ j, j < n → okA m (S 0 2).toInt it c j) (k : ∀ T, frQ S T → T 30 0 = nI n → T 30 1 = -1 → (∀ j, j < n → ∀ o, o < 32 → bt (T 33 j) o = (decide (o < n) && cMx S it c j o)) → Q 1 T) : ∀ (q j : Nat) (T : tS), j + q = n → frQ S T → T 30 0 = nI n → T 30 1 = -1 → (∀ j, j < n → T 31 j = aK it c j ∧ T 32 j = aD it c j) → (∀ i, i < j → ∀ o, o < 32 → bt (T 33 i) o = (decide (o < n) && cMx S it c i o)) → tk_Gs mX7_takeAsked none 131 [.ref 0, .ref 43, .int (nI c), .int (nI n), .int l4, .int (nI j), .null, .null] [] T Q := by
  intro q
  induction q with
  | zero =>
    intro j T e g h30 h31 hT h33
    have e : j = n := e
    subst e
    exact w_X7_takeAsked_43_131 _ _ _ _ ⟨fun _ => k T g h30 h31 h33, fun z => absurd (nI_le (Nat.le_refl _) (by omega)) z⟩
  | succ q ih =>
    intro j T e g h30 h31 hT h33
    have v : vp_in (nI j) 6 := vp_in_nI (by omega) (by omega)
    refine w_X7_takeAsked_43_131 _ _ _ _ ⟨fun z => absurd z (nI_ge (by omega) (by omega)), fun _ => ⟨v, ?_⟩⟩
    rw [nI_c (by omega), (hT j (by omega)).2]
    refine w_X7_cleanFor _ (lp_X7_cleanFor (it := it) (c := c) hm hn hK g h30 (fun i hi => (hT i hi).1) (fun i hi => (hA i hi).1) (hA j (by omega)).2.1 (fun x hx => okI (by decide) ⟨v, ?_⟩) n 0 0 (by omega) (fun t _ => ?_))
    · rw [b_0, decide_eq_false (Nat.not_lt_zero t)]
      rfl
    · rw [nI_1]
      refine ih (j + 1) _ (by omega) (g.up (by decide)) ?_ ?_ (fun i hi => ?_) (fun i hi o ho => ?_)
      · rw [tk_up_n (by decide)]; exact h30
      · rw [tk_up_n (by decide)]; exact h31
      · rw [tk_up_n (by decide), tk_up_n (by decide)]
        exact hT i hi
      · by_cases ei : i = j
        · subst ei
          rw [tk_up_ss]
          exact hx o ho
        · rw [tk_up_sn ei]
          exact h33 i (by omega) o ho
theorem lp_X7_tk1_43 {Q : Int32 → tS → Prop} {S : tS} {it : Nat → Int32} {c n m : Nat} (hm : m ≤ 8) (hn : n ≤ 6) (hc : c + 2 * n ≤ 24) (hit : S 44 = it) (h5 : S 5 0 = nI m) (kF : ¬ (∀ j, j < n → okA m (S 0 2).toInt it c j) → ∀ T, frQ S T → Q 0 T) (kT : (∀ j, j < n → okA m (S 0 2).toInt it c j) → ∀ (u : Int32) (T : tS), frQ S T → T 30 0 = nI n → T 30 1 = -1 → (∀ j, j < n → T 31 j = aK it c j ∧ T 32 j = aD it c j) → tk_Gs mX7_takeAsked none 131 [.ref 0, .ref 43, .int (nI c), .int (nI n), .int u, .int 0, .null, .null] [] T Q) : ∀ (q j : Nat) (T : tS) (u : Int32), j + q = n → (∀ i, i < j → okA m (S 0 2).toInt it c i) → (∀ t, t < 32 → (bt u t = true ↔ ∃ i, i < j ∧ aK it c i = nI t)) → frQ S T → (∀ i, i < j → T 31 i = aK it c i ∧ T 32 i = aD it c i) → tk_Gs mX7_takeAsked none 6 [.ref 0, .ref 43, .int (nI c), .int (nI n), .int u, .int (nI j), .null, .null] [] T Q := by
  intro q
  induction q with
  | zero =>
    intro j T u e hA hu g hT
    have e : j = n := e
    subst e
    refine w_X7_takeAsked_43_6 _ _ _ _ ⟨fun _ => kT hA u _ ((g.up (by decide)).up (by decide)) ?_ tk_up_ss (fun i hi => ?_), fun z => absurd (nI_le (Nat.le_refl _) (by omega)) z⟩
    · exact (tk_up_sn (by decide)).trans tk_up_ss
    · rw [tk_up_n (by decide), tk_up_n (by decide), tk_up_n (by decide), tk_up_n (by decide)]
      exact hT i hi
  | succ q ih =>
    intro j T u e hA hu g hT
    have v : vp_in (nI j) 6 := vp_in_nI (by omega) (by omega)
    have e2 : (2 : Int32) * nI j = nI (2 * j) := pk_mul 2 _
    have e3 : nI c + nI (2 * j) = nI (c + 2 * j) := nI_add _ _
    have e4 : nI (c + 2 * j) + 1 = nI (c + 2 * j + 1) := nI_1 _
    refine w_X7_takeAsked_43_6 _ _ _ _ ⟨fun z => absurd z (nI_ge (by omega) (by omega)), fun _ => ?_⟩
    rw [e2, e3, e4, nI_c (by omega), nI_c (by omega), nI_c (by omega), g 44 (by decide), hit]
    refine ⟨vp_in_nI (by omega) (by omega), vp_in_nI (by omega) (by omega), ?_⟩
    have t5 : (T 5 0).toInt = (m : Int) := by rw [g 5 (by decide), h5, nI_t (by omega)]
    have t0 : T 0 = S 0 := g 0 (by decide)
    refine sp_X3_has (fun z => zf (kF (fun w => z ?_) T g)) (fun z1 => zt (sp_X7_isDayAhead (fun z => zf (kF (fun w => z ?_) T g)) (fun z2 => zt ?_)))
    · rw [t5]
      exact (w j (by omega)).1
    · rw [t0]
      exact (w j (by omega)).2.1
    · rw [t5] at z1
      rw [t0] at z2
      have hj : 0 ≤ (aK it c j).toInt ∧ (aK it c j).toInt < (m : Int) := z1
      obtain ⟨b1, b2⟩ := tkn hm (fun i hi => (hA i hi).1) hj hu
      refine ⟨fun z => ⟨v, v, ?_⟩, fun z => kF (fun w => z (b1.mpr (w j (by omega)).2.2)) T g⟩
      rw [nI_1]
      refine ih (j + 1) _ _ (by omega) (fun i hi => ?_) b2 ((g.up (by decide)).up (by decide)) (fun i hi => ?_)
      · by_cases ei : i = j
        · subst ei
          exact ⟨hj, z2, b1.mp z⟩
        · exact hA i (by omega)
      · by_cases ei : i = j
        · subst ei
          rw [tk_up_n (by decide), tk_up_ss, tk_up_ss]
          exact ⟨rfl, rfl⟩
        · rw [tk_up_n (by decide), tk_up_sn ei, tk_up_sn ei, tk_up_n (by decide)]
          exact hT i (by omega)
theorem sp_X7_takeAsked_43 {Q : Int32 → tS → Prop} {S : tS} {it : Nat → Int32} {c n m : Nat} (hm : m ≤ 8) (hn : n ≤ 6) (hc : c + 2 * n ≤ 24) (hit : S 44 = it) (h5 : S 5 0 = nI m) (hK : ∀ i, i < m → kOk S i) (kF : ¬ (∀ j, j < n → okA m (S 0 2).toInt it c j) → ∀ T, frQ S T → Q 0 T) (kT : (∀ j, j < n → okA m (S 0 2).toInt it c j) → ∀ T, frQ S T → T 30 0 = nI n → T 30 1 = -1 → (∀ j, j < n → ∀ o, o < 32 → bt (T 33 j) o = (decide (o < n) && cMx S it c j o)) → Q 1 T) : tk_Ms mX7_takeAsked [.ref 0, .ref 43, .int (nI c), .int (nI n)] S Q := by
  refine w_X7_takeAsked_43 _ _ ?_
  refine lp_X7_tk1_43 (Q := tk_okQ mX7_takeAsked Q) (S := S) (it := it) hm hn hc hit h5 (fun w T g => ok0 (kF w T g)) (fun w u T g h1 h2 h3 => ?_) n 0 S 0 (by omega) (fun i hi => absurd hi (Nat.not_lt_zero _)) (fun t _ => ?_) frQ.refl (fun i hi => absurd hi (Nat.not_lt_zero _))
  · exact lp_X7_tk2_43 (Q := tk_okQ mX7_takeAsked Q) hm hn hK w (fun T g a1 a2 a3 => ok1 (kT w T g a1 a2 a3)) n 0 T (by omega) g h1 h2 h3 (fun i hi => absurd hi (Nat.not_lt_zero _))
  · rw [b_0]
    exact ⟨fun z => absurd z (by decide), fun ⟨i, hi, _⟩ => absurd hi (Nat.not_lt_zero _)⟩
theorem sp_X7_takeAsked {Q : Int32 → tS → Prop} {S : tS} {it : Nat → Int32} {p c n m : Nat} (hp : p < 4) (hm : m ≤ 8) (hn : n ≤ 6) (hc : c + 2 * n ≤ 24) (hit : S (38 + 2 * p) = it) (h5 : S 5 0 = nI m) (hK : ∀ i, i < m → kOk S i) (kF : ¬ (∀ j, j < n → okA m (S 0 2).toInt it c j) → ∀ T, frQ S T → Q 0 T) (kT : (∀ j, j < n → okA m (S 0 2).toInt it c j) → ∀ T, frQ S T → T 30 0 = nI n → T 30 1 = -1 → (∀ j, j < n → ∀ o, o < 32 → bt (T 33 j) o = (decide (o < n) && cMx S it c j o)) → Q 1 T) : tk_Ms mX7_takeAsked [.ref 0, .ref (37 + 2 * p), .int (nI c), .int (nI n)] S Q := by
  have : p = 0 ∨ p = 1 ∨ p = 2 ∨ p = 3 := by omega
  rcases this with rfl | rfl | rfl | rfl
  · exact sp_X7_takeAsked_37 hm hn hc hit h5 hK kF kT
  · exact sp_X7_takeAsked_39 hm hn hc hit h5 hK kF kT
  · exact sp_X7_takeAsked_41 hm hn hc hit h5 hK kF kT
  · exact sp_X7_takeAsked_43 hm hn hc hit h5 hK kF kT
