/-! ASKED: the reference's next row -/
def fr61 (S T : tS) : Prop := ∀ c, c ≠ 61 → T c = S c
theorem fr61.refl {S : tS} : fr61 S S := fun _ _ => rfl
theorem fr61.up {S T : tS} (h : fr61 S T) {j : Nat} {x : Int32} : fr61 S (tk_up T 61 j x) := fun c hc => by
  rw [tk_up_n hc]
  exact h c hc
theorem sw61 {T : tS} {n a b : Nat} {p : Nat → Nat} (ha : a < n) (hb : b < n) (hp : ∀ i, i < n → T 61 i = nI (p i)) : ∀ i, i < n → (tk_up (tk_up T 61 a (T 61 b)) 61 b (T 61 a)) 61 i = nI (sw p a b i) := by
  intro i hi
  unfold sw
  by_cases e1 : i = b
  · subst e1
    rw [if_pos rfl, tk_up_ss]
    exact hp a ha
  · rw [if_neg e1, tk_up_sn e1]
    by_cases e2 : i = a
    · subst e2
      rw [if_pos rfl, tk_up_ss]
      exact hp b hb
    · rw [if_neg e2, tk_up_sn e2]
      exact hp i hi
theorem lp_X8_no100 {Q : Int32 → tS → Prop} {M : tS} {n : Nat} {l1 l2 l3 : Int32} (hn : n ≤ 6) : ∀ (f a b : Nat) (l4 : Int32) (p : Nat → Nat) (T : tS), a < n → b < n → b ≤ a + f → fr61 M T → (∀ i, i < n → T 61 i = nI (p i)) → (∀ T', fr61 M T' → (∀ i, i < n → T' 61 i = nI (rvl f a b p i)) → Q 1 T') → tk_Gs mX8_nextOrder none 100 [.ref 45, .int l1, .int l2, .int l3, .int l4, .int (nI b), .int (nI a)] [] T Q := by
  intro f
  induction f with
  | zero =>
    intro a b l4 p T ha hb hf g hp k
    exact w_X8_nextOrder_100 _ _ _ _ _ _ ⟨fun _ => k T g hp, fun z => absurd (nI_le (by omega) (by omega)) z⟩
  | succ f ih =>
    intro a b l4 p T ha hb hf g hp k
    by_cases c : b ≤ a
    · rw [show rvl (f + 1) a b p = p from if_pos c] at k
      exact w_X8_nextOrder_100 _ _ _ _ _ _ ⟨fun _ => k T g hp, fun z => absurd (nI_le c (by omega)) z⟩
    · rw [show rvl (f + 1) a b p = rvl f (a + 1) (b - 1) (sw p a b) from if_neg c] at k
      have va : vp_in (nI a) 6 := vp_in_nI (by omega) (by omega)
      have vb : vp_in (nI b) 6 := vp_in_nI (by omega) (by omega)
      refine w_X8_nextOrder_100 _ _ _ _ _ _ ⟨fun z => absurd z (nI_ge (by omega) (by omega)), fun _ => ⟨va, vb, va, vb, ?_⟩⟩
      have eb : nI b + (-1) = nI (b - 1) := by
        have : nI (b - 1 + 1) + (-1) = nI (b - 1) := nI_s1
        rw [show b - 1 + 1 = b by omega] at this
        exact this
      rw [nI_c (by omega : a < _), nI_c (by omega : b < _), eb, nI_1]
      exact ih (a + 1) (b - 1) _ (sw p a b) _ (by omega) (by omega) (by omega) g.up.up (sw61 ha hb hp) k
theorem lp_X8_no41 {Q : Int32 → tS → Prop} {M : tS} {n k : Nat} {p : Nat → Nat} (hn : n ≤ 6) (hk : k + 1 < n) (hp : ∀ i, i < n → M 61 i = nI (p i) ∧ p i < n) : ∀ j : Nat, k ≤ j → j < n → (∀ T', fr61 M T' → (∀ i, i < n → T' 61 i = nI (rvl 6 (k + 1) (n - 1) (sw p k (jf p k j)) i)) → Q 1 T') → tk_Gs mX8_nextOrder none 41 [.ref 45, .int (nI n), .int (nI k), .int (nI j), .null, .null, .null] [] M Q := by
  have vk : vp_in (nI k) 6 := vp_in_nI (by omega) (by omega)
  have ck : (nI k).toNatClampNeg = k := nI_c (by omega)
  have en : nI n - 1 = nI (n - 1) := pk_sub (b := 1) (by omega)
  have stop : ∀ j, k ≤ j → j < n → p k ≤ p j → (∀ T', fr61 M T' → (∀ i, i < n → T' 61 i = nI (rvl 6 (k + 1) (n - 1) (sw p k j) i)) → Q 1 T') → tk_Gs mX8_nextOrder none 41 [.ref 45, .int (nI n), .int (nI k), .int (nI j), .null, .null, .null] [] M Q := by
    intro j hj hjn hle kk
    have vj : vp_in (nI j) 6 := vp_in_nI (by omega) (by omega)
    have cj : (nI j).toNatClampNeg = j := nI_c (by omega)
    have pk := (hp k (by omega)).2
    have pj := (hp j hjn).2
    refine w_X8_nextOrder_41 _ _ _ ⟨vj, vk, ?_⟩
    rw [ck, cj, (hp k (by omega)).1, (hp j hjn).1]
    refine ⟨fun _ => ⟨vk, vj, vk, vj, ?_⟩, fun z => absurd (nI_le hle (by omega)) z⟩
    rw [en, nI_1, ← (hp k (by omega)).1, ← (hp j hjn).1]
    exact lp_X8_no100 hn 6 (k + 1) (n - 1) _ (sw p k j) _ (by omega) (by omega) (by omega) fr61.refl.up.up (sw61 (by omega) hjn (fun i hi => (hp i hi).1)) kk
  have go : ∀ j, k ≤ j → j < n → ¬ p k ≤ p j → (tk_Gs mX8_nextOrder none 41 [.ref 45, .int (nI n), .int (nI k), .int (nI (j - 1)), .null, .null, .null] [] M Q) → tk_Gs mX8_nextOrder none 41 [.ref 45, .int (nI n), .int (nI k), .int (nI j), .null, .null, .null] [] M Q := by
    intro j hj hjn hle kk
    have vj : vp_in (nI j) 6 := vp_in_nI (by omega) (by omega)
    have cj : (nI j).toNatClampNeg = j := nI_c (by omega)
    have pk := (hp k (by omega)).2
    have pj := (hp j hjn).2
    have hj0 : j ≠ k := fun e => hle (by rw [e]; exact Nat.le_refl _)
    have eb : nI j + (-1) = nI (j - 1) := by
      have : nI (j - 1 + 1) + (-1) = nI (j - 1) := nI_s1
      rw [show j - 1 + 1 = j by omega] at this
      exact this
    refine w_X8_nextOrder_41 _ _ _ ⟨vj, vk, ?_⟩
    rw [ck, cj, (hp k (by omega)).1, (hp j hjn).1, eb]
    exact ⟨fun z => absurd z (nI_ge (by omega) (by omega)), fun _ => kk⟩
  intro j
  induction j with
  | zero =>
    intro hj hjn kk
    have : k = 0 := by omega
    subst this
    exact stop 0 hj hjn (Nat.le_refl _) kk
  | succ j ih =>
    intro hj hjn kk
    by_cases c : p k ≤ p (j + 1)
    · rw [show jf p k (j + 1) = j + 1 from if_pos c] at kk
      exact stop (j + 1) hj hjn c kk
    · rw [show jf p k (j + 1) = jf p k j from if_neg c] at kk
      have hne : k ≠ j + 1 := fun e => c (by rw [e]; exact Nat.le_refl _)
      exact go (j + 1) hj hjn c (ih (by omega) (by omega) kk)
theorem nxt_2 : ∀ n, n ≤ 6 → nI (n + 1) - 2 = nI n - 1 := by decide +kernel
theorem lp_X8_no4 {Q : Int32 → tS → Prop} {M : tS} {n : Nat} {p : Nat → Nat} (hn : n ≤ 6) (hp : ∀ i, i < n → M 61 i = nI (p i) ∧ p i < n) : ∀ q : Nat, q < n → (kf p q = none → Q 0 M) → (∀ k, kf p q = some k → k + 1 < n → tk_Gs mX8_nextOrder none 41 [.ref 45, .int (nI n), .int (nI k), .int (nI (n - 1)), .null, .null, .null] [] M Q) → tk_Gs mX8_nextOrder none 4 [.ref 45, .int (nI n), .int (nI q - 1), .null, .null, .null, .null] [] M Q := by
  intro q
  induction q with
  | zero =>
    intro hq kN kS
    refine w_X8_nextOrder_4 _ _ ⟨fun _ => ⟨fun z => absurd z (by decide), fun _ => kN rfl⟩, fun z => absurd (by decide) z⟩
  | succ q ih =>
    intro hq kN kS
    have en : nI n - 1 = nI (n - 1) := pk_sub (b := 1) (by omega)
    have eq : nI (q + 1) - 1 = nI q := pk_sub (b := 1) (by omega)
    have cq : (nI q).toNatClampNeg = q := nI_c (by omega)
    have cq1 : (nI (q + 1)).toNatClampNeg = q + 1 := nI_c (by omega)
    have p1 := hp q (by omega)
    have p2 := hp (q + 1) hq
    rw [eq]
    refine w_X8_nextOrder_4 _ _ ⟨fun z => absurd z (by rw [lt0, nI_t (by omega)]; omega), fun _ => ⟨vp_in_nI (by omega) (by omega), ?_⟩⟩
    rw [nI_1, cq, cq1, p1.1, p2.1, en]
    refine ⟨vp_in_nI (by omega) (by omega), fun z => ⟨fun _ => ?_, fun w => absurd (by rw [le0', nI_t (by omega)]; omega) w⟩, fun z => ?_⟩
    · have c : p q ≤ p (q + 1) := (nI_leI (by omega) (by omega)).mp z
      exact kS q (if_pos c) hq
    · have c : ¬ p q ≤ p (q + 1) := fun w => z ((nI_leI (by omega) (by omega)).mpr w)
      have e : kf p (q + 1) = kf p q := if_neg c
      rw [e] at kN kS
      rw [show nI q + (-1) = nI q - 1 from (Int32.sub_eq_add_neg _ _).symm]
      exact ih (by omega) kN kS
theorem sp_X8_nextOrder {Q : Int32 → tS → Prop} {M : tS} {n : Nat} {p : Nat → Nat} (h1 : 1 ≤ n) (hn : n ≤ 6) (hp : ∀ i, i < n → M 61 i = nI (p i) ∧ p i < n) (kN : nxo n p = none → Q 0 M) (kS : ∀ q T, nxo n p = some q → fr61 M T → (∀ i, i < n → T 61 i = nI (q i)) → Q 1 T) : tk_Ms mX8_nextOrder [.ref 45, .int (nI n)] M Q := by
  obtain ⟨n, rfl⟩ : ∃ n', n = n' + 1 := ⟨n - 1, by omega⟩
  refine w_X8_nextOrder _ ?_
  rw [nxt_2 n (by omega)]
  unfold nxo at kN kS
  refine lp_X8_no4 hn hp n (by omega) (fun e => ok0 (kN ?_)) (fun k e hk => ?_)
  · rw [show n + 1 - 1 = n by omega, e]
  · rw [show n + 1 - 1 = n by omega] at kS ⊢
    rw [e] at kS
    refine lp_X8_no41 hn hk hp n (by omega) (by omega) (fun T' g h => ok1 (kS _ T' rfl g h))
/-! ASKED: the reference goes through the rows -/
def reM (n : Nat) (T : tS) (l8 : Int32) : Option (Nat × List Nat) → Prop
  | none => l8 = -4
  | some (v, L) => v ≤ 6 ∧ l8 = nI v ∧ ∀ i, i < n → T 62 i = nI (lf L i)
def frR (S T : tS) : Prop := ∀ c, c ≠ 61 → c ≠ 62 → T c = S c
theorem frR.refl {S : tS} : frR S S := fun _ _ _ => rfl
theorem frR.f61 {S T U : tS} (h : frR S T) (g : fr61 T U) : frR S U := fun c h1 h2 => (g c h1).trans (h c h1 h2)
theorem kOk.frR {S T : tS} {i : Nat} (h : kOk S i) (g : frR S T) : kOk T i := by
  unfold kOk
  rw [g 0 (by decide) (by decide), g 6 (by decide) (by decide), g 7 (by decide) (by decide), g 8 (by decide) (by decide), g 9 (by decide) (by decide), g 10 (by decide) (by decide), g 49 (by decide) (by decide), g 50 (by decide) (by decide), g 51 (by decide) (by decide), g 52 (by decide) (by decide), g 53 (by decide) (by decide)]
  exact h
theorem cMx_frR {S T : tS} {it : Nat → Int32} {c j o : Nat} (g : frR S T) : cMx T it c j o = cMx S it c j o := by
  unfold cMx kx
  rw [g 6 (by decide) (by decide), g 9 (by decide) (by decide), g 10 (by decide) (by decide)]
theorem lp_X8_as173 {Q : Int32 → tS → Prop} {M : tS} {n : Nat} {l1 l2 l3 l5 l6 l7 l8 l9 l10 : Int32} (hn : n ≤ 6) (k : ∀ T, (∀ c, c ≠ 62 → T c = M c) → (∀ i, i < n → T 62 i = M 61 i) → tk_Ms mX8_nextOrder [.ref 45, .int (nI n)] T (fun x S => tk_Gs mX8_asked none 115 [.ref 45, .int l1, .int l2, .int l3, .int (nI n), .int l5, .int l6, .int l7, .int l8, .int x, .null, .null] [] S Q)) : ∀ (q j : Nat) (T : tS), j + q = n → (∀ c, c ≠ 62 → T c = M c) → (∀ i, i < j → T 62 i = M 61 i) → tk_Gs mX8_asked none 173 [.ref 45, .int l1, .int l2, .int l3, .int (nI n), .int l5, .int l6, .int l7, .int l8, .int l9, .int l10, .int (nI j)] [] T Q := by
  intro q
  induction q with
  | zero =>
    intro j T e g h
    have e : j = n := e
    subst e
    exact w_X8_asked_173 _ _ _ _ _ _ _ _ _ _ _ ⟨fun _ => k T g h, fun z => absurd (nI_le (Nat.le_refl _) (by omega)) z⟩
  | succ q ih =>
    intro j T e g h
    have v : vp_in (nI j) 6 := vp_in_nI (by omega) (by omega)
    refine w_X8_asked_173 _ _ _ _ _ _ _ _ _ _ _ ⟨fun z => absurd z (nI_ge (by omega) (by omega)), fun _ => ⟨v, v, ?_⟩⟩
    rw [nI_c (by omega), nI_1, g 61 (by decide)]
    refine ih (j + 1) _ (by omega) (fun c hc => ?_) (fun i hi => ?_)
    · rw [tk_up_n hc]
      exact g c hc
    · by_cases ei : i = j
      · subst ei
        exact tk_up_ss
      · rw [tk_up_sn ei]
        exact h i (by omega)
/-- the end of the reference's search -/
def enM (n : Nat) (l5 : Int32) (r : Option (Nat × List Nat)) (x : Int32) : Prop := match r with
  | none => x = -4
  | some (v, L) => (0 ≤ l5 ∧ x = nI (lf L l5.toNatClampNeg)) ∨ (¬ 0 ≤ l5 ∧ x = nI v)
theorem lp_X8_as_row {Q : Int32 → tS → Prop} {M0 M : tS} {it : Nat → Int32} {a c n m : Nat} {l1 l2 l3 l5 l6 l8 : Int32} {L : List Nat} {acc : Option (Nat × List Nat)} (hm : m ≤ 8) (hn : n ≤ 6) (ha : a + 2 * n ≤ 96) (hit : ∀ j, j < 2 * n → M0 60 (a + j) = it (c + j)) (hK : ∀ i, i < m → kOk M0 i) (ht : 0 ≤ (M0 0 2).toInt) (hA : ∀ j, j < n → okA m (M0 0 2).toInt it c j) (hb : bd n L) (g : frR M0 M) (h61 : ∀ i, i < n → M 61 i = nI (lf L i)) (hr : reM n M l8 acc) (nx : ∀ (T : tS) (l8' : Int32), frR M0 T → (∀ i, i < n → T 61 i = nI (lf L i)) → reM n T l8' (stp (cMx M0 it c) n acc L) → tk_Ms mX8_nextOrder [.ref 45, .int (nI n)] T (fun x S => tk_Gs mX8_asked none 115 [.ref 45, .int l1, .int l2, .int l3, .int (nI n), .int l5, .int l6, .int (nI a), .int l8', .int x, .null, .null] [] S Q)) : tk_Gs mX8_asked none 115 [.ref 45, .int l1, .int l2, .int l3, .int (nI n), .int l5, .int l6, .int (nI a), .int l8, .int 1, .null, .null] [] M Q := by
  have hit' : ∀ j, j < 2 * n → M 60 (a + j) = it (c + j) := fun j hj => by rw [g 60 (by decide) (by decide)]; exact hit j hj
  have e0 : M 0 = M0 0 := g 0 (by decide) (by decide)
  have hpp : ∀ i, i < n → M 61 i = nI (lf L i) ∧ lf L i < n := fun i hi => ⟨h61 i hi, hb i hi⟩
  have hcv := chg_le (n := n) (p := lf L)
  have cl : (∀ k, k < n → cMx M it c k (lf L k) = true) ↔ ∀ k, k < n → cMx M0 it c k (lf L k) = true := by
    constructor
    · intro h k hk
      rw [← cMx_frR g]
      exact h k hk
    · intro h k hk
      rw [cMx_frR g]
      exact h k hk
  refine w_X8_asked_115 _ _ _ _ _ _ _ _ _ (zt (w_X8_areClean _ _ (lp_X8_areClean (it := it) (c := c) (p := lf L) hm hn ha hit' (fun i hi => (hK i hi).frR g) (by rw [e0]; exact ht) (by rw [e0]; exact hA) hpp (fun h => ok0 (zf ⟨fun _ => ?_, fun z => absurd (by decide) z⟩)) (fun h => ok1 (zt (sp_X8_rings hn hpp ?_))) n 0 1 (by omega) (Or.inl ⟨rfl, fun i hi => absurd hi (Nat.not_lt_zero _)⟩))))
  rotate_left
  · refine nx M l8 g h61 ?_
    rw [stp_no (fun w => h (cl.mpr w))]
    exact hr
  · have hc := cl.mp h
    have ev : nI n - nI (cyc (lf L) n n 0 (fun _ => false) 0) = nI (chg n (lf L)) := pk_sub (by have := cyc_le (p := lf L) (n := n) n 0 (fun _ => false) 0; omega)
    rw [ev]
    refine ⟨fun z => absurd z (by rw [xle, nI_t (by omega)]; simp only [Int32.reduceToInt]; omega), fun _ => ?_⟩
    have new : stp (cMx M0 it c) n acc L = some (chg n (lf L), L) → ∀ {l9 l10 : Int32}, tk_Gs mX8_asked none 173 [.ref 45, .int l1, .int l2, .int l3, .int (nI n), .int l5, .int l6, .int (nI a), .int (nI (chg n (lf L))), .int l9, .int l10, .int 0] [] M Q := by
      intro es l9 l10
      refine lp_X8_as173 (M := M) hn (fun T gT hT => nx T _ (fun c c1 c2 => (gT c c2).trans (g c c1 c2)) (fun i hi => by rw [gT 61 (by decide)]; exact h61 i hi) ?_) n 0 M (by omega) (fun _ _ => rfl) (fun i hi => absurd hi (Nat.not_lt_zero _))
      rw [es]
      exact ⟨by omega, rfl, fun i hi => by rw [hT i hi]; exact h61 i hi⟩
    cases acc with
    | none =>
      have hr : l8 = -4 := hr
      subst hr
      exact ⟨fun _ => new (stp_none hc), fun z => absurd (by decide) z⟩
    | some wq =>
      obtain ⟨w, q⟩ := wq
      obtain ⟨r1, r2, r3⟩ := hr
      subst r2
      refine ⟨fun z => absurd z (by rw [lt0, nI_t (by omega)]; omega), fun _ => ⟨fun z => ?_, fun z => new (stp_lt hc ?_)⟩⟩
      · rw [nI_leI (by omega) (by omega)] at z
        refine nx M _ g h61 ?_
        rw [stp_ge hc (by omega)]
        exact ⟨r1, rfl, r3⟩
      · rw [nI_leI (by omega) (by omega)] at z
        omega
theorem lp_X8_as115 {Q : Int32 → tS → Prop} {M0 : tS} {it : Nat → Int32} {a c n m : Nat} {l1 l2 l3 l5 l6 : Int32} (hm : m ≤ 8) (h1 : 1 ≤ n) (hn : n ≤ 6) (ha : a + 2 * n ≤ 96) (hit : ∀ j, j < 2 * n → M0 60 (a + j) = it (c + j)) (hK : ∀ i, i < m → kOk M0 i) (ht : 0 ≤ (M0 0 2).toInt) (hA : ∀ j, j < n → okA m (M0 0 2).toInt it c j) (h5 : l5.toInt < (n : Int)) (r : Option (Nat × List Nat)) (kk : ∀ x T, frR M0 T → enM n l5 r x → Q x T) : ∀ (P : List (List Nat)) (L : List Nat) (acc : Option (Nat × List Nat)) (l8 : Int32) (M : tS), rws n L P → frR M0 M → (∀ i, i < n → M 61 i = nI (lf L i)) → reM n M l8 acc → r = (L :: P).foldl (stp (cMx M0 it c) n) acc → tk_Gs mX8_asked none 115 [.ref 45, .int l1, .int l2, .int l3, .int (nI n), .int l5, .int l6, .int (nI a), .int l8, .int 1, .null, .null] [] M Q := by
  -- the end
  have last : ∀ (M : tS) (l8 : Int32), frR M0 M → reM n M l8 r → tk_Gs mX8_asked none 115 [.ref 45, .int l1, .int l2, .int l3, .int (nI n), .int l5, .int l6, .int (nI a), .int l8, .int 0, .null, .null] [] M Q := by
    intro M l8 g hr
    cases r with
    | none =>
      have hr : l8 = -4 := hr
      subst hr
      exact w_X8_asked_115 _ _ _ _ _ _ _ _ _ (zf ⟨fun _ => kk _ M g rfl, fun z => absurd (by decide) z⟩)
    | some vL =>
      obtain ⟨v, L⟩ := vL
      obtain ⟨r1, r2, r3⟩ := hr
      subst r2
      refine w_X8_asked_115 _ _ _ _ _ _ _ _ _ (zf ⟨fun z => absurd z (by rw [lt0, nI_t (by omega)]; omega), fun _ => ⟨fun z => ?_, fun z => kk _ M g (Or.inr ⟨z, rfl⟩)⟩⟩)
      have z' := z
      rw [le0'] at z'
      have t := tn z'
      refine ⟨vin z' (by omega), ?_⟩
      rw [r3 _ (by omega)]
      exact kk _ M g (Or.inl ⟨z, rfl⟩)
  intro P
  induction P with
  | nil =>
    intro L acc l8 M hw g h61 hr er
    obtain ⟨hb, hx⟩ := hw
    have er : r = stp (cMx M0 it c) n acc L := er
    -- behind this row
    have nx : ∀ (T : tS) (l8' : Int32), frR M0 T → (∀ i, i < n → T 61 i = nI (lf L i)) → reM n T l8' (stp (cMx M0 it c) n acc L) → tk_Ms mX8_nextOrder [.ref 45, .int (nI n)] T (fun x S => tk_Gs mX8_asked none 115 [.ref 45, .int l1, .int l2, .int l3, .int (nI n), .int l5, .int l6, .int (nI a), .int l8', .int x, .null, .null] [] S Q) := by
      intro T l8' gT hT hr'
      rw [← er] at hr'
      exact sp_X8_nextOrder h1 hn (fun i hi => ⟨hT i hi, hb i hi⟩) (fun _ => last T l8' gT hr') (fun q T' e => absurd (hx.symm.trans e) (by simp))
    exact lp_X8_as_row hm hn ha hit hK ht hA hb g h61 hr nx
  | cons L' P ih =>
    intro L acc l8 M hw g h61 hr er
    obtain ⟨hb, ⟨q, hq, hq2⟩, hw'⟩ := hw
    have er : r = (L' :: P).foldl (stp (cMx M0 it c) n) (stp (cMx M0 it c) n acc L) := er
    have nx : ∀ (T : tS) (l8' : Int32), frR M0 T → (∀ i, i < n → T 61 i = nI (lf L i)) → reM n T l8' (stp (cMx M0 it c) n acc L) → tk_Ms mX8_nextOrder [.ref 45, .int (nI n)] T (fun x S => tk_Gs mX8_asked none 115 [.ref 45, .int l1, .int l2, .int l3, .int (nI n), .int l5, .int l6, .int (nI a), .int l8', .int x, .null, .null] [] S Q) := by
      intro T l8' gT hT hr'
      refine sp_X8_nextOrder h1 hn (fun i hi => ⟨hT i hi, hb i hi⟩) (fun e => absurd (hq.symm.trans e) (by simp)) (fun q' T' e g' h' => ?_)
      have eq : q' = q := Option.some.inj (e.symm.trans hq)
      subst eq
      refine ih L' _ l8' T' hw' (gT.f61 g') (fun i hi => (h' i hi).trans (by rw [hq2 i hi])) ?_ er
      generalize stp (cMx M0 it c) n acc L = X at hr'
      cases X with
      | none => exact hr'
      | some vL =>
        obtain ⟨v, K⟩ := vL
        obtain ⟨r1, r2, r3⟩ := hr'
        exact ⟨r1, r2, fun i hi => by rw [g' 62 (by decide)]; exact r3 i hi⟩
    exact lp_X8_as_row hm hn ha hit hK ht hA hb g h61 hr nx
