/-! VISIT: the reference's steps -/
theorem zT {A B : Prop} (a : A) : (True → A) ∧ (¬ True → B) := ⟨fun _ => a, fun h => absurd trivial h⟩
theorem sp_X8_isNext {Q : Int32 → tS → Prop} {S : tS} {n s p left d : Nat} {o1 o2 lk : Nat → Nat} {r ms : Int32} (hg : geo n o1 o2 lk) (hd : dat (S 45 3) (S 46) (S 47) (S 48) n o1 o2 lk) (hf : FinM (Ed n o1 o2 (pas r lk)) s (S 56)) (hb : ∀ l, l ≤ 8 → (bt ms l = true ↔ l = 8 ∨ bt r l = true)) (hp : p < 11) (hl : left ≤ 9) (hpl : Lw (Ed n o1 o2 (pas r lk)) s (left + 1) p) (hv : d < n ∨ d = 16) (k0 : ¬ nx (Ed n o1 o2 (pas r lk)) s n o1 o2 lk r p left d → Q 0 S) (k1 : nx (Ed n o1 o2 (pas r lk)) s n o1 o2 lk r p left d → Q 1 S) : tk_Ms mX8_isNext [.ref 45, .int (nI d), .int (nI p), .int ms] S Q := by
  have hn := hg.1
  have vd : vp_in (nI d) 17 := vp_in_nI (by omega) (by omega)
  have vp : vp_in (nI p) 11 := vp_in_nI (by omega) (by omega)
  have cd : (nI d).toNatClampNeg = d := nI_c (by omega)
  have cp : (nI p).toNatClampNeg = p := nI_c (by omega)
  obtain ⟨e1, e2, e3⟩ := hd.2 d hv
  obtain ⟨g1, g2, g3, g8⟩ := hg.2 d hv
  have c1 : (nI (o1 d)).toNatClampNeg = o1 d := nI_c (by omega)
  have c2 : (nI (o2 d)).toNatClampNeg = o2 d := nI_c (by omega)
  have v1 : vp_in (nI (o1 d)) 11 := vp_in_nI (by omega) (by omega)
  have v2 : vp_in (nI (o2 d)) 11 := vp_in_nI (by omega) (by omega)
  have gp : S 56 p = nI (left + 1) := (hf.iff hp (by omega)).mpr hpl
  have el : nI (left + 1) - 1 = nI left := pk_sub (b := 1) (by omega)
  have i1 : nI (o1 d) = nI p ↔ o1 d = p := ⟨fun z => nI_ij (by omega) (by omega) z, fun z => by rw [z]⟩
  have i2 : nI (o2 d) = nI p ↔ o2 d = p := ⟨fun z => nI_ij (by omega) (by omega) z, fun z => by rw [z]⟩
  have has : ∀ {S' : tS}, S' = S → ((o1 d = p ∧ Lw (Ed n o1 o2 (pas r lk)) s left (o2 d)) ∨ (o2 d = p ∧ Lw (Ed n o1 o2 (pas r lk)) s left (o1 d))) → tk_Ms mX8_has [.int ms, .int (nI (lk d))] S (fun x S5 => (x = 0 → tk_okQ mX8_isNext Q 0 S5) ∧ (¬ x = 0 → tk_okQ mX8_isNext Q 1 S5)) := by
    intro _ _ hor
    exact sp_X8_hasB g8 (fun z => zf (ok0 (k0 (fun y => z ((hb _ g8).mpr y.2.1))))) (fun z => zt (ok1 (k1 ⟨hv, (hb _ g8).mp z, hor⟩)))
  refine w_X8_isNext _ _ _ ?_
  simp only [cd, e1, e2, e3, c1, c2, cp, gp, el, i1, i2]
  refine ⟨vd, fun a => ⟨vd, fun b => zT (ok0 (k0 (fun y => y.2.2.elim (fun y => a y.1) (fun y => b y.1)))), fun b => ⟨vd, v1, vp, fun w => zT (ok0 (k0 (fun y => y.2.2.elim (fun y => a y.1) (fun y => w ((hf.iff (by omega) (by omega)).mpr y.2))))), fun w => zt ⟨vd, has rfl (Or.inr ⟨b, (hf.iff (by omega) (by omega)).mp w⟩)⟩⟩⟩, fun a => ⟨vd, v2, vp, fun w => zt ⟨vd, has rfl (Or.inl ⟨a, (hf.iff (by omega) (by omega)).mp w⟩)⟩, fun w => ⟨vd, fun b => zT (ok0 (k0 (fun y => y.2.2.elim (fun y => w ((hf.iff (by omega) (by omega)).mpr y.2)) (fun y => b y.1)))), fun b => absurd (a.trans b.symm) g3⟩⟩⟩
noncomputable def st1 (A : Nat → Prop) (tl f : Nat → Int32) (x : Int32) : Nat → Int32 := fun i => if pb (fun i => (i < 8 ∧ A i) ∧ tl i = 1 ∧ (f i).toInt < x.toInt) i = true then x else f i
noncomputable def st2 (A : Nat → Prop) (tl f h : Nat → Int32) (x t : Int32) : Nat → Int32 := fun i => if pb (fun i => (i < 8 ∧ A i) ∧ tl i = 1 ∧ (f i).toInt < x.toInt) i = true then t else h i
theorem ifpb {P : Nat → Prop} {i : Nat} {a b : Int32} : (if pb P i = true then a else b) = @ite _ (P i) (Classical.propDecidable _) a b := by
  by_cases h : P i
  · rw [if_pos (pb_iff.mpr h), if_pos h]
  · rw [if_neg (fun z => h (pb_iff.mp z)), if_neg h]
theorem st1_cong {A B : Nat → Prop} {tl f : Nat → Int32} {x : Int32} (h : ∀ i, i < 8 → (A i ↔ B i)) : st1 A tl f x = st1 B tl f x := by
  funext i
  show (if pb (fun i => (i < 8 ∧ A i) ∧ tl i = 1 ∧ (f i).toInt < x.toInt) i = true then x else f i) = (if pb (fun i => (i < 8 ∧ B i) ∧ tl i = 1 ∧ (f i).toInt < x.toInt) i = true then x else f i)
  have : pb (fun i => (i < 8 ∧ A i) ∧ tl i = 1 ∧ (f i).toInt < x.toInt) i = pb (fun i => (i < 8 ∧ B i) ∧ tl i = 1 ∧ (f i).toInt < x.toInt) i := by
    rw [Bool.eq_iff_iff, pb_iff, pb_iff]
    exact ⟨fun z => ⟨⟨z.1.1, (h i z.1.1).mp z.1.2⟩, z.2⟩, fun z => ⟨⟨z.1.1, (h i z.1.1).mpr z.1.2⟩, z.2⟩⟩
  rw [this]
theorem st2_cong {A B : Nat → Prop} {tl f g : Nat → Int32} {x t : Int32} (h : ∀ i, i < 8 → (A i ↔ B i)) : st2 A tl f g x t = st2 B tl f g x t := by
  funext i
  show (if pb (fun i => (i < 8 ∧ A i) ∧ tl i = 1 ∧ (f i).toInt < x.toInt) i = true then t else g i) = (if pb (fun i => (i < 8 ∧ B i) ∧ tl i = 1 ∧ (f i).toInt < x.toInt) i = true then t else g i)
  have : pb (fun i => (i < 8 ∧ A i) ∧ tl i = 1 ∧ (f i).toInt < x.toInt) i = pb (fun i => (i < 8 ∧ B i) ∧ tl i = 1 ∧ (f i).toInt < x.toInt) i := by
    rw [Bool.eq_iff_iff, pb_iff, pb_iff]
    exact ⟨fun z => ⟨⟨z.1.1, (h i z.1.1).mp z.1.2⟩, z.2⟩, fun z => ⟨⟨z.1.1, (h i z.1.1).mpr z.1.2⟩, z.2⟩⟩
  rw [this]
theorem st1_no {A : Nat → Prop} {tl f : Nat → Int32} {x : Int32} {i : Nat} (h : ¬ ((i < 8 ∧ A i) ∧ tl i = 1 ∧ (f i).toInt < x.toInt)) : st1 A tl f x i = f i := if_neg (fun z => h (pb_iff.mp z))
theorem st1_yes {A : Nat → Prop} {tl f : Nat → Int32} {x : Int32} {i : Nat} (h : (i < 8 ∧ A i) ∧ tl i = 1 ∧ (f i).toInt < x.toInt) : st1 A tl f x i = x := if_pos (pb_iff.mpr h)
theorem st2_no {A : Nat → Prop} {tl f g : Nat → Int32} {x t : Int32} {i : Nat} (h : ¬ ((i < 8 ∧ A i) ∧ tl i = 1 ∧ (f i).toInt < x.toInt)) : st2 A tl f g x t i = g i := if_neg (fun z => h (pb_iff.mp z))
theorem st2_yes {A : Nat → Prop} {tl f g : Nat → Int32} {x t : Int32} {i : Nat} (h : (i < 8 ∧ A i) ∧ tl i = 1 ∧ (f i).toInt < x.toInt) : st2 A tl f g x t i = t := if_pos (pb_iff.mpr h)
/-- one more lock -/
theorem st_add {A : Nat → Prop} {tl f g : Nat → Int32} {x t : Int32} {l : Nat} (hl : l < 8) (hx : tl l = 1) (hlt : (st1 A tl f x l).toInt < x.toInt) : upd (st1 A tl f x) l x = st1 (fun i => A i ∨ l = i) tl f x ∧ upd (st2 A tl f g x t) l t = st2 (fun i => A i ∨ l = i) tl f g x t := by
  have hno : ¬ ((l < 8 ∧ A l) ∧ tl l = 1 ∧ (f l).toInt < x.toInt) := fun z => by
    rw [st1_yes z] at hlt
    omega
  rw [st1_no hno] at hlt
  have hy : (l < 8 ∧ (A l ∨ l = l)) ∧ tl l = 1 ∧ (f l).toInt < x.toInt := ⟨⟨hl, Or.inr rfl⟩, hx, hlt⟩
  constructor
  · funext i
    by_cases e : i = l
    · subst e
      rw [upd_s, st1_yes (A := fun j => A j ∨ i = j) hy]
    · rw [upd_n e]
      by_cases h : (i < 8 ∧ A i) ∧ tl i = 1 ∧ (f i).toInt < x.toInt
      · rw [st1_yes h, st1_yes (A := fun j => A j ∨ l = j) ⟨⟨h.1.1, Or.inl h.1.2⟩, h.2⟩]
      · rw [st1_no h, st1_no (A := fun j => A j ∨ l = j) (fun z => h ⟨⟨z.1.1, z.1.2.resolve_right (fun y => e y.symm)⟩, z.2⟩)]
  · funext i
    by_cases e : i = l
    · subst e
      rw [upd_s, st2_yes (A := fun j => A j ∨ i = j) hy]
    · rw [upd_n e]
      by_cases h : (i < 8 ∧ A i) ∧ tl i = 1 ∧ (f i).toInt < x.toInt
      · rw [st2_yes h, st2_yes (A := fun j => A j ∨ l = j) ⟨⟨h.1.1, Or.inl h.1.2⟩, h.2⟩]
      · rw [st2_no h, st2_no (A := fun j => A j ∨ l = j) (fun z => h ⟨⟨z.1.1, z.1.2.resolve_right (fun y => e y.symm)⟩, z.2⟩)]
/-- a lock that changes nothing -/
theorem st_same {A : Nat → Prop} {tl f g : Nat → Int32} {x t : Int32} {l : Nat} (h0 : 8 ≤ l ∨ ¬ tl l = 1 ∨ x.toInt ≤ (st1 A tl f x l).toInt) : st1 A tl f x = st1 (fun i => A i ∨ l = i) tl f x ∧ st2 A tl f g x t = st2 (fun i => A i ∨ l = i) tl f g x t := by
  have key : ∀ i, ((i < 8 ∧ A i) ∧ tl i = 1 ∧ (f i).toInt < x.toInt) ↔ ((i < 8 ∧ (A i ∨ l = i)) ∧ tl i = 1 ∧ (f i).toInt < x.toInt) := by
    intro i
    refine ⟨fun z => ⟨⟨z.1.1, Or.inl z.1.2⟩, z.2⟩, fun z => ?_⟩
    rcases z.1.2 with y | y
    · exact ⟨⟨z.1.1, y⟩, z.2⟩
    · subst y
      rcases h0 with h0 | h0 | h0
      · exact absurd z.1.1 (by omega)
      · exact absurd z.2.1 h0
      · refine Classical.byContradiction (fun w => ?_)
        rw [st1_no w] at h0
        have := z.2.2
        omega
  constructor
  · funext i
    by_cases h : (i < 8 ∧ A i) ∧ tl i = 1 ∧ (f i).toInt < x.toInt
    · rw [st1_yes h, st1_yes (A := fun j => A j ∨ l = j) ((key i).mp h)]
    · rw [st1_no h, st1_no (A := fun j => A j ∨ l = j) (fun z => h ((key i).mpr z))]
  · funext i
    by_cases h : (i < 8 ∧ A i) ∧ tl i = 1 ∧ (f i).toInt < x.toInt
    · rw [st2_yes h, st2_yes (A := fun j => A j ∨ l = j) ((key i).mp h)]
    · rw [st2_no h, st2_no (A := fun j => A j ∨ l = j) (fun z => h ((key i).mpr z))]
noncomputable def stM (S : tS) (x : Int32) (A : Nat → Prop) : tS := tk_upR (tk_upR S 52 (st1 A (S 50) (S 52) x)) 53 (st2 A (S 50) (S 52) (S 53) x (S 45 10))
theorem sp_X8_stain {Q : Int32 → tS → Prop} {S : tS} {A : Nat → Prop} {l : Nat} {x : Int32} (hl : l ≤ 8) (k : Q 0 (stM S x (fun i => A i ∨ l = i))) : tk_Ms mX8_stain [.ref 45, .int (nI l), .int x] (stM S x A) Q := by
  have cl : (nI l).toNatClampNeg = l := nI_c (by omega)
  have same : (8 ≤ l ∨ ¬ S 50 l = 1 ∨ x.toInt ≤ (st1 A (S 50) (S 52) x l).toInt) → Q 0 (stM S x A) := by
    intro h
    obtain ⟨h1, h2⟩ := st_same (A := A) (tl := S 50) (f := S 52) (g := S 53) (x := x) (t := S 45 10) h
    unfold stM at k ⊢
    rw [h1, h2]
    exact k
  refine w_X8_stain _ _ ⟨fun c => ok0 (same (Or.inl ?_)), fun c => ?_⟩
  · rw [xle, nI_t (by omega)] at c
    simp only [Int32.reduceToInt] at c
    omega
  · rw [xle, nI_t (by omega)] at c
    simp only [Int32.reduceToInt] at c
    have l8 : l < 8 := by omega
    have v : vp_in (nI l) 8 := vp_in_nI (by omega) (by omega)
    rw [cl]
    refine ⟨v, fun w => ok0 (same (Or.inr (Or.inl w))), fun w => ⟨v, fun d => ok0 (same (Or.inr (Or.inr (xle.mp d)))), fun d => ⟨v, v, ok0 ?_⟩⟩⟩
    have w : S 50 l = 1 := w
    have d : ¬ x ≤ st1 A (S 50) (S 52) x l := d
    rw [xle] at d
    obtain ⟨h1, h2⟩ := st_add (A := A) (tl := S 50) (f := S 52) (g := S 53) (x := x) (t := S 45 10) l8 w (by omega)
    have : tk_up (tk_up (stM S x A) 52 l x) 53 l (S 45 10) = stM S x (fun i => A i ∨ l = i) := by
      unfold stM
      rw [← h1, ← h2]
      funext c i
      unfold tk_up tk_upR
      by_cases e1 : c = 53
      · subst e1; simp
      · by_cases e2 : c = 52
        · subst e2; simp
        · simp [e1, e2]
    show Q 0 (tk_up (tk_up (stM S x A) 52 l x) 53 l (S 45 10))
    rw [this]
    exact k
