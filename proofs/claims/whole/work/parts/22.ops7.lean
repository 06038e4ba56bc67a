/-! LOOK: the reference, and both -/
theorem rst_1 {k s : Int} {i j n : Nat} : rst k s i j (n + 1) ↔ rst k s i j n ∧ gv k s n j ≤ gv k s i j ∧ gv k s i j ≤ gv k s i n := by
  constructor
  · exact fun h => ⟨fun d hd => h d (by omega), h n (by omega)⟩
  · intro h d hd
    by_cases e : d = n
    · subst e
      exact h.2
    · exact h.1 d (by omega)
theorem lp_X8_look3 {Q : Int32 → tS → Prop} {S : tS} {a b w l4 l5 v : Int32} {i j : Nat} (hi : i ≤ 7) (hj : j ≤ 7) (ha : 0 ≤ a.toInt ∧ a.toInt ≤ 3) (hb : 0 ≤ b.toInt) (hv : v.toInt = gv a.toInt b.toInt i j) (k0 : ¬ rst a.toInt b.toInt i j 7 → tk_Gs mX8_look none 56 [.ref 45, .int a, .int b, .int w, .int l4, .int l5, .int (nI i), .int (nI (j + 1)), .null, .null, .null] [] S Q) (k1 : rst a.toInt b.toInt i j 7 → tk_Gs mX8_look none 56 [.ref 45, .int a, .int b, .int w, .int (l4 + 1), .int (if l4 = 0 then nI (10 * i + j) else l5), .int (nI i), .int (nI (j + 1)), .null, .null, .null] [] S Q) : ∀ r d : Nat, d + r = 7 → ∀ f : Int32, (f = 1 ∧ rst a.toInt b.toInt i j d) ∨ (f = 0 ∧ ¬ rst a.toInt b.toInt i j d) → tk_Gs mX8_look none 80 [.ref 45, .int a, .int b, .int w, .int l4, .int l5, .int (nI i), .int (nI j), .int v, .int f, .int (nI d)] [] S Q
  | 0, d, e, f, h => by
    have e : d = 7 := e
    subst e
    refine w_X8_look_80 _ _ _ _ _ _ _ _ _ _ ⟨fun _ => ?_, fun c => absurd (nI_le (a := 7) (b := 7) (by omega) (by omega)) c⟩
    rcases h with ⟨hf, h⟩ | ⟨hf, h⟩ <;> subst hf
    · refine zt ⟨fun g => zt ?_, fun g => zt ?_⟩
      · have := k1 h
        rw [if_neg g] at this
        rw [nI_1]
        exact this
      · have := k1 h
        rw [if_pos g] at this
        rw [nI_1, idx10]
        exact this
    · refine zf (zf ?_)
      rw [nI_1, add0]
      exact k0 h
  | r + 1, d, e, f, h => by
    refine w_X8_look_80 _ _ _ _ _ _ _ _ _ _ ⟨fun c => absurd c (nI_ge (a := d) (b := 7) (by omega) (by omega)), fun c => ?_⟩
    rw [nI_1]
    rcases h with ⟨hf, h⟩ | ⟨hf, h⟩ <;> subst hf
    · refine zt (sp_X8_gains (by omega) hj ha hb (fun x hx => ⟨fun g => ?_, fun g => sp_X8_gains hi (by omega) ha hb (fun y hy => ⟨fun g2 => ?_, fun g2 => ?_⟩)⟩))
      · rw [xlt, hx, hv] at g
        exact lp_X8_look3 hi hj ha hb hv k0 k1 r (d + 1) (by omega) 0 (Or.inr ⟨rfl, fun q => by have := (rst_1.mp q).2.1; omega⟩)
      · rw [xlt, hy, hv] at g2
        exact lp_X8_look3 hi hj ha hb hv k0 k1 r (d + 1) (by omega) 0 (Or.inr ⟨rfl, fun q => by have := (rst_1.mp q).2.2; omega⟩)
      · rw [xlt, hx, hv] at g
        rw [xlt, hy, hv] at g2
        exact lp_X8_look3 hi hj ha hb hv k0 k1 r (d + 1) (by omega) 1 (Or.inl ⟨rfl, rst_1.mpr ⟨h, by omega, by omega⟩⟩)
    · exact zf (lp_X8_look3 hi hj ha hb hv k0 k1 r (d + 1) (by omega) 0 (Or.inr ⟨rfl, fun q => h (rst_1.mp q).1⟩))
theorem fs_t {p : Nat → Bool} {t : Nat} (ht : t ≤ 49) (hp : p t = true) : fs p (t + 1) = if nI (cnt p t) = 0 then nI (10 * (t / 7) + t % 7) else fs p t := by
  have h := fs_iff p t ht
  have hc := cnt_le p t
  have e0 : nI (cnt p t) = 0 ↔ cnt p t = 0 := by
    rw [xeq, nI_t (by omega)]
    simp only [Int32.reduceToInt]
    omega
  show (if fs p t = -4 ∧ p t = true then nI (10 * (t / 7) + t % 7) else fs p t) = _
  by_cases g : cnt p t = 0
  · rw [if_pos ⟨h.mpr g, hp⟩, if_pos (e0.mpr g)]
  · rw [if_neg (fun z => g (h.mp z.1)), if_neg (fun z => g (e0.mp z))]
theorem fs_f {p : Nat → Bool} {t : Nat} (hp : ¬ p t = true) : fs p (t + 1) = fs p t := if_neg (fun g => hp g.2)
theorem lp_X8_look {Q : Int32 → tS → Prop} {S : tS} {a b w : Int32} (ha : 0 ≤ a.toInt ∧ a.toInt ≤ 3) (hb : 0 ≤ b.toInt) (k : (¬ w = 0 → Q (fs (rsb a.toInt b.toInt) 49) S) ∧ (w = 0 → Q (nI (cnt (rsb a.toInt b.toInt) 49)) S)) : ∀ r i j : Nat, j ≤ 7 → i ≤ 7 → (7 * i + j) + r = 49 → (tk_Gs mX8_look none 46 [.ref 45, .int a, .int b, .int w, .int (nI (cnt (rsb a.toInt b.toInt) (7 * i + j))), .int (fs (rsb a.toInt b.toInt) (7 * i + j)), .int (nI i), .null, .null, .null, .null] [] S Q ∨ 0 < j) ∧ (i < 7 → tk_Gs mX8_look none 56 [.ref 45, .int a, .int b, .int w, .int (nI (cnt (rsb a.toInt b.toInt) (7 * i + j))), .int (fs (rsb a.toInt b.toInt) (7 * i + j)), .int (nI i), .int (nI j), .null, .null, .null] [] S Q) := by
  have go : ∀ (i j : Nat), i < 7 → j < 7 → (tk_Gs mX8_look none 56 [.ref 45, .int a, .int b, .int w, .int (nI (cnt (rsb a.toInt b.toInt) (7 * i + (j + 1)))), .int (fs (rsb a.toInt b.toInt) (7 * i + (j + 1))), .int (nI i), .int (nI (j + 1)), .null, .null, .null] [] S Q) → tk_Gs mX8_look none 56 [.ref 45, .int a, .int b, .int w, .int (nI (cnt (rsb a.toInt b.toInt) (7 * i + j))), .int (fs (rsb a.toInt b.toInt) (7 * i + j)), .int (nI i), .int (nI j), .null, .null, .null] [] S Q := by
    intro i j hi hj h
    rw [show 7 * i + (j + 1) = (7 * i + j) + 1 by omega] at h
    refine w_X8_look_56 _ _ _ _ _ _ _ ⟨fun c => absurd c (nI_ge (a := j) (b := 7) (by omega) (by omega)), fun c => sp_X8_gains (by omega) (by omega) ha hb (fun x hx => ?_)⟩
    refine lp_X8_look3 (by omega) (by omega) ha hb hx (fun hr => ?_) (fun hr => ?_) 7 0 rfl 1 (Or.inl ⟨rfl, fun d hd => absurd hd (Nat.not_lt_zero _)⟩)
    · have ep : ¬ rsb a.toInt b.toInt (7 * i + j) = true := fun g => hr ((rsb_t (by omega)).mp g)
      rw [cnt_f ep, fs_f ep] at h
      exact h
    · have ep : rsb a.toInt b.toInt (7 * i + j) = true := (rsb_t (by omega)).mpr hr
      rw [cnt_t ep, fs_t (by omega) ep, show (7 * i + j) / 7 = i by omega, show (7 * i + j) % 7 = j by omega] at h
      rw [nI_1]
      exact h
  have e46 : ∀ i : Nat, i ≤ 7 → (i = 7 → (7 * i + 0) = 49) → (i < 7 → tk_Gs mX8_look none 56 [.ref 45, .int a, .int b, .int w, .int (nI (cnt (rsb a.toInt b.toInt) (7 * i + 0))), .int (fs (rsb a.toInt b.toInt) (7 * i + 0)), .int (nI i), .int (nI 0), .null, .null, .null] [] S Q) → tk_Gs mX8_look none 46 [.ref 45, .int a, .int b, .int w, .int (nI (cnt (rsb a.toInt b.toInt) (7 * i + 0))), .int (fs (rsb a.toInt b.toInt) (7 * i + 0)), .int (nI i), .null, .null, .null, .null] [] S Q := by
    intro i hi h7 h
    by_cases e : i = 7
    · subst e
      exact w_X8_look_46 _ _ _ _ _ _ ⟨fun _ => k, fun c => absurd (nI_le (a := 7) (b := 7) (by omega) (by omega)) c⟩
    · exact w_X8_look_46 _ _ _ _ _ _ ⟨fun c => absurd c (nI_ge (a := i) (b := 7) (by omega) (by omega)), fun _ => h (by omega)⟩
  intro r
  induction r with
  | zero =>
    intro i j hj hi e
    have e : 7 * i + j = 49 := e
    by_cases h7 : i = 7
    · subst h7
      have : j = 0 := by omega
      subst this
      exact ⟨Or.inl (e46 7 (by omega) (fun _ => rfl) (fun h => absurd h (by decide))), fun h => absurd h (by decide)⟩
    · have h6 : i = 6 := by omega
      subst h6
      have : j = 7 := by omega
      subst this
      refine ⟨Or.inr (by decide), fun _ => w_X8_look_56 _ _ _ _ _ _ _ ⟨fun _ => ?_, fun c => absurd (nI_le (a := 7) (b := 7) (by omega) (by omega)) c⟩⟩
      rw [nI_1]
      exact e46 7 (by omega) (fun _ => rfl) (fun h => absurd h (by decide))
  | succ r ih =>
    intro i j hj hi e
    have h7 : i < 7 := by omega
    have G : tk_Gs mX8_look none 56 [.ref 45, .int a, .int b, .int w, .int (nI (cnt (rsb a.toInt b.toInt) (7 * i + j))), .int (fs (rsb a.toInt b.toInt) (7 * i + j)), .int (nI i), .int (nI j), .null, .null, .null] [] S Q := by
      by_cases hj7 : j = 7
      · subst hj7
        refine w_X8_look_56 _ _ _ _ _ _ _ ⟨fun _ => ?_, fun c => absurd (nI_le (a := 7) (b := 7) (by omega) (by omega)) c⟩
        rw [nI_1, show 7 * i + 7 = 7 * (i + 1) + 0 by omega]
        refine e46 (i + 1) (by omega) (fun h => by omega) (fun h => ?_)
        exact go (i + 1) 0 h (by omega) ((ih (i + 1) 1 (by omega) (by omega) (by omega)).2 h)
      · exact go i j h7 (by omega) ((ih i (j + 1) (by omega) (by omega) (by omega)).2 h7)
    refine ⟨?_, fun _ => G⟩
    by_cases h0 : j = 0
    · subst h0
      exact Or.inl (e46 i hi (fun h => by omega) (fun _ => G))
    · exact Or.inr (by omega)
def Pl (a b w : Int32) : Prop := (0 ≤ a.toInt ∧ a.toInt ≤ 3) ∧ (0 ≤ b.toInt ∧ b.toInt ≤ 30) ∧ 0 ≤ w.toInt ∧ w.toInt ≤ 1
theorem sp_X8_look {Q : Int32 → tS → Prop} {S : tS} {a b w : Int32} (k0 : ¬ Pl a b w → Q (-1) S) (k1 : Pl a b w → (¬ w = 0 → Q (fs (rsb a.toInt b.toInt) 49) S) ∧ (w = 0 → Q (nI (cnt (rsb a.toInt b.toInt) 49)) S)) : tk_Ms mX8_look [.ref 45, .int a, .int b, .int w] S Q := by
  refine w_X8_look a b w (sp_X8_in (fun h => zf (okI (by decide) (k0 (fun g => h ?_)))) (fun ha => zt (sp_X8_in (fun h => zf (okI (by decide) (k0 (fun g => h ?_)))) (fun hb => zt (sp_X8_in (fun h => zf' (okI (by decide) (k0 (fun g => h ?_)))) (fun hc => zt' ?_))))))
  · simp only [l64, Int64.reduceToInt]; exact g.1
  · simp only [l64, Int64.reduceToInt]; exact g.2.1
  · simp only [l64, Int64.reduceToInt]; exact g.2.2
  · simp only [l64, Int64.reduceToInt] at ha hb hc
    obtain ⟨j1, j2⟩ := k1 ⟨ha, hb, hc⟩
    exact (lp_X8_look (w := w) ha hb.1 ⟨fun h => okI (μ := mX8_look) (by decide) (j1 h), fun h => okI (μ := mX8_look) (by decide) (j2 h)⟩ 49 0 0 (by omega) (by omega) rfl).1.elim id (fun h => absurd h (by decide))
theorem pr_look {S : tS} (hI : Inv S) (a b w : Int32) : tk_Ms mX7_look [.ref 0, .int a, .int b, .int w] S (fun x S1 => tk_Ms mX8_look [.ref 45, .int a, .int b, .int w] S1 (fun y S2 => x = y ∧ Inv S2)) := by
  have mB : ¬ Pl a b w → tk_Ms mX8_look [.ref 45, .int a, .int b, .int w] S (fun y S2 => -1 = y ∧ Inv S2) := fun h => sp_X8_look (fun _ => ⟨rfl, hI⟩) (fun g => absurd g h)
  refine w_X7_look a b w (sp_X7_isKind (fun h => zf (okI (by decide) (mB (fun g => h g.1)))) (fun ha => zt (sp_X7_isStay (fun h => zf (okI (by decide) (mB (fun g => h g.2.1)))) (fun hb => zt ⟨fun c => okI (by decide) (mB (fun g => ?_)), fun c => ⟨fun d => ?_, fun d => okI (by decide) (mB (fun g => ?_))⟩⟩))))
  · have := g.2.2
    simp only [xlt, xle, Int32.reduceToInt] at c
    omega
  · refine (lp_X7_look (w := w) hb.1 ⟨fun h => okI (μ := mX7_look) (by decide) ?_, fun h => okI (μ := mX7_look) (by decide) ?_⟩ 49 0 0 (by omega) (by omega) (by omega)).2 rfl
    · exact sp_X8_look (fun g => absurd ⟨ha, hb, by simp only [xlt, xle, Int32.reduceToInt] at c d; omega⟩ g) (fun _ => ⟨fun _ => ⟨rfl, hI⟩, fun g => absurd g h⟩)
    · exact sp_X8_look (fun g => absurd ⟨ha, hb, by simp only [xlt, xle, Int32.reduceToInt] at c d; omega⟩ g) (fun _ => ⟨fun g => absurd h g, fun g => ⟨rfl, hI⟩⟩)
  · have := g.2.2
    simp only [xlt, xle, Int32.reduceToInt] at d
    omega
