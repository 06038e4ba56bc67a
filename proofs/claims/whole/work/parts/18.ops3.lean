/-! WHAT A KEY SHOWS: SHOWN, CHANGE, WASH, COUNT -/
def shv (k s d : Int) : Int := min s (if k = 1 ∨ k = 3 then max 0 (d - 2) else if k = 2 then 2 * d else d)
theorem mulT2 {x : Int32} (h0 : 0 ≤ x.toInt) (h1 : x.toInt ≤ 1000) : (2 * x).toInt = 2 * x.toInt := by
  rw [Int32.toInt_mul]
  simp only [Int.bmod, Int32.reduceToInt]
  split <;> omega
theorem ge0 {x : Int32} : 0 ≤ x ↔ 0 ≤ x.toInt := by rw [xle]; rfl
theorem lt0 {x : Int32} : x < 0 ↔ x.toInt < 0 := by rw [xlt]; rfl
theorem gt0 {x : Int32} : 0 < x ↔ 0 < x.toInt := by rw [xlt]; rfl
theorem le0 {x : Int32} : x ≤ 0 ↔ x.toInt ≤ 0 := by rw [xle]; rfl
theorem sp_X3_shows {Q : Int32 → tS → Prop} {S : tS} {p s d : Int32} (hs : 0 ≤ s.toInt) (h0 : 0 ≤ d.toInt) (h1 : d.toInt ≤ 1000) (k : ∀ x : Int32, x.toInt = shv p.toInt s.toInt d.toInt → Q x S) : tk_Ms mX3_shows [.int p, .int s, .int d] S Q := by
  have e1 : (d - 2).toInt = d.toInt - 2 := by rw [subT] <;> simp only [Int32.reduceToInt] <;> omega
  have e2 := mulT2 h0 h1
  have p1 : p = 1 ↔ p.toInt = 1 := by rw [xeq]; rfl
  have p2 : p = 2 ↔ p.toInt = 2 := by rw [xeq]; rfl
  have p3 : p = 3 ↔ p.toInt = 3 := by rw [xeq]; rfl
  have hb : (if (if 0 < (d - 2) then (d - 2) else 0) < s then (if 0 < (d - 2) then (d - 2) else 0) else s).toInt = min s.toInt (max 0 (d.toInt - 2)) := by
    by_cases c1 : 0 < d - 2
    · simp only [if_pos c1]
      rw [gt0, e1] at c1
      by_cases c2 : d - 2 < s
      · rw [if_pos c2, e1]
        rw [xlt, e1] at c2
        omega
      · rw [if_neg c2]
        rw [xlt, e1] at c2
        omega
    · simp only [if_neg c1]
      rw [gt0, e1] at c1
      by_cases c2 : 0 < s
      · rw [if_pos c2]
        rw [gt0] at c2
        simp only [Int32.reduceToInt]
        omega
      · rw [if_neg c2]
        rw [gt0] at c2
        omega
  refine w_X3_shows p s d ⟨fun c => okI (by decide) (k _ ?_), fun c => ⟨fun c3 => ⟨fun c2 => okI (by decide) (k _ ?_), fun c2 => okI (by decide) (k _ ?_)⟩, fun c3 => okI (by decide) (k _ ?_)⟩⟩
  · rw [hb]; unfold shv; rw [if_pos (Or.inl (p1.mp c))]
  · have n1 : ¬ p.toInt = 1 := fun h => c (p1.mpr h)
    have n3 : ¬ p.toInt = 3 := fun h => c3 (p3.mpr h)
    have n2 : ¬ p.toInt = 2 := fun h => c2 (p2.mpr h)
    have e : shv p.toInt s.toInt d.toInt = min s.toInt d.toInt := by
      unfold shv
      rw [if_neg (by omega), if_neg n2]
    rw [e]
    by_cases z : d < s
    · rw [if_pos z]; rw [xlt] at z; omega
    · rw [if_neg z]; rw [xlt] at z; omega
  · have n2 : p.toInt = 2 := p2.mp c2
    have e : shv p.toInt s.toInt d.toInt = min s.toInt (2 * d.toInt) := by
      unfold shv
      rw [if_neg (by omega), if_pos n2]
    rw [e]
    by_cases z : 2 * d < s
    · rw [if_pos z, e2]; rw [xlt, e2] at z; omega
    · rw [if_neg z]; rw [xlt, e2] at z; omega
  · rw [hb]; unfold shv; rw [if_pos (Or.inr (p3.mp c3))]
theorem sp_X8_shownOf {Q : Int32 → tS → Prop} {S : tS} {p s d : Int32} (hp : 0 ≤ p.toInt ∧ p.toInt ≤ 3) (hs : 0 ≤ s.toInt) (h0 : 0 ≤ d.toInt) (h1 : d.toInt ≤ 1000) (k : ∀ x : Int32, x.toInt = shv p.toInt s.toInt d.toInt → Q x S) : tk_Ms mX8_shownOf [.int p, .int s, .int d] S Q := by
  have e1 : (d - 2).toInt = d.toInt - 2 := by rw [subT] <;> simp only [Int32.reduceToInt] <;> omega
  have e2 := mulT2 h0 h1
  have p0 : p = 0 ↔ p.toInt = 0 := by rw [xeq]; rfl
  have p2 : p = 2 ↔ p.toInt = 2 := by rw [xeq]; rfl
  have z0 : (0 : Int32).toInt = 0 := rfl
  refine w_X8_shownOf p s d ⟨fun c => ⟨fun c2 => ?_, fun c2 => ?_⟩, fun c => ?_⟩
  · have n0 : ¬ p.toInt = 0 := fun h => c (p0.mpr h)
    have n2 : ¬ p.toInt = 2 := fun h => c2 (p2.mpr h)
    have e : shv p.toInt s.toInt d.toInt = min s.toInt (max 0 (d.toInt - 2)) := by
      unfold shv
      rw [if_pos (by omega)]
    rw [e] at k
    refine ⟨fun c3 => ⟨fun c4 => okI (by decide) (k _ ?_), fun c4 => okI (by decide) (k _ ?_)⟩, fun c3 => ⟨fun c4 => okI (by decide) (k _ ?_), fun c4 => okI (by decide) (k _ ?_)⟩⟩ <;> simp only [ge0, le0, xle, e1] at c3 c4 <;> simp only [e1, z0] at * <;> omega
  · have n2 : p.toInt = 2 := p2.mp c2
    have e : shv p.toInt s.toInt d.toInt = min s.toInt (2 * d.toInt) := by
      unfold shv
      rw [if_neg (by omega), if_pos n2]
    rw [e] at k
    refine ⟨fun c3 => ⟨fun c4 => okI (by decide) (k _ ?_), fun c4 => okI (by decide) (k _ ?_)⟩, fun c3 => ⟨fun c4 => okI (by decide) (k _ ?_), fun c4 => okI (by decide) (k _ ?_)⟩⟩ <;> simp only [ge0, le0, xle, e2] at c3 c4 <;> simp only [e2, z0] at * <;> omega
  · have n0 : p.toInt = 0 := p0.mp c
    have e : shv p.toInt s.toInt d.toInt = min s.toInt d.toInt := by
      unfold shv
      rw [if_neg (by omega), if_neg (by omega)]
    rw [e] at k
    refine ⟨fun c3 => ⟨fun c4 => okI (by decide) (k _ ?_), fun c4 => okI (by decide) (k _ ?_)⟩, fun c3 => ⟨fun c4 => okI (by decide) (k _ ?_), fun c4 => okI (by decide) (k _ ?_)⟩⟩ <;> simp only [ge0, le0, xle] at c3 c4 <;> simp only [z0] at * <;> omega
/-- what key i shows on day d -/
def kx (S : tS) (d : Int32) (i : Nat) : Int := shv (S 6 i).toInt (S 9 i).toInt (d.toInt - (S 10 i).toInt)
def kOk (S : tS) (i : Nat) : Prop := S 49 i = S 6 i ∧ S 50 i = S 7 i ∧ S 51 i = S 8 i ∧ S 52 i = S 9 i ∧ (S 9 i ≠ 0 → S 53 i = S 10 i) ∧ (S 9 i = 0 → S 10 i = 0) ∧ 0 ≤ (S 6 i).toInt ∧ (S 6 i).toInt ≤ 3 ∧ (S 7 i = 0 ∨ S 7 i = 1) ∧ 0 ≤ (S 8 i).toInt ∧ (S 8 i).toInt ≤ 4 ∧ 0 ≤ (S 9 i).toInt ∧ (S 9 i).toInt ≤ 30 ∧ 0 ≤ (S 10 i).toInt ∧ (S 10 i).toInt ≤ (S 0 2).toInt
theorem Inv.keys {S : tS} (hI : Inv S) : ∃ n : Nat, n ≤ 8 ∧ S 5 0 = nI n ∧ S 45 9 = nI n ∧ ∀ i, i < n → kOk S i := hI.2.2.1
theorem Inv.today {S : tS} (hI : Inv S) : S 45 10 = S 0 2 ∧ 0 ≤ (S 0 2).toInt ∧ (S 0 2).toInt ≤ 999 := hI.2.2.2.1
theorem sp_X3_showsOn {Q : Int32 → tS → Prop} {S : tS} {p d : Int32} {i : Nat} (hi : i < 8) (e : p = nI i) (h : kOk S i) (h0 : (S 0 2).toInt ≤ d.toInt) (h1 : d.toInt ≤ 999) (k : ∀ x : Int32, x.toInt = kx S d i → Q x S) : tk_Ms mX3_showsOn [.ref 5, .int p, .int d] S Q := by
  obtain ⟨-, -, -, -, -, -, a1, a2, -, -, -, a3, a4, a5, a6⟩ := h
  have v : vp_in p 8 := by rw [e]; exact vp_in_nI hi (by omega)
  have c : p.toNatClampNeg = i := by rw [e]; exact nI_c (by omega)
  have ed : (d - S 10 i).toInt = d.toInt - (S 10 i).toInt := subT (by omega) (by omega)
  refine w_X3_showsOn p d ⟨v, v, v, ?_⟩
  rw [c]
  refine sp_X3_shows a3 (by omega) (by omega) (fun x hx => okI (by decide) (k x ?_))
  rw [hx, ed]
  rfl
theorem sp_X8_shownBy {Q : Int32 → tS → Prop} {S : tS} {p d : Int32} {i : Nat} (hi : i < 8) (e : p = nI i) (h : kOk S i) (hd : 0 ≤ (S 0 2).toInt) (h0 : (S 0 2).toInt ≤ d.toInt) (h1 : d.toInt ≤ 999) (k : ∀ x : Int32, x.toInt = kx S d i → Q x S) : tk_Ms mX8_shownBy [.ref 45, .int p, .int d] S Q := by
  obtain ⟨b1, b2, b3, b4, b5, b6, a1, a2, -, -, -, a3, a4, a5, a6⟩ := h
  have v : vp_in p 8 := by rw [e]; exact vp_in_nI hi (by omega)
  have c : p.toNatClampNeg = i := by rw [e]; exact nI_c (by omega)
  refine w_X8_shownBy p d ⟨v, ?_⟩
  rw [c, b4]
  refine ⟨fun z => ⟨v, v, v, ?_⟩, fun z => okI (by decide) (k 0 ?_)⟩
  · rw [b1, b5 z]
    have ed : (d - S 10 i).toInt = d.toInt - (S 10 i).toInt := subT (by omega) (by omega)
    refine sp_X8_shownOf ⟨a1, a2⟩ a3 (by omega) (by omega) (fun x hx => okI (by decide) (k x ?_))
    rw [hx, ed]
    rfl
  · have e1 : (S 9 i).toInt = 0 := by rw [z]; rfl
    have e2 : (S 10 i).toInt = 0 := by rw [b6 z]; rfl
    unfold kx shv
    rw [e1, e2]
    show (0 : Int) = _
    split
    · omega
    · split <;> omega
theorem ieq {x y : Int32} {z : Int} (h1 : x.toInt = z) (h2 : y.toInt = z) : x = y := Int32.toInt_inj.mp (h1.trans h2.symm)
theorem pr_shown {S : tS} (hI : Inv S) (a b : Int32) : tk_Ms mX7_shown [.ref 0, .int a, .int b] S (fun x S1 => tk_Ms mX8_shown [.ref 45, .int a, .int b] S1 (fun y S2 => x = y ∧ Inv S2)) := by
  obtain ⟨n, hn, e1, e2, hK⟩ := hI.keys
  obtain ⟨et, t0, t1⟩ := hI.today
  have e3 : S 45 9 = S 5 0 := by rw [e1, e2]
  have q1 : 0 ≤ (S 45 9).toInt := by rw [e2, nI_t (by omega)]; omega
  refine w_X7_shown a b (sp_X3_has (fun h => zf (okI (by decide) (w_X8_shown a b (sp_X8_isKey q1 (fun _ => zf (okI (by decide) ⟨rfl, hI⟩)) (fun g => absurd (by rw [← e3]; exact g) h))))) (fun h => zt ?_))
  obtain ⟨hlt, ea⟩ := plc e1 (by omega) h
  have e4 : (S 45 10).toInt64.toInt = (S 0 2).toInt := by rw [l64, et]
  refine sp_X7_isDayAhead (fun g => zf' (okI (by decide) (w_X8_shown a b (sp_X8_isKey q1 (fun z => absurd (by rw [e3]; exact h) z) (fun _ => zt (sp_X8_in (fun _ => zf (okI (by decide) ⟨rfl, hI⟩)) (fun z => absurd (by rw [e4, l64] at z; exact z) g))))))) (fun g => zt' ?_)
  refine sp_X3_showsOn (by omega) ea (hK _ hlt) g.1 g.2 (fun x hx => okI (by decide) ?_)
  refine w_X8_shown a b (sp_X8_isKey q1 (fun z => absurd (by rw [e3]; exact h) z) (fun _ => zt (sp_X8_in (fun z => absurd (by rw [e4, l64]; exact g) z) (fun _ => zt (sp_X8_shownBy (by omega) ea (hK _ hlt) t0 g.1 g.2 (fun y hy => okI (by decide) ⟨ieq hx hy, hI⟩))))))
