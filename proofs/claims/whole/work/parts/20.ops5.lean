/-! WASH, BEEN, LOOK -/
theorem half {x : Int32} (h0 : 0 ≤ x.toInt) (h1 : x.toInt ≤ 30) : 0 ≤ (x / 2).toInt ∧ (x / 2).toInt ≤ 30 := by
  have e := nI_of_t h0
  have t := tn h0
  have e2 : x / 2 = nI (x.toNatClampNeg / 2) := by
    conv => lhs; rw [e]
    exact pk_div (d := 2) (by omega) (by omega) (by omega)
  rw [e2, nI_t (by omega)]
  omega
theorem pr_wash {S : tS} (hI : Inv S) (a b : Int32) : tk_Ms mX7_wash [.ref 0, .int a, .int b] S (fun x S1 => tk_Ms mX8_wash [.ref 45, .int a, .int b] S1 (fun y S2 => x = y ∧ Inv S2)) := by
  have hI0 := hI
  obtain ⟨n, hn, e1, e2, hK⟩ := hI.keys
  obtain ⟨et, t0, t1⟩ := hI.today
  have e3 : S 45 9 = S 5 0 := by rw [e1, e2]
  have q1 : 0 ≤ (S 45 9).toInt := by rw [e2, nI_t (by omega)]; omega
  have mB : ¬ ((0 ≤ a.toInt ∧ a.toInt ≤ 3) ∧ 0 ≤ b.toInt ∧ b.toInt < (S 5 0).toInt) → tk_Ms mX8_wash [.ref 45, .int a, .int b] S (fun y S2 => -1 = y ∧ Inv S2) := fun h =>
    w_X8_wash a b (sp_X8_isSister (fun _ => zf (okI (by decide) ⟨rfl, hI0⟩)) (fun g => zt (sp_X8_isKey q1 (fun _ => zf' (okI (by decide) ⟨rfl, hI0⟩)) (fun g2 => absurd (show (0 ≤ a.toInt ∧ a.toInt ≤ 3) ∧ 0 ≤ b.toInt ∧ b.toInt < (S 5 0).toInt from ⟨g, by rw [← e3]; exact g2⟩) h))))
  refine w_X7_wash a b (sp_X7_isSister (fun h => zf (okI (by decide) (mB (fun g => h g.1)))) (fun ha => zt (sp_X3_has (fun h => zf' (okI (by decide) (mB (fun g => h g.2)))) (fun h => zt' ?_))))
  obtain ⟨hlt, ea⟩ := plc e1 (by omega) h
  have v : vp_in b 8 := vin h.1 (by have := h.2; rw [e1, nI_t (by omega)] at this; omega)
  have key := hK _ hlt
  have mK : ∀ {S1 : tS} {T : Int32 → tS → Prop}, S1 45 9 = S 45 9 → S1 51 = S 51 → S1 49 = S 49 → S1 52 = S 52 → (S 51 b.toNatClampNeg = a → S 49 b.toNatClampNeg = 3 → T (S 52 b.toNatClampNeg / 2) (tk_up S1 52 b.toNatClampNeg (S 52 b.toNatClampNeg / 2))) → (¬ (S 51 b.toNatClampNeg = a ∧ S 49 b.toNatClampNeg = 3) → T (-2) S1) → tk_Ms mX8_wash [.ref 45, .int a, .int b] S1 T := by
    intro S1 T g1 g2 g3 g4 ka kb
    refine w_X8_wash a b (sp_X8_isSister (fun z => absurd ha z) (fun _ => zt (sp_X8_isKey (by rw [g1]; exact q1) (fun z => absurd (by rw [g1, e3]; exact h) z) (fun _ => zt' ⟨v, fun z => okI (by decide) ?_, fun z => ⟨v, fun w => ⟨v, v, v, okI (by decide) ?_⟩, fun w => okI (by decide) ?_⟩⟩))))
    · rw [g2] at z
      exact kb (fun g => z g.1)
    · rw [g2] at z
      rw [g3] at w
      rw [g4, tk_up_ss]
      exact ka z w
    · rw [g3] at w
      exact kb (fun g => w g.2)
  have n2 : ∀ {S1 : tS}, Inv S1 → (-2 : Int32) = -2 ∧ Inv S1 := fun h => ⟨rfl, h⟩
  refine ⟨v, fun z => okI (by decide) (mK rfl rfl rfl rfl (fun w _ => absurd (key.2.2.1.symm.trans w) z) (fun _ => ⟨rfl, hI0⟩)), fun z => ⟨v, fun w => ?_, fun w => okI (by decide) (mK rfl rfl rfl rfl (fun _ g => absurd (key.1.symm.trans g) w) (fun _ => ⟨rfl, hI0⟩))⟩⟩
  obtain ⟨g1, g2, -, g4⟩ := hI0
  obtain ⟨k1, k2, k3, k4, k5, k6, k7, k8, k9, k10, k11, k12, k13, k14, k15⟩ := key
  have hh := half k12 k13
  have nK : ¬ (S 51 b.toNatClampNeg = a ∧ S 49 b.toNatClampNeg = 3) → False := fun g => g ⟨k3.trans z, k1.trans w⟩
  refine w_X3_halve b ⟨v, v, v, fun c => okI (by decide) ⟨v, okI (by decide) ?_⟩, fun c => ⟨v, okI (by decide) ⟨v, okI (by decide) ?_⟩⟩⟩
  · rw [tk_up_ss] at c
    refine mK rfl rfl rfl rfl (fun _ _ => ⟨?_, ?_⟩) (fun g => (nK g).elim)
    · rw [tk_up_ss, k4]
    · refine ⟨g1, g2, ⟨n, hn, e1, e2, fun i hi => ?_⟩, g4⟩
      show S 49 i = S 6 i ∧ S 50 i = S 7 i ∧ S 51 i = S 8 i ∧ upd (S 52) b.toNatClampNeg (S 52 b.toNatClampNeg / 2) i = upd (S 9) b.toNatClampNeg (S 9 b.toNatClampNeg / 2) i ∧ (upd (S 9) b.toNatClampNeg (S 9 b.toNatClampNeg / 2) i ≠ 0 → S 53 i = S 10 i) ∧ (upd (S 9) b.toNatClampNeg (S 9 b.toNatClampNeg / 2) i = 0 → S 10 i = 0) ∧ 0 ≤ (S 6 i).toInt ∧ (S 6 i).toInt ≤ 3 ∧ (S 7 i = 0 ∨ S 7 i = 1) ∧ 0 ≤ (S 8 i).toInt ∧ (S 8 i).toInt ≤ 4 ∧ 0 ≤ (upd (S 9) b.toNatClampNeg (S 9 b.toNatClampNeg / 2) i).toInt ∧ (upd (S 9) b.toNatClampNeg (S 9 b.toNatClampNeg / 2) i).toInt ≤ 30 ∧ 0 ≤ (S 10 i).toInt ∧ (S 10 i).toInt ≤ (S 0 2).toInt
      by_cases hib : i = b.toNatClampNeg
      · subst hib
        simp only [upd_s, k4]
        refine ⟨k1, k2, k3, trivial, fun _ => k5 (fun m0 => c ?_), fun m0 => absurd m0 c, k7, k8, k9, k10, k11, hh.1, hh.2, k14, k15⟩
        rw [m0]; rfl
      · simp only [upd_n hib]
        exact hK i hi
  · rw [tk_up_ss] at c
    refine mK rfl rfl rfl rfl (fun _ _ => ⟨?_, ?_⟩) (fun g => (nK g).elim)
    · rw [tk_up_n (show 9 ≠ 10 by decide), tk_up_ss, k4]
    · refine ⟨g1, g2, ⟨n, hn, e1, e2, fun i hi => ?_⟩, g4⟩
      show S 49 i = S 6 i ∧ S 50 i = S 7 i ∧ S 51 i = S 8 i ∧ upd (S 52) b.toNatClampNeg (S 52 b.toNatClampNeg / 2) i = upd (S 9) b.toNatClampNeg (S 9 b.toNatClampNeg / 2) i ∧ (upd (S 9) b.toNatClampNeg (S 9 b.toNatClampNeg / 2) i ≠ 0 → S 53 i = upd (S 10) b.toNatClampNeg 0 i) ∧ (upd (S 9) b.toNatClampNeg (S 9 b.toNatClampNeg / 2) i = 0 → upd (S 10) b.toNatClampNeg 0 i = 0) ∧ 0 ≤ (S 6 i).toInt ∧ (S 6 i).toInt ≤ 3 ∧ (S 7 i = 0 ∨ S 7 i = 1) ∧ 0 ≤ (S 8 i).toInt ∧ (S 8 i).toInt ≤ 4 ∧ 0 ≤ (upd (S 9) b.toNatClampNeg (S 9 b.toNatClampNeg / 2) i).toInt ∧ (upd (S 9) b.toNatClampNeg (S 9 b.toNatClampNeg / 2) i).toInt ≤ 30 ∧ 0 ≤ (upd (S 10) b.toNatClampNeg 0 i).toInt ∧ (upd (S 10) b.toNatClampNeg 0 i).toInt ≤ (S 0 2).toInt
      by_cases hib : i = b.toNatClampNeg
      · subst hib
        simp only [upd_s, k4]
        exact ⟨k1, k2, k3, trivial, fun m0 => absurd c m0, fun _ => trivial, k7, k8, k9, k10, k11, hh.1, hh.2, by decide, t0⟩
      · simp only [upd_n hib]
        exact hK i hi
def sms (f : Nat → Nat) : Nat → Nat
  | 0 => 0
  | n + 1 => sms f n + f n
/-- in how many ways a stain of m minutes shows so much -/
def bn (k much day : Int) (m : Nat) : Nat → Nat := cnt (fun j => decide (shv k (m : Int) (day - (j : Int)) = much))
def bnT (k much day : Int) (d : Nat) : Nat → Nat := sms (fun u => bn k much day (u + 1) (d + 1))
theorem lp_X7_been2 {Q : Int32 → tS → Prop} {S : tS} {a b : Int32} {d m v0 : Nat} (hd : d ≤ 99) (hm : m ≤ 30) (k : tk_Gs mX7_been none 43 [.ref 0, .int a, .int b, .int (nI d), .int (nI (v0 + bn a.toInt b.toInt d m (d + 1))), .int (nI m + 1), .null] [] S Q) : ∀ r j : Nat, j + r = d + 1 → tk_Gs mX7_been none 53 [.ref 0, .int a, .int b, .int (nI d), .int (nI (v0 + bn a.toInt b.toInt d m j)), .int (nI m), .int (nI j)] [] S Q
  | 0, j, e => by
    have e : j = d + 1 := e
    subst e
    exact w_X7_been_53 _ _ _ _ _ _ ⟨fun _ => k, fun c => absurd (nI_lt (by omega) (by omega)) c⟩
  | r + 1, j, e => by
    have es : nI d - nI j = nI (d - j) := pk_sub (by omega)
    refine w_X7_been_53 _ _ _ _ _ _ ⟨fun c => absurd c (nI_nlt (by omega) (by omega)), fun c => ?_⟩
    rw [es]
    refine sp_X3_shows (by rw [nI_t (by omega)]; omega) (by rw [nI_t (by omega)]; omega) (by rw [nI_t (by omega)]; omega) (fun x hx => ?_)
    rw [nI_t (by omega), nI_t (by omega), show ((d - j : Nat) : Int) = (d : Int) - j by omega] at hx
    refine ⟨fun h => ?_, fun h => ?_⟩
    · have hb : bn a.toInt b.toInt d m (j + 1) = bn a.toInt b.toInt d m j := cnt_f (by simp only [decide_eq_true_eq]; rw [← hx]; exact fun g => h (Int32.toInt_inj.mp g))
      rw [← hb, nI_1]
      exact lp_X7_been2 hd hm k r (j + 1) (by omega)
    · have hb : bn a.toInt b.toInt d m (j + 1) = bn a.toInt b.toInt d m j + 1 := cnt_t (by simp only [decide_eq_true_eq]; rw [← hx, h])
      rw [nI_1, nI_1, show v0 + bn a.toInt b.toInt d m j + 1 = v0 + bn a.toInt b.toInt d m (j + 1) by omega]
      exact lp_X7_been2 hd hm k r (j + 1) (by omega)
theorem lp_X7_been1 {Q : Int32 → tS → Prop} {S : tS} {a b : Int32} {d v0 : Nat} (hd : d ≤ 99) (k : Q (nI (v0 + bnT a.toInt b.toInt d d 30)) S) : ∀ r u : Nat, u + r = 30 → tk_Gs mX7_been none 43 [.ref 0, .int a, .int b, .int (nI d), .int (nI (v0 + bnT a.toInt b.toInt d d u)), .int (nI u + 1), .null] [] S Q
  | 0, u, e => by
    have e : u = 30 := e
    subst e
    exact w_X7_been_43 _ _ _ _ _ ⟨fun _ => k, fun c => absurd (by decide) c⟩
  | r + 1, u, e => by
    rw [nI_1]
    refine w_X7_been_43 _ _ _ _ _ ⟨fun c => absurd c (nI_nlt (b := u + 1) (a := 30) (by omega) (by omega)), fun c => ?_⟩
    refine lp_X7_been2 (m := u + 1) (v0 := v0 + bnT a.toInt b.toInt d d u) hd (by omega) ?_ (d + 1) 0 (by omega)
    have := lp_X7_been1 hd k r (u + 1) (by omega)
    rw [show v0 + bnT a.toInt b.toInt d d (u + 1) = v0 + bnT a.toInt b.toInt d d u + bn a.toInt b.toInt d (u + 1) (d + 1) by rw [Nat.add_assoc]; rfl] at this
    exact this
theorem lp_X8_been2 {Q : Int32 → tS → Prop} {S : tS} {a b : Int32} {d m v0 : Nat} (ha : 0 ≤ a.toInt ∧ a.toInt ≤ 3) (hd : d ≤ 99) (hm : m ≤ 30) (k : tk_Gs mX8_been none 52 [.ref 45, .int a, .int b, .int (nI d), .int (nI (v0 + bn a.toInt b.toInt d m (d + 1))), .int (nI m + 1), .null] [] S Q) : ∀ r j : Nat, j + r = d + 1 → tk_Gs mX8_been none 62 [.ref 45, .int a, .int b, .int (nI d), .int (nI (v0 + bn a.toInt b.toInt d m j)), .int (nI m), .int (nI j)] [] S Q
  | 0, j, e => by
    have e : j = d + 1 := e
    subst e
    exact w_X8_been_62 _ _ _ _ _ _ ⟨fun _ => k, fun c => absurd (nI_lt (by omega) (by omega)) c⟩
  | r + 1, j, e => by
    have es : nI d - nI j = nI (d - j) := pk_sub (by omega)
    refine w_X8_been_62 _ _ _ _ _ _ ⟨fun c => absurd c (nI_nlt (by omega) (by omega)), fun c => ?_⟩
    rw [es]
    refine sp_X8_shownOf ha (by rw [nI_t (by omega)]; omega) (by rw [nI_t (by omega)]; omega) (by rw [nI_t (by omega)]; omega) (fun x hx => ?_)
    rw [nI_t (by omega), nI_t (by omega), show ((d - j : Nat) : Int) = (d : Int) - j by omega] at hx
    refine ⟨fun h => ?_, fun h => ?_⟩
    · have hb : bn a.toInt b.toInt d m (j + 1) = bn a.toInt b.toInt d m j := cnt_f (by simp only [decide_eq_true_eq]; rw [← hx]; exact fun g => h (Int32.toInt_inj.mp g))
      rw [add0, ← hb, nI_1]
      exact lp_X8_been2 ha hd hm k r (j + 1) (by omega)
    · have hb : bn a.toInt b.toInt d m (j + 1) = bn a.toInt b.toInt d m j + 1 := cnt_t (by simp only [decide_eq_true_eq]; rw [← hx, h])
      rw [nI_1, nI_1, show v0 + bn a.toInt b.toInt d m j + 1 = v0 + bn a.toInt b.toInt d m (j + 1) by omega]
      exact lp_X8_been2 ha hd hm k r (j + 1) (by omega)
theorem lp_X8_been1 {Q : Int32 → tS → Prop} {S : tS} {a b : Int32} {d v0 : Nat} (ha : 0 ≤ a.toInt ∧ a.toInt ≤ 3) (hd : d ≤ 99) (k : Q (nI (v0 + bnT a.toInt b.toInt d d 30)) S) : ∀ r u : Nat, u + r = 30 → tk_Gs mX8_been none 52 [.ref 45, .int a, .int b, .int (nI d), .int (nI (v0 + bnT a.toInt b.toInt d d u)), .int (nI u + 1), .null] [] S Q
  | 0, u, e => by
    have e : u = 30 := e
    subst e
    exact w_X8_been_52 _ _ _ _ _ ⟨fun _ => k, fun c => absurd (by decide) c⟩
  | r + 1, u, e => by
    rw [nI_1]
    refine w_X8_been_52 _ _ _ _ _ ⟨fun c => absurd c (nI_nlt (b := u + 1) (a := 30) (by omega) (by omega)), fun c => ?_⟩
    refine lp_X8_been2 (m := u + 1) (v0 := v0 + bnT a.toInt b.toInt d d u) ha hd (by omega) ?_ (d + 1) 0 (by omega)
    have := lp_X8_been1 ha hd k r (u + 1) (by omega)
    rw [show v0 + bnT a.toInt b.toInt d d (u + 1) = v0 + bnT a.toInt b.toInt d d u + bn a.toInt b.toInt d (u + 1) (d + 1) by rw [Nat.add_assoc]; rfl] at this
    exact this
def Pb (a b c : Int32) : Prop := (0 ≤ a.toInt ∧ a.toInt ≤ 3) ∧ (0 ≤ b.toInt ∧ b.toInt ≤ 30) ∧ 0 ≤ c.toInt ∧ c.toInt ≤ 99
def bnV (a b c : Int32) : Nat := (if b = 0 then 1 else 0) + bnT a.toInt b.toInt c.toInt c.toNatClampNeg 30
theorem sp_X8_been {Q : Int32 → tS → Prop} {S : tS} {a b c : Int32} (k0 : ¬ Pb a b c → Q (-1) S) (k1 : Pb a b c → Q (nI (bnV a b c)) S) : tk_Ms mX8_been [.ref 45, .int a, .int b, .int c] S Q := by
  refine w_X8_been a b c (sp_X8_in (fun h => zf (okI (by decide) (k0 (fun g => h ?_)))) (fun ha => zt (sp_X8_in (fun h => zf (okI (by decide) (k0 (fun g => h ?_)))) (fun hb => zt (sp_X8_in (fun h => zf' (okI (by decide) (k0 (fun g => h ?_)))) (fun hc => zt' ?_))))))
  · simp only [l64, Int64.reduceToInt]; exact g.1
  · simp only [l64, Int64.reduceToInt]; exact g.2.1
  · simp only [l64, Int64.reduceToInt]; exact g.2.2
  · simp only [l64, Int64.reduceToInt] at ha hb hc
    have k2 := k1 ⟨ha, hb, hc⟩
    have ec := nI_of_t hc.1
    have tc := tn hc.1
    unfold bnV at k2
    rw [← tc] at k2
    refine ⟨fun z => ?_, fun z => ?_⟩
    · rw [if_neg z] at k2
      have := lp_X8_been1 (v0 := 0) ha (d := c.toNatClampNeg) (b := b) (by omega) (okI (μ := mX8_been) (by decide) k2) 30 0 rfl
      rw [← ec] at this
      exact this
    · rw [if_pos z] at k2
      have := lp_X8_been1 (v0 := 1) ha (d := c.toNatClampNeg) (b := b) (by omega) (okI (μ := mX8_been) (by decide) k2) 30 0 rfl
      rw [← ec] at this
      exact this
theorem pr_been {S : tS} (hI : Inv S) (a b c : Int32) : tk_Ms mX7_been [.ref 0, .int a, .int b, .int c] S (fun x S1 => tk_Ms mX8_been [.ref 45, .int a, .int b, .int c] S1 (fun y S2 => x = y ∧ Inv S2)) := by
  have mB : ¬ Pb a b c → tk_Ms mX8_been [.ref 45, .int a, .int b, .int c] S (fun y S2 => -1 = y ∧ Inv S2) := fun h => sp_X8_been (fun _ => ⟨rfl, hI⟩) (fun g => absurd g h)
  refine w_X7_been a b c (sp_X7_isKind (fun h => zf (okI (by decide) (mB (fun g => h g.1)))) (fun ha => zt ⟨fun d => okI (by decide) (mB (fun g => ?_)), fun d => ⟨fun e => okI (by decide) (mB (fun g => ?_)), fun e => ⟨fun f => okI (by decide) (mB (fun g => ?_)), fun f => ⟨fun z => ?_, fun z => okI (by decide) (mB (fun g => ?_))⟩⟩⟩⟩))
  · have := g.2.1; rw [lt0] at d; omega
  · have := g.2.1; rw [xlt] at e; simp only [Int32.reduceToInt] at e; omega
  · have := g.2.2; rw [lt0] at f; omega
  · rw [lt0] at d f
    rw [xlt] at e
    rw [xle] at z
    simp only [Int32.reduceToInt] at e z
    have hP : Pb a b c := ⟨ha, by omega, by omega⟩
    have ec := nI_of_t (x := c) (by omega)
    have tc := tn (i := c) (by omega)
    have mG : tk_Ms mX8_been [.ref 45, .int a, .int b, .int c] S (fun y S2 => nI (bnV a b c) = y ∧ Inv S2) := sp_X8_been (fun h => absurd hP h) (fun _ => ⟨rfl, hI⟩)
    have k2 : (fun x S1 => tk_Ms mX8_been [.ref 45, .int a, .int b, .int c] S1 (fun y S2 => x = y ∧ Inv S2)) (nI (bnV a b c)) S := mG
    unfold bnV at k2
    rw [← tc] at k2
    refine ⟨fun w => ?_, fun w => ?_⟩
    · rw [if_neg w] at k2
      have := lp_X7_been1 (Q := tk_okQ mX7_been (fun x S1 => tk_Ms mX8_been [.ref 45, .int a, .int b, .int c] S1 (fun y S2 => x = y ∧ Inv S2))) (S := S) (v0 := 0) (d := c.toNatClampNeg) (a := a) (b := b) (by omega) (okI (μ := mX7_been) (by decide) k2) 30 0 rfl
      rw [← ec] at this
      exact this
    · rw [if_pos w] at k2
      have := lp_X7_been1 (Q := tk_okQ mX7_been (fun x S1 => tk_Ms mX8_been [.ref 45, .int a, .int b, .int c] S1 (fun y S2 => x = y ∧ Inv S2))) (S := S) (v0 := 1) (d := c.toNatClampNeg) (a := a) (b := b) (by omega) (okI (μ := mX7_been) (by decide) k2) 30 0 rfl
      rw [← ec] at this
      exact this
  · have := g.2.2; rw [xle] at z; simp only [Int32.reduceToInt] at z; omega
