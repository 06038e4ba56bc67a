/-! ASKED: the object's rows -/
theorem lp_X1_ch34 {Q : Int32 → tS → Prop} {T : tS} {n : Nat} {p : Nat → Nat} {l1 l3 : Int32} (hn : n ≤ 6) (h30 : T 30 0 = nI n) (hp : ∀ i, i < n → T 34 i = nI (p i) ∧ p i < n) : ∀ (f i sn : Nat) (s : Nat → Bool) (u : Int32), sn + f = n → i < n → (∀ t, t < 32 → bt u t = s t) → (∀ u', (∀ t, t < 32 → bt u' t = orb p f s i t) → tk_Gs mX1_changesTo none 9 [.ref 30, .int l1, .int u', .int (l3 + 1), .null, .null] [] T Q) → tk_Gs mX1_changesTo none 34 [.ref 30, .int l1, .int u, .int l3, .int (nI i), .int (nI sn)] [] T Q := by
  intro f
  induction f with
  | zero =>
    intro i sn s u e hi hu k
    refine w_X1_changesTo_34 _ _ _ _ _ ⟨fun _ => k u hu, fun z => absurd (by rw [h30]; exact nI_le (by omega) (by omega)) z⟩
  | succ f ih =>
    intro i sn s u e hi hu k
    have b := hu i (by omega)
    refine w_X1_changesTo_34 _ _ _ _ _ ⟨fun z => absurd z (by rw [h30]; exact nI_ge (by omega) (by omega)), fun _ => ?_⟩
    rw [has1 u (by omega : i < 32), b]
    by_cases c : s i = true
    · have eo : orb p (f + 1) s i = s := if_pos c
      rw [eo] at k
      rw [if_pos c]
      exact zt' (k u hu)
    · have eo : orb p (f + 1) s i = orb p f (fun j => s j || decide (j = i)) (p i) := if_neg c
      rw [eo] at k
      rw [if_neg c]
      obtain ⟨p1, p2⟩ := hp i hi
      refine zf' ⟨vp_in_nI (by omega) (by omega), ?_⟩
      rw [nI_c (by omega), p1, nI_1]
      refine ih (p i) (sn + 1) (fun j => s j || decide (j = i)) _ (by omega) p2 (fun t ht => ?_) k
      rw [orbit u (by omega) ht, hu t ht]
theorem lp_X1_ch9 {Q : Int32 → tS → Prop} {T : tS} {n : Nat} {p : Nat → Nat} (hn : n ≤ 6) (h30 : T 30 0 = nI n) (hp : ∀ i, i < n → T 34 i = nI (p i) ∧ p i < n) : ∀ (q k : Nat) (s : Nat → Bool) (u : Int32) (c : Nat), k + q = n → c ≤ k → (∀ t, t < 32 → bt u t = s t) → Q (nI (n - cyc p n q k s c)) T → tk_Gs mX1_changesTo none 9 [.ref 30, .int (nI (n - c)), .int u, .int (nI k), .null, .null] [] T Q := by
  intro q
  induction q with
  | zero =>
    intro k s u c e hc hu kk
    exact w_X1_changesTo_9 _ _ _ ⟨fun _ => kk, fun z => absurd (by rw [h30]; exact nI_le (by omega) (by omega)) z⟩
  | succ q ih =>
    intro k s u c e hc hu kk
    refine w_X1_changesTo_9 _ _ _ ⟨fun z => absurd z (by rw [h30]; exact nI_ge (by omega) (by omega)), fun _ => ?_⟩
    have kk : Q (nI (n - cyc p n q (k + 1) (orb p n s k) (if s k = true then c else c + 1))) T := kk
    rw [has1 u (by omega : k < 32), hu k (by omega)]
    by_cases d : s k = true
    · rw [if_pos d] at kk ⊢
      refine zt' (lp_X1_ch34 hn h30 hp n k 0 s u (by omega) (by omega) hu (fun u' hu' => ?_))
      rw [nI_1]
      exact ih (k + 1) _ u' c (by omega) (by omega) hu' kk
    · rw [if_neg d] at kk ⊢
      refine zf' ?_
      rw [show n - c = (n - (c + 1)) + 1 by omega, nI_s1]
      refine lp_X1_ch34 hn h30 hp n k 0 s u (by omega) (by omega) hu (fun u' hu' => ?_)
      rw [nI_1]
      exact ih (k + 1) _ u' (c + 1) (by omega) (by omega) hu' kk
theorem sp_X1_changesTo {Q : Int32 → tS → Prop} {T : tS} {n : Nat} {p : Nat → Nat} (hn : n ≤ 6) (h30 : T 30 0 = nI n) (hp : ∀ i, i < n → T 34 i = nI (p i) ∧ p i < n) (k : Q (nI (chg n p)) T) : tk_Ms mX1_changesTo [.ref 30] T Q := by
  refine w_X1_changesTo ?_
  rw [h30]
  exact lp_X1_ch9 hn h30 hp n 0 (fun _ => false) 0 0 (by omega) (Nat.le_refl _) (fun t _ => b_0 t) (okI (by decide) k)
def reC (n : Nat) (T : tS) : Option (Nat × List Nat) → Prop
  | none => T 30 1 = -1
  | some (v, L) => v ≤ 6 ∧ T 30 1 = nI v ∧ ∀ i, i < n → T 35 i = nI (lf L i)
def frT (S T : tS) : Prop := (∀ c, c ≠ 30 → c ≠ 34 → c ≠ 35 → T c = S c) ∧ T 30 0 = S 30 0
theorem frT.refl {S : tS} : frT S S := ⟨fun _ _ _ _ => rfl, rfl⟩
theorem frT.trans {S T U : tS} (h : frT S T) (g : frT T U) : frT S U := ⟨fun c h1 h2 h3 => (g.1 c h1 h2 h3).trans (h.1 c h1 h2 h3), g.2.trans h.2⟩
theorem chg_le {n : Nat} {p : Nat → Nat} : chg n p ≤ n := Nat.sub_le _ _
theorem sp_X1_weigh {Q : Int32 → tS → Prop} {T : tS} {n : Nat} {cM : Nat → Nat → Bool} {L : List Nat} {acc : Option (Nat × List Nat)} (hn : n ≤ 6) (h30 : T 30 0 = nI n) (hr : ∀ i, i < n → T 34 i = nI (lf L i)) (hb : bd n L) (hc : ∀ k, k < n → cM k (lf L k) = true) (ha : reC n T acc) (k : ∀ T', frT T T' → T' 34 = T 34 → reC n T' (stp cM n acc L) → Q 0 T') : tk_Ms mX1_weigh [.ref 30] T Q := by
  refine w_X1_weigh (sp_X1_changesTo (p := lf L) hn h30 (fun i hi => ⟨hr i hi, hb i hi⟩) ?_)
  have hv := chg_le (n := n) (p := lf L)
  have cn : (nI n).toNatClampNeg = n := nI_c (by omega)
  have fin : stp cM n acc L = some (chg n (lf L), L) → (¬ (0 : Int32) < 0 ∧ ¬ (0 : Int32) < 0 ∧ ¬ (T 30 0 : Int32) < 0 ∧ (0 : Int32).toNatClampNeg + (T 30 0 : Int32).toNatClampNeg ≤ 6 ∧ (0 : Int32).toNatClampNeg + (T 30 0 : Int32).toNatClampNeg ≤ 6 ∧ (tk_okQ mX1_weigh Q) 0 (tk_upR (tk_up T 30 1 (nI (chg n (lf L)))) 35 (va_cpy (T 34) (T 35) (0 : Int32).toNatClampNeg (0 : Int32).toNatClampNeg (T 30 0 : Int32).toNatClampNeg))) := by
    intro es
    rw [h30, cn]
    have z0 : (0 : Int32).toNatClampNeg = 0 := rfl
    rw [z0]
    refine ⟨by decide, by decide, fun z => ?_, by omega, by omega, ok0 (k _ ⟨fun c c1 c2 c3 => ?_, ?_⟩ ?_ ?_)⟩
    · rw [lt0, nI_t (by omega)] at z
      omega
    · rw [tk_upR_n c3, tk_up_n c1]
    · rw [tk_upR_n (by decide)]
      exact tk_up_sn (by decide)
    · rw [tk_upR_n (by decide), tk_up_n (by decide)]
    · rw [es]
      refine ⟨by omega, ?_, fun i hi => ?_⟩
      · rw [tk_upR_n (by decide)]
        exact tk_up_ss
      · rw [tk_upR_s, cpy_in hi]
        exact hr i hi
  cases acc with
  | none =>
    have ha : T 30 1 = -1 := ha
    exact ⟨fun _ => fin (stp_none hc), fun z => absurd ha z⟩
  | some a =>
    obtain ⟨w, q⟩ := a
    obtain ⟨a1, a2, a3⟩ := ha
    refine ⟨fun z => absurd (a2.symm.trans z) (nI_nm (by omega)), fun _ => ⟨fun z => ?_, fun z => fin (stp_lt hc ?_)⟩⟩
    · rw [a2, xle, nI_t (by omega), nI_t (by omega)] at z
      refine ok0 (k T frT.refl rfl ?_)
      rw [stp_ge hc (by omega)]
      exact ⟨a1, a2, a3⟩
    · rw [a2, xle, nI_t (by omega), nI_t (by omega)] at z
      omega
theorem sp_X7_tryRows {n : Nat} {cM : Nat → Nat → Bool} (hn : n ≤ 6) : ∀ (r h : Nat) (pre : List Nat) (acc : Option (Nat × List Nat)) (u : Int32) (T : tS) (Q : Int32 → tS → Prop), pre.length + r = n → (∀ x, x ∈ pre → x < n) → (∀ t, t < 32 → bt u t = pre.contains t) → T 30 0 = nI n → (∀ j, j < n → ∀ o, o < 32 → bt (T 33 j) o = (decide (o < n) && cM j o)) → (∀ j, j < pre.length → T 34 j = nI (lf pre j)) → (∀ j, j < pre.length → cM j (lf pre j) = true) → reC n T acc → (∀ T', frT T T' → (∀ j, j < pre.length → T' 34 j = nI (lf pre j)) → reC n T' ((exl n r pre).foldl (stp cM n) acc) → Q 0 T') → tk_Ms (mX7_tryRows (h + r + 4)) [.ref 30, .int (nI pre.length), .int u] T Q := by
  intro r
  induction r with
  | zero =>
    intro h pre acc u T Q hl hx hu h30 h33 h34 hc ha k
    have el : pre.length = n := hl
    refine w_X7_tryRows (d := h) _ _ ⟨fun c => ?_, fun _ => ?_⟩
    · rw [h30, el, xlt] at c
      omega
    · rw [el] at h34 hc k
      have hb : bd n pre := by
        intro i hi
        by_cases z : 1 ≤ n
        · exact bd_of z hx i hi
        · omega
      exact sp_X1_weigh (cM := cM) (L := pre) hn h30 h34 hb hc ha (fun T' f1 f2 f3 => ok0 (k T' f1 (fun j hj => by rw [f2]; exact h34 j hj) f3))
  | succ r ih =>
    intro h pre acc u T Q hl hx hu h30 h33 h34 hc ha k
    have li : pre.length < n := by omega
    have ci : (nI pre.length).toNatClampNeg = pre.length := nI_c (by omega)
    have vi : vp_in (nI pre.length) 6 := vp_in_nI (by omega) (by omega)
    have loop : ∀ (q o : Nat) (acc : Option (Nat × List Nat)) (T1 : tS), o + q = n → frT T T1 → (∀ j, j < pre.length → T1 34 j = nI (lf pre j)) → reC n T1 acc → (∀ T', frT T T' → (∀ j, j < pre.length → T' 34 j = nI (lf pre j)) → reC n T' (((List.range' o q).flatMap (fun o => if pre.contains o = true then [] else exl n r (pre ++ [o]))).foldl (stp cM n) acc) → Q 0 T') → tk_Gs (mX7_tryRows (h + (r + 1) + 4)) none 15 [.ref 30, .int (nI pre.length), .int u, .int (nI o)] [] T1 (tk_okQ (mX7_tryRows (h + (r + 1) + 4)) Q) := by
      intro q
      induction q with
      | zero =>
        intro o acc T1 e f1 r1 a1 kk
        exact w_X7_tryRows_15 _ _ _ ⟨fun _ => ok0 (kk T1 f1 r1 a1), fun z => absurd (by rw [f1.2, h30]; exact nI_le (by omega) (by omega)) z⟩
      | succ q ihq =>
        intro o acc T1 e f1 r1 a1 kk
        have g33 : T1 33 = T 33 := f1.1 33 (by decide) (by decide) (by decide)
        have hbit : bt ((T1 33 pre.length) &&& (u ^^^ (-1))) o = (cM pre.length o && !pre.contains o) := by
          rw [b_and, b_xor, b_m1 o (by omega), g33, h33 pre.length li o (by omega), hu o (by omega), decide_eq_true (show o < n by omega), Bool.true_and, Bool.xor_true]
        have er : (List.range' o (q + 1)).flatMap (fun o => if pre.contains o = true then [] else exl n r (pre ++ [o])) = (if pre.contains o = true then [] else exl n r (pre ++ [o])) ++ (List.range' (o + 1) q).flatMap (fun o => if pre.contains o = true then [] else exl n r (pre ++ [o])) := rfl
        rw [er] at kk
        refine w_X7_tryRows_15 _ _ _ ⟨fun z => absurd z (by rw [f1.2, h30]; exact nI_ge (by omega) (by omega)), fun _ => ⟨vi, ?_⟩⟩
        rw [ci, has1 _ (by omega : o < 32), hbit]
        by_cases b : (cM pre.length o && !pre.contains o) = true
        · rw [if_pos b]
          rw [Bool.and_eq_true] at b
          have nc : ¬ pre.contains o = true := by
            have := b.2
            intro z
            rw [z] at this
            exact absurd this (by decide)
          rw [if_neg nc] at kk
          refine zt ⟨vi, ?_⟩
          have el : (pre ++ [o]).length = pre.length + 1 := by rw [List.length_append]; rfl
          have up34 : ∀ j, j < pre.length → (tk_up T1 34 pre.length (nI o)) 34 j = T1 34 j := fun j hj => tk_up_sn (by omega)
          have fu : frT T1 (tk_up T1 34 pre.length (nI o)) := ⟨fun c c1 c2 c3 => tk_up_n c2, by rw [tk_up_n (by decide)]⟩
          have au : reC n (tk_up T1 34 pre.length (nI o)) acc := by
            cases acc with
            | none => exact a1
            | some a => exact a1
          have call := ih h (pre ++ [o]) acc (u ||| ((1 : Int32) <<< (nI o &&& 31))) (tk_up T1 34 pre.length (nI o)) (fun _ S4 => tk_Gs (mX7_tryRows (h + (r + 1) + 4)) none 15 [.ref 30, .int (nI pre.length), .int u, .int (nI o + 1)] [] S4 (tk_okQ (mX7_tryRows (h + (r + 1) + 4)) Q)) (by rw [el]; omega) (fun x hx' => ?_) (fun t ht => ?_) (by rw [fu.2, f1.2]; exact h30) (fun j hj o' ho' => ?_) (fun j hj => ?_) (fun j hj => ?_) au (fun T' f2 r2 a2 => ?_)
          · rw [el] at call
            rw [nI_1]
            exact call
          · rcases List.mem_append.mp hx' with h' | h'
            · exact hx x h'
            · rw [List.mem_singleton.mp h']
              omega
          · rw [orbit u (by omega) ht, hu t ht, Bool.eq_iff_iff, Bool.or_eq_true, decide_eq_true_eq, List.contains_iff_mem, List.contains_iff_mem, List.mem_append, List.mem_singleton]
          · rw [fu.1 33 (by decide) (by decide) (by decide), g33]
            exact h33 j hj o' ho'
          · rw [el] at hj
            by_cases ej : j = pre.length
            · subst ej
              rw [lf_end]
              exact tk_up_ss
            · rw [up34 j (by omega), lf_app (by omega)]
              exact r1 j (by omega)
          · rw [el] at hj
            by_cases ej : j = pre.length
            · subst ej
              rw [lf_end]
              exact b.1
            · rw [lf_app (by omega)]
              exact hc j (by omega)
          · rw [nI_1]
            refine ihq (o + 1) _ T' (by omega) (f1.trans (fu.trans f2)) (fun j hj => ?_) a2 (fun T2 f3 r3 a3 => kk T2 f3 r3 ?_)
            · rw [r2 j (by rw [el]; omega), lf_app hj]
            · rw [List.foldl_append]
              exact a3
        · rw [if_neg b]
          refine zf ?_
          rw [nI_1]
          refine ihq (o + 1) acc T1 (by omega) f1 r1 a1 (fun T2 f3 r3 a3 => kk T2 f3 r3 ?_)
          rw [List.foldl_append]
          have ec : (if pre.contains o = true then [] else exl n r (pre ++ [o])).foldl (stp cM n) acc = acc := by
            by_cases cc : pre.contains o = true
            · rw [if_pos cc]
              rfl
            · rw [if_neg cc]
              refine exl_cut li (fun z => b ?_)
              rw [z]
              revert cc
              cases pre.contains o <;> simp
          rw [ec]
          exact a3
    refine w_X7_tryRows (d := h + (r + 1)) _ _ ⟨fun _ => ?_, fun z => absurd (by rw [h30, xlt, nI_t (by omega), nI_t (by omega)]; omega) z⟩
    exact loop n 0 acc T (by omega) frT.refl h34 ha k
