/-! VISIT: both -/
theorem stM_cong {S : tS} {x : Int32} {A B : Nat → Prop} (h : ∀ i, i < 8 → (A i ↔ B i)) : stM S x A = stM S x B := by
  unfold stM
  rw [st1_cong h, st2_cong h]
theorem stM_0 {S : tS} {x : Int32} : stM S x (fun _ => False) = S := by
  have e1 : st1 (fun _ => False) (S 50) (S 52) x = S 52 := by funext i; exact st1_no (fun z => z.1.2)
  have e2 : st2 (fun _ => False) (S 50) (S 52) (S 53) x (S 45 10) = S 53 := by funext i; exact st2_no (fun z => z.1.2)
  unfold stM
  rw [e1, e2, upR_self, upR_self]
theorem lp_X8_visit {Q : Int32 → tS → Prop} {S : tS} {n s : Nat} {o1 o2 lk : Nat → Nat} {r ms l1 x : Int32} (hg : geo n o1 o2 lk) (hd : dat (S 45 3) (S 46) (S 47) (S 48) n o1 o2 lk) (hf : FinM (Ed n o1 o2 (pas r lk)) s (S 56)) (hb : ∀ l, l ≤ 8 → (bt ms l = true ↔ l = 8 ∨ bt r l = true)) (hs : s < 11) : ∀ (left p : Nat) (A : Nat → Prop), left ≤ 10 → p < 11 → Lw (Ed n o1 o2 (pas r lk)) s left p → Q (2 * S 56 0 + x) (stM S x (fun i => A i ∨ PL (Ed n o1 o2 (pas r lk)) s n o1 o2 lk r left p i)) → tk_Gs mX8_visit none 60 [.ref 45, .int l1, .int (nI s), .int x, .int ms, .int (nI p), .null, .null] [] (stM S x A) Q
  | 0, p, A, hl, hp, h, k => by
    have h0 : s = p := h.1
    have v0 : vp_in 0 11 := vin (by decide) (by decide)
    refine w_X8_visit_60 _ _ _ _ _ ⟨fun _ => ⟨v0, ?_⟩, fun c => absurd (by rw [h0]) c⟩
    have : stM S x (fun i => A i ∨ PL (Ed n o1 o2 (pas r lk)) s n o1 o2 lk r 0 p i) = stM S x A := stM_cong (fun i _ => ⟨fun z => z.elim id False.elim, Or.inl⟩)
    rw [this] at k
    exact k
  | left + 1, p, A, hl, hp, h, k => by
    have hn := hg.1
    refine w_X8_visit_60 _ _ _ _ _ ⟨fun c => ?_, fun _ => ?_⟩
    · have e : p = s := nI_ij (by omega) (by omega) c
      subst e
      have := h.uniq (⟨rfl, fun m hm => absurd hm (Nat.not_lt_zero _)⟩ : Lw (Ed n o1 o2 (pas r lk)) p 0 p)
      omega
    · have inner : ∀ m j : Nat, j + m = n → (∀ i, i < j → ¬ nx (Ed n o1 o2 (pas r lk)) s n o1 o2 lk r p left i) → tk_Gs mX8_visit none 69 [.ref 45, .int l1, .int (nI s), .int x, .int ms, .int (nI p), .int (nI j), .null] [] (stM S x A) Q := by
        intro m
        induction m with
        | zero => ?_
        | succ m ih => ?_
        all_goals intro j ej hj
        all_goals
          have hv := dr_v (n := n) (j := j)
          have d16 : dr n j ≤ 16 := by omega
          have found : nx (Ed n o1 o2 (pas r lk)) s n o1 o2 lk r p left (dr n j) → tk_Ms mX8_doorOf [.ref 45, .int (nI j)] (stM S x A) (fun x6 S7 => vp_in x6 17 ∧ tk_Ms mX8_stain [.ref 45, .int (S7 48 x6.toNatClampNeg), .int x] S7 (fun _ S9 => vp_in x6 17 ∧ ((¬ (S9 46 x6.toNatClampNeg) = nI p → (vp_in x6 17 ∧ tk_Gs mX8_visit none 60 [.ref 45, .int l1, .int (nI s), .int x, .int ms, .int (S9 46 x6.toNatClampNeg), .null, .null] [] S9 Q)) ∧ ((S9 46 x6.toNatClampNeg) = nI p → (vp_in x6 17 ∧ tk_Gs mX8_visit none 60 [.ref 45, .int l1, .int (nI s), .int x, .int ms, .int (S9 47 x6.toNatClampNeg), .null, .null] [] S9 Q))))) := by
            intro hnx
            refine sp_X8_doorOfN (n := n) (show (stM S x A) 45 3 = nI n from hd.1) hn (by omega) ?_
            have he : fsd (Ed n o1 o2 (pas r lk)) s n o1 o2 lk r p left (dr n j) := by
              refine ⟨hnx, fun i hi hi2 => hj i ?_⟩
              unfold dr at hi2
              by_cases h1 : j < n
              · rw [if_pos h1] at hi2
                exact hi2
              · omega
            generalize dr n j = e at *
            have ve : vp_in (nI e) 17 := vp_in_nI (by omega) (by omega)
            have ce : (nI e).toNatClampNeg = e := nI_c (by omega)
            obtain ⟨e1, e2, e4⟩ := hd.2 e hv
            obtain ⟨g1, g2, g3, g8⟩ := hg.2 e hv
            obtain ⟨hlw, ho⟩ := fsd_oth hg he
            rw [ce]
            refine ⟨ve, ?_⟩
            show tk_Ms mX8_stain [.ref 45, .int (S 48 e), .int x] (stM S x A) _
            rw [e4]
            refine sp_X8_stain g8 ⟨ve, ?_⟩
            have nxt := lp_X8_visit (l1 := l1) (x := x) hg hd hf hb hs left (oth o1 o2 e p) (fun i => A i ∨ lk e = i) (by omega) ho hlw (by
              have : stM S x (fun i => (A i ∨ lk e = i) ∨ PL (Ed n o1 o2 (pas r lk)) s n o1 o2 lk r left (oth o1 o2 e p) i) = stM S x (fun i => A i ∨ PL (Ed n o1 o2 (pas r lk)) s n o1 o2 lk r (left + 1) p i) := stM_cong (fun i _ => by rw [PL_1 hn he, or_assoc])
              rw [this]
              exact k)
            show (¬ S 46 e = nI p → _ ∧ tk_Gs mX8_visit none 60 [.ref 45, .int l1, .int (nI s), .int x, .int ms, .int (S 46 e), .null, .null] [] _ Q) ∧ (S 46 e = nI p → _ ∧ tk_Gs mX8_visit none 60 [.ref 45, .int l1, .int (nI s), .int x, .int ms, .int (S 47 e), .null, .null] [] _ Q)
            rw [e1, e2]
            unfold oth at nxt
            constructor
            · intro c
              rw [if_neg (fun z => c (by rw [z]))] at nxt
              exact ⟨ve, nxt⟩
            · intro c
              rw [if_pos (nI_ij (by omega) (by omega) c)] at nxt
              exact ⟨ve, nxt⟩
          refine w_X8_visit_69 _ _ _ _ _ _ (sp_X8_doorOfN (n := n) (show (stM S x A) 45 3 = nI n from hd.1) hn (by omega) (sp_X8_isNext (S := stM S x A) (n := n) (s := s) (left := left) hg hd hf hb hp (by omega) h hv (fun z => zf' ?_) (fun z => zt' (found z))))
        · exfalso
          have ej : j = n := ej
          subst ej
          obtain ⟨k', hk'⟩ := nx.ex h
          rcases hk'.1 with g | g
          · exact hj k' g hk'
          · rw [show dr j j = 16 from if_neg (by omega)] at z
            rw [g] at hk'
            exact z hk'
        · rw [nI_1]
          refine ih (j + 1) (by omega) (fun i hi => ?_)
          by_cases ei : i = j
          · subst ei
            rw [show dr n i = i from if_pos (by omega)] at z
            exact z
          · exact hj i (by omega)
      exact inner n 0 (by omega) (fun i hi => absurd hi (Nat.not_lt_zero _))
noncomputable def stC (S : tS) (x t : Int32) (A : Nat → Prop) : tS := tk_upR (tk_upR S 9 (st1 A (S 7) (S 9) x)) 10 (st2 A (S 7) (S 9) (S 10) x t)
theorem stC_cong {S : tS} {x t : Int32} {A B : Nat → Prop} (h : ∀ i, i < 8 → (A i ↔ B i)) : stC S x t A = stC S x t B := by
  unfold stC
  rw [st1_cong h, st2_cong h]
theorem stC_0 {S : tS} {x t : Int32} {A : Nat → Prop} (h : ∀ i, ¬ A i) : stC S x t A = S := by
  have e1 : st1 A (S 7) (S 9) x = S 9 := by funext i; exact st1_no (fun z => h i z.1.2)
  have e2 : st2 A (S 7) (S 9) (S 10) x t = S 10 := by funext i; exact st2_no (fun z => h i z.1.2)
  unfold stC
  rw [e1, e2, upR_self, upR_self]
theorem lp_X3_stain {Q : Int32 → tS → Prop} {S : tS} {m : Nat} {L x t : Int32} (hm : S 5 0 = nI m) (h8 : m ≤ 8) (k : Q 0 (stC S x t (fun i => i < m ∧ bt L i = true))) : ∀ q j : Nat, j + q = m → tk_Gs mX3_stain none 3 [.ref 5, .int L, .int x, .int t, .int (nI j)] [] (stC S x t (fun i => i < j ∧ bt L i = true)) Q
  | 0, j, e => by
    have e : j = m := e
    subst e
    exact w_X3_stain_3 _ _ _ _ ⟨fun _ => k, fun c => absurd (show S 5 0 ≤ nI j by rw [hm]; exact nI_le (Nat.le_refl _) (by omega)) c⟩
  | q + 1, j, e => by
    have cj : (nI j).toNatClampNeg = j := nI_c (by omega)
    have vj : vp_in (nI j) 8 := vp_in_nI (by omega) (by omega)
    have ih := lp_X3_stain hm h8 k q (j + 1) (by omega)
    have nobit : ¬ bt L j = true → stC S x t (fun i => i < j + 1 ∧ bt L i = true) = stC S x t (fun i => i < j ∧ bt L i = true) := fun hb => stC_cong (fun i _ => by
      by_cases ei : i = j
      · subst ei
        exact ⟨fun z => absurd z.2 hb, fun z => absurd z.1 (by omega)⟩
      · exact ⟨fun z => ⟨by omega, z.2⟩, fun z => ⟨by omega, z.2⟩⟩)
    have bit : bt L j = true → stC S x t (fun i => i < j + 1 ∧ bt L i = true) = stC S x t (fun i => (i < j ∧ bt L i = true) ∨ j = i) := fun hb => stC_cong (fun i _ => by
      by_cases ei : i = j
      · subst ei
        exact ⟨fun _ => Or.inr rfl, fun _ => ⟨by omega, hb⟩⟩
      · exact ⟨fun z => Or.inl ⟨by omega, z.2⟩, fun z => z.elim (fun z => ⟨by omega, z.2⟩) (fun z => absurd z.symm ei)⟩)
    rw [← nI_1] at ih
    refine w_X3_stain_3 _ _ _ _ ⟨fun c => absurd c (show ¬ S 5 0 ≤ nI j by rw [hm]; exact nI_ge (by omega) (by omega)), fun _ => ?_⟩
    rw [has1 L (by omega)]
    by_cases hb : bt L j = true
    · rw [if_pos hb]
      rw [bit hb] at ih
      have same : (¬ S 7 j = 1 ∨ x.toInt ≤ (st1 (fun i => i < j ∧ bt L i = true) (S 7) (S 9) x j).toInt) → tk_Gs mX3_stain none 3 [.ref 5, .int L, .int x, .int t, .int (nI j + 1)] [] (stC S x t (fun i => i < j ∧ bt L i = true)) Q := by
        intro h
        obtain ⟨h1, h2⟩ := st_same (A := fun i => i < j ∧ bt L i = true) (tl := S 7) (f := S 9) (g := S 10) (x := x) (t := t) (Or.inr h)
        unfold stC at ih ⊢
        rw [h1, h2]
        exact ih
      refine ⟨fun z => absurd z (by decide), fun _ => ⟨vj, ?_⟩⟩
      rw [cj]
      refine ⟨fun w => same (Or.inl w), fun w => ⟨vj, fun d => same (Or.inr (xle.mp d)), fun d => ⟨vj, vj, ?_⟩⟩⟩
      have w : S 7 j = 1 := w
      have d : ¬ x ≤ st1 (fun i => i < j ∧ bt L i = true) (S 7) (S 9) x j := d
      rw [xle] at d
      obtain ⟨h1, h2⟩ := st_add (A := fun i => i < j ∧ bt L i = true) (tl := S 7) (f := S 9) (g := S 10) (x := x) (t := t) (by omega) w (by omega)
      have : tk_up (tk_up (stC S x t (fun i => i < j ∧ bt L i = true)) 9 j x) 10 j t = stC S x t (fun i => (i < j ∧ bt L i = true) ∨ j = i) := by
        unfold stC
        rw [← h1, ← h2]
        funext c i
        unfold tk_up tk_upR
        by_cases e1 : c = 10
        · subst e1; simp
        · by_cases e2 : c = 9
          · subst e2; simp
          · simp [e1, e2]
      rw [this]
      exact ih
    · rw [if_neg hb]
      rw [nobit hb] at ih
      exact zf ih
