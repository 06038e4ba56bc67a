/-! WEEK: the pair -/
theorem Inv.cong {S V : tS} (hI : Inv S) (h : ∀ c, c ≠ 21 → c ≠ 27 → c ≠ 29 → c ≠ 45 → c ≠ 55 → c ≠ 56 → V c = S c) (h21 : V 21 0 = S 21 0) (h45 : ∀ j, j ≠ 13 → j ≠ 14 → V 45 j = S 45 j) : Inv V := by
  unfold Inv at hI ⊢
  rw [h 0 (by decide) (by decide) (by decide) (by decide) (by decide) (by decide), h 1 (by decide) (by decide) (by decide) (by decide) (by decide) (by decide), h 2 (by decide) (by decide) (by decide) (by decide) (by decide) (by decide), h 3 (by decide) (by decide) (by decide) (by decide) (by decide) (by decide), h 4 (by decide) (by decide) (by decide) (by decide) (by decide) (by decide), h 5 (by decide) (by decide) (by decide) (by decide) (by decide) (by decide), h 6 (by decide) (by decide) (by decide) (by decide) (by decide) (by decide), h 7 (by decide) (by decide) (by decide) (by decide) (by decide) (by decide), h 8 (by decide) (by decide) (by decide) (by decide) (by decide) (by decide), h 9 (by decide) (by decide) (by decide) (by decide) (by decide) (by decide), h 10 (by decide) (by decide) (by decide) (by decide) (by decide) (by decide), h 11 (by decide) (by decide) (by decide) (by decide) (by decide) (by decide), h 12 (by decide) (by decide) (by decide) (by decide) (by decide) (by decide), h 13 (by decide) (by decide) (by decide) (by decide) (by decide) (by decide), h 14 (by decide) (by decide) (by decide) (by decide) (by decide) (by decide), h 15 (by decide) (by decide) (by decide) (by decide) (by decide) (by decide), h 16 (by decide) (by decide) (by decide) (by decide) (by decide) (by decide), h 17 (by decide) (by decide) (by decide) (by decide) (by decide) (by decide), h 18 (by decide) (by decide) (by decide) (by decide) (by decide) (by decide), h 19 (by decide) (by decide) (by decide) (by decide) (by decide) (by decide), h 20 (by decide) (by decide) (by decide) (by decide) (by decide) (by decide), h 22 (by decide) (by decide) (by decide) (by decide) (by decide) (by decide), h 37 (by decide) (by decide) (by decide) (by decide) (by decide) (by decide), h 38 (by decide) (by decide) (by decide) (by decide) (by decide) (by decide), h 39 (by decide) (by decide) (by decide) (by decide) (by decide) (by decide), h 40 (by decide) (by decide) (by decide) (by decide) (by decide) (by decide), h 41 (by decide) (by decide) (by decide) (by decide) (by decide) (by decide), h 42 (by decide) (by decide) (by decide) (by decide) (by decide) (by decide), h 43 (by decide) (by decide) (by decide) (by decide) (by decide) (by decide), h 44 (by decide) (by decide) (by decide) (by decide) (by decide) (by decide), h 46 (by decide) (by decide) (by decide) (by decide) (by decide) (by decide), h 47 (by decide) (by decide) (by decide) (by decide) (by decide) (by decide), h 48 (by decide) (by decide) (by decide) (by decide) (by decide) (by decide), h 49 (by decide) (by decide) (by decide) (by decide) (by decide) (by decide), h 50 (by decide) (by decide) (by decide) (by decide) (by decide) (by decide), h 51 (by decide) (by decide) (by decide) (by decide) (by decide) (by decide), h 52 (by decide) (by decide) (by decide) (by decide) (by decide) (by decide), h 53 (by decide) (by decide) (by decide) (by decide) (by decide) (by decide), h 54 (by decide) (by decide) (by decide) (by decide) (by decide) (by decide), h 57 (by decide) (by decide) (by decide) (by decide) (by decide) (by decide), h 58 (by decide) (by decide) (by decide) (by decide) (by decide) (by decide), h 59 (by decide) (by decide) (by decide) (by decide) (by decide) (by decide), h 60 (by decide) (by decide) (by decide) (by decide) (by decide) (by decide), h21, h45 3 (by decide) (by decide), h45 9 (by decide) (by decide), h45 10 (by decide) (by decide), h45 12 (by decide) (by decide), h45 17 (by decide) (by decide)]
  exact hI
theorem Inv.mt {S : tS} (hI : Inv S) : Inv (tk_up (tk_up S 21 0 0) 45 12 0) := by
  obtain ⟨i1, i2, i3, i4, i5, i6, i7⟩ := hI
  exact ⟨i1, i2, i3, i4, ⟨0, by decide, rfl, rfl, fun i hi => absurd hi (Nat.not_lt_zero _)⟩, i6, i7⟩
theorem Inv.noise {C U M : tS} (hI : Inv (mix (zz C) M)) (h : frN C U) : Inv (mix (zz U) M) := by
  refine hI.cong (fun c h21 h27 h29 h45 h55 h56 => ?_) ?_ (fun j _ _ => ?_)
  · by_cases hc : c < 45
    · rw [mix_c hc, mix_c hc, zz_n h21, zz_n h21]
      exact h c h21 h27
    · rw [mix_m (by omega), mix_m (by omega)]
  · rw [mix_c (by decide), mix_c (by decide), zz_0, zz_0]
  · rw [mix_m (by decide), mix_m (by decide)]
theorem HM.fr {S T : tS} {n m : Nat} {o1 o2 lk : Nat → Nat} (h : HM S n o1 o2 lk m) (g : ∀ c, 46 ≤ c → c ≤ 48 → T c = S c) (g3 : T 45 3 = S 45 3) (g9 : T 45 9 = S 45 9) : HM T n o1 o2 lk m := by
  unfold HM
  rw [g3, g9, g 46 (by decide) (by decide), g 47 (by decide) (by decide), g 48 (by decide) (by decide)]
  exact h
/-- the reference does the same acts -/
theorem lp_X8_week {Q : Int32 → tS → Prop} {f : Nat → Int32} {n m hn N : Nat} {o1 o2 lk : Nat → Nat} {l1 x : Int32} {C' : tS} (hN : N ≤ 81) (kk : ∀ M', Inv M' → Q x M') : ∀ (L k : Nat) (C M : tS), k + L = N → chC f n hn o1 o2 lk m L k C x C' → Inv (mix (zz C) M) → C 5 0 = nI m → HM M hn o1 o2 lk m → RW f n m M N → (∀ c, c < 45 → M c = (zz C') c) → tk_Gs mX8_week none 22 [.ref 45, .int l1, .int (nI N), .int (nI k)] [] M Q := by
  have fin : ∀ (D M : tS), frN D C' → Inv (mix (zz D) M) → (∀ c, c < 45 → M c = (zz C') c) → Q x M := by
    intro D M g hI hlo
    have e : mix (zz C') M = M := by
      funext c
      by_cases hc : c < 45
      · rw [mix_c hc, hlo c hc]
      · rw [mix_m (by omega)]
    have := hI.noise g
    rw [e] at this
    exact kk M this
  intro L
  induction L with
  | zero =>
    intro k C M e h hI h5 hM hR hlo
    have ek : N = k := by omega
    subst ek
    refine w_X8_week_22 _ _ _ ⟨fun _ => ?_, fun z => absurd (nI_le (by omega) (by omega)) z⟩
    rw [← h.2]
    exact fin C M h.1 hI hlo
  | succ L ih =>
    intro k C M e h hI h5 hM hR hlo
    obtain ⟨U, C1, y, hU, hA, hrest⟩ := h
    have e4 : (4 : Int32) * nI k = nI (4 * k) := pk_mul 4 _
    refine w_X8_week_22 _ _ _ ⟨fun z => absurd z (nI_ge (by omega) (by omega)), fun _ => ?_⟩
    rw [e4]
    have h8 := hM.2.2.1
    have hIU := hI.noise hU
    have u5 : U 5 0 = nI m := by rw [hU 5 (by decide) (by decide)]; exact h5
    have hmU : (zz U) 5 0 = nI m := by rw [zz_n (by decide)]; exact u5
    have hK : ∀ i, i < m → M 51 i = (zz U) 8 i ∧ M 50 i = (zz U) 7 i := by
      obtain ⟨n', hn', e1, e2, g⟩ := hIU.ring
      have e1 : (zz U) 5 0 = nI n' := e1
      have : n' = m := nI_ij (by omega) (by omega) (e1.symm.trans hmU)
      subst this
      exact g
    refine sp8_does hM (by omega) (fun y' M1 hRM => ?_)
    obtain ⟨r1, r2⟩ := hR k (by omega)
    rw [r1] at hRM
    have hRM := RAM_same r2 hRM
    obtain ⟨ey, hI1⟩ := pure_act hIU hmU h8 hK (RAC_z hA) hRM
    subst ey
    obtain ⟨fr1, fr2⟩ := RAM_fr hRM
    have lo1 : ∀ c, c < 45 → M1 c = (zz C') c := fun c hc => (fr1 c (by omega) (by omega) (by omega) (by omega) (by omega)).trans (hlo c hc)
    refine ⟨fun z => zf' ?_, fun z => zt' ?_⟩
    · rcases hrest with ⟨_, ex, g⟩ | ⟨z', _⟩
      · rw [← ex]
        exact fin C1 M1 g hI1 lo1
      · exact absurd z z'
    · rcases hrest with ⟨z', _⟩ | ⟨_, g⟩
      · exact absurd z' z
      · rw [nI_1]
        refine ih (k + 1) C1 M1 (by omega) g hI1 ?_ (hM.fr (fun c c1 c2 => fr1 c (by omega) (by omega) (by omega) (by omega) (by omega)) (fr2 3 (by decide)) (fr2 9 (by decide))) (hR.e (fr1 55 (by decide) (by decide) (by decide) (by decide) (by decide))) lo1
        rw [RAC_fr hA 5 (by decide) (by decide) (by decide) (by decide) (by decide)]
        exact u5
theorem pW_le {f : Nat → Int32} {n m : Nat} (hok : ∀ i, i < n → okB (f i)) : ∀ q k : Nat, wP f n m k ≤ n → (pW f n m q k).2.1 ≤ n
  | 0, _, _ => Nat.zero_le _
  | q + 1, k, h => by
    have hd := (pA_le (m := m) hok h).1
    show (if _ then _ else _ : Bool × Nat × Nat).2.1 ≤ n
    by_cases c1 : (pA f n m (wP f n m k)).1 = false
    · rw [if_pos c1]; exact sk_n hd
    · rw [if_neg c1]
      by_cases c2 : chr f n (pA f n m (wP f n m k)).2.1 = 59
      · rw [if_pos c2]
        exact pW_le hok q (k + 1) (sk_lt hok (by rw [c2]; decide))
      · rw [if_neg c2]
        by_cases c3 : chr f n (pA f n m (wP f n m k)).2.1 = -1
        · rw [if_pos c3]; exact sk_n hd
        · rw [if_neg c3]; exact sk_n hd
theorem pW_cap {f : Nat → Int32} {n m : Nat} : ∀ q k : Nat, (pW f n m q k).2.2 ≤ k + q
  | 0, _ => Nat.le_refl _
  | q + 1, k => by
    show (if _ then _ else _ : Bool × Nat × Nat).2.2 ≤ k + (q + 1)
    by_cases c1 : (pA f n m (wP f n m k)).1 = false
    · rw [if_pos c1]; exact Nat.le_add_right _ _
    · rw [if_neg c1]
      by_cases c2 : chr f n (pA f n m (wP f n m k)).2.1 = 59
      · rw [if_pos c2]
        have := pW_cap (f := f) (n := n) (m := m) q (k + 1)
        omega
      · rw [if_neg c2]
        by_cases c3 : chr f n (pA f n m (wP f n m k)).2.1 = -1
        · rw [if_pos c3]; show k + 1 ≤ k + (q + 1); omega
        · rw [if_neg c3]; show k + 1 ≤ k + (q + 1); omega
def wkQ : Int32 → tS → Prop := fun x S1 => tk_Ms mX8_week [.ref 45] S1 (fun y S2 => x = y ∧ Inv S2)
theorem pr_week {S : tS} (hI : Inv S) : tk_Ms mX7_week [.ref 0] S wkQ := by
  obtain ⟨n, hTC, hTM⟩ := hI.tape
  have hok := hTC.ok
  have n160 := hTC.1
  have hI' : Inv (mix S S) := by rw [mix_self]; exact hI
  obtain ⟨hn, o1, o2, lk, m, hHC, hHM, -⟩ := mix_HCM hI'
  have h8 := hHC.2.2.1
  have hm7 : S 5 0 = nI m := hHC.2.2.2
  have hm8 : S 45 9 = nI m := hHM.2.2.2
  have hmt := hI.mt
  generalize hf : S 22 = f at hTC hTM hok
  have hle := pW_le (m := m) hok 160 0 (Nat.zero_le _)
  generalize hr : pW f n m 160 0 = r at hle
  -- the reference from a state that agrees
  have m8 : ∀ {Q : Int32 → tS → Prop} (S1 : tS), TpM f n S1 → S1 45 9 = nI m → (∀ T, r.1 = false → frH (tk_up S1 45 12 0) T → Q (-20 - nI r.2.1) T) → (∀ T, r.1 = true → r.2.2 ≤ 81 → frH S1 T → RW f n m T r.2.2 → tk_Gs mX8_week none 22 [.ref 45, .int 0, .int (nI r.2.2), .int (nI 0)] [] (tk_up T 45 12 0) (tk_okQ mX8_week Q)) → tk_Ms mX8_week [.ref 45] S1 Q := by
    intro Q S1 hT1 hm1 kF kT
    have t0 : frH S1 (tk_up (tk_up S1 45 13 0) 45 14 0) := by
      refine ⟨fun c h1 h2 => ?_, fun j h1 h2 => ?_⟩
      · rw [tk_up_n h2, tk_up_n h2]
      · rw [tk_up_sn h2, tk_up_sn h1]
    have at0 : (tk_up (tk_up S1 45 13 0) 45 14 0) 45 13 = nI (wP f n m 0) := (tk_up_sn (by decide)).trans tk_up_ss
    have z14 : (tk_up (tk_up S1 45 13 0) 45 14 0) 45 14 = nI 0 := tk_up_ss
    refine w_X8_week (w_X8_readWeek (lp_X8_readWeek hT1 h8 hm1 r (fun T b h1 h2 h3 h4 h5 => ok0 ?_) (fun T h1 h2 h3 h4 h5 => ok1 ?_) 160 0 _ rfl (by decide) (Nat.le_refl _) hr.symm t0 at0 (Nat.zero_le _) z14 (fun i hi => absurd hi (Nat.not_lt_zero _))))
    · refine w_X8_end _ (zf' (sp_X8_nextByte h3 (hT1.frh h1) h2 (zf (okI (by decide) ?_))))
      rw [tM_at, h4]
      have hn : (-20 - nI r.2.1).toInt = -20 - (r.2.1 : Int) := neg20 (by omega)
      refine ⟨fun z => ?_, fun _ => okI (by decide) (kF _ h5 ⟨fun c g1 g2 => ?_, fun j g1 g2 => ?_⟩)⟩
      · rw [le0', hn] at z
        omega
      · rw [tk_up_n g2, tk_up_n g2]
        unfold tM'
        rw [tk_up_n g2]
        exact h1.1 c g1 g2
      · by_cases e : j = 12
        · subst e
          rw [tk_up_ss, tk_up_ss]
        · rw [tk_up_sn e, tk_up_sn e]
          unfold tM'
          rw [tk_up_sn g1]
          exact h1.2 j g1 g2
    · refine w_X8_end _ (zt' (zt (okI (by decide) ⟨fun _ => ?_, fun z => absurd (by decide) z⟩)))
      have e14 : (tk_up T 45 12 0) 45 14 = nI r.2.2 := by rw [tk_up_sn (by decide)]; exact h3
      rw [e14]
      exact kT T h2 h4 h1 h5
  have s0 : frA S (tk_up S 21 1 0) := frA.refl.tc (b := 0)
  have at0 : (tk_up S 21 1 0) 21 1 = nI (wP f n m 0) := tk_up_ss
  have go := lp_X7_week1 (Q := tk_okQ mX7_readWeek (fun x1 S2 => (x1 < 0 → tk_Ms mX5_empty [.ref 21] S2 (fun _ S5 => tk_okQ mX7_week wkQ x1 S5)) ∧ (¬ x1 < 0 → tk_Ms mX7_readWeek [.ref 0, .int 1] S2 (fun x6 S7 => tk_Ms mX5_empty [.ref 21] S7 (fun _ S9 => tk_okQ mX7_week wkQ x6 S9))))) hTC h8 hm7 r ?_ ?_ 160 0 (tk_up S 21 1 0) rfl (by decide) (Nat.le_refl _) hr.symm s0 at0 (Nat.zero_le _)
  · exact w_X7_week (w_X7_readWeek _ go)
  · -- a fault
    intro T h1 h2
    have hn : (-20 - nI r.2.1).toInt = -20 - (r.2.1 : Int) := neg20 (by omega)
    refine okI (by decide) ⟨fun _ => w_X5_empty (ok0 (okI (by decide) ?_)), fun z => absurd (by rw [lt0, hn]; omega) z⟩
    show tk_Ms mX8_week [.ref 45] (tk_up T 21 0 0) (fun y S2 => _ = y ∧ Inv S2)
    have o : ∀ c, c ≠ 21 → c ≠ 27 → (tk_up T 21 0 0) c = S c := fun c g1 g2 => by
      rw [tk_up_n g1]
      exact h1.1 c g1 g2
    have e21 : (tk_up T 21 0 0) 21 0 = 0 := tk_up_ss
    generalize tk_up T 21 0 0 = V at *
    refine m8 V ⟨n160, by rw [o 45 (by decide) (by decide)]; exact hTM.2.1, by rw [o 54 (by decide) (by decide)]; exact hTM.2.2⟩ (by rw [o 45 (by decide) (by decide)]; exact hm8) (fun U _ g => ⟨rfl, ?_⟩) (fun _ g => absurd g (by rw [h2]; decide))
    refine hmt.cong (fun c c21 c27 c29 c45 c55 c56 => ?_) ?_ (fun j j1 j2 => ?_)
    · rw [g.1 c c55 c45, tk_up_n c45, tk_up_n c45, tk_up_n c21]
      exact o c c21 c27
    · rw [g.1 21 (by decide) (by decide), tk_up_n (by decide), tk_up_n (by decide), e21]
      exact tk_up_ss.symm
    · rw [g.2 j j1 j2]
      by_cases e : j = 12
      · subst e
        rw [tk_up_ss, tk_up_ss]
      · rw [tk_up_sn e, tk_up_sn e, tk_up_n (by decide), o 45 (by decide) (by decide)]
  · -- a week that reads well
    intro T h1 h2
    have e : r = (true, r.2.1, r.2.2) := by rw [← h2]
    generalize hN : r.2.2 = N at *
    rw [e] at hr
    have ft : frA S (tk_up T 21 1 0) := h1.tc (b := 0)
    have atT : (tk_up T 21 1 0) 21 1 = nI (wP f n m 0) := tk_up_ss
    have hN81 : N ≤ 1000 := by
      have := pW_cap (f := f) (n := n) (m := m) 160 0
      rw [hr] at this
      have : N ≤ 0 + 160 := this
      omega
    refine okI (by decide) ⟨fun z => absurd z (by rw [lt0, nI_t (by omega)]; omega), fun _ => ?_⟩
    have go2 := lp_X7_week2 (Q := tk_okQ mX7_readWeek (fun x6 S7 => tk_Ms mX5_empty [.ref 21] S7 (fun _ S9 => tk_okQ mX7_week wkQ x6 S9))) 160 0 N (tk_up T 21 1 0) hr (by omega) (hTC.fra ft) (hHC.fr (fun c c1 c2 => ft.1 c (by omega) (by omega))) atT (Nat.zero_le _) (Nat.le_refl _) ?_
    · exact w_X7_readWeek _ go2
    · intro x C' hch
      refine okI (by decide) (w_X5_empty (ok0 (okI (by decide) ?_)))
      show tk_Ms mX8_week [.ref 45] (zz C') (fun y S2 => x = y ∧ Inv S2)
      have o : ∀ c, 45 ≤ c → (zz C') c = S c := fun c hc => by
        rw [zz_n (by omega), chC_fr _ _ _ hch c hc]
        exact ft.1 c (by omega) (by omega)
      refine m8 (zz C') ⟨n160, by rw [o 45 (by decide)]; exact hTM.2.1, by rw [o 54 (by decide)]; exact hTM.2.2⟩ (by rw [o 45 (by decide)]; exact hm8) (fun _ g => absurd g (by rw [h2]; decide)) (fun U _ g81 g gR => ?_)
      refine lp_X8_week (Q := tk_okQ mX8_week (fun y S2 => x = y ∧ Inv S2)) g81 (fun M' hM' => okI (by decide) ⟨rfl, hM'⟩) N 0 (tk_up T 21 1 0) (tk_up U 45 12 0) (by omega) hch ?_ ?_ ?_ ?_ ?_
      · refine hmt.cong (fun c c21 c27 c29 c45 c55 c56 => ?_) ?_ (fun j j1 j2 => ?_)
        · by_cases hc : c < 45
          · rw [mix_c hc, zz_n c21, ft.1 c c21 c27, tk_up_n c45, tk_up_n c21]
          · rw [mix_m (by omega), tk_up_n c45, g.1 c c55 c45, o c (by omega), tk_up_n c45, tk_up_n c21]
        · rw [mix_c (by decide), zz_0, tk_up_n (by decide)]
          exact tk_up_ss.symm
        · rw [mix_m (by decide)]
          by_cases e : j = 12
          · subst e
            rw [tk_up_ss, tk_up_ss]
          · rw [tk_up_sn e, tk_up_sn e, tk_up_n (by decide), g.2 j j1 j2, o 45 (by decide)]
      · rw [ft.1 5 (by decide) (by decide)]
        exact hm7
      · refine hHM.fr (fun c c1 c2 => ?_) ?_ ?_
        · rw [tk_up_n (by omega), g.1 c (by omega) (by omega), o c (by omega)]
        · rw [tk_up_sn (by decide), g.2 3 (by decide) (by decide), o 45 (by decide)]
        · rw [tk_up_sn (by decide), g.2 9 (by decide) (by decide), o 45 (by decide)]
      · exact gR.e (tk_up_n (by decide))
      · intro c hc
        rw [tk_up_n (by omega), g.1 c (by omega) (by omega)]
