/-! HOUSE: pair -/
theorem neg20 {p : Nat} (h : p ≤ 1000) : (-20 - nI p).toInt = -20 - (p : Int) := by
  rw [subT] <;> rw [nI_t (by omega), tneg20] <;> omega
theorem Inv.tape {S : tS} (hI : Inv S) : ∃ n, TpC (S 22) n S ∧ TpM (S 22) n S := by
  obtain ⟨-, -, -, -, ⟨n, hn, e1, e2, h⟩, -⟩ := hI
  exact ⟨n, ⟨hn, e1, fun i hi => ⟨rfl, (h i hi).2⟩⟩, ⟨hn, e2, fun i hi => ⟨(h i hi).1, (h i hi).2⟩⟩⟩
theorem pH_le {f : Nat → Int32} {n : Nat} (hok : ∀ i, i < n → okB (f i)) : ∀ m k : Nat, hP f n k ≤ n → (pH f n m k).2.1 ≤ n
  | 0, _, _ => Nat.zero_le _
  | m + 1, k, h => by
    have hd := pDoor_le hok h
    show (if _ then _ else _ : Bool × Nat × Nat).2.1 ≤ n
    by_cases c1 : (pDoor f n (hP f n k)).1 = false
    · rw [if_pos c1]; exact sk_n hd
    · rw [if_neg c1]
      by_cases c2 : chr f n (pDoor f n (hP f n k)).2.1 = -1
      · rw [if_pos c2]; exact sk_n hd
      · rw [if_neg c2]
        by_cases c3 : chr f n (pDoor f n (hP f n k)).2.1 = 44 ∧ k ≠ 15
        · rw [if_pos c3]
          exact pH_le hok m (k + 1) (sk_lt hok c2)
        · rw [if_neg c3]; exact sk_n hd
/-- the tape read and emptied, all else as it was -/
theorem pr_house {S : tS} (hI : Inv S) : tk_Ms mX7_house [.ref 0] S (fun x S1 => tk_Ms mX8_house [.ref 45] S1 (fun y S2 => x = y ∧ Inv S2)) := by
  obtain ⟨n, hTC, hTM⟩ := hI.tape
  have hok := hTC.ok
  have n160 := hTC.1
  generalize hf : S 22 = f at hTC hTM hok
  have hle := pH_le hok 16 0 (Nat.zero_le _)
  generalize hr : pH f n 16 0 = r at hle
  -- the reference from a state that agrees
  have m8 : ∀ {Q : Int32 → tS → Prop} (S1 : tS), TpM f n S1 → (∀ T, r.1 = false → frH (tk_up S1 45 12 0) T → Q (-20 - nI r.2.1) T) → (∀ T U, r.1 = true → r.2.2 ≤ 16 → frH S1 T → RD f n T r.2.2 → cp46 f n (tk_up (tk_up T 45 12 0) 45 3 (nI r.2.2)) U r.2.2 → Q (nI r.2.2) U) → tk_Ms mX8_house [.ref 45] S1 Q := by
    intro Q S1 hT1 kF kT
    have t0 : frH S1 (tk_up S1 45 13 0) := by
      refine ⟨fun c h1 h2 => ?_, fun j h1 h2 => ?_⟩
      · rw [tk_up_n h2]
      · rw [tk_up_sn h1]
    have at0 : (tk_up S1 45 13 0) 45 13 = nI (hP f n 0) := tk_up_ss
    refine w_X8_house (w_X8_readHouse (lp_X8_readHouse hT1 r (fun T b h1 h2 h3 h4 h5 => ok0 ?_) (fun T h1 h2 h3 h4 h5 => ok1 ?_) 16 0 _ rfl (by decide) hr.symm t0 at0 (Nat.zero_le _) (fun i hi => absurd hi (Nat.not_lt_zero _))))
    · refine w_X8_end _ (zf' (sp_X8_nextByte h3 (hT1.frh h1) h2 (zf (okI (by decide) ?_))))
      rw [tM_at, h4]
      have hn : (-20 - nI r.2.1).toInt = -20 - (r.2.1 : Int) := neg20 (by omega)
      refine ⟨fun z => ?_, fun _ => okI (by decide) (kF _ h5 ⟨fun c g1 g2 => ?_, fun j g1 g2 => ?_⟩)⟩
      · rw [le0', hn] at z
        omega
      · rw [tk_up_n g2, tk_up_n g2]
        unfold tM'
        rw [tk_up_n g2]
        exact h1.1 c g1 g2
      · by_cases e : j = 12
        · subst e
          rw [tk_up_ss, tk_up_ss]
        · rw [tk_up_sn e, tk_up_sn e]
          unfold tM'
          rw [tk_up_sn g1]
          exact h1.2 j g1 g2
    · refine w_X8_end _ (zt' (zt (okI (by decide) ⟨fun _ => ?_, fun z => absurd (by decide) z⟩)))
      have e14 : (tk_up T 45 12 0) 45 14 = nI r.2.2 := by rw [tk_up_sn (by decide)]; exact h3
      rw [e14]
      have hR : RD f n (tk_up (tk_up T 45 12 0) 45 3 (nI r.2.2)) r.2.2 := h5.e (by rw [tk_up_n (by decide), tk_up_n (by decide)])
      exact lp_X8_house (S := tk_up (tk_up T 45 12 0) 45 3 (nI r.2.2)) tk_up_ss h4 hR (fun U hU => okI (by decide) (kT T U h2 h4 h1 h5 hU)) r.2.2 0 _ (by omega) ⟨fun c _ => rfl, fun i => ⟨fun z => absurd z (Nat.not_lt_zero _), fun _ => ⟨rfl, rfl, rfl⟩⟩⟩
  have s0 : frC S (tk_up (tk_up S 21 1 0) 23 0 0) := by
    refine ⟨fun c h1 h2 => ?_, ?_⟩
    · rw [tk_up_n (by omega), tk_up_n h1]
    · rw [tk_up_n (by decide), tk_up_sn (by decide)]
  have at0 : (tk_up (tk_up S 21 1 0) 23 0 0) 21 1 = nI (hP f n 0) := by
    rw [tk_up_n (by decide)]
    exact tk_up_ss
  have n0 : (tk_up (tk_up S 21 1 0) 23 0 0) 23 0 = nI 0 := tk_up_ss
  have hTC' : TpC f n S := hTC
  have hI' := hI
  obtain ⟨i1, ⟨x1, x2, x3, y1, y2, y3⟩, i3, i4, i5, i6, i7⟩ := hI
  have go := lp_X7_readHouse (Q := tk_okQ mX7_readHouse (fun x1 S2 => tk_Ms mX5_empty [.ref 21] S2 (fun _ S4 => tk_okQ mX7_house (fun x S1 => tk_Ms mX8_house [.ref 45] S1 (fun y S2 => x = y ∧ Inv S2)) x1 S4))) hTC' r ?_ ?_ 16 0 (tk_up (tk_up S 21 1 0) 23 0 0) rfl (by decide) hr.symm s0 at0 (Nat.zero_le _) n0 (fun i hi => absurd hi (Nat.not_lt_zero _))
  · exact w_X7_house (w_X7_readHouse go)
  · -- a fault
    intro T h1 h2
    refine okI (by decide) (w_X5_empty (ok0 (okI (by decide) ?_)))
    have o : ∀ c, c ≠ 21 → (c < 23 ∨ 26 < c) → (tk_up T 21 0 0) c = S c := fun c g1 g2 => by
      rw [tk_up_n g1]
      exact h1.1 c g1 g2
    have e21 : (tk_up T 21 0 0) 21 0 = 0 := tk_up_ss
    generalize tk_up T 21 0 0 = V at *
    refine m8 V ⟨n160, by rw [o 45 (by decide) (by decide)]; exact hTM.2.1, by rw [o 54 (by decide) (by decide)]; exact hTM.2.2⟩ (fun U _ g => ⟨rfl, ?_⟩) (fun _ _ g => absurd g (by rw [h2]; decide))
    have u : ∀ c, c ≠ 55 → c ≠ 45 → c ≠ 21 → (c < 23 ∨ 26 < c) → U c = S c := fun c g1 g2 g3 g4 => (g.1 c g1 g2).trans ((tk_up_n g2).trans (o c g3 g4))
    have u21 : U 21 0 = 0 := by rw [g.1 21 (by decide) (by decide), tk_up_n (by decide)]; exact e21
    have u12 : U 45 12 = 0 := by rw [g.2 12 (by decide) (by decide)]; exact tk_up_ss
    have u45 : ∀ j, j ≠ 12 → j ≠ 13 → j ≠ 14 → U 45 j = S 45 j := fun j g1 g2 g3 => by
      rw [g.2 j g2 g3, tk_up_sn g1, o 45 (by decide) (by decide)]
    refine ⟨?_, ?_, ?_, ?_, ?_, ?_, ?_⟩
    · rw [u 1 (by decide) (by decide) (by decide) (by decide), u45 3 (by decide) (by decide) (by decide), u 2 (by decide) (by decide) (by decide) (by decide), u 3 (by decide) (by decide) (by decide) (by decide), u 4 (by decide) (by decide) (by decide) (by decide), u 46 (by decide) (by decide) (by decide) (by decide), u 47 (by decide) (by decide) (by decide) (by decide), u 48 (by decide) (by decide) (by decide) (by decide)]
      exact i1
    · rw [u 2 (by decide) (by decide) (by decide) (by decide), u 3 (by decide) (by decide) (by decide) (by decide), u 4 (by decide) (by decide) (by decide) (by decide), u 46 (by decide) (by decide) (by decide) (by decide), u 47 (by decide) (by decide) (by decide) (by decide), u 48 (by decide) (by decide) (by decide) (by decide)]
      exact ⟨x1, x2, x3, y1, y2, y3⟩
    · rw [u 5 (by decide) (by decide) (by decide) (by decide), u45 9 (by decide) (by decide) (by decide), u 0 (by decide) (by decide) (by decide) (by decide), u 6 (by decide) (by decide) (by decide) (by decide), u 7 (by decide) (by decide) (by decide) (by decide), u 8 (by decide) (by decide) (by decide) (by decide), u 9 (by decide) (by decide) (by decide) (by decide), u 10 (by decide) (by decide) (by decide) (by decide), u 49 (by decide) (by decide) (by decide) (by decide), u 50 (by decide) (by decide) (by decide) (by decide), u 51 (by decide) (by decide) (by decide) (by decide), u 52 (by decide) (by decide) (by decide) (by decide), u 53 (by decide) (by decide) (by decide) (by decide)]
      exact i3
    · rw [u 0 (by decide) (by decide) (by decide) (by decide), u45 10 (by decide) (by decide) (by decide)]
      exact i4
    · rw [u21, u12]
      exact ⟨0, by decide, rfl, rfl, fun i hi => absurd hi (Nat.not_lt_zero _)⟩
    · rw [u 0 (by decide) (by decide) (by decide) (by decide), u45 17 (by decide) (by decide) (by decide), u 11 (by decide) (by decide) (by decide) (by decide), u 15 (by decide) (by decide) (by decide) (by decide), u 12 (by decide) (by decide) (by decide) (by decide), u 13 (by decide) (by decide) (by decide) (by decide), u 14 (by decide) (by decide) (by decide) (by decide), u 16 (by decide) (by decide) (by decide) (by decide), u 17 (by decide) (by decide) (by decide) (by decide), u 18 (by decide) (by decide) (by decide) (by decide), u 19 (by decide) (by decide) (by decide) (by decide), u 20 (by decide) (by decide) (by decide) (by decide), u 57 (by decide) (by decide) (by decide) (by decide)]
      exact i6
    · rw [u 37 (by decide) (by decide) (by decide) (by decide), u 38 (by decide) (by decide) (by decide) (by decide), u 39 (by decide) (by decide) (by decide) (by decide), u 40 (by decide) (by decide) (by decide) (by decide), u 41 (by decide) (by decide) (by decide) (by decide), u 42 (by decide) (by decide) (by decide) (by decide), u 43 (by decide) (by decide) (by decide) (by decide), u 44 (by decide) (by decide) (by decide) (by decide), u 58 (by decide) (by decide) (by decide) (by decide), u 59 (by decide) (by decide) (by decide) (by decide), u 60 (by decide) (by decide) (by decide) (by decide)]
      exact i7
  · -- a house
    intro T h1 h2 h3 h4 h5
    refine okI (by decide) (w_X5_empty (ok0 (okI (by decide) ?_)))
    have o : ∀ c, c ≠ 21 → (4 < c ∧ c < 23 ∨ 26 < c) ∨ c = 0 → (tk_up (bl T) 21 0 0) c = S c := fun c g1 g2 => by
      unfold bl
      rw [tk_up_n g1, tk_upR_n (by omega), tk_upR_n (by omega), tk_upR_n (by omega), tk_up_n (by omega)]
      exact h1.1 c g1 (by omega)
    have e21 : (tk_up (bl T) 21 0 0) 21 0 = 0 := tk_up_ss
    have v1 : (tk_up (bl T) 21 0 0) 1 0 = nI r.2.2 := by
      unfold bl
      rw [tk_up_n (by decide), tk_upR_n (by decide), tk_upR_n (by decide), tk_upR_n (by decide), tk_up_ss]
      exact h3
    have v2 : (tk_up (bl T) 21 0 0) 2 = va_cpy (T 24) (S 2) 0 0 16 := by
      unfold bl
      rw [tk_up_n (by decide), tk_upR_n (by decide), tk_upR_n (by decide), tk_upR_s, h1.1 2 (by decide) (by decide)]
    have v3 : (tk_up (bl T) 21 0 0) 3 = va_cpy (T 25) (S 3) 0 0 16 := by
      unfold bl
      rw [tk_up_n (by decide), tk_upR_n (by decide), tk_upR_s, h1.1 3 (by decide) (by decide)]
    have v4 : (tk_up (bl T) 21 0 0) 4 = va_cpy (T 26) (S 4) 0 0 16 := by
      unfold bl
      rw [tk_up_n (by decide), tk_upR_s, h1.1 4 (by decide) (by decide)]
    generalize tk_up (bl T) 21 0 0 = V at *
    refine m8 V ⟨n160, by rw [o 45 (by decide) (by decide)]; exact hTM.2.1, by rw [o 54 (by decide) (by decide)]; exact hTM.2.2⟩ (fun _ g => absurd g (by rw [h2]; decide)) (fun T' U _ _ g hR hU => ⟨rfl, ?_⟩)
    have u : ∀ c, c < 46 ∨ 48 < c → c ≠ 55 → c ≠ 45 → U c = V c := fun c g1 g2 g3 => by
      rw [hU.1 c g1, tk_up_n g3, tk_up_n g3]
      exact g.1 c g2 g3
    have us : ∀ c, c < 46 ∨ 48 < c → c ≠ 55 → c ≠ 45 → c ≠ 21 → (4 < c ∧ c < 23 ∨ 26 < c) ∨ c = 0 → U c = S c := fun c g1 g2 g3 g4 g5 => (u c g1 g2 g3).trans (o c g4 g5)
    have u12 : U 45 12 = 0 := by rw [hU.1 45 (by decide), tk_up_sn (by decide)]; exact tk_up_ss
    have u3 : U 45 3 = nI r.2.2 := by rw [hU.1 45 (by decide)]; exact tk_up_ss
    have u45 : ∀ j, j ≠ 12 → j ≠ 13 → j ≠ 14 → j ≠ 3 → U 45 j = S 45 j := fun j g1 g2 g3 g4 => by
      rw [hU.1 45 (by decide), tk_up_sn g4, tk_up_sn g1, g.2 j g2 g3, o 45 (by decide) (by decide)]
    have m46 : ∀ c, c = 46 ∨ c = 47 ∨ c = 48 → (tk_up (tk_up T' 45 12 0) 45 3 (nI r.2.2)) c = S c := fun c hc => by
      rw [tk_up_n (by omega), tk_up_n (by omega), g.1 c (by omega) (by omega), o c (by omega) (by omega)]
    refine ⟨?_, ?_, ?_, ?_, ?_, ?_, ?_⟩
    · refine ⟨r.2.2, h4, by rw [u 1 (by decide) (by decide) (by decide)]; exact v1, u3, fun i hi => ?_⟩
      obtain ⟨w1, w2, w3⟩ := (hU.2 i).1 hi
      obtain ⟨z1, z2, z3, z4⟩ := h5 i hi
      obtain ⟨p1, p2, p3, p4⟩ := pDoor_ok hok z4
      rw [u 2 (by decide) (by decide) (by decide), u 3 (by decide) (by decide) (by decide), u 4 (by decide) (by decide) (by decide), v2, v3, v4, cpy_in (by omega), cpy_in (by omega), cpy_in (by omega), w1, w2, w3, z1, z2, z3]
      exact ⟨rfl, rfl, rfl, p1.1, p1.2, p2.1, p2.2, p3, p4.1, p4.2⟩
    · obtain ⟨w1, w2, w3⟩ := (hU.2 16).2 h4
      unfold iE
      rw [u 2 (by decide) (by decide) (by decide), u 3 (by decide) (by decide) (by decide), u 4 (by decide) (by decide) (by decide), v2, v3, v4, cpy_out (Nat.le_refl _), cpy_out (Nat.le_refl _), cpy_out (Nat.le_refl _), w1, w2, w3, m46 46 (by decide), m46 47 (by decide), m46 48 (by decide)]
      exact ⟨x1, x2, x3, y1, y2, y3⟩
    · rw [us 5 (by decide) (by decide) (by decide) (by decide) (by decide), u45 9 (by decide) (by decide) (by decide) (by decide), us 0 (by decide) (by decide) (by decide) (by decide) (by decide), us 6 (by decide) (by decide) (by decide) (by decide) (by decide), us 7 (by decide) (by decide) (by decide) (by decide) (by decide), us 8 (by decide) (by decide) (by decide) (by decide) (by decide), us 9 (by decide) (by decide) (by decide) (by decide) (by decide), us 10 (by decide) (by decide) (by decide) (by decide) (by decide), us 49 (by decide) (by decide) (by decide) (by decide) (by decide), us 50 (by decide) (by decide) (by decide) (by decide) (by decide), us 51 (by decide) (by decide) (by decide) (by decide) (by decide), us 52 (by decide) (by decide) (by decide) (by decide) (by decide), us 53 (by decide) (by decide) (by decide) (by decide) (by decide)]
      exact i3
    · rw [us 0 (by decide) (by decide) (by decide) (by decide) (by decide), u45 10 (by decide) (by decide) (by decide) (by decide)]
      exact i4
    · rw [u 21 (by decide) (by decide) (by decide), e21, u12]
      exact ⟨0, by decide, rfl, rfl, fun i hi => absurd hi (Nat.not_lt_zero _)⟩
    · rw [us 0 (by decide) (by decide) (by decide) (by decide) (by decide), u45 17 (by decide) (by decide) (by decide) (by decide), us 11 (by decide) (by decide) (by decide) (by decide) (by decide), us 15 (by decide) (by decide) (by decide) (by decide) (by decide), us 12 (by decide) (by decide) (by decide) (by decide) (by decide), us 13 (by decide) (by decide) (by decide) (by decide) (by decide), us 14 (by decide) (by decide) (by decide) (by decide) (by decide), us 16 (by decide) (by decide) (by decide) (by decide) (by decide), us 17 (by decide) (by decide) (by decide) (by decide) (by decide), us 18 (by decide) (by decide) (by decide) (by decide) (by decide), us 19 (by decide) (by decide) (by decide) (by decide) (by decide), us 20 (by decide) (by decide) (by decide) (by decide) (by decide), us 57 (by decide) (by decide) (by decide) (by decide) (by decide)]
      exact i6
    · rw [us 37 (by decide) (by decide) (by decide) (by decide) (by decide), us 38 (by decide) (by decide) (by decide) (by decide) (by decide), us 39 (by decide) (by decide) (by decide) (by decide) (by decide), us 40 (by decide) (by decide) (by decide) (by decide) (by decide), us 41 (by decide) (by decide) (by decide) (by decide) (by decide), us 42 (by decide) (by decide) (by decide) (by decide) (by decide), us 43 (by decide) (by decide) (by decide) (by decide) (by decide), us 44 (by decide) (by decide) (by decide) (by decide) (by decide), us 58 (by decide) (by decide) (by decide) (by decide) (by decide), us 59 (by decide) (by decide) (by decide) (by decide) (by decide), us 60 (by decide) (by decide) (by decide) (by decide) (by decide)]
      exact i7
