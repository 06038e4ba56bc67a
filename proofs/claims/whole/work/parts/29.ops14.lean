/-! IMAGE, RESTORE: 2 -/
theorem carB {Q : Int32 → tS → Prop} {S : tS} {k : Nat} {v f : Int32} (hk : 48 ≤ k) (hk2 : k < 88) (kk : ∀ x, (f = 0 → x = gt S k) → Q x (mo f S k v)) : tk_Ms mX8_carried [.ref 45, .int (nI k), .int v, .int f] S Q := by
  have e1 : nI k / 8 - 6 = nI (k / 8 - 6) := by
    rw [show nI k / 8 = nI (k / 8) from pk_div (d := 8) (by omega) (by omega) (by omega)]
    exact pk_sub (b := 6) (by omega)
  have e2 : nI k - nI k / 8 * 8 = nI (k % 8) := by
    rw [show nI k / 8 = nI (k / 8) from pk_div (d := 8) (by omega) (by omega) (by omega), show (8 : Int32) = nI 8 by decide, pk_mul, pk_sub (by omega)]
    congr 1
    omega
  have vd : vp_in (nI (k % 8)) 8 := vp_in_nI (by omega) (by omega)
  have cd : (nI (k % 8)).toNatClampNeg = k % 8 := nI_c (by omega)
  have ec : cel k = 49 + (k / 8 - 6) := by
    unfold cel
    rw [if_neg (by omega), if_pos hk2]
    omega
  have hw : k / 8 - 6 = 0 ∨ k / 8 - 6 = 1 ∨ k / 8 - 6 = 2 ∨ k / 8 - 6 = 3 ∨ k / 8 - 6 = 4 := by omega
  have ei : ix k = k % 8 := by
    unfold ix
    rw [if_neg (by omega), if_pos hk2]
  have kk : ∀ x, (f = 0 → x = S (49 + (k / 8 - 6)) (k % 8)) → Q x (if f = 0 then S else tk_up S (49 + (k / 8 - 6)) (k % 8) v) := by
    have := kk
    unfold mo pt gt at this
    rw [ec, ei] at this
    exact this
  refine w_X8_carried _ _ _ ⟨fun _ => ⟨fun c => absurd c (nI_ge (a := k) (b := 88) (by omega) (by omega)), fun _ => ?_⟩, fun c => absurd (nI_le (a := 48) (b := k) (by omega) (by omega)) c⟩
  rw [e1, e2]
  generalize k % 8 = d at vd cd kk
  generalize k / 8 - 6 = w at hw kk

  refine pat (F := fun v0 => tk_Gs mX8_carried none 187 [.ref 45, .int (nI k), .int v, .int f, .int (nI d), .int (nI w)] [.int v0, .int (nI d), .ref 49] S (tk_okQ mX8_carried Q)) (x := S 49 d) (fun h => w_X8_carried_180 _ _ _ _ _ _ ⟨vd, by rw [cd]; exact h⟩) ?_
  generalize hS1 : tk_up S 49 d (sl f (nI w) 0 v (S 49 d)) = S1
  refine w_X8_carried_187 _ _ _ _ _ _ _ ⟨vd, ?_⟩
  rw [cd, hS1]
  refine pat (F := fun v0 => tk_Gs mX8_carried none 215 [.ref 45, .int (nI k), .int v, .int f, .int (nI d), .int (nI w)] [.int v0, .int (nI d), .ref 50] S1 (tk_okQ mX8_carried Q)) (x := S1 50 d) (fun h => w_X8_carried_208 _ _ _ _ _ _ ⟨vd, by rw [cd]; exact h⟩) ?_
  generalize hS2 : tk_up S1 50 d (sl f (nI w) 1 v (S1 50 d)) = S2
  refine w_X8_carried_215 _ _ _ _ _ _ _ ⟨vd, ?_⟩
  rw [cd, hS2]
  refine pat (F := fun v0 => tk_Gs mX8_carried none 243 [.ref 45, .int (nI k), .int v, .int f, .int (nI d), .int (nI w)] [.int v0, .int (nI d), .ref 51] S2 (tk_okQ mX8_carried Q)) (x := S2 51 d) (fun h => w_X8_carried_236 _ _ _ _ _ _ ⟨vd, by rw [cd]; exact h⟩) ?_
  generalize hS3 : tk_up S2 51 d (sl f (nI w) 2 v (S2 51 d)) = S3
  refine w_X8_carried_243 _ _ _ _ _ _ _ ⟨vd, ?_⟩
  rw [cd, hS3]
  refine pat (F := fun v0 => tk_Gs mX8_carried none 271 [.ref 45, .int (nI k), .int v, .int f, .int (nI d), .int (nI w)] [.int v0, .int (nI d), .ref 52] S3 (tk_okQ mX8_carried Q)) (x := S3 52 d) (fun h => w_X8_carried_264 _ _ _ _ _ _ ⟨vd, by rw [cd]; exact h⟩) ?_
  generalize hS4 : tk_up S3 52 d (sl f (nI w) 3 v (S3 52 d)) = S4
  refine w_X8_carried_271 _ _ _ _ _ _ _ ⟨vd, ?_⟩
  rw [cd, hS4]
  refine pat (F := fun v0 => tk_Gs mX8_carried none 299 [.ref 45, .int (nI k), .int v, .int f, .int (nI d), .int (nI w)] [.int v0, .int (nI d), .ref 53] S4 (tk_okQ mX8_carried Q)) (x := S4 53 d) (fun h => w_X8_carried_292 _ _ _ _ _ _ ⟨vd, by rw [cd]; exact h⟩) ?_
  generalize hS5 : tk_up S4 53 d (sl f (nI w) 4 v (S4 53 d)) = S5
  refine w_X8_carried_299 _ _ _ _ _ _ _ ⟨vd, ?_⟩
  rw [cd, hS5]
  rcases hw with hw | hw | hw | hw | hw <;> subst hw
  · have eS1 : S1 = if f = 0 then S else tk_up S 49 d v := by rw [← hS1, show ∀ x, sl f (nI 0) 0 v x = if f = 0 then x else v from fun x => sl_s (w := nI 0), mo_eq]
    have eS2 : S2 = if f = 0 then S else tk_up S 49 d v := by rw [← hS2, sl_n (by decide), upSelf, eS1]
    have eS3 : S3 = if f = 0 then S else tk_up S 49 d v := by rw [← hS3, sl_n (by decide), upSelf, eS2]
    have eS4 : S4 = if f = 0 then S else tk_up S 49 d v := by rw [← hS4, sl_n (by decide), upSelf, eS3]
    have eS5 : S5 = if f = 0 then S else tk_up S 49 d v := by rw [← hS5, sl_n (by decide), upSelf, eS4]
    refine ⟨fun c => absurd rfl c, fun _ => ⟨vd, w_X8_carried_370 _ _ _ _ _ _ (okI (by decide) ?_)⟩⟩
    rw [eS5]
    refine kk _ (fun h => ?_)
    rw [eS4, if_pos h]
  · have eS1 : S1 = S := by rw [← hS1, sl_n (by decide), upSelf]
    have eS2 : S2 = if f = 0 then S else tk_up S 50 d v := by rw [← hS2, show ∀ x, sl f (nI 1) 1 v x = if f = 0 then x else v from fun x => sl_s (w := nI 1), eS1, mo_eq]
    have eS3 : S3 = if f = 0 then S else tk_up S 50 d v := by rw [← hS3, sl_n (by decide), upSelf, eS2]
    have eS4 : S4 = if f = 0 then S else tk_up S 50 d v := by rw [← hS4, sl_n (by decide), upSelf, eS3]
    have eS5 : S5 = if f = 0 then S else tk_up S 50 d v := by rw [← hS5, sl_n (by decide), upSelf, eS4]
    refine ⟨fun _ => ⟨fun c => absurd rfl c, fun _ => ⟨vd, w_X8_carried_370 _ _ _ _ _ _ (okI (by decide) ?_)⟩⟩, fun c => absurd c (by decide)⟩
    rw [eS5]
    refine kk _ (fun h => ?_)
    rw [eS4, if_pos h]
  · have eS1 : S1 = S := by rw [← hS1, sl_n (by decide), upSelf]
    have eS2 : S2 = S := by rw [← hS2, sl_n (by decide), upSelf, eS1]
    have eS3 : S3 = if f = 0 then S else tk_up S 51 d v := by rw [← hS3, show ∀ x, sl f (nI 2) 2 v x = if f = 0 then x else v from fun x => sl_s (w := nI 2), eS2, mo_eq]
    have eS4 : S4 = if f = 0 then S else tk_up S 51 d v := by rw [← hS4, sl_n (by decide), upSelf, eS3]
    have eS5 : S5 = if f = 0 then S else tk_up S 51 d v := by rw [← hS5, sl_n (by decide), upSelf, eS4]
    refine ⟨fun _ => ⟨fun _ => ⟨fun c => absurd rfl c, fun _ => ⟨vd, w_X8_carried_370 _ _ _ _ _ _ (okI (by decide) ?_)⟩⟩, fun c => absurd c (by decide)⟩, fun c => absurd c (by decide)⟩
    rw [eS5]
    refine kk _ (fun h => ?_)
    rw [eS4, if_pos h]
  · have eS1 : S1 = S := by rw [← hS1, sl_n (by decide), upSelf]
    have eS2 : S2 = S := by rw [← hS2, sl_n (by decide), upSelf, eS1]
    have eS3 : S3 = S := by rw [← hS3, sl_n (by decide), upSelf, eS2]
    have eS4 : S4 = if f = 0 then S else tk_up S 52 d v := by rw [← hS4, show ∀ x, sl f (nI 3) 3 v x = if f = 0 then x else v from fun x => sl_s (w := nI 3), eS3, mo_eq]
    have eS5 : S5 = if f = 0 then S else tk_up S 52 d v := by rw [← hS5, sl_n (by decide), upSelf, eS4]
    refine ⟨fun _ => ⟨fun _ => ⟨fun _ => ⟨fun c => absurd rfl c, fun _ => ⟨vd, w_X8_carried_370 _ _ _ _ _ _ (okI (by decide) ?_)⟩⟩, fun c => absurd c (by decide)⟩, fun c => absurd c (by decide)⟩, fun c => absurd c (by decide)⟩
    rw [eS5]
    refine kk _ (fun h => ?_)
    rw [eS4, if_pos h]
  · have eS1 : S1 = S := by rw [← hS1, sl_n (by decide), upSelf]
    have eS2 : S2 = S := by rw [← hS2, sl_n (by decide), upSelf, eS1]
    have eS3 : S3 = S := by rw [← hS3, sl_n (by decide), upSelf, eS2]
    have eS4 : S4 = S := by rw [← hS4, sl_n (by decide), upSelf, eS3]
    have eS5 : S5 = if f = 0 then S else tk_up S 53 d v := by rw [← hS5, show ∀ x, sl f (nI 4) 4 v x = if f = 0 then x else v from fun x => sl_s (w := nI 4), eS4, mo_eq]
    refine ⟨fun _ => ⟨fun _ => ⟨fun _ => ⟨fun _ => ⟨vd, w_X8_carried_370 _ _ _ _ _ _ (okI (by decide) ?_)⟩, fun c => absurd c (by decide)⟩, fun c => absurd c (by decide)⟩, fun c => absurd c (by decide)⟩, fun c => absurd c (by decide)⟩
    rw [eS5]
    exact kk _ (fun h => by rw [if_pos h])
theorem car {Q : Int32 → tS → Prop} {S : tS} {k : Nat} {v f : Int32} (hk : k ≤ 90) (kk : ∀ x, (f = 0 → x = gt S k) → Q x (mo f S k v)) : tk_Ms mX8_carried [.ref 45, .int (nI k), .int v, .int f] S Q := by
  by_cases h1 : k < 48
  · exact carA h1 kk
  · by_cases h2 : k < 88
    · exact carB (by omega) h2 kk
    · exact carC (by omega) kk

