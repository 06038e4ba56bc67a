/-! IMAGE, RESTORE -/
theorem upSelf {S : tS} {k j : Nat} : tk_up S k j (S k j) = S := by
  funext i l
  unfold tk_up tk_upR upd
  by_cases h : i = k
  · subst h
    by_cases h2 : l = j
    · subst h2; simp
    · simp [h2]
  · simp [h]
def sl (f w c v x : Int32) : Int32 := if ¬ f = 0 ∧ w = c then v else x
theorem pat {f w c v x : Int32} {F : Int32 → Prop} {X : Prop} (hX : F x → X) (h : F (sl f w c v x)) : (f = 0 → X) ∧ (¬ f = 0 → (¬ w = c → X) ∧ (w = c → F v)) := by
  unfold sl at h
  refine ⟨fun e => hX ?_, fun e => ⟨fun g => hX ?_, fun g => ?_⟩⟩
  · rw [if_neg (fun z => z.1 e)] at h
    exact h
  · rw [if_neg (fun z => g z.2)] at h
    exact h
  · rw [if_pos ⟨e, g⟩] at h
    exact h
def cel (k : Nat) : Nat := if k < 48 then 46 + k / 16 else if k < 88 then 43 + k / 8 else 45
def ix (k : Nat) : Nat := if k < 48 then k % 16 else if k < 88 then k % 8 else if k = 88 then 3 else if k = 89 then 9 else 10
def gt (S : tS) (k : Nat) : Int32 := S (cel k) (ix k)
def pt (S : tS) (k : Nat) (v : Int32) : tS := tk_up S (cel k) (ix k) v
def mo (f : Int32) (S : tS) (k : Nat) (v : Int32) : tS := if f = 0 then S else pt S k v
theorem sl_s {f w v x : Int32} : sl f w w v x = if f = 0 then x else v := by
  unfold sl
  by_cases h : f = 0
  · rw [if_pos h, if_neg (fun z => z.1 h)]
  · rw [if_neg h, if_pos ⟨h, rfl⟩]
theorem sl_n {f w c v x : Int32} (h : w ≠ c) : sl f w c v x = x := if_neg (fun z => h z.2)
theorem mo_eq {f : Int32} {S : tS} {c j : Nat} {v : Int32} : tk_up S c j (if f = 0 then S c j else v) = if f = 0 then S else tk_up S c j v := by
  by_cases h : f = 0
  · rw [if_pos h, if_pos h, upSelf]
  · rw [if_neg h, if_neg h]
theorem carA {Q : Int32 → tS → Prop} {S : tS} {k : Nat} {v f : Int32} (hk : k < 48) (kk : ∀ x, (f = 0 → x = gt S k) → Q x (mo f S k v)) : tk_Ms mX8_carried [.ref 45, .int (nI k), .int v, .int f] S Q := by
  have e1 : nI k / 16 = nI (k / 16) := pk_div (d := 16) (by omega) (by omega) (by omega)
  have e2 : nI k - nI (k / 16) * 16 = nI (k % 16) := by
    rw [show (16 : Int32) = nI 16 by decide, pk_mul, pk_sub (by omega)]
    congr 1
    omega
  have vd : vp_in (nI (k % 16)) 17 := vp_in_nI (by omega) (by omega)
  have cd : (nI (k % 16)).toNatClampNeg = k % 16 := nI_c (by omega)
  have hw : k / 16 = 0 ∨ k / 16 = 1 ∨ k / 16 = 2 := by omega
  have ec : cel k = 46 + k / 16 := if_pos hk
  have ei : ix k = k % 16 := if_pos hk
  have kk : ∀ x, (f = 0 → x = S (46 + k / 16) (k % 16)) → Q x (if f = 0 then S else tk_up S (46 + k / 16) (k % 16) v) := by
    have := kk
    unfold mo pt gt at this
    rw [ec, ei] at this
    exact this
  refine w_X8_carried _ _ _ ⟨fun c => absurd c (nI_ge (a := k) (b := 48) (by omega) (by omega)), fun _ => ?_⟩
  rw [e1, e2]
  generalize k % 16 = d at vd cd kk
  generalize k / 16 = w at hw kk
  refine pat (F := fun v0 => tk_Gs mX8_carried none 44 [.ref 45, .int (nI k), .int v, .int f, .int (nI d), .int (nI w)] [.int v0, .int (nI d), .ref 46] S (tk_okQ mX8_carried Q)) (x := S 46 d) (fun h => w_X8_carried_37 _ _ _ _ _ _ ⟨vd, by rw [cd]; exact h⟩) ?_
  generalize hS1 : tk_up S 46 d (sl f (nI w) 0 v (S 46 d)) = S1
  have s47 : S1 47 d = S 47 d := by rw [← hS1]; rfl
  have s48 : S1 48 d = S 48 d := by rw [← hS1]; rfl
  refine w_X8_carried_44 _ _ _ _ _ _ _ ⟨vd, ?_⟩
  rw [cd, hS1]
  refine pat (F := fun v0 => tk_Gs mX8_carried none 72 [.ref 45, .int (nI k), .int v, .int f, .int (nI d), .int (nI w)] [.int v0, .int (nI d), .ref 47] S1 (tk_okQ mX8_carried Q)) (x := S1 47 d) (fun h => w_X8_carried_65 _ _ _ _ _ _ ⟨vd, by rw [cd]; exact h⟩) ?_
  generalize hS2 : tk_up S1 47 d (sl f (nI w) 1 v (S1 47 d)) = S2
  have t48 : S2 48 d = S 48 d := by rw [← hS2]; exact s48
  refine w_X8_carried_72 _ _ _ _ _ _ _ ⟨vd, ?_⟩
  rw [cd, hS2]
  refine pat (F := fun v0 => tk_Gs mX8_carried none 100 [.ref 45, .int (nI k), .int v, .int f, .int (nI d), .int (nI w)] [.int v0, .int (nI d), .ref 48] S2 (tk_okQ mX8_carried Q)) (x := S2 48 d) (fun h => w_X8_carried_93 _ _ _ _ _ _ ⟨vd, by rw [cd]; exact h⟩) ?_
  refine w_X8_carried_100 _ _ _ _ _ _ _ ⟨vd, ?_⟩
  rw [cd]
  rcases hw with hw | hw | hw <;> subst hw
  · have eS2 : S2 = S1 := by rw [← hS2, sl_n (by decide), upSelf]
    have eS3 : tk_up S2 48 d (sl f (nI 0) 2 v (S2 48 d)) = S1 := by rw [sl_n (by decide), upSelf, eS2]
    have eS1 : S1 = if f = 0 then S else tk_up S 46 d v := by rw [← hS1, show sl f (nI 0) 0 v (S 46 d) = if f = 0 then S 46 d else v from sl_s (w := nI 0), mo_eq]
    refine ⟨fun c => absurd rfl c, fun _ => ⟨vd, w_X8_carried_139 _ _ _ _ _ _ (okI (by decide) ?_)⟩⟩
    rw [eS3, eS2, eS1]
    exact kk _ (fun h => by rw [if_pos h])
  · have eS1 : S1 = S := by rw [← hS1, sl_n (by decide), upSelf]
    have eS3 : tk_up S2 48 d (sl f (nI 1) 2 v (S2 48 d)) = S2 := by rw [sl_n (by decide), upSelf]
    have eS2 : S2 = if f = 0 then S else tk_up S 47 d v := by rw [← hS2, show (1 : Int32) = nI 1 by decide, sl_s, eS1, mo_eq]
    refine ⟨fun _ => ⟨fun c => absurd rfl c, fun _ => ⟨vd, w_X8_carried_139 _ _ _ _ _ _ (okI (by decide) ?_)⟩⟩, fun c => absurd c (by decide)⟩
    rw [eS3, eS2]
    exact kk _ (fun h => by rw [if_pos h])
  · have eS1 : S1 = S := by rw [← hS1, sl_n (by decide), upSelf]
    have eS2 : S2 = S := by rw [← hS2, sl_n (by decide), upSelf, eS1]
    have eS3 : tk_up S2 48 d (sl f (nI 2) 2 v (S2 48 d)) = if f = 0 then S else tk_up S 48 d v := by rw [show (2 : Int32) = nI 2 by decide, sl_s, eS2, mo_eq]
    refine ⟨fun _ => ⟨fun _ => ⟨vd, w_X8_carried_139 _ _ _ _ _ _ (okI (by decide) ?_)⟩, fun c => absurd c (by decide)⟩, fun c => absurd c (by decide)⟩
    rw [eS3]
    exact kk _ (fun h => by rw [if_pos h])
theorem carC {Q : Int32 → tS → Prop} {S : tS} {k : Nat} {v f : Int32} (hk : k = 88 ∨ k = 89 ∨ k = 90) (kk : ∀ x, (f = 0 → x = gt S k) → Q x (mo f S k v)) : tk_Ms mX8_carried [.ref 45, .int (nI k), .int v, .int f] S Q := by
  have n1 : ∀ j : Nat, j ≤ 88 → ¬ ¬ nI j ≤ nI k := fun j hj z => z (nI_le (by omega) (by omega))
  refine w_X8_carried _ _ _ ⟨fun _ => ⟨fun _ => ?_, fun c => absurd c (n1 88 (by omega))⟩, fun c => absurd c (n1 48 (by omega))⟩
  refine pat (F := fun v0 => tk_Gs mX8_carried none 390 [.ref 45, .int (nI k), .int v, .int f, .null, .null] [.int v0, .ref 45] S (tk_okQ mX8_carried Q)) (x := S 45 3) (fun h => w_X8_carried_386 _ _ _ h) ?_
  generalize hS1 : tk_up S 45 3 (sl f (nI k) 88 v (S 45 3)) = S1
  refine w_X8_carried_390 _ _ _ _ ?_
  rw [hS1]
  refine pat (F := fun v0 => tk_Gs mX8_carried none 412 [.ref 45, .int (nI k), .int v, .int f, .null, .null] [.int v0, .ref 45] S1 (tk_okQ mX8_carried Q)) (x := S1 45 9) (fun h => w_X8_carried_408 _ _ _ h) ?_
  generalize hS2 : tk_up S1 45 9 (sl f (nI k) 89 v (S1 45 9)) = S2
  refine w_X8_carried_412 _ _ _ _ ?_
  rw [hS2]
  refine pat (F := fun v0 => tk_Gs mX8_carried none 434 [.ref 45, .int (nI k), .int v, .int f, .null, .null] [.int v0, .ref 45] S2 (tk_okQ mX8_carried Q)) (x := S2 45 10) (fun h => w_X8_carried_430 _ _ _ h) ?_
  generalize hx : sl f (nI k) 90 v (S2 45 10) = x3
  rcases hk with hk | hk | hk <;> subst hk
  · have eS2 : S2 = S1 := by rw [← hS2, sl_n (by decide), upSelf]
    have ex : x3 = S2 45 10 := by rw [← hx, sl_n (by decide)]
    have eS1 : S1 = if f = 0 then S else tk_up S 45 3 v := by rw [← hS1, show (88 : Int32) = nI 88 by decide, sl_s, mo_eq]
    refine w_X8_carried_434 _ _ _ _ ⟨fun c => absurd rfl c, fun _ => w_X8_carried_467 _ _ _ _ (okI (by decide) ?_)⟩
    rw [ex, upSelf, eS2, eS1]
    exact kk _ (fun h => by rw [if_pos h]; rfl)
  · have eS1 : S1 = S := by rw [← hS1, sl_n (by decide), upSelf]
    have ex : x3 = S2 45 10 := by rw [← hx, sl_n (by decide)]
    have eS2 : S2 = if f = 0 then S else tk_up S 45 9 v := by rw [← hS2, show (89 : Int32) = nI 89 by decide, sl_s, eS1, mo_eq]
    refine w_X8_carried_434 _ _ _ _ ⟨fun _ => ⟨fun c => absurd rfl c, fun _ => w_X8_carried_467 _ _ _ _ (okI (by decide) ?_)⟩, fun c => absurd c (by decide)⟩
    rw [ex, upSelf, eS2]
    exact kk _ (fun h => by rw [if_pos h]; rfl)
  · have eS1 : S1 = S := by rw [← hS1, sl_n (by decide), upSelf]
    have eS2 : S2 = S := by rw [← hS2, sl_n (by decide), upSelf, eS1]
    have ex : x3 = if f = 0 then S 45 10 else v := by rw [← hx, show (90 : Int32) = nI 90 by decide, sl_s, eS2]
    refine w_X8_carried_434 _ _ _ _ ⟨fun _ => ⟨fun _ => w_X8_carried_467 _ _ _ _ (okI (by decide) ?_), fun c => absurd c (by decide)⟩, fun c => absurd c (by decide)⟩
    rw [ex, eS2, mo_eq]
    exact kk _ (fun h => by rw [if_pos h]; rfl)
