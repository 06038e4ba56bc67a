theorem g_tabInE {μ : tM} {a b : Nat} {sx : tX} {pc : Nat} {ls st : List Value} {h : tH} {Q : Int32 → tH → Prop} {dflt lo hi : Int} {offs : Array Int} {len : Nat} {x v : Int32} (e : x = v) {off : Int} {tgt : Nat} (hd : decode μ.2.1 pc = .ok (.tableswitch dflt lo hi offs, len)) (h1 : ¬ v.toInt < lo) (h2 : ¬ hi < v.toInt) (ho : offs[(v.toInt - lo).toNat]? = some off) (ht : (pc : Int) + off = (tgt : Int)) (k : tk_G μ a b sx tgt ls st h Q) : tk_G μ a b sx pc ls (.int x :: st) h Q := by
  subst e
  exact g_tabIn hd h1 h2 ho ht k
theorem g_lookupE {μ : tM} {a b : Nat} {sx : tX} {pc : Nat} {ls st : List Value} {h : tH} {Q : Int32 → tH → Prop} {dflt : Int} {ps : Array (Int × Int)} {len : Nat} {x v : Int32} (e : x = v) {off : Int} {tgt : Nat} (hd : decode μ.2.1 pc = .ok (.lookupswitch dflt ps, len)) (hp : (ps.toList.zip (ps.toList.drop 1)).all (fun (a, next) => a.1 < next.1) = true) (ho : Op.lookupswitch.offset ps.toList dflt v.toInt = off) (ht : (pc : Int) + off = (tgt : Int)) (k : tk_G μ a b sx tgt ls st h Q) : tk_G μ a b sx pc ls (.int x :: st) h Q := by
  subst e
  exact g_lookup hd hp ho ht k
theorem g_sheetE0 {μ : tM} {a b : Nat} {sx : tX} {pc : Nat} {ls st : List Value} {S : tS} {Q : Int32 → tH → Prop} {i : Int32} (hd : decode μ.2.1 pc = .ok (.aaload, 1)) (e : i = 0) (k : tk_G μ a b sx (pc + 1) ls (.ref 37 :: st) (tkSH, S, tkRF) Q) : tk_G μ a b sx pc ls (.int i :: .ref 36 :: st) (tkSH, S, tkRF) Q := by
  subst e
  exact g_aald (n := 4) hd rfl (vp_in_iff.mpr ⟨by decide, by decide⟩) rfl k
theorem g_sheetE1 {μ : tM} {a b : Nat} {sx : tX} {pc : Nat} {ls st : List Value} {S : tS} {Q : Int32 → tH → Prop} {i : Int32} (hd : decode μ.2.1 pc = .ok (.aaload, 1)) (e : i = 1) (k : tk_G μ a b sx (pc + 1) ls (.ref 39 :: st) (tkSH, S, tkRF) Q) : tk_G μ a b sx pc ls (.int i :: .ref 36 :: st) (tkSH, S, tkRF) Q := by
  subst e
  exact g_aald (n := 4) hd rfl (vp_in_iff.mpr ⟨by decide, by decide⟩) rfl k
theorem g_sheetE2 {μ : tM} {a b : Nat} {sx : tX} {pc : Nat} {ls st : List Value} {S : tS} {Q : Int32 → tH → Prop} {i : Int32} (hd : decode μ.2.1 pc = .ok (.aaload, 1)) (e : i = 2) (k : tk_G μ a b sx (pc + 1) ls (.ref 41 :: st) (tkSH, S, tkRF) Q) : tk_G μ a b sx pc ls (.int i :: .ref 36 :: st) (tkSH, S, tkRF) Q := by
  subst e
  exact g_aald (n := 4) hd rfl (vp_in_iff.mpr ⟨by decide, by decide⟩) rfl k
theorem g_sheetE3 {μ : tM} {a b : Nat} {sx : tX} {pc : Nat} {ls st : List Value} {S : tS} {Q : Int32 → tH → Prop} {i : Int32} (hd : decode μ.2.1 pc = .ok (.aaload, 1)) (e : i = 3) (k : tk_G μ a b sx (pc + 1) ls (.ref 43 :: st) (tkSH, S, tkRF) Q) : tk_G μ a b sx pc ls (.int i :: .ref 36 :: st) (tkSH, S, tkRF) Q := by
  subst e
  exact g_aald (n := 4) hd rfl (vp_in_iff.mpr ⟨by decide, by decide⟩) rfl k
