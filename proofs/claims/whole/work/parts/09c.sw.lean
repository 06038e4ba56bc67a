theorem g_tabInE {μ : tM} {a b : Nat} {sx : tX} {pc : Nat} {ls st : List Value} {h : tH} {Q : Int32 → tH → Prop} {dflt lo hi : Int} {offs : Array Int} {len : Nat} {x v : Int32} (e : x = v) {off : Int} {tgt : Nat} (hd : decode μ.2.1 pc = .ok (.tableswitch dflt lo hi offs, len)) (h1 : ¬ v.toInt < lo) (h2 : ¬ hi < v.toInt) (ho : offs[(v.toInt - lo).toNat]? = some off) (ht : (pc : Int) + off = (tgt : Int)) (k : tk_G μ a b sx tgt ls st h Q) : tk_G μ a b sx pc ls (.int x :: st) h Q := by
  subst e
  exact g_tabIn hd h1 h2 ho ht k
theorem g_lookupE {μ : tM} {a b : Nat} {sx : tX} {pc : Nat} {ls st : List Value} {h : tH} {Q : Int32 → tH → Prop} {dflt : Int} {ps : Array (Int × Int)} {len : Nat} {x v : Int32} (e : x = v) {off : Int} {tgt : Nat} (hd : decode μ.2.1 pc = .ok (.lookupswitch dflt ps, len)) (hp : (ps.toList.zip (ps.toList.drop 1)).all (fun (a, next) => a.1 < next.1) = true) (ho : Op.lookupswitch.offset ps.toList dflt v.toInt = off) (ht : (pc : Int) + off = (tgt : Int)) (k : tk_G μ a b sx tgt ls st h Q) : tk_G μ a b sx pc ls (.int x :: st) h Q := by
  subst e
  exact g_lookup hd hp ho ht k
