/-! FINDFARS: the reference -/
theorem sp_X8_hasB {Q : Int32 → tS → Prop} {S : tS} {ms : Int32} {l : Nat} (hl : l ≤ 8) (k0 : ¬ bt ms l = true → Q 0 S) (k1 : bt ms l = true → Q 1 S) : tk_Ms mX8_has [.int ms, .int (nI l)] S Q := by
  refine w_X8_has _ _ ⟨fun c => ok0 (k0 (fun g => c ?_)), fun c => ok1 (k1 ?_)⟩
  · rw [has1 ms (by omega), if_pos g]
  · rw [has1 ms (by omega)] at c
    exact Classical.byContradiction (fun g => by rw [if_neg g] at c; exact absurd c (by decide))
def dr (n j : Nat) : Nat := if j < n then j else 16
theorem dr_v {n j : Nat} : dr n j < n ∨ dr n j = 16 := by
  unfold dr
  by_cases h : j < n
  · rw [if_pos h]; exact Or.inl h
  · rw [if_neg h]; exact Or.inr rfl
theorem sp_X8_doorOfN {Q : Int32 → tS → Prop} {S : tS} {n j : Nat} (hn : S 45 3 = nI n) (h16 : n ≤ 16) (hj : j ≤ 1000) (k : Q (nI (dr n j)) S) : tk_Ms mX8_doorOf [.ref 45, .int (nI j)] S Q := by
  unfold dr at k
  refine w_X8_doorOf _ ⟨fun c => okI (by decide) ?_, fun c => okI (by decide) ?_⟩
  · rw [hn, xle, nI_t (by omega), nI_t (by omega)] at c
    rw [if_neg (by omega)] at k
    exact k
  · rw [hn, xle, nI_t (by omega), nI_t (by omega)] at c
    rw [if_pos (by omega)] at k
    exact k
def vup (v : Nat → Nat) (a x : Nat) : Nat → Nat := fun p => if p = a then x else v p
theorem sms_eq {f g : Nat → Nat} : ∀ n, (∀ i, i < n → f i = g i) → sms f n = sms g n
  | 0, _ => rfl
  | n + 1, h => by
    show sms f n + f n = sms g n + g n
    rw [sms_eq n (fun i hi => h i (by omega)), h n (by omega)]
theorem sms_up {v : Nat → Nat} {a x : Nat} (hx : x < v a) : ∀ n, a < n → sms (vup v a x) n < sms v n
  | 0, h => absurd h (Nat.not_lt_zero _)
  | n + 1, h => by
    show sms (vup v a x) n + vup v a x n < sms v n + v n
    by_cases e : n = a
    · subst e
      have e1 : vup v n x n = x := if_pos rfl
      have e2 : sms (vup v n x) n = sms v n := sms_eq n (fun i hi => if_neg (by omega))
      omega
    · have e1 : vup v a x n = v n := if_neg e
      have := sms_up (v := v) hx n (by omega)
      omega
def vOK (E : Nat → Nat → Prop) (s : Nat) (v : Nat → Nat) : Prop := v s = 0 ∧ ∀ p, p < 11 → v p ≤ 99 ∧ (v p < 99 → Wk E (v p) s p)
def rl (v : Nat → Nat) (o1 o2 : Nat → Nat) (k : Nat) : Prop := v (o1 k) ≤ v (o2 k) + 1 ∧ v (o2 k) ≤ v (o1 k) + 1
def fgv (g : Nat → Int32) (v : Nat → Nat) : Prop := ∀ p, p < 11 → g p = nI (v p)
theorem fgv_up {g : Nat → Int32} {v : Nat → Nat} {a x : Nat} (h : fgv g v) : fgv (upd g a (nI x)) (vup v a x) := by
  intro p hp
  by_cases e : p = a
  · subst e
    rw [upd_s]
    show nI x = nI (if p = p then x else v p)
    rw [if_pos rfl]
  · rw [upd_n e, h p hp]
    show nI (v p) = nI (if p = a then x else v p)
    rw [if_neg e]
theorem vOK_up {E : Nat → Nat → Prop} {s a b : Nat} {v : Nat → Nat} (h : vOK E s v) (hE : E b a) (hb : b < 11) (hlt : v b + 1 < v a) (ha : a < 11) : vOK E s (vup v a (v b + 1)) := by
  have hna : a ≠ s := fun e => by subst e; have := h.1; omega
  refine ⟨by show (if s = a then _ else _) = 0; rw [if_neg (Ne.symm hna)]; exact h.1, fun p hp => ?_⟩
  show (if p = a then v b + 1 else v p) ≤ 99 ∧ ((if p = a then v b + 1 else v p) < 99 → Wk E (if p = a then v b + 1 else v p) s p)
  by_cases e : p = a
  · subst e
    rw [if_pos rfl]
    have h1 := (h.2 p ha).1
    exact ⟨by omega, fun _ => ⟨b, (h.2 b hb).2 (by omega), hE⟩⟩
  · rw [if_neg e]
    exact h.2 p hp
theorem u2 {S : tS} {g : Nat → Int32} {a b : Nat} {X Y : Int32} : tk_up (tk_up (tk_upR S 56 g) 56 a X) 56 b Y = tk_upR S 56 (upd (upd g a X) b Y) := by rw [upR_up, upR_up]
theorem upd_self {g : Nat → Int32} {b : Nat} : upd g b (g b) = g := by
  funext p
  by_cases e : p = b
  · subst e; exact upd_s
  · exact upd_n e
theorem lp_X8_f3 {Q : Int32 → tS → Prop} {S : tS} {n s N : Nat} {o1 o2 lk : Nat → Nat} {ks ms : Int32} (hs : s < 11) (hg : geo n o1 o2 lk) (hd : dat (S 45 3) (S 46) (S 47) (S 48) n o1 o2 lk) (hb : ∀ l, l ≤ 8 → (bt ms l = true ↔ l = 8 ∨ bt ks l = true)) (k : ∀ g v fl, fgv g v → vOK (Ed n o1 o2 (pas ks lk)) s v → ((fl = 0 ∧ ∀ k, (k < n ∨ k = 16) → pas ks lk k → rl v o1 o2 k) ∨ (fl = 1 ∧ sms v 11 < N)) → tk_Gs mX8_findFars none 33 [.ref 45, .int (nI s), .int ms, .int fl, .null, .null, .null, .null] [] (tk_upR S 56 g) Q) : ∀ (m j : Nat) (g : Nat → Int32) (v : Nat → Nat) (fl : Int32), j + m = n + 1 → fgv g v → vOK (Ed n o1 o2 (pas ks lk)) s v → sms v 11 ≤ N → ((fl = 0 ∧ ∀ i, i < j → pas ks lk (dr n i) → rl v o1 o2 (dr n i)) ∨ (fl = 1 ∧ sms v 11 < N)) → tk_Gs mX8_findFars none 42 [.ref 45, .int (nI s), .int ms, .int fl, .int (nI j), .null, .null, .null] [] (tk_upR S 56 g) Q
  | 0, j, g, v, fl, e, hf, hv, hN, hfl => by
    have e : j = n + 1 := e
    subst e
    have hn := hg.1
    refine w_X8_findFars_42 _ _ _ _ ⟨fun _ => k g v fl hf hv ?_, fun c => absurd (show S 45 3 < nI (n + 1) by rw [hd.1, xlt, nI_t (by omega), nI_t (by omega)]; omega) c⟩
    rcases hfl with ⟨h1, h2⟩ | h
    · refine Or.inl ⟨h1, fun k hk hp => ?_⟩
      rcases hk with hk | hk
      · have := h2 k (by omega)
        rw [show dr n k = k from if_pos hk] at this
        exact this hp
      · subst hk
        have := h2 n (by omega)
        rw [show dr n n = 16 from if_neg (by omega)] at this
        exact this hp
    · exact Or.inr h
  | m + 1, j, g, v, fl, e, hf, hv, hN, hfl => by
    have hn := hg.1
    have hvd := dr_v (n := n) (j := j)
    refine w_X8_findFars_42 _ _ _ _ ⟨fun c => absurd c (show ¬ S 45 3 < nI j by rw [hd.1, xlt, nI_t (by omega), nI_t (by omega)]; omega), fun _ => sp_X8_doorOfN (show (tk_upR S 56 g) 45 3 = nI n from hd.1) hn (by omega) ?_⟩
    obtain ⟨e46, e47, e48⟩ := hd.2 _ hvd
    obtain ⟨ga, gb, gab, g8⟩ := hg.2 _ hvd
    have d16 : dr n j ≤ 16 := by omega
    have hdr : dr n j = dr n j := rfl
    have hrel : ∀ (g' : Nat → Int32) (v' : Nat → Nat) (fl' : Int32), fgv g' v' → vOK (Ed n o1 o2 (pas ks lk)) s v' → sms v' 11 ≤ N → ((fl' = 0 ∧ v' = v ∧ fl = 0 ∧ (pas ks lk (dr n j) → rl v o1 o2 (dr n j))) ∨ (fl' = 1 ∧ sms v' 11 < N)) → tk_Gs mX8_findFars none 42 [.ref 45, .int (nI s), .int ms, .int fl', .int (nI (j + 1)), .null, .null, .null] [] (tk_upR S 56 g') Q := by
      intro g' v' fl' q1 q2 q3 q4
      refine lp_X8_f3 hs hg hd hb k m (j + 1) g' v' fl' (by omega) q1 q2 q3 ?_
      rcases q4 with ⟨x1, x2, x3, x4⟩ | x
      · subst x2
        rcases hfl with ⟨y1, y2⟩ | ⟨y1, _⟩
        · refine Or.inl ⟨x1, fun i hi => ?_⟩
          by_cases ei : i = j
          · subst ei; exact x4
          · exact y2 i (by omega)
        · rw [x3] at y1
          exact absurd y1 (by decide)
      · exact Or.inr x
    have hsame : (pas ks lk (dr n j) → rl v o1 o2 (dr n j)) → tk_Gs mX8_findFars none 42 [.ref 45, .int (nI s), .int ms, .int fl, .int (nI (j + 1)), .null, .null, .null] [] (tk_upR S 56 g) Q := by
      intro h
      refine hrel g v fl hf hv hN ?_
      rcases hfl with ⟨y1, y2⟩ | y
      · exact Or.inl ⟨y1, rfl, y1, h⟩
      · exact Or.inr y
    generalize hD : dr n j = d at *
    have v17 : vp_in (nI d) 17 := vp_in_nI (by omega) (by omega)
    have cd : (nI d).toNatClampNeg = d := nI_c (by omega)
    have u46 : (tk_upR S 56 g) 46 = S 46 := rfl
    have u47 : (tk_upR S 56 g) 47 = S 47 := rfl
    have u48 : (tk_upR S 56 g) 48 = S 48 := rfl
    have u56 : (tk_upR S 56 g) 56 = g := rfl
    generalize hA : o1 d = a at *
    generalize hB : o2 d = b at *
    have ca : (nI a).toNatClampNeg = a := nI_c (by omega)
    have cb : (nI b).toNatClampNeg = b := nI_c (by omega)
    have va : vp_in (nI a) 11 := vp_in_nI (by omega) (by omega)
    have vb : vp_in (nI b) 11 := vp_in_nI (by omega) (by omega)
    have fa := hf a (by omega)
    have fb := hf b (by omega)
    have la := (hv.2 a (by omega)).1
    have lb := (hv.2 b (by omega)).1
    have t1 : nI (v b) + 1 < nI (v a) ↔ v b + 1 < v a := by rw [nI_1, xlt, nI_t (by omega), nI_t (by omega)]; omega
    have t2 : nI (v a) ≤ nI (v b) + 1 ↔ v a ≤ v b + 1 := by rw [nI_1, xle, nI_t (by omega), nI_t (by omega)]; omega
    have t3 : nI (v b) ≤ nI (v a) + 1 ↔ v b ≤ v a + 1 := by rw [nI_1, xle, nI_t (by omega), nI_t (by omega)]; omega
    have t4 : nI (v b) ≤ nI (v b + 1) + 1 ↔ v b ≤ v b + 1 + 1 := by rw [nI_1, xle, nI_t (by omega), nI_t (by omega)]; omega
    simp only [cd, u46, u47, u48, e46, e47, e48, ca, cb]
    refine ⟨v17, v17, v17, sp_X8_hasB g8 (fun z => zf ?_) (fun z => zt ⟨va, vb, ?_, ?_⟩)⟩
    · rw [nI_1]
      exact hsame (fun hp => absurd ((hb _ g8).mpr hp) z)
    · simp only [u56, fa, fb, nI_1]
      intro c
      have c' : v b + 1 < v a := t1.mp (by rw [nI_1]; exact c)
      refine ⟨va, vb, fun c2 => absurd (t2.mp (by rw [nI_1]; exact c2)) (by omega), fun c2 => ⟨vb, va, vb, va, ?_, ?_⟩⟩
      · intro c3
        refine ⟨vb, vb, ?_⟩
        rw [tk_up_sn (Ne.symm gab), u56, u2, show upd (upd g a (nI (v b + 1))) b (g b) = upd g a (nI (v b + 1)) by
          conv => lhs; arg 3; rw [← upd_n (f := g) (k := a) (x := nI (v b + 1)) (Ne.symm gab)]
          exact upd_self]
        have sm := sms_up (v := v) (a := a) c' 11 (by omega)
        exact hrel _ (vup v a (v b + 1)) 1 (fgv_up hf) (vOK_up hv ⟨d, hvd, (hb _ g8).mp z, Or.inr ⟨hA, hB⟩⟩ (by omega) c' (by omega)) (by omega) (Or.inr ⟨rfl, by omega⟩)
      · intro c3
        rw [tk_up_sn (Ne.symm gab), u56, tk_up_ss, fb] at c3
        exact absurd (t4.mpr (by omega)) c3
    · simp only [u56, fa, fb, nI_1]
      intro c
      have c' : ¬ v b + 1 < v a := fun h => c (by rw [← nI_1]; exact t1.mpr h)
      refine ⟨vb, va, fun c2 => ?_, fun c2 => ⟨va, vb, fun c3 => ⟨va, va, vb, va, ?_, ?_⟩, fun c3 => absurd (by rw [← nI_1]; exact t2.mpr (by omega)) c3⟩⟩
      · have c2' := t3.mp (by rw [nI_1]; exact c2)
        refine hsame (fun _ => ?_)
        unfold rl
        rw [hA, hB]
        exact ⟨by omega, c2'⟩
      · intro c4
        rw [tk_up_sn (Ne.symm gab), u56, tk_up_ss, fb, nI_1] at c4
        exact absurd c4 c2
      · intro c4
        have c2' : v a + 1 < v b := by
          have : ¬ v b ≤ v a + 1 := fun h => c2 (by rw [← nI_1]; exact t3.mpr h)
          omega
        refine ⟨va, vb, ?_⟩
        rw [tk_up_ss, nI_1, u2, show upd g a (nI (v a)) = g by rw [← fa]; exact upd_self]
        have sm := sms_up (v := v) (a := b) c2' 11 (by omega)
        exact hrel _ (vup v b (v a + 1)) 1 (fgv_up hf) (vOK_up hv ⟨d, hvd, (hb _ g8).mp z, Or.inl ⟨hA, hB⟩⟩ (by omega) c2' (by omega)) (by omega) (Or.inr ⟨rfl, by omega⟩)
