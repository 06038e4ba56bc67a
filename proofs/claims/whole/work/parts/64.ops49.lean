/-! ASKED: the rows in their order, the circles, the next row -/
def exl (n : Nat) : Nat → List Nat → List (List Nat)
  | 0, pre => [pre]
  | r + 1, pre => (List.range' 0 n).flatMap (fun o => if pre.contains o = true then [] else exl n r (pre ++ [o]))
def lf (L : List Nat) : Nat → Nat := fun i => L.getD i 0
def orb (p : Nat → Nat) : Nat → (Nat → Bool) → Nat → Nat → Bool
  | 0, s, _ => s
  | f + 1, s, i => if s i = true then s else orb p f (fun j => s j || decide (j = i)) (p i)
def cyc (p : Nat → Nat) (n : Nat) : Nat → Nat → (Nat → Bool) → Nat → Nat
  | 0, _, _, c => c
  | q + 1, k, s, c => cyc p n q (k + 1) (orb p n s k) (if s k = true then c else c + 1)
def chg (n : Nat) (p : Nat → Nat) : Nat := n - cyc p n n 0 (fun _ => false) 0
theorem cyc_le {p : Nat → Nat} {n : Nat} : ∀ q k (s : Nat → Bool) c, cyc p n q k s c ≤ c + q
  | 0, _, _, _ => Nat.le_refl _
  | q + 1, k, s, c => by
    have := cyc_le (p := p) (n := n) q (k + 1) (orb p n s k) (if s k = true then c else c + 1)
    show cyc p n q (k + 1) (orb p n s k) (if s k = true then c else c + 1) ≤ c + (q + 1)
    have : (if s k = true then c else c + 1) ≤ c + 1 := by split <;> omega
    omega
def stp (cM : Nat → Nat → Bool) (n : Nat) (acc : Option (Nat × List Nat)) (L : List Nat) : Option (Nat × List Nat) :=
  if ∀ k, k < n → cM k (lf L k) = true then
    (match acc with
    | none => some (chg n (lf L), L)
    | some (w, q) => if chg n (lf L) < w then some (chg n (lf L), L) else some (w, q))
  else acc
theorem stp_no {cM : Nat → Nat → Bool} {n : Nat} {acc : Option (Nat × List Nat)} {L : List Nat} (h : ¬ ∀ k, k < n → cM k (lf L k) = true) : stp cM n acc L = acc := if_neg h
theorem stp_none {cM : Nat → Nat → Bool} {n : Nat} {L : List Nat} (h : ∀ k, k < n → cM k (lf L k) = true) : stp cM n none L = some (chg n (lf L), L) := if_pos h
theorem stp_lt {cM : Nat → Nat → Bool} {n w : Nat} {q L : List Nat} (h : ∀ k, k < n → cM k (lf L k) = true) (g : chg n (lf L) < w) : stp cM n (some (w, q)) L = some (chg n (lf L), L) := by
  unfold stp
  rw [if_pos h]
  exact if_pos g
theorem stp_ge {cM : Nat → Nat → Bool} {n w : Nat} {q L : List Nat} (h : ∀ k, k < n → cM k (lf L k) = true) (g : ¬ chg n (lf L) < w) : stp cM n (some (w, q)) L = some (w, q) := by
  unfold stp
  rw [if_pos h]
  exact if_neg g
theorem fold_id {cM : Nat → Nat → Bool} {n : Nat} : ∀ (P : List (List Nat)) (acc : Option (Nat × List Nat)), (∀ L, L ∈ P → ¬ ∀ k, k < n → cM k (lf L k) = true) → P.foldl (stp cM n) acc = acc
  | [], _, _ => rfl
  | L :: P, acc, h => by
    show P.foldl (stp cM n) (stp cM n acc L) = acc
    rw [stp_no (h L (List.mem_cons_self ..))]
    exact fold_id P acc (fun L' h' => h L' (List.mem_cons_of_mem _ h'))
theorem lf_app {a b : List Nat} {j : Nat} (h : j < a.length) : lf (a ++ b) j = lf a j := by
  unfold lf
  rw [List.getD_eq_getElem?_getD, List.getD_eq_getElem?_getD, List.getElem?_append_left h]
theorem lf_end {a : List Nat} {o : Nat} : lf (a ++ [o]) a.length = o := by
  unfold lf
  rw [List.getD_eq_getElem?_getD, List.getElem?_append_right (Nat.le_refl _), Nat.sub_self]
  rfl
theorem exl_pre {n : Nat} : ∀ (r : Nat) (pre L : List Nat), L ∈ exl n r pre → ∀ j, j < pre.length → lf L j = lf pre j
  | 0, pre, L, h, j, _ => by
    have h : L ∈ [pre] := h
    rw [List.mem_singleton.mp h]
  | r + 1, pre, L, h, j, hj => by
    obtain ⟨o, _, h⟩ := List.mem_flatMap.mp h
    by_cases c : pre.contains o = true
    · rw [if_pos c] at h
      exact absurd h (List.not_mem_nil)
    · rw [if_neg c] at h
      rw [exl_pre r (pre ++ [o]) L h j (by rw [List.length_append]; omega)]
      exact lf_app hj
theorem exl_cut {cM : Nat → Nat → Bool} {n r o : Nat} {pre : List Nat} {acc : Option (Nat × List Nat)} (hl : pre.length < n) (h : ¬ cM pre.length o = true) : (exl n r (pre ++ [o])).foldl (stp cM n) acc = acc := by
  refine fold_id _ _ (fun L hL g => h ?_)
  have e := exl_pre r (pre ++ [o]) L hL pre.length (by rw [List.length_append]; exact Nat.lt_succ_self _)
  rw [lf_end] at e
  have := g pre.length hl
  rw [e] at this
  exact this
/-- the next row, as the reference finds it -/
def kf (p : Nat → Nat) : Nat → Option Nat
  | 0 => none
  | q + 1 => if p q ≤ p (q + 1) then some q else kf p q
def jf (p : Nat → Nat) (k : Nat) : Nat → Nat
  | 0 => 0
  | j + 1 => if p k ≤ p (j + 1) then j + 1 else jf p k j
def sw (p : Nat → Nat) (a b : Nat) : Nat → Nat := fun i => if i = b then p a else if i = a then p b else p i
def rvl : Nat → Nat → Nat → (Nat → Nat) → Nat → Nat
  | 0, _, _, p => p
  | f + 1, a, b, p => if b ≤ a then p else rvl f (a + 1) (b - 1) (sw p a b)
def nxo (n : Nat) (p : Nat → Nat) : Option (Nat → Nat) := match kf p (n - 1) with
  | none => none
  | some k => some (rvl 6 (k + 1) (n - 1) (sw p k (jf p k (n - 1))))
def nxl (n : Nat) (L : List Nat) : List Nat := match nxo n (lf L) with
  | none => []
  | some q => (List.range n).map q
def chn (n : Nat) : List (List Nat) → Bool
  | [] => true
  | L :: P => (match P with
    | [] => (nxl n L).isEmpty
    | L' :: _ => nxl n L == L') && chn n P
def goodl (n : Nat) (P : List (List Nat)) : Bool := P.all (fun L => L.length == n && L.all (fun x => Nat.blt x n)) && chn n P && (P.head? == some (List.range n))
theorem good_1 : goodl 1 (exl 1 1 []) = true := by decide +kernel
theorem good_2 : goodl 2 (exl 2 2 []) = true := by decide +kernel
theorem good_3 : goodl 3 (exl 3 3 []) = true := by decide +kernel
theorem good_4 : goodl 4 (exl 4 4 []) = true := by decide +kernel
theorem good_5 : goodl 5 (exl 5 5 []) = true := by decide +kernel
theorem good_6 : goodl 6 (exl 6 6 []) = true := by decide +kernel
theorem good_n {n : Nat} (h1 : 1 ≤ n) (h6 : n ≤ 6) : goodl n (exl n n []) = true := by
  have : n = 1 ∨ n = 2 ∨ n = 3 ∨ n = 4 ∨ n = 5 ∨ n = 6 := by omega
  rcases this with rfl | rfl | rfl | rfl | rfl | rfl
  · exact good_1
  · exact good_2
  · exact good_3
  · exact good_4
  · exact good_5
  · exact good_6
def bd (n : Nat) (L : List Nat) : Prop := ∀ i, i < n → lf L i < n
theorem bd_of {n : Nat} {L : List Nat} (h1 : 1 ≤ n) (h : ∀ x, x ∈ L → x < n) : bd n L := by
  intro i hi
  unfold lf
  rw [List.getD_eq_getElem?_getD]
  cases e : L[i]? with
  | none => exact h1
  | some x => exact h x (List.mem_of_getElem? e)
/-- the rows, each the next of the one before it -/
def rws (n : Nat) : List Nat → List (List Nat) → Prop
  | L, [] => bd n L ∧ nxo n (lf L) = none
  | L, L' :: P => bd n L ∧ (∃ q, nxo n (lf L) = some q ∧ ∀ i, i < n → q i = lf L' i) ∧ rws n L' P
theorem rws_of {n : Nat} (h1 : 1 ≤ n) : ∀ (P : List (List Nat)) (L : List Nat), (∀ K, K ∈ L :: P → K.length = n ∧ ∀ x, x ∈ K → x < n) → chn n (L :: P) = true → rws n L P
  | [], L, h, hc => by
    refine ⟨bd_of h1 (h L (List.mem_cons_self ..)).2, ?_⟩
    have hc : ((nxl n L).isEmpty && true) = true := hc
    rw [Bool.and_true] at hc
    unfold nxl at hc
    cases e : nxo n (lf L) with
    | none => rfl
    | some q =>
      rw [e] at hc
      have hc : ((List.range n).map q).isEmpty = true := hc
      rw [List.isEmpty_iff, List.map_eq_nil_iff, List.range_eq_nil] at hc
      omega
  | L' :: P, L, h, hc => by
    have hc : ((nxl n L == L') && chn n (L' :: P)) = true := hc
    rw [Bool.and_eq_true] at hc
    refine ⟨bd_of h1 (h L (List.mem_cons_self ..)).2, ?_, rws_of h1 P L' (fun K hK => h K (List.mem_cons_of_mem _ hK)) hc.2⟩
    have e1 : nxl n L = L' := eq_of_beq hc.1
    have hl := (h L' (List.mem_cons_of_mem _ (List.mem_cons_self ..))).1
    unfold nxl at e1
    cases e : nxo n (lf L) with
    | none =>
      rw [e] at e1
      have e1 : [] = L' := e1
      rw [← e1] at hl
      have hl : 0 = n := hl
      omega
    | some q =>
      rw [e] at e1
      have e1 : (List.range n).map q = L' := e1
      refine ⟨q, rfl, fun i hi => ?_⟩
      rw [← e1]
      unfold lf
      rw [List.getD_eq_getElem?_getD, List.getElem?_map, List.getElem?_range hi]
      rfl
theorem rws_n {n : Nat} (h1 : 1 ≤ n) (h6 : n ≤ 6) : ∃ (L : List Nat) (P : List (List Nat)), exl n n [] = L :: P ∧ (∀ i, i < n → lf L i = i) ∧ rws n L P := by
  have g := good_n h1 h6
  generalize exl n n [] = X at g
  unfold goodl at g
  rw [Bool.and_eq_true, Bool.and_eq_true] at g
  obtain ⟨⟨g1, g2⟩, g3⟩ := g
  cases X with
  | nil => exact absurd g3 (by simp)
  | cons L P =>
    refine ⟨L, P, rfl, fun i hi => ?_, rws_of h1 P L (fun K hK => ?_) g2⟩
    · have e : L = List.range n := by simpa using g3
      rw [e]
      unfold lf
      rw [List.getD_eq_getElem?_getD, List.getElem?_range hi]
      rfl
    · have := List.all_eq_true.mp g1 K hK
      rw [Bool.and_eq_true] at this
      refine ⟨eq_of_beq this.1, fun x hx => ?_⟩
      have w := List.all_eq_true.mp this.2 x hx
      exact Nat.blt_eq.mp w
