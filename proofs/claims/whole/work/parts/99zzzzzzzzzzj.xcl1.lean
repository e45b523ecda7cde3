/-! closed braids: the visits of each strand, one behind the other -/
def rnL (w : Nat → Nat) (lp : Nat → Bool) (s : Nat) : Nat → List vT
  | 0 => []
  | i + 1 => if psn w s i = w i ∨ psn w s i = w i + 1 then rnL w lp s i ++ [(i, ubn w lp s i)] else rnL w lp s i
section RNL
variable {w : Nat → Nat} {lp : Nat → Bool} {s t n l : Nat}
theorem rnL_on {i : Nat} (h : onL w s i) : rnL w lp s (i + 1) = rnL w lp s i ++ [(i, ubn w lp s i)] := if_pos h
theorem rnL_off {i : Nat} (h : ¬ onL w s i) : rnL w lp s (i + 1) = rnL w lp s i ∧ psn w s (i + 1) = psn w s i := by
  refine ⟨if_neg h, ?_⟩
  show sw2 (w i) (w i + 1) (psn w s i) = _
  unfold sw2
  rw [if_neg (fun e => h (Or.inl e)), if_neg (fun e => h (Or.inr e))]
theorem rnL_mem : ∀ {i : Nat} {p : vT}, p ∈ rnL w lp s i ↔ p.1 < i ∧ onL w s p.1 ∧ p.2 = ubn w lp s p.1
  | 0, p => ⟨fun h => (by cases h), fun h => absurd h.1 (Nat.not_lt_zero _)⟩
  | i + 1, p => by
    by_cases h : onL w s i
    · rw [rnL_on h, List.mem_append, rnL_mem, List.mem_singleton]
      constructor
      · rintro (⟨a, b⟩ | e)
        · exact ⟨by omega, b⟩
        · rw [e]
          exact ⟨Nat.lt_succ_self _, h, rfl⟩
      · rintro ⟨a, b, c⟩
        by_cases e : p.1 = i
        · exact Or.inr (Prod.ext e (by rw [c, e]))
        · exact Or.inl ⟨by omega, b, c⟩
    · rw [(rnL_off (lp := lp) h).1, rnL_mem]
      constructor
      · rintro ⟨a, b⟩
        exact ⟨by omega, b⟩
      · rintro ⟨a, b, c⟩
        refine ⟨?_, b, c⟩
        by_cases q : p.1 = i
        · rw [q] at b
          exact absurd b h
        · omega
theorem rnL_nd : ∀ i, (rnL w lp s i).Nodup
  | 0 => List.nodup_nil
  | i + 1 => by
    by_cases h : onL w s i
    · rw [rnL_on h]
      refine List.nodup_append.mpr ⟨rnL_nd i, List.nodup_cons.mpr ⟨List.not_mem_nil, List.nodup_nil⟩, fun a ha b hb e => ?_⟩
      have h1 := (rnL_mem.mp ha).1
      rw [List.mem_singleton.mp hb] at e
      rw [e] at h1
      exact Nat.lt_irrefl _ h1
    · rw [(rnL_off (lp := lp) h).1]
      exact rnL_nd i
theorem rnL_uni {i j : Nat} {p : vT} (h1 : p ∈ rnL w lp s i) (h2 : p ∈ rnL w lp t j) : s = t := by
  apply Classical.byContradiction
  intro hst
  obtain ⟨-, a2, a3⟩ := rnL_mem.mp h1
  obtain ⟨-, b2, b3⟩ := rnL_mem.mp h2
  exact ubn_ne (lp := lp) hst a2 b2 (a3.symm.trans b3)
theorem rnL_nil : ∀ i, rnL w lp s i = [] → psn w s i = s
  | 0, _ => rfl
  | i + 1, e => by
    by_cases h : onL w s i
    · rw [rnL_on h] at e
      exact absurd e (by simp)
    · obtain ⟨e1, e2⟩ := rnL_off (lp := lp) h
      rw [e1] at e
      rw [e2]
      exact rnL_nil i e
theorem rnL_le : ∀ d i, (rnL w lp s i).length ≤ (rnL w lp s (i + d)).length
  | 0, i => Nat.le_refl _
  | d + 1, i => by
    refine Nat.le_trans (rnL_le d i) ?_
    show _ ≤ (rnL w lp s (i + d + 1)).length
    by_cases h : onL w s (i + d)
    · rw [rnL_on h, List.length_append]
      omega
    · rw [(rnL_off (lp := lp) h).1]
      exact Nat.le_refl _
theorem rnL_ne (h : rnL w lp s l ≠ []) : rnL w lp (psn w s l) l ≠ [] := fun e => by
  have h1 := rnL_nil l e
  rw [psn_inj l h1] at e
  exact h e
theorem rnL_all (hw : ∀ i, i < l → w i + 1 < n) {p : vT} (h1 : p.1 < l) (h2 : p.2 < 2) : ∃ s, s < n ∧ p ∈ rnL w lp s l := by
  have hwi := hw _ h1
  obtain ⟨s0, a0, e0⟩ := psn_sur (w := w) (n := n) p.1 (w p.1) (by omega) (fun i hi9 => hw i (by omega))
  obtain ⟨s1, a1, e1⟩ := psn_sur (w := w) (n := n) p.1 (w p.1 + 1) hwi (fun i hi9 => hw i (by omega))
  have hne : s0 ≠ s1 := fun e => by rw [e, e1] at e0; omega
  have o0 : onL w s0 p.1 := Or.inl e0
  have o1 : onL w s1 p.1 := Or.inr e1
  have hd := ubn_ne (lp := lp) hne o0 o1
  have u0 := ubn_lt (w := w) (lp := lp) (s := s0) (i := p.1)
  have u1 := ubn_lt (w := w) (lp := lp) (s := s1) (i := p.1)
  by_cases hu : p.2 = ubn w lp s0 p.1
  · exact ⟨s0, a0, rnL_mem.mpr ⟨h1, o0, hu⟩⟩
  · exact ⟨s1, a1, rnL_mem.mpr ⟨h1, o1, by omega⟩⟩
/-- a row of strands, each going on as the next one -/
def opR (π : Nat → Nat) (j : Nat) (R : List Nat) (a : Nat) : Prop := (∀ X c d Y, R = X ++ c :: d :: Y → π c = d) ∧ (∀ X c, R = X ++ [c] → π c = a) ∧ (R = [] → a = j) ∧ ∀ c Y, R = c :: Y → c = j
theorem opR_nil {π : Nat → Nat} {j : Nat} : opR π j [] j := ⟨fun X c d Y e => by simp at e, fun X c e => by simp at e, fun _ => rfl, fun c Y e => by cases e⟩
theorem snoc2 {α : Type} {M X Y : List α} {a c d : α} (e : M ++ [a] = X ++ c :: d :: Y) : (Y = [] ∧ M = X ++ [c] ∧ d = a) ∨ ∃ Y', Y = Y' ++ [a] ∧ M = X ++ c :: d :: Y' := by
  rcases List.eq_nil_or_concat Y with h | ⟨Y', y, h⟩
  · subst h
    have e2 : M ++ [a] = (X ++ [c]) ++ [d] := by rw [e]; simp
    obtain ⟨q1, q2⟩ := List.append_inj' e2 rfl
    cases q2
    exact Or.inl ⟨rfl, q1, rfl⟩
  · rw [List.concat_eq_append] at h
    subst h
    have e2 : M ++ [a] = (X ++ c :: d :: Y') ++ [y] := by rw [e]; simp
    obtain ⟨q1, q2⟩ := List.append_inj' e2 rfl
    cases q2
    exact Or.inr ⟨Y', rfl, q1⟩
theorem snoc1 {α : Type} {M X : List α} {a c : α} (e : M ++ [a] = X ++ [c]) : M = X ∧ c = a := by
  obtain ⟨q1, q2⟩ := List.append_inj' e rfl
  cases q2
  exact ⟨q1, rfl⟩
theorem opR_snoc {π : Nat → Nat} {j a : Nat} {R : List Nat} (h : opR π j R a) : opR π j (R ++ [a]) (π a) := by
  obtain ⟨h1, h2, h3, h4⟩ := h
  refine ⟨fun X c d Y e => ?_, fun X c e => ?_, fun e => by simp at e, fun c Y e => ?_⟩
  · rcases snoc2 e with ⟨-, q1, q2⟩ | ⟨Y', -, q1⟩
    · rw [q2]
      exact h2 X c q1
    · exact h1 X c d Y' q1
  · rw [(snoc1 e).2]
  · cases R with
    | nil =>
      cases e
      exact h3 rfl
    | cons r R' =>
      cases e
      exact h4 _ _ rfl
/-- who comes before -/
theorem opR_pre {π : Nat → Nat} {j a x : Nat} {R : List Nat} (h : opR π j R a) (hx : x ∈ R) (hj : x ≠ j) : ∃ c, c ∈ R ∧ π c = x := by
  obtain ⟨X, Y, e⟩ := List.append_of_mem hx
  rcases List.eq_nil_or_concat X with q | ⟨X', c, q⟩
  · rw [q] at e
    exact absurd (h.2.2.2 _ _ e) hj
  · rw [List.concat_eq_append] at q
    have e2 : R = X' ++ c :: x :: Y := by rw [e, q]; simp
    exact ⟨c, by rw [e2]; simp, h.1 _ _ _ _ e2⟩
/-- the ring's visits stand behind each other in the net -/
theorem cl_shw {N : Nat → Nat} {j : Nat} {R : List Nat} (hR : opR (fun s => psn w s l) j R j) (nd : (R.flatMap (fun s => rnL w lp s l)).Nodup) (J1 : ∀ s, s ∈ R → ∀ X a b Y, rnL w lp s l = X ++ a :: b :: Y → N (lb a) = lb b) (J2 : ∀ s, s ∈ R → ∀ X a, rnL w lp s l = X ++ [a] → ∃ b Y, rnL w lp (psn w s l) l = b :: Y ∧ N (lb a) = lb b) {p : vT} (hp : p ∈ R.flatMap (fun s => rnL w lp s l)) : N (lb p) = lb (sc (R.flatMap (fun s => rnL w lp s l)) p) := by
  obtain ⟨s, hs, hps⟩ := List.mem_flatMap.mp hp
  obtain ⟨X, Y, eR⟩ := List.append_of_mem hs
  obtain ⟨P, Q, eP⟩ := List.append_of_mem hps
  have eL : R.flatMap (fun s => rnL w lp s l) = (X.flatMap (fun s => rnL w lp s l) ++ P) ++ p :: (Q ++ Y.flatMap (fun s => rnL w lp s l)) := by
    rw [eR, List.flatMap_append, List.flatMap_cons, eP]
    simp
  have hno : p ∉ X.flatMap (fun s => rnL w lp s l) ++ P := fun h9 => by
    rw [eL] at nd
    exact (List.nodup_append.mp nd).2.2 p h9 p List.mem_cons_self rfl
  rw [eL, sc_hd hno]
  cases Q with
  | cons q Q' =>
    rw [J1 s hs P p q Q' eP]
    rfl
  | nil =>
    obtain ⟨b, Z, e1, e2⟩ := J2 s hs P p eP
    rw [e2]
    cases Y with
    | cons s' Y' =>
      have e3 := hR.1 X s s' Y' eR
      have e3 : psn w s l = s' := e3
      rw [e3] at e1
      rw [List.nil_append, List.flatMap_cons, e1]
      rfl
    | nil =>
      have e3 := hR.2.1 X s eR
      have e3 : psn w s l = j := e3
      rw [e3] at e1
      rw [List.flatMap_nil, List.append_nil, List.nil_append]
      cases X with
      | nil =>
        have e4 := hR.2.2.2 s [] eR
        rw [e4, e1] at eP
        cases P with
        | nil =>
          cases eP
          rfl
        | cons a P' =>
          cases eP
          rfl
      | cons x X' =>
        have e4 := hR.2.2.2 x (X' ++ [s]) eR
        rw [e4, List.flatMap_cons, e1]
        rfl
/-- rings without visits are strands without letters -/
theorem cl_cir1 {j : Nat} {R : List Nat} (hR : opR (fun s => psn w s l) j R j) (hne : R ≠ []) (nd : R.Nodup) : R.countP (fun s => (rnL w lp s l).isEmpty) = if (R.flatMap (fun s => rnL w lp s l)).isEmpty = true then 1 else 0 := by
  by_cases h : ∃ s, s ∈ R ∧ rnL w lp s l = []
  · obtain ⟨s, hs, e⟩ := h
    have hf : psn w s l = s := rnL_nil l e
    obtain ⟨X, Y, eR⟩ := List.append_of_mem hs
    have hY : Y = [] := by
      cases Y with
      | nil => rfl
      | cons s' Y' =>
        have e3 : psn w s l = s' := hR.1 X s s' Y' eR
        rw [hf] at e3
        rw [eR, ← e3] at nd
        have := (List.nodup_append.mp nd).2.1
        exact absurd List.mem_cons_self (List.nodup_cons.mp this).1
    subst hY
    have e3 : psn w s l = j := hR.2.1 X s eR
    have hX : X = [] := by
      cases X with
      | nil => rfl
      | cons x X' =>
        have e4 : x = j := hR.2.2.2 x (X' ++ [s]) eR
        rw [eR, e4, ← e3, hf] at nd
        exact absurd (by simp) (List.nodup_cons.mp nd).1
    subst hX
    rw [eR]
    simp [e]
  · have h0 : R.countP (fun s => (rnL w lp s l).isEmpty) = 0 := by
      rw [List.countP_eq_zero]
      intro s hs e
      exact h ⟨s, hs, List.isEmpty_iff.mp e⟩
    rw [h0, if_neg]
    intro e
    have e := List.isEmpty_iff.mp e
    obtain ⟨r, R', eR⟩ := List.exists_cons_of_ne_nil hne
    refine h ⟨r, by rw [eR]; exact List.mem_cons_self, ?_⟩
    rw [eR, List.flatMap_cons] at e
    exact (List.append_eq_nil_iff.mp e).1
theorem cl_cirs {Rs : List (List Nat)} : ∀ (_ : ∀ R, R ∈ Rs → ∃ j, opR (fun s => psn w s l) j R j ∧ R ≠ [] ∧ R.Nodup), cirs (Rs.map (fun R => R.flatMap (fun s => rnL w lp s l))) = Rs.flatten.countP (fun s => (rnL w lp s l).isEmpty) := by
  induction Rs with
  | nil => intro _; rfl
  | cons R Rs ih =>
    intro h
    obtain ⟨j, h1, h2, h3⟩ := h R List.mem_cons_self
    have h4 := ih (fun R hR => h R (List.mem_cons_of_mem _ hR))
    rw [List.flatten_cons, List.countP_append, cl_cir1 h1 h2 h3, ← h4, List.map_cons]
    unfold cirs
    rw [List.countP_cons]
    omega
theorem cnt_perm {q : Nat → Bool} {L : List Nat} (hn : L.Nodup) (hm : ∀ s, s ∈ L ↔ s < n) : L.countP q = cntB q n := by
  rw [cntB_fl, ← List.countP_eq_length_filter]
  exact List.Perm.countP_eq _ ((List.perm_ext_iff_of_nodup hn List.nodup_range).mpr (fun s => by rw [hm, List.mem_range]))
theorem cntB_not {q : Nat → Bool} : ∀ n, cntB q n + cntB (fun k => !q k) n = n
  | 0 => rfl
  | n + 1 => by
    have := cntB_not (q := q) n
    show cntB q n + (if q n then 1 else 0) + (cntB (fun k => !q k) n + (if (!q n) then 1 else 0)) = n + 1
    cases q n <;> simp <;> omega
end RNL
