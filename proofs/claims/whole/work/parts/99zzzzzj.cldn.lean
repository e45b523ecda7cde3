/-! a code loaded: the net is valid -/
theorem snocI {α : Type} {P : List α → Prop} (h0 : P []) (h1 : ∀ F p, P F → P (F ++ [p])) : ∀ F, P F := by
  intro F
  have : ∀ n, ∀ F : List α, F.length = n → P F := by
    intro n
    induction n with
    | zero => intro F h; rw [List.length_eq_zero_iff.mp h]; exact h0
    | succ n ih =>
      intro F h
      rcases List.eq_nil_or_concat F with e | ⟨L, b, e⟩
      · rw [e] at h; cases h
      · rw [e, List.concat_eq_append]
        refine h1 L b (ih L ?_)
        rw [e, List.concat_eq_append, List.length_append] at h
        have h' : L.length + 1 = n + 1 := h
        omega
  exact this _ F rfl
def neB (A : rn_L) (c : Nat) : Bool := !((A[c]?).getD []).isEmpty
theorem ne_cnt : ∀ A : rn_L, cntB (neB A) A.length + cirs A = A.length := by
  refine snocI rfl (fun A L ih => ?_)
  rw [cirs_app, List.length_append]
  show cntB (neB (A ++ [L])) A.length + (if neB (A ++ [L]) A.length = true then 1 else 0) + _ = A.length + 1
  have e1 : cntB (neB (A ++ [L])) A.length = cntB (neB A) A.length := by
    refine cntB_cg _ (fun k hk => ?_)
    unfold neB
    rw [List.getElem?_append_left hk]
  have e2 : neB (A ++ [L]) A.length = !L.isEmpty := by
    unfold neB
    rw [List.getElem?_append_right (Nat.le_refl _), Nat.sub_self]
    rfl
  rw [e1, e2]
  cases L with
  | nil =>
    rw [if_neg (by decide), if_pos rfl]
    omega
  | cons p L =>
    rw [if_neg (List.cons_ne_nil p L)]
    show cntB (neB A) A.length + 1 + (cirs A + 0) = A.length + 1
    omega
theorem rnb_s {A : rn_L} {c : Nat} (hc : c < A.length) : rn_b A (c + 1) = rn_b A c + (A[c]).length := by
  unfold rn_b
  rw [List.take_add_one, List.getElem?_eq_getElem hc, List.flatten_append, List.length_append]
  show _ + ([A[c]].flatten).length = _
  rw [List.flatten_cons, List.flatten_nil, List.append_nil]
theorem neB_in {A : rn_L} {v : Nat} (hv : v < A.flatten.length) : neB A (rn_c A v) = true := by
  obtain ⟨h1, h2, h3⟩ := rn_c_in A v hv
  have h4 := rnb_s h1
  unfold neB
  rw [List.getElem?_eq_getElem h1]
  show (!(A[rn_c A v]).isEmpty) = true
  cases e : A[rn_c A v] with
  | nil =>
    rw [e] at h4
    have h4' : rn_b A (rn_c A v + 1) = rn_b A (rn_c A v) := h4
    omega
  | cons p L => rfl
section CJ
variable {A : rn_L} {sg : Nat → Bool} {f : Nat → Nat} {T : ow_NT}
theorem iso_it (hi : isoN A sg f T) {s : Nat} (hs : s < A.flatten.length) : ∀ j, j < rlen A (rn_c A s) → it T.2.2.1.1 j (lbv A f s) = lbv A f (rv A s j) := by
  intro j
  induction j with
  | zero =>
    intro _
    rw [rv_0 hs]
    rfl
  | succ j ih =>
    intro hj
    have h1 := ih (by omega)
    have h2 := hi.2.2.2.2.2.1 _ (rv_lt hs (show j < rlen A (rn_c A s) by omega))
    rw [rv_nx hs (by omega), if_neg (by omega)] at h2
    show T.2.2.1.1 (it T.2.2.1.1 j (lbv A f s)) = _
    rw [h1]
    exact h2
theorem iso_same (hi : isoN A sg f T) {v w : Nat} (hv : v < A.flatten.length) (hw : w < A.flatten.length) (hc : rn_c A w = rn_c A v) : ∃ i, i < 24 ∧ it T.2.2.1.1 i (lbv A f v) = lbv A f w := by
  obtain ⟨i, h1, h2⟩ := rgl_mem (rgl_all hv hw hc)
  have h3 := rlen_le hv
  have h4 := hi.2.1
  have h5 := hi.2.2.1
  refine ⟨i, by omega, ?_⟩
  rw [iso_it hi hv i h1, h2]
theorem iso_rg (hi : isoN A sg f T) : np_rg T.1 T.2.2.1 + T.2.1 ≤ A.length := by
  have hex : ∀ k, k < 2 * T.1 → ∃ v, v < A.flatten.length ∧ lbv A f v = k := fun k hk => lbv_sur hi hk
  let inv : Nat → Nat := fun k => if h : ∃ v, v < A.flatten.length ∧ lbv A f v = k then Classical.choose h else 0
  have hinv : ∀ k, k < 2 * T.1 → inv k < A.flatten.length ∧ lbv A f (inv k) = k := by
    intro k hk
    have h := hex k hk
    have e : inv k = Classical.choose h := dif_pos h
    rw [e]
    exact Classical.choose_spec h
  have h1 : np_rg T.1 T.2.2.1 ≤ cntB (neB A) A.length := by
    refine cntB_inj (2 * T.1) (fun k => lst T.2.2.1.1 k 24) (neB A) (fun k => rn_c A (inv k)) (fun k hk _ => ⟨(rn_c_in A _ (hinv k hk).1).1, neB_in (hinv k hk).1⟩) (fun k j hk hj qk qj e => ?_)
    have a1 := hinv k hk
    have a2 := hinv j hj
    obtain ⟨i1, i2, i3⟩ := iso_same hi a1.1 a2.1 e.symm
    obtain ⟨j1, j2, j3⟩ := iso_same hi a2.1 a1.1 e
    rw [a1.2, a2.2] at i3 j3
    have b1 := (lst_t 24).mp qk i1 i2
    have b2 := (lst_t 24).mp qj j1 j2
    omega
  have h2 := ne_cnt A
  have h3 : cirs A = T.2.1 := hi.2.2.2.2.2.2.2
  omega
end CJ
/-- reading keeps a net's numbers below 24 -/
theorem ld_b24 : ∀ (L : List Nat) (t t1 : ow_LD), ldR L t = some t1 → ow_b24 t.1.1 → (∀ a, t.2.2.1 = some a → a < 24) → (∀ a, t.2.2.2 = some a → a < 24) → ow_b24 t1.1.1
  | [], t, t1, h, hb, _, _ => by
    cases h
    exact hb
  | c :: L, t, t1, h, hb, hf, hl => by
    have h : (ld_cell t c).bind (ldR L) = some t1 := h
    obtain ⟨⟨S, G, Fo, Fc⟩, ⟨ci, co, ba, na, lo, cn⟩, fi, la⟩ := t
    dsimp only at hb hf hl
    have hla : la.getD 0 < 24 := by
      cases la with
      | none => exact Nat.succ_pos 23
      | some a => exact hl a rfl
    have hnl : ∀ a b, a < 24 → b < 24 → ow_b24 (nl S a b) := by
      intro a b ha hb2
      refine ⟨fun k => ?_, fun k => ?_⟩
      · show (if k = a then b else S.1 k) < 24
        split
        · exact hb2
        · exact hb.1 k
      · show (if k = b then a else S.2 k) < 24
        split
        · exact ha
        · exact hb.2 k
    rw [ld_cell_eq] at h
    by_cases e0 : c = 0
    · rw [if_pos e0] at h
      refine ld_b24 L (ld_zero S G Fo Fc ci co ba na lo cn fi la) t1 h ?_ (fun a e => by cases e) hl
      cases fi with
      | none => exact hb
      | some a => exact hnl _ _ hla (hf a rfl)
    · rw [if_neg e0] at h
      by_cases e1 : 4 ≤ c ∧ ba + c / 4 - 1 < 12 ∧ cn < 24 ∧ (ba + c / 4 - 1 < na → 0 < lo)
      · rw [if_pos e1] at h
        have hv : 2 * (ba + c / 4 - 1) + c / 2 % 2 < 24 := by omega
        refine ld_b24 L _ t1 h ?_ (fun a e => ?_) (fun a e => ?_)
        · cases fi with
          | none => exact hb
          | some a => exact hnl _ _ hla hv
        · have e : some (fi.getD (2 * (ba + c / 4 - 1) + c / 2 % 2)) = some a := e
          cases fi with
          | none =>
            cases e
            exact hv
          | some b =>
            cases e
            exact hf _ rfl
        · have e : some (2 * (ba + c / 4 - 1) + c / 2 % 2) = some a := e
          cases e
          exact hv
      · rw [if_neg e1] at h
        cases h
theorem ucd_len {sg : Nat → Bool} : ∀ (R D : rn_L) (b : Nat), (ucd sg b D R).length = R.flatten.length + R.length
  | [], _, _ => rfl
  | L :: R, D, b => by
    show (L.map (clc sg b) ++ 0 :: ucd sg (nxb b (D ++ [L])) (D ++ [L]) R).length = _
    rw [List.length_append, List.length_cons, ucd_len R, List.length_map, List.flatten_cons, List.length_append, List.length_cons]
    omega
theorem ucd_64 {sg : Nat → Bool} : ∀ (R D : rn_L) (b : Nat), (∀ p, p ∈ R.flatten → p.1 < 12 ∧ p.2 < 2) → ∀ a, a ∈ ucd sg b D R → a < 64
  | [], _, _ => fun _ a ha => by cases ha
  | L :: R, D, b => fun h a ha => by
    have ha : a ∈ L.map (clc sg b) ++ 0 :: ucd sg (nxb b (D ++ [L])) (D ++ [L]) R := ha
    rcases List.mem_append.mp ha with h1 | h1
    · obtain ⟨p, hp, e⟩ := List.mem_map.mp h1
      have := h p (by rw [List.flatten_cons]; exact List.mem_append_left _ hp)
      rw [← e]
      unfold clc
      split <;> omega
    · rcases List.mem_cons.mp h1 with h2 | h2
      · omega
      · exact ucd_64 R _ _ (fun p hp => h p (by rw [List.flatten_cons]; exact List.mem_append_right _ hp)) a h2
/-- the class's code of a list of components -/
def clC (sg : Nat → Bool) (A : rn_L) : cdT := (A.flatten.length / 2, ucd sg 0 [] A)
theorem okL_c {A : rn_L} {c : Nat} {sg : Nat → Bool} (h : okL A c) : (clC sg A).1 = c ∧ cOK (clC sg A) := by
  have h1 := okF_len h.1
  have h2 := h.2.2.2.1
  have h3 := h.2.2.2.2
  have e : (clC sg A).1 = c := by
    show A.flatten.length / 2 = c
    omega
  refine ⟨e, by rw [e]; exact h2, ?_, ?_⟩
  · show (ucd sg 0 [] A).length ≤ 30
    rw [ucd_len]
    omega
  · exact ucd_64 A [] 0 (fun p hp => by have := (h.1.2 p).mp hp; omega)
section CK2
variable {vl : Nat → Nat} {y : ow_MS} {h g p s : Nat} {A : rn_L} {sg : Nat → Bool} {c : Nat} {T : ow_NT}
/-- the net at h shows A, as it is loaded: the visits' order and components lie beside -/
def shA (y : ow_MS) (h : Nat) (A : rn_L) (sg : Nat → Bool) (T : ow_NT) : Prop := cAt y h T ∧ isoN A sg (fun x => x) T ∧ nv T ∧ (∀ i q, A.flatten[i]? = some q → y.2.1 (h + 4) i = nI (lb q)) ∧ (∀ v, v < A.flatten.length → y.2.1 (h + 5) (lb (vAt A v)) = nI (rn_c A v)) ∧ y.1 (h + 10) = nI A.length
theorem tc_load2 (hh : nH h) (hg : tH g p) (hd : h + 12 ≤ g ∨ g + 6 ≤ h) (hs : s < p) (hA : okL A c) (hC : slC y g s (clC sg A)) (hy : cAt y h T) (hb : ow_b24 T.2.2.1) : Te (fun K => ce_X7_load vl K h g (nI s) y) (fun y1 => (∃ T1, shA y1 h A sg T1 ∧ T1.1 = c ∧ T1.2.1 = cirs A) ∧ fr (cL h) y y1) := by
  obtain ⟨ec, oC⟩ := okL_c (sg := sg) hA
  obtain ⟨o1, o2, o3, o4, o5⟩ := id hA
  have hv : vOK A.flatten := ⟨o1.1, fun p hp => ((o1.2 p).mp hp).2⟩
  have hl := okF_len o1
  have hinit : ldS sg [] [] 0 (ld_init T.2.2.1 T.2.2.2 (y.2.1 (h + 4)) (y.2.1 (h + 5))) := by
    refine ⟨rfl, rfl, fun h => absurd rfl h, fun v hv => absurd hv (Nat.not_lt_zero _), fun i p q e => ?_, fun p hp => (by cases hp), fun i p e => ?_, fun v hv => absurd hv (Nat.not_lt_zero _), fun p hp => (by cases hp)⟩
    · rw [List.getElem?_nil] at e
      cases e
    · have e : ([] : List (Nat × Nat))[i]? = some p := e
      rw [List.getElem?_nil] at e
      cases e
  obtain ⟨t, b1, h1, h2⟩ := ldS_all (sg := sg) A [] 0 (ld_init T.2.2.1 T.2.2.2 (y.2.1 (h + 4)) (y.2.1 (h + 5))) hv o2 (fun p hp => by have := ((o1.2 p).mp hp).1; omega) (by rw [List.nil_append]; omega) o3 hinit
  rw [List.nil_append] at h2
  refine w_monoE (tc_load hh hg hd hs hC oC hy (fun _ => rfl) (fun _ => rfl) h1) ?_
  rintro y1 ⟨l1, l2⟩
  obtain ⟨n1, n2⟩ := ldS_net hA h2
  have hb1 := ld_b24 _ _ _ h1 hb (fun a e => by cases e) (fun a e => by cases e)
  have hr := iso_rg n1
  obtain ⟨g1, g2, g3, g4⟩ := l1
  rw [ec] at g1
  have hci : t.2.1.1 = cirs A := by rw [h2.1]
  have hco : t.2.1.2.1 = A.length := by rw [h2.1]
  refine ⟨⟨(c, t.2.1.1, t.1.1, t.1.2.1), ⟨g1, n1, ⟨n2, o4, hb1, by omega⟩, fun i q e => ?_, fun v hv1 => ?_, ?_⟩, rfl, hci⟩, l2⟩
  · rw [g2 i]
    exact h2.2.2.2.2.2.2.1 i q (by rw [List.append_nil]; exact e)
  · rw [g3]
    exact h2.2.2.2.2.2.2.2.1 v hv1
  · rw [g4, hco]
end CK2
