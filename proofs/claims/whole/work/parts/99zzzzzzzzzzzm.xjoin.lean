/-! the moves of both sides: rows and codes, in order -/
def crP (C : cdT) (r : List Nat) : Prop := ∃ A sg c, okL A c ∧ C = clC sg A ∧ r = tk sg A ∧ A ≠ [] ∧ plnA A sg
theorem crP_R {C : cdT} {r : List Nat} (h : crP C r) : crR C r := by
  obtain ⟨A, sg, c, h1, h2, h3, -⟩ := h
  exact ⟨A, sg, c, h1, h2, h3⟩
theorem srt_join : ∀ (L2 : List cdT) (L1 : List (List Nat)), L2.Pairwise (fun a b => cmpC a b < 0) → L1.Pairwise (fun a b => lsr a b = true) → (∀ C, C ∈ L2 → ∃ r, r ∈ L1 ∧ crP C r) → (∀ r, r ∈ L1 → ∃ C, C ∈ L2 ∧ crP C r) → L2.length = L1.length ∧ ∀ (k : Nat) C r, L2[k]? = some C → L1[k]? = some r → crP C r
  | [], [], _, _, _, _ => ⟨rfl, fun k C r h => by rw [List.getElem?_nil] at h; cases h⟩
  | [], r :: L1, _, _, _, h => by
    obtain ⟨C, hC, -⟩ := h r List.mem_cons_self
    cases hC
  | C :: L2, [], _, _, h, _ => by
    obtain ⟨r, hr, -⟩ := h C List.mem_cons_self
    cases hr
  | C :: L2, r :: L1, p2, p1, h21, h12 => by
    obtain ⟨q2, p2'⟩ := List.pairwise_cons.mp p2
    obtain ⟨q1, p1'⟩ := List.pairwise_cons.mp p1
    have hCr : crP C r := by
      obtain ⟨r0, hr0, e0⟩ := h21 C List.mem_cons_self
      obtain ⟨C0, hC0, f0⟩ := h12 r List.mem_cons_self
      rcases List.mem_cons.mp hr0 with e | hr0
      · rw [← e]
        exact e0
      · rcases List.mem_cons.mp hC0 with e | hC0
        · rw [← e]
          exact f0
        · have h1 := q1 r0 hr0
          have h2 := (crR_lt (crP_R e0) (crP_R f0)).mpr (q2 C0 hC0)
          have h3 := lsr_tr h1 h2
          rw [lsr_irr] at h3
          cases h3
    obtain ⟨k1, k2⟩ := srt_join L2 L1 p2' p1' (fun C' hC' => by
      obtain ⟨r', hr', e'⟩ := h21 C' (List.mem_cons_of_mem _ hC')
      rcases List.mem_cons.mp hr' with e | hr'
      · rw [e] at e'
        have := crR_c (crP_R hCr) (crP_R e')
        have h9 := q2 C' hC'
        rw [← this, cmpC_rf] at h9
        omega
      · exact ⟨r', hr', e'⟩) (fun r' hr' => by
      obtain ⟨C', hC', e'⟩ := h12 r' (List.mem_cons_of_mem _ hr')
      rcases List.mem_cons.mp hC' with e | hC'
      · rw [e] at e'
        have := crR_r (crP_R hCr) (crP_R e')
        have h9 := q1 r' hr'
        rw [← this, lsr_irr] at h9
        cases h9
      · exact ⟨C', hC', e'⟩)
    refine ⟨by rw [List.length_cons, List.length_cons, k1], fun k D s hD hs => ?_⟩
    cases k with
    | zero =>
      cases hD
      cases hs
      exact hCr
    | succ k => exact k2 k D s hD hs
section XJ
variable {A : rn_L} {sg : Nat → Bool} {R : ow_NT} {kd : Nat} {Ms : List (List Nat)} {X : List cdT} {os : List Nat}
theorem OM_len {A' : rn_L} {sg' : Nat → Bool} {c : Nat} (h : OM A sg c kd A' sg') : A'.length = A.length := by
  have wo : ∀ x y, (woA x y A).length = A.length := fun x y => List.length_map ..
  match kd, h with
  | 0, h =>
    obtain ⟨-, v, -, -, rfl⟩ := h
    exact wo _ _
  | 1, h =>
    obtain ⟨-, g, k, -, -, rfl, -⟩ := h
    unfold bldA
    rw [List.length_map, List.length_range]
  | 2, h =>
    obtain ⟨-, v, -, -, rfl⟩ := h
    exact wo _ _
  | 3, h =>
    obtain ⟨-, g, h, k, -, -, -, rfl, -⟩ := h
    exact t3_len
  | _ + 4, h =>
    obtain ⟨s, -, -, -, -, -, rfl⟩ := h
    unfold t4A rsh
    rw [List.length_map, List.length_range]
theorem at_in (hl : X.length = os.length) (ho : ∀ (j s : Nat), os[j]? = some s → s < X.length) {k : Nat} (hk : k < os.length) : atC X os k ∈ X := by
  have h1 := ho k _ (List.getElem?_eq_getElem hk)
  unfold atC
  rw [List.getD_eq_getElem?_getD (l := os), List.getElem?_eq_getElem hk]
  show X.getD os[k] (0, []) ∈ X
  rw [List.getD_eq_getElem?_getD, List.getElem?_eq_getElem h1]
  exact List.getElem_mem h1
theorem at_sur (hl : X.length = os.length) (ho : ∀ (j s : Nat), os[j]? = some s → s < X.length) (hs : sts X os) {C : cdT} (hC : C ∈ X) : ∃ k, k < os.length ∧ atC X os k = C := by
  obtain ⟨i, hi, e⟩ := List.getElem_of_mem hC
  have nd : os.Nodup := by
    rw [List.nodup_iff_pairwise_ne, List.pairwise_iff_getElem]
    intro a b ha hb hab e9
    have h1 := hs a b hab hb
    have : atC X os a = atC X os b := by
      unfold atC
      rw [List.getD_eq_getElem?_getD (l := os), List.getD_eq_getElem?_getD (l := os), List.getElem?_eq_getElem ha, List.getElem?_eq_getElem hb, e9]
    rw [this, cmpC_rf] at h1
    omega
  have him : i ∈ os := by
    rcases Classical.em (i ∈ os) with h9 | h9
    · exact h9
    · exfalso
      have := nodup_le (i :: os) (List.range X.length) (List.nodup_cons.mpr ⟨h9, nd⟩) (fun a ha => by
        rw [List.mem_range]
        rcases List.mem_cons.mp ha with e | ha
        · rw [e]
          exact hi
        · obtain ⟨j, hj, e⟩ := List.getElem_of_mem ha
          exact ho j a (by rw [List.getElem?_eq_getElem hj, e]))
      rw [List.length_cons, List.length_range] at this
      omega
  obtain ⟨k, hk, e2⟩ := List.getElem_of_mem him
  refine ⟨k, hk, ?_⟩
  unfold atC
  rw [List.getD_eq_getElem?_getD (l := os), List.getElem?_eq_getElem hk]
  show X.getD os[k] (0, []) = C
  rw [e2, List.getD_eq_getElem?_getD, List.getElem?_eq_getElem hi]
  exact e
theorem cnt_le : ∀ c, c < 13 → ∀ kd, kd < 5 → mv_cnt c kd ≤ 1848 := by decide
theorem mv_join (hV : isoV A sg idN R) (hR : nv R) (hp : pm1 R) (hpl : nt_plane R = true) (h6 : A.length ≤ 6) (hne : A ≠ []) (hk : kd < 5) (hMs : Ms.Pairwise (fun a b => lsr a b = true)) (m1 : ∀ r, r ∈ Ms → ∃ A' sg', OM A sg R.1 kd A' sg' ∧ nfR A' sg' r) (m2 : ∀ A' sg', OM A sg R.1 kd A' sg' → ∃ r, r ∈ Ms ∧ nfR A' sg' r) (hl : X.length = os.length) (ho : ∀ (j s : Nat), os[j]? = some s → s < X.length) (hs : sts X os) (x1 : ∀ C, C ∈ X → ∃ j, j < mv_cnt R.1 kd ∧ mvD kd R j C) (x2 : ∀ j, j < mv_cnt R.1 kd → mvN kd R j ∨ ∃ C, mvD kd R j C ∧ (C ∈ X ∨ os.length = 1848)) : os.length = Ms.length ∧ ∀ (k : Nat) r, Ms[k]? = some r → crP (atC X os k) r := by
  have mb := mb_all hV hp h6 hpl hk
  -- a code and a row of one net
  have join : ∀ {A' : rn_L} {sg' : Nat → Bool} {f : Nat → Nat} {F P : Nat → Int32} {Q : ow_NT} {j : Nat} {Ds : List cdT} {qs : List Nat} {r : List Nat}, OM A sg R.1 kd A' sg' → j < mv_cnt R.1 kd → mv_mk kd R F P → ow_b24 Q.2.2.1 → mv_B kd j Q R F P = true → isoV A' sg' f (mv_T kd j Q R F P) → cpZ (mv_T kd j Q R F P) (np_parts (mv_T kd j Q R F P).1 (mv_T kd j Q R F P).2.2.1.1).2 Ds qs → nfR A' sg' r → crP (enC (mv_T kd j Q R F P) Ds qs) r := by
    rintro A' sg' f F P Q j Ds qs r hO hj hmk hQ hB hi hZ ⟨m, Pp, hmk9, rfl⟩
    have hl9 := OM_len hO
    have hnv := (mv_nv hR hk F P Q j hmk hQ hj).2 hB
    obtain ⟨A2, sg2, e1, e2, e3, e4, f', e5⟩ := enc_iso (isoS_iff.mp hi.1) (by omega) hnv hmk9 hZ
    have hpp := mv_pl hR hp hpl hk hQ hj hB
    refine ⟨A2, sg2, _, e2, e3, e1, fun e => ?_, plnA_of e5 hpp.2 hpp.1⟩
    rw [e] at e4
    have : A.length ≠ 0 := fun e9 => hne (List.eq_nil_of_length_eq_zero e9)
    have e4 : 0 = _ := e4
    omega
  have c2r : ∀ {j : Nat} {C : cdT}, j < mv_cnt R.1 kd → mvD kd R j C → ∃ A' sg', OM A sg R.1 kd A' sg' ∧ ∀ C', mvD kd R j C' → ∀ r, nfR A' sg' r → crP C' r := by
    rintro j C hj ⟨F, P, Q, Ds, qs, d1, d2, d3, d4, rfl⟩
    obtain ⟨A', sg', hO, hall⟩ := mb.1 j hj ⟨F, P, Q, d1, d2, d3⟩
    refine ⟨A', sg', hO, ?_⟩
    rintro C' ⟨F', P', Q', Ds', qs', d1', d2', d3', d4', rfl⟩ r hr
    obtain ⟨-, f, hf⟩ := hall F' P' Q' d1' d2'
    exact join hO hj d1' d2' d3' hf d4' hr
  have det : ∀ {j : Nat} {C C' : cdT}, j < mv_cnt R.1 kd → mvD kd R j C → mvD kd R j C' → C = C' := by
    intro j C C' hj h1 h2
    obtain ⟨A', sg', hO, hall⟩ := c2r hj h1
    obtain ⟨r, -, hr⟩ := m2 A' sg' hO
    exact crR_c (crP_R (hall C h1 r hr)) (crP_R (hall C' h2 r hr))
  -- a full table holds all
  have full : ∀ {j : Nat} {C : cdT}, j < mv_cnt R.1 kd → mvD kd R j C → os.length = 1848 → C ∈ X := by
    intro j C hj hD h9
    have hch : ∀ n, n ≤ os.length → ∃ Js : List Nat, Js.length = n ∧ Js.Nodup ∧ (∀ i, i ∈ Js → i < mv_cnt R.1 kd ∧ ∃ k, k < n ∧ mvD kd R i (atC X os k)) := by
      intro n
      induction n with
      | zero => exact fun _ => ⟨[], rfl, List.nodup_nil, fun i hi => absurd hi List.not_mem_nil⟩
      | succ n ih =>
        intro hn
        obtain ⟨Js, j1, j2, j3⟩ := ih (by omega)
        obtain ⟨i, i1, i2⟩ := x1 _ (at_in hl ho (k := n) (by omega))
        refine ⟨i :: Js, by rw [List.length_cons, j1], List.nodup_cons.mpr ⟨fun h8 => ?_, j2⟩, fun a ha => ?_⟩
        · obtain ⟨-, k, k1, k2⟩ := j3 i h8
          have e := det i1 k2 i2
          have h7 := hs k n k1 (by omega)
          rw [e, cmpC_rf] at h7
          omega
        · rcases List.mem_cons.mp ha with e | ha
          · rw [e]
            exact ⟨i1, n, by omega, i2⟩
          · obtain ⟨a1, k, k1, k2⟩ := j3 a ha
            exact ⟨a1, k, by omega, k2⟩
    obtain ⟨Js, j1, j2, j3⟩ := hch _ (Nat.le_refl _)
    have him : j ∈ Js := by
      rcases Classical.em (j ∈ Js) with h8 | h8
      · exact h8
      · exfalso
        have h7 := nodup_le (j :: Js) (List.range (mv_cnt R.1 kd)) (List.nodup_cons.mpr ⟨h8, j2⟩) (fun a ha => by
          rw [List.mem_range]
          rcases List.mem_cons.mp ha with e | ha
          · rw [e]
            exact hj
          · exact (j3 a ha).1)
        rw [List.length_cons, List.length_range, j1, h9] at h7
        have := cnt_le R.1 (by have := hR.2.1; omega) kd hk
        omega
    obtain ⟨-, k, k1, k2⟩ := j3 j him
    rw [det hj hD k2]
    exact at_in hl ho k1
  have a1 : ∀ C, C ∈ X → ∃ r, r ∈ Ms ∧ crP C r := by
    intro C hC
    obtain ⟨j, hj, hD⟩ := x1 C hC
    obtain ⟨A', sg', hO, hall⟩ := c2r hj hD
    obtain ⟨r, r1, r2⟩ := m2 A' sg' hO
    exact ⟨r, r1, hall C hD r r2⟩
  have a2 : ∀ r, r ∈ Ms → ∃ C, C ∈ X ∧ crP C r := by
    intro r hr
    obtain ⟨A', sg', hO, hn⟩ := m1 r hr
    obtain ⟨j, hj, hall⟩ := mb.2 A' sg' hO
    rcases x2 j hj with ⟨F, P, Q, d1, d2, d3⟩ | ⟨C, hD, hx⟩
    · have := (hall F P Q d1 d2).1
      rw [d3] at this
      cases this
    · have hCX : C ∈ X := hx.elim id (fun h9 => full hj hD h9)
      obtain ⟨F, P, Q, Ds, qs, d1, d2, d3, d4, rfl⟩ := hD
      obtain ⟨-, f, hf⟩ := hall F P Q d1 d2
      exact ⟨_, hCX, join hO hj d1 d2 d3 hf d4 hn⟩
  obtain ⟨L2, hL2⟩ : ∃ L2, L2 = (List.range os.length).map (atC X os) := ⟨_, rfl⟩
  have l2 : L2.length = os.length := by rw [hL2, List.length_map, List.length_range]
  have g2 : ∀ k, k < os.length → L2[k]? = some (atC X os k) := fun k hk => by
    rw [hL2, List.getElem?_map, List.getElem?_range hk]
    rfl
  have mem2 : ∀ C, C ∈ L2 ↔ C ∈ X := by
    intro C
    rw [hL2, List.mem_map]
    constructor
    · rintro ⟨k, hk, rfl⟩
      exact at_in hl ho (List.mem_range.mp hk)
    · intro hC
      obtain ⟨k, hk, e⟩ := at_sur hl ho hs hC
      exact ⟨k, List.mem_range.mpr hk, e⟩
  have p2 : L2.Pairwise (fun a b => cmpC a b < 0) := by
    rw [List.pairwise_iff_getElem]
    intro i j hi hj hij
    have e1 := g2 i (by omega)
    have e2 := g2 j (by omega)
    rw [List.getElem?_eq_getElem hi] at e1
    rw [List.getElem?_eq_getElem hj] at e2
    rw [Option.some.inj e1, Option.some.inj e2]
    exact hs i j hij (by omega)
  obtain ⟨k1, k2⟩ := srt_join L2 Ms p2 hMs (fun C hC => a1 C ((mem2 C).mp hC)) (fun r hr => by
    obtain ⟨C, c1, c3⟩ := a2 r hr
    exact ⟨C, (mem2 C).mpr c1, c3⟩)
  refine ⟨by omega, fun k r hr => ?_⟩
  have := (List.getElem?_eq_some_iff.mp hr).1
  exact k2 k _ r (g2 k (by omega)) hr
/-- the lists that both sides keep -/
theorem mv_list (h : ∀ (k : Nat) r, Ms[k]? = some r → crP (atC X os k) r) : ∃ Ns : List (rn_L × (Nat → Bool)), Ns.length = Ms.length ∧ ∀ (k : Nat) A' sg', Ns[k]? = some (A', sg') → Ms[k]? = some (tk sg' A') ∧ atC X os k = clC sg' A' ∧ A' ≠ [] ∧ plnA A' sg' ∧ ∃ c, okL A' c := by
  have key : ∀ n, n ≤ Ms.length → ∃ Ns : List (rn_L × (Nat → Bool)), Ns.length = n ∧ ∀ (k : Nat) A' sg', Ns[k]? = some (A', sg') → Ms[k]? = some (tk sg' A') ∧ atC X os k = clC sg' A' ∧ A' ≠ [] ∧ plnA A' sg' ∧ ∃ c, okL A' c := by
    intro n
    induction n with
    | zero => exact fun _ => ⟨[], rfl, fun k A' sg' h9 => by rw [List.getElem?_nil] at h9; cases h9⟩
    | succ n ih =>
      intro hn
      obtain ⟨Ns, n1, n2⟩ := ih (by omega)
      have hr : Ms[n]? = some Ms[n] := List.getElem?_eq_getElem (by omega)
      obtain ⟨A', sg', c, k1, k2, k3, k4, k5⟩ := h n _ hr
      refine ⟨Ns ++ [(A', sg')], by rw [List.length_append, n1]; rfl, fun k B sgB hB => ?_⟩
      by_cases hkn : k < n
      · rw [List.getElem?_append_left (by omega)] at hB
        exact n2 k B sgB hB
      · have hkl := (List.getElem?_eq_some_iff.mp hB).1
        rw [List.length_append, n1] at hkl
        have hkl : k < n + 1 := hkl
        have e : k = n := by omega
        subst e
        rw [List.getElem?_append_right (by omega), n1, Nat.sub_self] at hB
        cases hB
        rw [hr, ← k3]
        exact ⟨rfl, k2, k4, k5, c, k1⟩
  exact key _ (Nat.le_refl _)
end XJ
