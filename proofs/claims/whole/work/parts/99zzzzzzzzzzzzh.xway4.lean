/-! the class's way, exactly; both sides answer the same -/
theorem pig_le {α : Type} {P : Nat → α → Prop} {n : Nat} (X : List α) (hX : X.Nodup) (h1 : ∀ C, C ∈ X → ∃ j, j < n ∧ P j C) (h2 : ∀ j C C', j < n → P j C → P j C' → C = C') : X.length ≤ n := by
  have key : ∀ X : List α, X.Nodup → (∀ C, C ∈ X → ∃ j, j < n ∧ P j C) → ∃ Js : List Nat, Js.length = X.length ∧ Js.Nodup ∧ ∀ j, j ∈ Js → j < n ∧ ∃ C, C ∈ X ∧ P j C := by
    intro X
    induction X with
    | nil => exact fun _ _ => ⟨[], rfl, List.nodup_nil, fun j hj => absurd hj List.not_mem_nil⟩
    | cons C X ih =>
      intro hn h9
      obtain ⟨n1, n2⟩ := List.nodup_cons.mp hn
      obtain ⟨Js, j1, j2, j3⟩ := ih n2 (fun D hD => h9 D (List.mem_cons_of_mem _ hD))
      obtain ⟨j, k1, k2⟩ := h9 C List.mem_cons_self
      refine ⟨j :: Js, by rw [List.length_cons, List.length_cons, j1], List.nodup_cons.mpr ⟨fun h8 => ?_, j2⟩, fun a ha => ?_⟩
      · obtain ⟨-, D, d1, d2⟩ := j3 j h8
        exact n1 (by rw [h2 j C D k1 k2 d2]; exact d1)
      · rcases List.mem_cons.mp ha with e | ha
        · rw [e]
          exact ⟨k1, C, List.mem_cons_self, k2⟩
        · obtain ⟨a1, D, a2, a3⟩ := j3 a ha
          exact ⟨a1, D, List.mem_cons_of_mem _ a2, a3⟩
  obtain ⟨Js, j1, j2, j3⟩ := key X hX h1
  have := nodup_le Js (List.range n) j2 (fun j hj => List.mem_range.mpr (j3 j hj).1)
  rw [List.length_range] at this
  omega
section XW4
variable {A : rn_L} {sg : Nat → Bool} {R : ow_NT} {kd c j : Nat} {C C' : cdT}
/-- a move's number gives one code -/
theorem mv_det (hR : nxC A sg c R) (hpl : plnA A sg) (hk : kd < 5) (hj : j < mv_cnt R.1 kd) (h1 : mvD kd R j C) (h2 : mvD kd R j C') : C = C' := by
  obtain ⟨hV, hp, hpn, ec⟩ := nx_iso hR hpl
  have h6 := hR.1.2.2.2.2
  have mb := mb_all hV hp h6 hpn hk
  obtain ⟨F, P, Q, Ds, qs, d1, d2, d3, d4, rfl⟩ := h1
  obtain ⟨F', P', Q', Ds', qs', d1', d2', d3', d4', rfl⟩ := h2
  obtain ⟨A', sg', hO, hall⟩ := mb.1 j hj ⟨F, P, Q, d1, d2, d3⟩
  obtain ⟨-, f, hf⟩ := hall F P Q d1 d2
  obtain ⟨-, f', hf'⟩ := hall F' P' Q' d1' d2'
  have l3 := OM_len hO
  exact cd_same hf hf' (by omega) ((mv_nv hR.2.2.1 hk F P Q j d1 d2 hj).2 d3) ((mv_nv hR.2.2.1 hk F' P' Q' j d1' d2' hj).2 d3') d4 d4'
/-- how many moves there are of the first kinds -/
def cS (c : Nat) : Nat → Nat
  | 0 => 0
  | t + 1 => cS c t + mv_cnt c t
theorem cS_le : ∀ c, c < 5 → ∀ t, t < 6 → cS c t ≤ 432 := by decide
theorem sts_nd {X : List cdT} {os : List Nat} (hl : X.length = os.length) (ho : ∀ (j s : Nat), os[j]? = some s → s < X.length) (hs : sts X os) : X.Nodup := by
  have nd : os.Nodup := by
    rw [List.nodup_iff_pairwise_ne, List.pairwise_iff_getElem]
    intro a b ha hb hab e9
    have h1 := hs a b hab hb
    have : atC X os a = atC X os b := by
      unfold atC
      rw [List.getD_eq_getElem?_getD (l := os), List.getD_eq_getElem?_getD (l := os), List.getElem?_eq_getElem ha, List.getElem?_eq_getElem hb, e9]
    rw [this, cmpC_rf] at h1
    omega
  have him : ∀ i, i < X.length → ∃ k, k < os.length ∧ os[k]? = some i := by
    intro i hi
    rcases Classical.em (i ∈ os) with h9 | h9
    · obtain ⟨k, hk, e⟩ := List.getElem_of_mem h9
      exact ⟨k, hk, by rw [List.getElem?_eq_getElem hk, e]⟩
    · exfalso
      have := nodup_le (i :: os) (List.range X.length) (List.nodup_cons.mpr ⟨h9, nd⟩) (fun a ha => by
        rw [List.mem_range]
        rcases List.mem_cons.mp ha with e | ha
        · rw [e]
          exact hi
        · obtain ⟨j, hj, e⟩ := List.getElem_of_mem ha
          exact ho j a (by rw [List.getElem?_eq_getElem hj, e]))
      rw [List.length_cons, List.length_range] at this
      omega
  have hat : ∀ {k i : Nat} (hi : i < X.length), os[k]? = some i → atC X os k = X[i] := by
    intro k i hi e
    unfold atC
    rw [List.getD_eq_getElem?_getD (l := os), e]
    show X.getD i (0, []) = _
    rw [List.getD_eq_getElem?_getD, List.getElem?_eq_getElem hi]
    rfl
  rw [List.nodup_iff_pairwise_ne, List.pairwise_iff_getElem]
  intro a b ha hb hab e9
  obtain ⟨k, k1, k2⟩ := him a ha
  obtain ⟨m, m1, m2⟩ := him b hb
  have e : atC X os k = atC X os m := by rw [hat ha k2, hat hb m2, e9]
  rcases Nat.lt_trichotomy k m with q | q | q
  · have := hs k m q m1
    rw [e, cmpC_rf] at this
    omega
  · rw [q, m2] at k2
    have := Option.some.inj k2
    omega
  · have := hs m k q k1
    rw [e, cmpC_rf] at this
    omega
end XW4
section XW5
variable {vl : Nat → Nat} {y : ow_MS} {St : plT} {x x' : Int32}
theorem xc_surround {g' d c : Nat} {A : rn_L} {sg : Nat → Bool} (hg : g' = 14000 ∨ g' = 15000) (hN : gM y) (hd : d < 40) (hs : slC y 1000 d (clC sg A)) (hA : okL A c) (hpl : plnA A sg) (hc4 : c ≤ 4) : Te (fun K => ce_X6_surround vl K 12000 1000 (nI d) g' y) (fun y1 => gM y1 ∧ fr (coP g') y y1 ∧ ∃ Cs os, tbO y1 g' 480 Cs os ∧ sts Cs os ∧ surC A sg c Cs) := by
  have hg3 : g' = 13000 ∨ g' = 14000 ∨ g' = 15000 := Or.inr hg
  have hg4 : g' = 2000 ∨ g' = 13000 ∨ g' = 14000 ∨ g' = 15000 := Or.inr hg3
  have htH : tH g' 480 := by
    rcases hg with rfl | rfl
    · exact tH14
    · exact tH15
  have hby : byR y (g' + 1) := by
    rcases hg with rfl | rfl
    · exact hN.2.2.2.2.1
    · exact hN.2.2.2.2.2
  let Q0 : ow_MS → Prop := fun y1 => gM y1 ∧ fr (coP g') y y1 ∧ ∃ Cs os, tbO y1 g' 480 Cs os ∧ sts Cs os ∧ surC A sg c Cs
  let I : Nat → List cdT → Prop := fun t Cs => Cs.length ≤ cS c t ∧ (∀ C, C ∈ Cs → ∃ kd R j, kd < 5 ∧ nxC A sg c R ∧ j < mv_cnt R.1 kd ∧ mvD kd R j C) ∧ ∀ kd, kd < t → ∃ R, nxC A sg c R ∧ ∀ j, j < mv_cnt R.1 kd → mvN kd R j ∨ ∃ C, mvD kd R j C ∧ C ∈ Cs
  have c1 : ∀ (k i : Nat) (z : ow_MS) (Cs : List cdT) (os : List Nat), i + k = 5 → gN z → fr (coP g') y z → tbO z g' 480 Cs os → sts Cs os → I i Cs → Tt (fun K t => c_X6_surround vl K t 1 (nI d) (nI i) 12000 1000 g' z) Q0 := by
    intro k
    induction k with
    | zero =>
      intro i z Cs os hi q1 q2 q3 q4 q5
      have e : i = 5 := by omega
      subst e
      refine u_X6_surround_1 ?_; unfold cm_X6_surround_1
      exact w_leT (a := 5) (by omega) (by omega) (w_some ⟨⟨q1, tbs_co hg3 q2 q3.2.2.2.2 hN.2⟩, q2, Cs, os, q3, q4, q5.2.1, q5.2.2⟩)
    | succ k ih =>
      intro i z Cs os hi q1 q2 q3 q4 q5
      have hs1 : slC z 1000 d (clC sg A) := slC_fr q2 (fun q hq h9 => by unfold cW at hq; unfold coP cV at h9; omega) hs
      refine u_X6_surround_1 ?_; unfold cm_X6_surround_1
      refine w_leF (a := 5) (by omega) (by omega) (w_cs0 (xc_collect ch_1000 hd (by omega) hs1 hA htH (by omega) (by omega) (tgk hg4) (show i < 5 by omega) q1 q3 q4) ?_)
      rintro z1 ⟨g1, g2, R, X, os', g3, g4, g5, g6, g7, g8, g9⟩
      rw [nI_1]
      have hR : nxC A sg c R := ⟨hA, g4, g3, g5⟩
      have ec : R.1 = c := g5.1
      have hnd := sts_nd g6.1.2.1 (tabC_os g6.1) g7
      have hXn := (List.nodup_append.mp hnd).2.1
      have hXl : X.length ≤ mv_cnt R.1 i := pig_le X hXn g8 (fun j C C' hj p1 p2 => mv_det hR hpl (show i < 5 by omega) hj p1 p2)
      have hcs : cS c (i + 1) = cS c i + mv_cnt c i := rfl
      have hle := cS_le c (by omega) (i + 1) (by omega)
      rw [ec] at hXl
      have hlen : (Cs ++ X).length ≤ cS c (i + 1) := by
        rw [List.length_append]
        have := q5.1
        omega
      have hno : os'.length ≠ 480 := by
        have := g6.1.2.1
        omega
      refine ih (i + 1) z1 _ os' (by omega) g1 (fr_tr q2 g2) g6 g7 ⟨hlen, fun C hC => ?_, fun kd hkd => ?_⟩
      · rcases List.mem_append.mp hC with h9 | h9
        · exact q5.2.1 C h9
        · obtain ⟨j, j1, j2⟩ := g8 C h9
          exact ⟨i, R, j, by omega, hR, j1, j2⟩
      · by_cases e : kd = i
        · subst e
          refine ⟨R, hR, fun j hj => ?_⟩
          rcases g9 j hj with h9 | ⟨C, h8, h9⟩
          · exact Or.inl h9
          · exact Or.inr ⟨C, h8, h9.elim id (fun h7 => absurd h7 hno)⟩
        · obtain ⟨R', r1, r2⟩ := q5.2.2 kd (by omega)
          refine ⟨R', r1, fun j hj => (r2 j hj).imp id (fun ⟨C, h8, h9⟩ => ⟨C, h8, List.mem_append_left _ h9⟩)⟩
  refine e_X6_surround ?_
  refine u_X6_surround_0 ?_; unfold cm_X6_surround_0
  refine w_wrF (c1 5 0 _ [] [] (by omega) (gN_F (far_cP (by omega)) hN.1) (fr_F (by unfold coP cV; omega)) (tbO_0 hby) (fun i j hij hj => absurd hj (Nat.not_lt_zero _)) ⟨Nat.zero_le _, fun C hC => absurd hC List.not_mem_nil, fun kd hkd => absurd hkd (Nat.not_lt_zero _)⟩)
theorem fnd_neg {Cs : List cdT} {os : List Nat} {B : cdT} {r : Int32} (hl : Cs.length = os.length) (ho : ∀ (j s : Nat), os[j]? = some s → s < Cs.length) (h480 : os.length ≤ 480) (hm : srt Cs os) (hs : sts Cs os) (h : fnd Cs os B r) : r < 0 ↔ B ∉ Cs := by
  rcases h with ⟨k, k1, k2, k3⟩ | ⟨k, k1, k2, k3⟩
  · rw [k2]
    refine ⟨fun h9 => absurd h9 (nI_pos (by omega)), fun h9 => absurd ?_ h9⟩
    rw [← k3]
    exact at_in hl ho k1
  · obtain ⟨a1, a2⟩ := k3 (srt_mo hm B)
    refine ⟨fun _ hB => ?_, fun _ => ?_⟩
    · obtain ⟨i, i1, i2⟩ := at_sur hl ho hs hB
      by_cases e : i < k
      · have := a1 i e
        rw [i2, cmpC_rf] at this
        omega
      · have := a2 i (by omega) i1
        rw [i2, cmpC_rf] at this
        omega
    · rw [k2]
      exact (iI_lt (b := 0) (by omega) (by omega) (by omega) (by omega)).mpr (by omega)
def wyC (g : Nat) : Prop := coP 14000 g ∨ coP 15000 g
def wayC (A : rn_L) (sg : Nat → Bool) (c : Nat) (E : rn_L) (sgE : Nat → Bool) (cE : Nat) (v : Int32) : Prop := v = 0 ∧ clC sg A = clC sgE E ∨ clC sg A ≠ clC sgE E ∧ ∃ X : List cdT, X.length ≤ 480 ∧ surC A sg c X ∧ (v = 1 ∧ clC sgE E ∈ X ∨ clC sgE E ∉ X ∧ ∃ XE, surC E sgE cE XE ∧ (v = 2 ∧ (∃ C, C ∈ X ∧ C ∈ XE) ∨ v = -1 ∧ ¬ ∃ C, C ∈ X ∧ C ∈ XE))
theorem xc_way (hN : gM y) (hC : relC y St) (hS : okS St) : Te (fun K => ce_X11_way vl K 0 x x' y) (fun r => gM r.2.2 ∧ fr wyC y r.2.2 ∧ ((r.1 = 1 ∧ ((∀ d, d < 40 → x = nI d → St d = none) ∨ ∀ d, d < 40 → x' = nI d → St d = none)) ∨ ∃ d A sg c e E sgE cE, d < 40 ∧ x = nI d ∧ St d = some (A, sg) ∧ okL A c ∧ A ≠ [] ∧ plnA A sg ∧ e < 40 ∧ x' = nI e ∧ St e = some (E, sgE) ∧ okL E cE ∧ E ≠ [] ∧ plnA E sgE ∧ (r.1 = 4 ∧ (4 < c ∨ 4 < cE) ∨ c ≤ 4 ∧ cE ≤ 4 ∧ r.1 = 0 ∧ wayC A sg c E sgE cE r.2.1))) := by
  refine e_X11_way ?_; unfold cm_X11_way_0
  refine w_tc0 (xc_need hN.1.1 hC hS) ?_ ?_
  · rintro y1 ⟨h1, rfl⟩
    rcases h1 with h1 | ⟨-, d, A, sg, c, hd, rfl, hSt, hs, hA, hne, hpl⟩
    · exact absurd (show (0 : Nat) = 1 from h1.1) (by decide)
    · refine w_tc0 (xc_need hN.1.1 hC hS) ?_ ?_
      · rintro y2 ⟨h2, rfl⟩
        rcases h2 with h2 | ⟨-, e, E, sg', c', he, rfl, hSe, hs', hE, hne', hpl'⟩
        · exact absurd (show (0 : Nat) = 1 from h2.1) (by decide)
        · have o1 := okL_c (sg := sg) hA
          have o2 := okL_c (sg := sg') hE
          have e3 : y2.2.1 1003 d = nI c := by
            have := hs.1
            rw [o1.1] at this
            exact this
          have e3' : y2.2.1 1003 e = nI c' := by
            have := hs'.1
            rw [o2.1] at this
            exact this
          have hc12 := hA.2.2.2.1
          have hc12' := hE.2.2.2.1
          have fin : ∀ {k : Nat} {v : Int32} {y9 : ow_MS}, gM y9 → fr wyC y2 y9 → (k = 4 ∧ (4 < c ∨ 4 < c') ∨ c ≤ 4 ∧ c' ≤ 4 ∧ k = 0 ∧ wayC A sg c E sg' c' v) → Tt (fun _ _ => some (k, v, y9)) (fun r => gM r.2.2 ∧ fr wyC y2 r.2.2 ∧ ((r.1 = 1 ∧ ((∀ d', d' < 40 → nI d = nI d' → St d' = none) ∨ ∀ d', d' < 40 → nI e = nI d' → St d' = none)) ∨ ∃ d' A sg c e' E sgE cE, d' < 40 ∧ nI d = nI d' ∧ St d' = some (A, sg) ∧ okL A c ∧ A ≠ [] ∧ plnA A sg ∧ e' < 40 ∧ nI e = nI e' ∧ St e' = some (E, sgE) ∧ okL E cE ∧ E ≠ [] ∧ plnA E sgE ∧ (r.1 = 4 ∧ (4 < c ∨ 4 < cE) ∨ c ≤ 4 ∧ cE ≤ 4 ∧ r.1 = 0 ∧ wayC A sg c E sgE cE r.2.1))) := fun q1 q2 q3 => w_some ⟨q1, q2, Or.inr ⟨d, A, sg, c, e, E, sg', c', hd, rfl, hSt, hA, hne, hpl, he, rfl, hSe, hE, hne', hpl', q3⟩⟩
          refine w_crI (tH_3 ch_1000) rfl hd e3 (w_lt (a := 4) (by omega) (by omega) (fun h4 => fin hN fr_rf (Or.inl ⟨rfl, Or.inl h4⟩)) (fun h4 => w_crI (tH_3 ch_1000) rfl he e3' (w_le (b := 4) (by omega) (by omega) (fun h4' => ?_) (fun h4' => fin hN fr_rf (Or.inl ⟨rfl, Or.inr (by omega)⟩)))))
          have hcb := cmpC_b o1.2 o2.2
          refine w_cs1 (tc_compare ch_1000 ch_1000 hd he hs hs' o1.2 o2.2) ?_
          rintro v y3 ⟨ev, e9⟩
          dsimp only at ev e9
          subst e9
          subst ev
          have cmp0 : iI (cmpC (clC sg A) (clC sg' E)) = 0 ↔ clC sg A = clC sg' E := by
            constructor
            · intro e0
              exact cmpC_0 ((iI_eq (by omega) (by omega) (by omega) (by omega)).mp (e0.trans (show (0 : Int32) = iI 0 from rfl)))
            · intro e0
              rw [e0, cmpC_rf]
              rfl
          refine w_if (fun h0 => fin hN fr_rf (Or.inr ⟨by omega, by omega, rfl, Or.inl ⟨rfl, cmp0.mp h0⟩⟩)) (fun h0 => w_cs0 (xc_surround (Or.inl rfl) hN hd hs hA hpl (by omega)) ?_)
          have hneq : clC sg A ≠ clC sg' E := fun e => h0 (cmp0.mpr e)
          rintro y4 ⟨g1, g2, Cs, os, g3, g4, g5⟩
          have f4 : fr wyC y3 y4 := fr_mono (fun g hg => Or.inl hg) g2
          have hs4 : slC y4 1000 e (clC sg' E) := slC_fr g2 (fun q hq h9 => by unfold cW at hq; unfold coP cV at h9; omega) hs'
          have hl4 := g3.1.2.1
          have ho4 := tabC_os g3.1
          have h480 := g3.2.2.2.1
          refine w_cs1 (tc_find tH14 ch_1000 he g3.1 g3.2.2.2.1 hs4 o2.2) ?_
          rintro v5 y5 ⟨hf, e9⟩
          dsimp only at hf e9
          subst e9
          have hfn := fnd_neg hl4 ho4 h480 g3.2.1 g4 hf
          refine w_if (fun hlt => w_cs0 (xc_surround (Or.inr rfl) g1 he hs4 hE hpl' (by omega)) ?_) (fun hge => fin g1 f4 (Or.inr ⟨by omega, by omega, rfl, Or.inr ⟨hneq, Cs, by omega, g5, Or.inl ⟨rfl, ?_⟩⟩⟩))
          rotate_left
          · rcases Classical.em (clC sg' E ∈ Cs) with h9 | h9
            · exact h9
            · exact absurd (hfn.mpr h9) hge
          rintro y6 ⟨g1', g2', Ds, qs, g3', g4', g5'⟩
          have f6 : fr wyC y3 y6 := fr_tr f4 (fr_mono (fun g hg => Or.inr hg) g2')
          have g36 : tbO y6 14000 480 Cs os := tbO_fr g2' (fun q hq h9 => by unfold cV at hq; unfold coP cV at h9; omega) g3
          have hl6 := g3'.1.2.1
          have ho6 := tabC_os g3'.1
          refine w_cs1 (tc_meets tH14 tH15 g36.1 g36.2.2.2.1 g3'.1 g3'.2.2.2.1) ?_
          rintro v7 y7 ⟨hm, e9⟩
          dsimp only at hm e9
          subst e9
          have hno := hfn.mp hlt
          have sm : srt Ds qs := g3'.2.1
          rcases hm with ⟨rfl, i, k, i1, i2, i3⟩ | ⟨rfl, hm⟩
          · refine w_ifF (by decide) (fin g1' f6 (Or.inr ⟨by omega, by omega, rfl, Or.inr ⟨hneq, Cs, by omega, g5, Or.inr ⟨hno, Ds, g5', Or.inl ⟨rfl, _, List.mem_of_getElem? i3, at_in hl6 ho6 i2⟩⟩⟩⟩))
          · refine w_ifT rfl (fin g1' f6 (Or.inr ⟨by omega, by omega, rfl, Or.inr ⟨hneq, Cs, by omega, g5, Or.inr ⟨hno, Ds, g5', Or.inr ⟨rfl, ?_⟩⟩⟩⟩))
            rintro ⟨C, c1, c2⟩
            obtain ⟨k, k1, k2⟩ := at_sur hl6 ho6 g4' c2
            exact hm C c1 (srt_mo sm C) k k1 k2
      · rintro a y2 ha ⟨h2, rfl⟩
        rcases h2 with h2 | h2
        · exact w_some ⟨hN, fr_rf, Or.inl ⟨h2.1, Or.inr h2.2⟩⟩
        · exact absurd h2.1 ha
  · rintro a y1 ha ⟨h1, rfl⟩
    rcases h1 with h1 | h1
    · exact w_some ⟨hN, fr_rf, Or.inl ⟨h1.1, Or.inl h1.2⟩⟩
    · exact absurd h1.1 ha
end XW5
section XW6
variable {X : (Nat → Nat → Int32) → Prop} {vl : Nat → Nat} {z y : ow_MS} {x x' : Int32}
/-- what is kept is the list of its own code -/
def nmC (y : ow_MS) : Prop := ∀ d A sg c, d < 40 → slC y 1000 d (clC sg A) → okL A c → A ≠ [] → nrm A sg
theorem c_way (h : rel3 X z y) (hm : nmC y) : Te (fun K => qe_X13_way K x x' z) (fun rr => Te (fun K => ce_X11_way vl K 0 x x' y) (fun rc => (rel3 X rr.2 rc.2.2 ∧ ansI [(1, 1), (2, 4)] rr rc) ∧ fr wyZ z rr.2 ∧ fr wyC y rc.2.2)) := by
  obtain ⟨⟨St, k⟩, hM, h2⟩ := id h
  refine te_two (xq_way k.1 k.2.2.1) (xc_way (x := x) (x' := x') hM k.2.2.2.1 k.2.2.2.2) (fun rr rc hr ⟨hG, hf, hc⟩ => ?_)
  have hC : relC rc.2.2 St := relC_fr hf (fun q hq h9 => by unfold cW at hq; unfold wyC coP cV at h9; omega) k.2.2.2.1
  have fin : ∀ {P : Nat → Prop}, fr P z rr.2 → (∀ g, P g → wyZ g) → gI X rr.2 → ansI [(1, 1), (2, 4)] rr rc → ((rel3 X rr.2 rc.2.2 ∧ ansI [(1, 1), (2, 4)] rr rc) ∧ fr wyZ z rr.2 ∧ fr wyC y rc.2.2) := fun hz hP hI ha => ⟨⟨⟨⟨St, hI, hG.1, relR_fr hz (fun h9 => by have := hP _ h9; unfold wyZ fB2 at this; omega) k.2.2.1, hC, k.2.2.2.2⟩, hG, rel2_h hz hf (fun g hg h9 => by have := hP _ hg; unfold wyZ fB2 at this; unfold r2Z at h9; omega) (fun g hg h9 => by unfold wyC coP cV at hg; unfold r2Y at h9; omega) h2⟩, ha⟩, fr_mono hP hz, hf⟩
  have rps : ∀ g, rPs g → wyZ g := fun g hg => by unfold rPs rSc at hg; unfold wyZ fB2; omega
  have no1 : ∀ {u : Int32} {d : Nat} {C : rn_L × (Nat → Bool)}, (∀ d, d < 40 → u = nI d → St d = none) → d < 40 → u = nI d → St d = some C → False := fun h9 hd hx hs => by
    rw [h9 _ hd hx] at hs
    cases hs
  rcases hr with ⟨r1, r2⟩ | ⟨d, A, sg, e, E, sgE, hd, rfl, hSt, he, rfl, hSe, hr⟩
  · rcases hc with ⟨c1, -⟩ | ⟨d, A, sg, c, e, E, sgE, cE, hd, hx, hSt, -, -, -, he, hx', hSe, -⟩
    · exact fin r1.2.2 rps r1.1 (Or.inr ⟨1, 1, by simp, r1.2.1, c1⟩)
    · rcases r2 with r2 | r2
      · exact (no1 r2 hd hx hSt).elim
      · exact (no1 r2 he hx' hSe).elim
  · rcases hc with ⟨-, c2⟩ | ⟨d', A', sg', c, e', E', sgE', cE, hd', hx, hSt', hA, hne, hpl, he', hx', hSe', hE, hEn, hEp, hc⟩
    · rcases c2 with c2 | c2
      · exact (no1 c2 hd rfl hSt).elim
      · exact (no1 c2 he rfl hSe).elim
    · have ed := nI_inj9 (a := d) (b := d') (by omega) (by omega) hx
      have ee := nI_inj9 (a := e) (b := e') (by omega) (by omega) hx'
      subst ed
      subst ee
      rw [hSt] at hSt'
      rw [hSe] at hSe'
      cases hSt'
      cases hSe'
      have lA := okF_len hA.1
      have lE := okF_len hE.1
      rcases hr with ⟨r1, r2⟩ | ⟨a1, a2, r1, r2, r3, hw⟩
      · rcases hc with ⟨c1, -⟩ | ⟨c1, c2, -⟩
        · exact fin r1.2.2 rps r1.1 (Or.inr ⟨2, 4, by simp, r1.2.1, c1⟩)
        · omega
      · rcases hc with ⟨-, c1⟩ | ⟨c1, c2, c3, hv⟩
        · omega
        · refine fin r3 (fun g hg => hg) r1 (Or.inl ⟨r2, c3, ?_⟩)
          have hEm : nrm E sgE := hm e E sgE cE he ((k.2.2.2.1 e he).2 E sgE hSe) hE hEn
          rcases hw with ⟨v0, q0⟩ | ⟨q0, N, cA, n1, n2, n3, n4, hw⟩
          · rcases hv with ⟨w0, -⟩ | ⟨p0, -⟩
            · rw [v0, w0]
            · exact absurd ((clC_tk hA hE).mpr q0) p0
          · rcases hv with ⟨-, p0⟩ | ⟨-, X9, x1, x2, hv⟩
            · exact absurd ((clC_tk hA hE).mp p0) q0
            · have ecA : cA = c := by
                have l1 := okF_len n1
                omega
              subst ecA
              have hlt : N.length < 1000 := by
                have := rows_le (Cs := X9) N n2 (fun r hr => by
                  obtain ⟨C, c1, B, sB, c9, o1, o2, o3, o4, o5, -⟩ := w_rc hA hne hpl x2 n3 r hr
                  exact ⟨C, c1, B, sB, c9, o1, o2, o3, o4, o5⟩)
                omega
              have hN : nerR A sg cA N := ⟨n3, n4 hlt⟩
              have one := way_one (sgE := sgE) hA hne hpl x2 hN hE
              rcases hw with ⟨v1, q1⟩ | ⟨q1, hw⟩
              · rcases hv with ⟨w1, -⟩ | ⟨p1, -⟩
                · rw [v1, w1]
                · exact absurd (one.mp q1) p1
              · rcases hv with ⟨-, p1⟩ | ⟨-, XE, x3, hv⟩
                · exact absurd (one.mpr p1) q1
                · rcases hw with ⟨v2, q2⟩ | ⟨v2, q2⟩
                  · have := way_fw hA hne hpl x2 hN hE hEp x3 q2
                    rcases hv with ⟨w2, -⟩ | ⟨-, p2⟩
                    · rw [v2, w2]
                    · exact absurd this p2
                  · rcases hv with ⟨-, p2⟩ | ⟨w2, -⟩
                    · exfalso
                      obtain ⟨r, hr, hall⟩ := way_bw hA hne hpl x2 hN hE hEp hEm x3 p2
                      obtain ⟨B, sgB, cB, b1, b2⟩ := q2 r hr
                      obtain ⟨kd, B', sg9, k1, k2, k3⟩ := hall B sgB cB b1
                      rw [lE, show 2 * cE / 2 = cE by omega] at b2
                      obtain ⟨r', u1, u2⟩ := b2 kd B' sg9 k1 k2
                      exact u2 (k3 r' u1)
                    · rw [v2, w2]
end XW6
