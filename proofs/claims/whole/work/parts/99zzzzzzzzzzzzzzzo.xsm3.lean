/-! summit: the reference finds the whole set -/
section XS3
variable {z : ow_MS} {m : N5}
def sss (a : Gn m) (k : Int) (R : Nat) (F : List Nat) : Prop := nfL m.1 F ∧ F.length = R ∧ ∃ h x, gF m k F h = cnj x a
def afL (y : ow_MS) (n : Nat) (Ls : List (List Nat)) (k : Int) : Prop := y.1 116 = nI Ls.length ∧ ∀ i S, Ls[i]? = some S → frwI y 115 (40 * i) n S k
theorem afL_fr {P : Nat → Prop} {y y1 : ow_MS} {n : Nat} {Ls : List (List Nat)} {k : Int} (hf : fr P y y1) (h1 : ¬ P 115) (h2 : ¬ P 116) (h : afL y n Ls k) : afL y1 n Ls k := ⟨by rw [(hf 116 h2).1]; exact h.1, fun i S hi => frwI_fr hf h1 (h.2 i S hi)⟩
theorem xr_isThere {n r : Nat} {S : List Nat} {Ls : List (List Nat)} {k k2 : Int} (hr : r = 117 ∨ r = 118) (hF : Ls.length ≤ 200) (hA : afL z n Ls k) (hL : ∀ F, F ∈ Ls → F.length ≤ 38) (hS : frwI z r 0 n S k2) (hl : S.length ≤ 38) (b1 : -100 ≤ k) (b2 : k ≤ 100) (b3 : -100 ≤ k2) (b4 : k2 ≤ 100) : Te (fun K => qe_X13_isThere K r z) (fun o => o.2 = z ∧ (o.1 = 1 ∧ k2 = k ∧ S ∈ Ls ∨ o.1 = 0 ∧ ¬ (k2 = k ∧ S ∈ Ls))) := by
  have hrl : (mX.2 r).2.1 = 40 := by
    rcases hr with rfl | rfl
    · exact ml117
    · exact ml118
  let Q : Int32 × ow_MS → Prop := fun o => o.2 = z ∧ (o.1 = 1 ∧ k2 = k ∧ S ∈ Ls ∨ o.1 = 0 ∧ ¬ (k2 = k ∧ S ∈ Ls))
  have fin1 : ∀ (i : Nat), (k2 = k ∧ S ∈ Ls) → Tt (fun K t => q_X13_isThere K t 1 1 (nI i) r z) Q := by
    intro i h
    refine u_X13_isThere_1 ?_; unfold qm_X13_isThere_1
    exact w_rdF hA.1 (w_if (fun _ => w_okZ (Or.inr rfl) (w_some ⟨rfl, Or.inl ⟨rfl, h⟩⟩)) (fun _ => w_ifF (by decide) (w_okZ (Or.inr rfl) (w_some ⟨rfl, Or.inl ⟨rfl, h⟩⟩))))
  have key : ∀ (d i : Nat), i + d = Ls.length → (∀ j, j < i → ¬ (k2 = k ∧ Ls[j]? = some S)) → Tt (fun K t => q_X13_isThere K t 1 0 (nI i) r z) Q := by
    intro d
    induction d with
    | zero =>
      intro i hi hx
      refine u_X13_isThere_1 ?_; unfold qm_X13_isThere_1
      refine w_rdF hA.1 (w_leT (by omega) (by omega) (w_okZ (Or.inl rfl) (w_some ⟨rfl, Or.inr ⟨rfl, fun ⟨e1, e2⟩ => ?_⟩⟩)))
      obtain ⟨j, hj⟩ := List.getElem?_of_mem e2
      have := (List.getElem?_eq_some_iff.mp hj).1
      exact hx j (by omega) ⟨e1, hj⟩
    | succ d ih =>
      intro i hi hx
      have hil : i < Ls.length := by omega
      have e9 : Ls[i]? = some Ls[i] := List.getElem?_eq_getElem hil
      have hlen := hL _ (List.getElem_mem hil)
      refine u_X13_isThere_1 ?_; unfold qm_X13_isThere_1
      rw [show (40 : Int32) * nI i = nI (40 * i) from pk_mul 40 i, nI_1]
      refine w_rdF hA.1 (w_leF (by omega) (by omega) (w_ifT rfl (w_cs1 (xr_isForm (i := 0) (j := 40 * i) hrl ml115 (by omega) (by omega) (by omega) (by omega) hS (hA.2 i _ e9)) (fun v y1 ⟨e1, e2⟩ => ?_))))
      have e1 : y1 = z := e1
      subst e1
      rcases e2 with ⟨v1, v2, v3⟩ | ⟨v1, v2⟩
      · have v1 : v = 1 := v1
        rw [v1]
        exact fin1 (i + 1) ⟨(iI_eq (by omega) (by omega) (by omega) (by omega)).mp v2, by rw [v3]; exact List.getElem_mem hil⟩
      · have v1 : v = 0 := v1
        rw [v1]
        refine ih (i + 1) (by omega) (fun j hj h9 => ?_)
        by_cases ej : j = i
        · rw [ej, e9] at h9
          exact v2 ⟨by rw [h9.1], (Option.some.inj h9.2).symm⟩
        · exact hx j (by omega) h9
  refine e_X13_isThere ?_
  refine u_X13_isThere_0 ?_; unfold qm_X13_isThere_0
  exact key Ls.length 0 (by omega) (fun j hj => absurd hj (Nat.not_lt_zero _))
def cloS9 (m : N5) (k : Int) (R : Nat) (Ls : List (List Nat)) (i s : Nat) : Prop := ∀ F h, Ls[i]? = some F → ∀ t (ht : okT m.1 [t]), 1 ≤ t → t < s → t < gNN m.1 → ∀ G hG, nfL m.1 G → G.length = R → gF m k G hG = cnj (gL m [t] ht) (gF m k F h) → G ∈ Ls
theorem clo_m {k : Int} {R : Nat} {Ls : List (List Nat)} {i s : Nat} {G : List Nat} (hi : i < Ls.length) (h : cloS9 m k R Ls i s) : cloS9 m k R (Ls ++ [G]) i s := fun F hF e t ht t1 t2 t3 G' hG g1 g2 g3 => by
  rw [List.getElem?_append_left hi] at e
  exact List.mem_append_left _ (h F hF e t ht t1 t2 t3 G' hG g1 g2 g3)
/-- what is closed is all -/
theorem clo_all {a : Gn m} {k : Int} {R : Nat} {Ls : List (List Nat)} (hr : nrs a k) (hu : nls a (k + (R : Int))) (h0 : ∃ F, F ∈ Ls) (hs : ∀ F, F ∈ Ls → sss a k R F) (hc : ∀ i, i < Ls.length → cloS9 m k R Ls i (gNN m.1)) (F : List Nat) (hF : sss a k R F) : F ∈ Ls := by
  obtain ⟨F0, m0⟩ := h0
  obtain ⟨n0, l0, h0, x0, e0⟩ := hs F0 m0
  obtain ⟨n1, l1, h1, x1, e1⟩ := hF
  have k1 := sss_all (m := m) (k := k) (S := k + (R : Int)) (C := fun b => ∃ G h, G ∈ Ls ∧ b = gF m k G h) (fun b t ht ⟨G, hG, mG, eG⟩ t1 t0 lo up => ?_) (b := gF m k F0 h0) ⟨F0, h0, m0, rfl⟩ ((inf_F n0).mpr (Int.le_refl _)) ((sup_F n0).mpr (by omega)) (x := gm (gi x0) x1) ?_ ?_
  · obtain ⟨G, hG, mG, eG⟩ := k1
    rw [e0, ← cnj_all rfl x1, ← e1] at eG
    rw [(F_uni n1 (hs G mG).1 eG).2]
    exact mG
  · obtain ⟨k', G', h', n', e'⟩ := F_ex (cnj (gL m [t] ht) b)
    obtain ⟨nG, lG, hG2, x, ex⟩ := hs G mG
    have ecn : cnj (gL m [t] ht) b = cnj (gm x (gL m [t] ht)) a := by
      rw [cnj_m, ← ex, eG]
    rw [e'] at lo up
    have a1 := (inf_F n').mp lo
    have a2 := (sup_F n').mp up
    have a3 : k' = k := by
      rcases Int.lt_or_le k k' with h9 | h9
      · exfalso
        refine hr (gm x (gL m [t] ht)) ?_
        rw [← ecn, e']
        exact (inf_F n').mpr (by omega)
      · omega
    subst a3
    have a4 : G'.length = R := by
      rcases Nat.lt_or_ge G'.length R with h9 | h9
      · exfalso
        refine hu (gm x (gL m [t] ht)) ?_
        rw [← ecn, e']
        exact (sup_F n').mpr (by omega)
      · omega
    obtain ⟨i, hi⟩ := List.getElem?_of_mem mG
    refine ⟨G', h', hc i (List.getElem?_eq_some_iff.mp hi).1 G hG hi t ht (by omega) t1 t1 G' h' n' a4 ?_, e'⟩
    rw [← e', eG]
  · rw [e0, ← cnj_all rfl x1, ← e1]
    exact (inf_F n1).mpr (Int.le_refl _)
  · rw [e0, ← cnj_all rfl x1, ← e1]
    exact (sup_F n1).mpr (by omega)
def smA9 (a : Gn m) (k : Int) (R : Nat) (v : Nat) : Prop := v ≤ 200 ∧ cnt9 (sss a k R) v
def smB (a : Gn m) (k : Int) (R : Nat) : Prop := ∃ Ls : List (List Nat), Ls.Nodup ∧ Ls.length = 201 ∧ ∀ F, F ∈ Ls → sss a k R F
theorem xr_allForms {a : Gn m} {k : Int} {F0 : List Nat} (hT : tbG z) (hI : smF z m a k F0) : Te (fun K => qe_X13_allForms K (nI m.1) z) (fun o => ((o.1 = 1 ∧ ∃ Ls, afL o.2 m.1 Ls k ∧ Ls.length ≤ 200 ∧ Ls.Nodup ∧ ∀ F, F ∈ Ls ↔ sss a k F0.length F) ∨ o.1 = 0 ∧ smB a k F0.length) ∧ fr afH z o.2) := by
  have h2 := m.2.1
  have h5 := m.2.2
  have hN := nn_pos (n := m.1)
  obtain ⟨s1, s3, s2, s4, s5, s6, ⟨h0, x0, e0⟩, s8, s9⟩ := hI
  generalize hR : F0.length = R at s2 s5 s9
  let Q : Int32 × ow_MS → Prop := fun o => ((o.1 = 1 ∧ ∃ Ls, afL o.2 m.1 Ls k ∧ Ls.length ≤ 200 ∧ Ls.Nodup ∧ ∀ F, F ∈ Ls ↔ sss a k R F) ∨ o.1 = 0 ∧ smB a k R) ∧ fr afH z o.2
  have tF : ∀ {y : ow_MS}, fr afH z y → tbG y := fun hf => tbG_fr hf (fun g hg => by unfold afH at hg; omega) hT
  have nmA : ∀ {y y1 : ow_MS}, fr afH z y → fr nmH y y1 → fr afH z y1 := fun h1 h3 => fr_tr h1 (fr_mono (fun g hg => by unfold nmH at hg; unfold afH; omega) h3)
  have c1 : ∀ (d at9 : Nat) (Ls : List (List Nat)) (y : ow_MS), at9 + d = 200 → at9 ≤ Ls.length → Ls.length ≤ 200 → 1 ≤ Ls.length → Ls.Nodup → (∀ F, F ∈ Ls → sss a k R F) → (∀ i, i < at9 → cloS9 m k R Ls i (gNN m.1)) → afL y m.1 Ls k → fr afH z y → Tt (fun K i => q_X13_allForms K i 1 (nI m.1) (nI at9) 0 0 0 y) Q := by
    intro d
    have fin : ∀ (Ls : List (List Nat)) (y : ow_MS), Ls.length ≤ 200 → 1 ≤ Ls.length → Ls.Nodup → (∀ F, F ∈ Ls → sss a k R F) → (∀ i, i < Ls.length → cloS9 m k R Ls i (gNN m.1)) → afL y m.1 Ls k → fr afH z y → Q (1, y) := fun Ls y hL h1 hnd hs hc hA hf => ⟨Or.inl ⟨rfl, Ls, hA, hL, hnd, fun F => ⟨hs F, clo_all s8 s9 ⟨Ls[0], List.getElem_mem (by omega)⟩ hs hc F⟩⟩, hf⟩
    induction d with
    | zero =>
      intro at9 Ls y ha haL hL h1 hnd hs hc hA hf
      refine u_X13_allForms_1 ?_; unfold qm_X13_allForms_1
      exact w_rdF hA.1 (w_leT (by omega) (by omega) (w_okZ (Or.inr rfl) (w_some (fin Ls y hL h1 hnd hs (fun i hi => hc i (by omega)) hA hf))))
    | succ d ih =>
      intro at9 Ls y ha haL hL h1 hnd hs hc hA hf
      refine u_X13_allForms_1 ?_; unfold qm_X13_allForms_1
      refine w_rdF hA.1 (w_le (by omega) (by omega) (fun h9 => w_okZ (Or.inr rfl) (w_some (fin Ls y hL h1 hnd hs (fun i hi => hc i (by omega)) hA hf))) (fun hlt => ?_))
      have c2 : ∀ (d2 s : Nat) (Ls : List (List Nat)) (y : ow_MS), s + d2 = gNN m.1 → 1 ≤ s → at9 < Ls.length → Ls.length ≤ 200 → Ls.Nodup → (∀ F, F ∈ Ls → sss a k R F) → (∀ i, i < at9 → cloS9 m k R Ls i (gNN m.1)) → cloS9 m k R Ls at9 s → afL y m.1 Ls k → fr afH z y → Tt (fun K i => q_X13_allForms K i 2 (nI m.1) (nI at9) (nI s) 0 0 y) Q := by
        intro d2
        induction d2 with
        | zero =>
          intro s Ls y hs9 hs1 haL hL hnd hs hc hcs hA hf
          have es : s = gNN m.1 := by omega
          subst es
          refine u_X13_allForms_2 ?_; unfold qm_X13_allForms_2
          rw [show nI at9 + 1 = nI (at9 + 1) from nI_1 _]
          refine w_rdI ml97 rfl (by omega) ((tF hf) m.1 h2 h5).1 (w_leT (by omega) (by omega) (ih (at9 + 1) Ls y (by omega) (by omega) hL (by omega) hnd hs (fun i hi => ?_) hA hf))
          by_cases ei : i = at9
          · rw [ei]
            exact hcs
          · exact hc i (by omega)
        | succ d2 ih2 =>
          intro s Ls y hs9 hs1 haL hL hnd hs hc hcs hA hf
          have hsl : s < gNN m.1 := by omega
          have hah := (f_one h2 h5 hsl).2.1
          obtain ⟨Sa, eSa⟩ : ∃ Sa, Ls[at9]? = some Sa := ⟨_, List.getElem?_eq_getElem haL⟩
          have fa := hA.2 at9 Sa eSa
          obtain ⟨na, la, hSa, xa, exa⟩ := hs Sa (List.mem_of_getElem? eSa)
          have hs1k : okT m.1 [s] := okT_c.mpr ⟨hsl, okT_n⟩
          have c4 : ∀ (x4 x5 : Int32) (Ls : List (List Nat)) (y : ow_MS), at9 < Ls.length → Ls.length ≤ 200 → Ls.Nodup → (∀ F, F ∈ Ls → sss a k R F) → (∀ i, i < at9 → cloS9 m k R Ls i (gNN m.1)) → cloS9 m k R Ls at9 (s + 1) → afL y m.1 Ls k → fr afH z y → Tt (fun K i => q_X13_allForms K i 4 (nI m.1) (nI at9) (nI s) x4 x5 y) Q := by
            intro x4 x5 Ls y q1 q2 q3 q4 q5 q6 q7 q8
            refine u_X13_allForms_4 ?_; unfold qm_X13_allForms_4
            rw [show nI s + 1 = nI (s + 1) from nI_1 _]
            exact ih2 (s + 1) Ls y (by omega) (by omega) q1 q2 q3 q4 q5 q6 q7 q8
          have ht := tu_lt (k := k) h2 h5 hah
          have bdd : ∀ (j : Nat), (bsG m.1 (tuG m.1 k (ahG m.1 s) :: Sa.take j)).flatten.length ≤ 200 := by
            intro j
            have h3 := (bl_len h2 h5 (bsG m.1 (tuG m.1 k (ahG m.1 s) :: Sa.take j)) (bs_bl h2 h5 (fun s hs => by
              rcases List.mem_cons.mp hs with h9 | h9
              · rw [h9]; exact ht
              · exact na.1 s (List.mem_of_mem_take h9)))).1
            have h4 : (bsG m.1 (tuG m.1 k (ahG m.1 s) :: Sa.take j)).length ≤ R + 1 := by
              unfold bsG
              rw [List.length_map, List.length_cons, List.length_take]
              omega
            omega
          have c3 : ∀ (d3 j : Nat) (y : ow_MS), j + d3 = R → afL y m.1 Ls k → lnI y 109 108 (bsG m.1 (tuG m.1 k (ahG m.1 s) :: Sa.take j)).flatten → fr afH z y → Tt (fun K i => q_X13_allForms K i 3 (nI m.1) (nI at9) (nI s) (iI k) (nI j) y) Q := by
            intro d3
            induction d3 with
            | zero =>
              intro j y hj hA hw hf
              have hj : j = Sa.length := by omega
              subst hj
              have hfa := hA.2 at9 Sa eSa
              have hb9 := bdd Sa.length
              rw [List.take_length] at hw hb9
              refine u_X13_allForms_3 ?_; unfold qm_X13_allForms_3
              rw [show (40 : Int32) * nI at9 = nI (40 * at9) from pk_mul 40 _, nI_1]
              refine w_rdI ml115 rfl (by omega) hfa.2.1 (w_leT (by omega) (Nat.le_refl _) (w_cs0 (tp_append h2 h5 hsl (tF hf) hw (by omega)) (fun y1 ⟨w1, f1⟩ => ?_)))
              rw [← bs_app] at w1
              have hf1 : fr afH z y1 := fr_tr hf (fr_mono (fun g hg => by unfold afH; omega) f1)
              have hA1 := afL_fr f1 (by omega) (by omega) hA
              have hUk : okT m.1 (tuG m.1 k (ahG m.1 s) :: Sa ++ [s]) := okT_a.mpr ⟨okT_c.mpr ⟨ht, na.1⟩, hs1k⟩
              have e9 : iI k - 1 = iI (k - 1) := by
                show iI k - iI 1 = _
                rw [iI_sub]
              rw [e9]
              refine w_cs0 (xr_nmU (U := tuG m.1 k (ahG m.1 s) :: Sa ++ [s]) (tF hf1) hUk ?_ w1) (fun y2 ⟨⟨j2, F', b1, b2, b3, b4, b5⟩, b6⟩ => ?_)
              · rw [List.length_append, List.length_cons]
                show Sa.length + 1 + 1 ≤ 18
                omega
              · rw [List.length_append, List.length_cons] at b5
                have b5 : F'.length + j2 ≤ Sa.length + 1 + 1 := b5
                have hf2 := nmA hf1 b6
                have hA2 := afL_fr b6 (by unfold nmH; omega) (by unfold nmH; omega) hA1
                have eG : cnj (gL m [s] hs1k) (gF m k Sa hSa) = gF m (k - 1 + (j2 : Int)) F' b1.1 := (cj_F hsl (h3 := hUk)).trans (F_eq b2)
                obtain ⟨Sz, eSz⟩ : ∃ Sz, Ls[0]? = some Sz := ⟨_, List.getElem?_eq_getElem (by omega)⟩
                have fz := hA2.2 0 Sz eSz
                have lz := (hs Sz (List.mem_of_getElem? eSz)).2.1
                -- where the form is another one
                have oth : ∀ {Ls9 : List (List Nat)} {y9 : ow_MS} {x4 x5 : Int32}, Ls9 = Ls → afL y9 m.1 Ls k → fr afH z y9 → (k - 1 + (j2 : Int) = k → F'.length = R → F' ∈ Ls) → Tt (fun K i => q_X13_allForms K i 4 (nI m.1) (nI at9) (nI s) x4 x5 y9) Q := by
                  intro Ls9 y9 x4 x5 _ hA9 hf9 hin
                  refine c4 _ _ Ls y9 haL hL hnd hs hc (fun F hF9 eF t ht9 t1 t2 t3 G hG g1 g2 g3 => ?_) hA9 hf9
                  by_cases et : t = s
                  · subst et
                    have eFS : F = Sa := Option.some.inj (eF.symm.trans eSa)
                    subst eFS
                    rw [eG] at g3
                    obtain ⟨u1, u2⟩ := F_uni g1 b1 g3
                    rw [u2]
                    exact hin u1.symm (by rw [← u2]; exact g2)
                  · exact hcs F hF9 eF t ht9 t1 (by omega) t3 G hG g1 g2 g3
                refine w_rdF b4 (w_rdI (i := 0) ml115 rfl (by omega) fz.1 (w_if (fun hkk => w_rdF b3.1.1 (w_rdI (i := 1) ml115 rfl (by omega) fz.2.1 (w_eqN (by omega) (by omega) (fun hrr => ?_) (fun hrr => oth rfl hA2 hf2 (fun _ h9 => absurd (h9.trans lz.symm) hrr))))) (fun hkk => oth rfl hA2 hf2 (fun h9 => absurd (by rw [h9]) hkk))))
                have ekk : k - 1 + (j2 : Int) = k := (iI_eq (by omega) (by omega) (by omega) (by omega)).mp hkk
                have hrR : F'.length = R := hrr.trans lz
                have b4' : y2.1 112 = iI k := by rw [b4, ekk]
                refine w_cs0 (tp_formTo (r := 117) (o := 0) ml117 (by omega) (by omega) (by omega) (by omega) b3 b4') (fun y3 ⟨q1, q2, _⟩ => ?_)
                have hf3 : fr afH z y3 := fr_tr hf2 (fr_mono (fun g hg => by unfold afH; omega) q2)
                have hA3 := afL_fr q2 (by omega) (by omega) hA2
                have b3' : fmI y3 m.1 F' := ⟨lnI_fr q2 (by omega) (by omega) b3.1, b3.2⟩
                have hk3 : y3.1 112 = iI k := by rw [(q2 112 (by omega)).1]; exact b4'
                have hL38 : ∀ F, F ∈ Ls → F.length ≤ 38 := fun F hF => by have := (hs F hF).2.1; omega
                refine w_cs1 (xr_isThere (r := 117) (Or.inl rfl) hL hA3 hL38 q1 (by omega) (by omega) (by omega) (by omega) (by omega)) (fun v y4 ⟨e4, h4⟩ => ?_)
                have e4 : y4 = y3 := e4
                subst e4
                have sF' : sss a k R F' := by
                  rw [ekk] at eG
                  refine ⟨b1, hrR, b1.1, gm xa (gL m [s] hs1k), ?_⟩
                  rw [← eG, cnj_m, ← exa]
                rcases h4 with ⟨v1, -, v3⟩ | ⟨v1, v2⟩
                · have v1 : v = 1 := v1
                  rw [v1]
                  exact w_ifF (by decide) (oth rfl hA3 hf3 (fun _ _ => v3))
                · have v1 : v = 0 := v1
                  have nin : F' ∉ Ls := fun h9 => v2 ⟨rfl, h9⟩
                  have nd' : (Ls ++ [F']).Nodup := List.nodup_append.mpr ⟨hnd, List.nodup_cons.mpr ⟨List.not_mem_nil, List.nodup_nil⟩, fun x hx y hy e => nin (by rw [List.mem_singleton.mp hy] at e; rw [← e]; exact hx)⟩
                  have s' : ∀ F, F ∈ Ls ++ [F'] → sss a k R F := fun F hF => (List.mem_append.mp hF).elim (hs F) (fun h9 => by rw [List.mem_singleton.mp h9]; exact sF')
                  rw [v1]
                  refine w_ifT rfl (w_rdF hA3.1 (w_eqN (b := 200) (by omega) (by omega) (fun h200 => w_okZ (Or.inl rfl) (w_some ⟨Or.inr ⟨rfl, Ls ++ [F'], nd', by rw [List.length_append, h200]; rfl, s'⟩, hf3⟩)) (fun hne => w_rdF hA3.1 ?_)))
                  rw [show (40 : Int32) * nI Ls.length = nI (40 * Ls.length) from pk_mul 40 _]
                  refine w_cs0 (tp_formTo (r := 115) (o := 40 * Ls.length) ml115 (by omega) (by omega) (by omega) (by omega) b3' hk3) (fun y5 ⟨p1, p2, p3⟩ => ?_)
                  have h116 : y5.1 116 = nI Ls.length := by rw [(p2 116 (by omega)).1]; exact hA3.1
                  have ll : (Ls ++ [F']).length = Ls.length + 1 := by rw [List.length_append]; rfl
                  refine w_rdF h116 (w_wrF (c4 _ _ (Ls ++ [F']) _ (by omega) (by omega) nd' s' (fun i hi => clo_m (by omega) (hc i hi)) (fun F hF9 eF t ht9 t1 t2 t3 G hG g1 g2 g3 => ?_) ⟨?_, fun i S hi => ?_⟩ (fr_F2 (fr_tr hf3 (fr_mono (fun g hg => by unfold afH; omega) p2)) (by unfold afH; omega))))
                  · rw [List.getElem?_append_left haL] at eF
                    by_cases et : t = s
                    · subst et
                      have eFS : F = Sa := Option.some.inj (eF.symm.trans eSa)
                      subst eFS
                      rw [eG] at g3
                      obtain ⟨u1, u2⟩ := F_uni g1 b1 g3
                      rw [u2]
                      exact List.mem_append_right _ List.mem_cons_self
                    · exact List.mem_append_left _ (hcs F hF9 eF t ht9 t1 (by omega) t3 G hG g1 g2 g3)
                  · rw [ll]
                    exact po_usF_at.trans (nI_1 _)
                  · have hil := (List.getElem?_eq_some_iff.mp hi).1
                    rw [ll] at hil
                    by_cases hiF : i = Ls.length
                    · rw [hiF, List.getElem?_append_right (Nat.le_refl _), Nat.sub_self] at hi
                      have : F' = S := Option.some.inj hi
                      rw [hiF, ← this]
                      exact p1
                    · rw [List.getElem?_append_left (by omega)] at hi
                      have i2 := hA3.2 i S hi
                      have il := (hs S (List.mem_of_getElem? hi)).2.1
                      refine ⟨?_, ?_, fun j s hj => ?_, i2.2.2.2⟩
                      · show y5.2.1 115 (40 * i) = _
                        rw [p3 _ (by omega)]
                        exact i2.1
                      · show y5.2.1 115 (40 * i + 1) = _
                        rw [p3 _ (by omega)]
                        exact i2.2.1
                      · show y5.2.1 115 (40 * i + 2 + j) = _
                        have hjl := (List.getElem?_eq_some_iff.mp hj).1
                        rw [p3 _ (by omega)]
                        exact i2.2.2.1 j s hj
            | succ d3 ih3 =>
              intro j y hj hA hw hf
              have hjl : j < Sa.length := by omega
              have hfa := hA.2 at9 Sa eSa
              have hb9 := bdd j
              refine u_X13_allForms_3 ?_; unfold qm_X13_allForms_3
              rw [show (40 : Int32) * nI at9 = nI (40 * at9) from pk_mul 40 _, show nI (40 * at9) + 1 = nI (40 * at9 + 1) from nI_1 _, show nI (40 * at9) + 2 = nI (40 * at9 + 2) from nI_add _ 2, nI_add, show nI j + 1 = nI (j + 1) from nI_1 _]
              refine w_rdI ml115 rfl (by omega) hfa.2.1 (w_leF (by omega) (by omega) (w_rdI ml115 rfl (by omega) (hfa.2.2.1 j _ (List.getElem?_eq_getElem hjl)) (w_cs0 (tp_append h2 h5 (na.1 _ (List.getElem_mem hjl)) (tF hf) hw (by omega)) (fun y1 ⟨w1, f1⟩ => ?_))))
              rw [← bs_app, show tuG m.1 k (ahG m.1 s) :: Sa.take j ++ [Sa[j]] = tuG m.1 k (ahG m.1 s) :: Sa.take (j + 1) from by rw [List.take_succ, List.getElem?_eq_getElem hjl]; rfl] at w1
              exact ih3 (j + 1) y1 (by omega) (afL_fr f1 (by omega) (by omega) hA) w1 (fr_tr hf (fr_mono (fun g hg => by unfold afH; omega) f1))
          have hf0 : fr afH z (usF y 109 0) := fr_F2 hf (by unfold afH; omega)
          refine u_X13_allForms_2 ?_; unfold qm_X13_allForms_2
          rw [show (40 : Int32) * nI at9 = nI (40 * at9) from pk_mul 40 _, ix120]
          refine w_rdI ml97 rfl (by omega) ((tF hf) m.1 h2 h5).1 (w_leF (by omega) (by omega) (w_rdI ml115 rfl (by omega) fa.1 (w_wrF (w_rdI ml102 rfl (by omega) (((tF hf0) m.1 h2 h5).2 s hsl).2.1 (w_cs1 (xr_turned h2 h5 hah (tF hf0) (by omega) (by omega)) (fun v y1 ⟨e1, k2w⟩ => ?_))))))
          have e1 : y1 = usF y 109 0 := e1
          have k2v : v = nI (tuG m.1 k (ahG m.1 s)) := k2w
          subst e1
          rw [k2v]
          refine w_cs0 (tp_append (L := []) h2 h5 ht (tF hf0) ⟨po_usF_at, fun i a hi => by simp at hi⟩ (by decide)) (fun y2 ⟨w2, f2⟩ => ?_)
          refine c3 R 0 y2 (by omega) (afL_fr f2 (by omega) (by omega) (afL_fr (fr_F (P := fun g => g = 109) rfl) (by omega) (by omega) hA)) ?_ (fr_tr hf0 (fr_mono (fun g hg => by unfold afH; omega) f2))
          rw [List.take_zero]
          have : (bsG m.1 [tuG m.1 k (ahG m.1 s)]).flatten = [] ++ ltG m.1 (tuG m.1 k (ahG m.1 s)) := by
            unfold bsG
            simp
          rw [this]
          exact w2
      exact c2 (gNN m.1 - 1) 1 Ls y (by omega) (by omega) hlt hL hnd hs hc (fun F hF9 eF t ht9 t1 t2 => absurd t2 (by omega)) hA hf
  refine e_X13_allForms ?_
  refine u_X13_allForms_0 ?_; unfold qm_X13_allForms_0
  refine w_cs0 (tp_formTo (r := 115) (o := 0) ml115 (by omega) (by omega) (by omega) (by omega) s1 s3) (fun y ⟨p1, p2, _⟩ => w_wrF ?_)
  refine c1 200 0 [F0] _ (by omega) (Nat.zero_le _) (by rw [List.length_singleton]; omega) (by rw [List.length_singleton]; omega) (List.nodup_cons.mpr ⟨List.not_mem_nil, List.nodup_nil⟩) (fun F hF => ?_) (fun i hi => absurd hi (Nat.not_lt_zero _)) ⟨po_usF_at, fun i S hi => ?_⟩ (fr_F2 (fr_mono (fun g hg => by unfold afH; omega) p2) (by unfold afH; omega))
  · rw [List.mem_singleton.mp hF]
    exact ⟨s6, hR, h0, x0, e0⟩
  · have hil := (List.getElem?_eq_some_iff.mp hi).1
    rw [List.length_singleton] at hil
    have i0 : i = 0 := by omega
    subst i0
    have : F0 = S := Option.some.inj hi
    rw [← this]
    exact frwI_fr (fr_F (P := fun g => g = 116) rfl) (by omega) p1
end XS3
