/-! the reference: all that moves of kinds 0, 2, 4 lead to, exactly -/
def fB3 (g : Nat) : Prop := 2 ≤ g ∧ g ≤ 9 ∨ 25 ≤ g ∧ g ≤ 27 ∨ 31 ≤ g ∧ g ≤ 34 ∨ 1000 ≤ g
def snk3 (X : (Nat → Nat → Int32) → Prop) (z0 : ow_MS) (L0 : List (List Nat)) (z : ow_MS) (S : List Nat → Prop) (n : Nat) : Prop := gI X z ∧ z.1 30 = nI 3 ∧ fr fB3 z0 z ∧ ∃ Ls, z.1 26 = nI Ls.length ∧ rwS 25 z Ls ∧ Ls.length ≤ 310 ∧ (∃ Y, Ls = L0 ++ Y) ∧ (∀ r, r ∈ Ls → S r) ∧ (Ls.length < 310 → ∀ r, S r → r ∈ Ls)
theorem snk3_ok {X : (Nat → Nat → Int32) → Prop} {z0 : ow_MS} {L0 : List (List Nat)} : snkF (snk3 X z0 L0) := by
  refine ⟨fun P z z1 S n hf hP h => ?_, fun z S n A sg hn h hA hG hF h24 h6 => ?_, fun z S n n' hn h => h⟩
  · obtain ⟨h1, h2, h3, Ls, h4, h5, h6⟩ := h
    refine ⟨gI_fr hf (fun g hg => by have := hP g hg; unfold per; omega) h1, by rw [(hf 30 (fun h9 => by have := hP _ h9; omega)).1]; exact h2, fr_tr h3 (fr_mono (fun g hg => by have := hP g hg; unfold fB3; omega) hf), Ls, by rw [(hf 26 (fun h9 => by have := hP _ h9; omega)).1]; exact h4, rwS_fr hf (fun h9 => by have := hP _ h9; omega) h5, h6⟩
  · obtain ⟨h1, h2, h3, Ls, h4, h5, h7, ⟨Y, h8⟩, h9, h10⟩ := h
    refine e_X13_offer ?_; unfold qm_X13_offer_0
    refine w_cs0 (tr_pack (o := 0) pn3 (by omega) ml27 (by omega) (by omega) (by omega) (by omega) hF hA hG) (fun z1 ⟨m, P, g1, g2, g3, g4, _, _⟩ => ?_)
    have i1 : gI X z1 := gI_fr g3 (fun g hg => by unfold frQ at hg; unfold per; omega) h1
    have i2 : z1.1 30 = nI 3 := by rw [(g3 30 (by unfold frQ; omega)).1]; exact h2
    have i3 : rwS 25 z1 Ls := rwS_fr g3 (by unfold frQ; omega) h5
    have i4 : z1.1 26 = nI Ls.length := by rw [(g3 26 (by unfold frQ; omega)).1]; exact h4
    have f1 : fr fB3 z z1 := fr_mono (fun g hg => by unfold frQ at hg; unfold fB3; omega) g3
    refine w_rdF i2 (w_ifT (by decide) (w_rdF i4 (w_cs1 (xm_offerRow (M := 310) ml25 (by omega) (by omega) h7 (by omega) g2 (dRow_pack hF g1 h24 h6 g2) i3) (fun a z2 ⟨Ls', k1, k2, k3, k4, k5⟩ => w_wrF (w_some ?_)))))
    have k1 : a = nI Ls'.length := k1
    have f2 : fr (fun g => g = 25 ∨ g = 26) z1 (usF z2 26 a) := fr_F2 (fr_mono (fun g hg => Or.inl hg) k2) (Or.inr rfl)
    refine ⟨⟨fun r => r = pkR A sg m P ∨ S r, ⟨fun r hr => Or.inr hr, fun r hr => ?_, fun A' sg' ⟨e1, e2⟩ => ?_⟩, gI_fr f2 (fun g hg => by unfold per; omega) i1, by rw [(f2 30 (by omega)).1]; exact i2, fr_tr h3 (fr_tr f1 (fr_mono (fun g hg => by unfold fB3; omega) f2)), Ls', by rw [po_usF_at, k1], rwS_fr (P := fun g => g = 26) (fr_F rfl) (by decide) k3, k4, ?_, fun r hr => ?_, fun hlt r hr => ?_⟩, ?_⟩
    · rcases hr with hr | hr
      · exact Or.inr ⟨A, sg, ⟨rfl, rfl⟩, m, P, g1, hr⟩
      · exact Or.inl hr
    · rw [e1, e2]
      exact ⟨_, Or.inl rfl, m, P, g1, rfl⟩
    · rcases k5 with ⟨e, -⟩ | ⟨-, e⟩
      · exact ⟨Y, by rw [e, h8]⟩
      · exact ⟨Y ++ [pkR A sg m P], by rw [e, h8, List.append_assoc]⟩
    · rcases k5 with ⟨e, -⟩ | ⟨-, e⟩
      · rw [e] at hr
        exact Or.inr (h9 r hr)
      · rw [e] at hr
        rcases List.mem_append.mp hr with hr | hr
        · exact Or.inr (h9 r hr)
        · exact Or.inl (List.mem_singleton.mp hr)
    · rcases k5 with ⟨e, hm⟩ | ⟨-, e⟩
      · rw [e] at hlt ⊢
        rcases hr with hr | hr
        · rcases hm with hm | hm
          · rw [hr]
            exact hm
          · omega
        · exact h10 hlt r hr
      · rw [e] at hlt ⊢
        rw [List.length_append] at hlt
        rcases hr with hr | hr
        · rw [hr]
          exact List.mem_append_right _ (List.mem_singleton.mpr rfl)
        · exact List.mem_append_left _ (h10 (by omega) r hr)
    · exact fr_tr (fr_mono (fun g hg => by unfold frQ at hg; unfold frO; omega) g3) (fr_mono (fun g hg => Or.inl (by omega)) f2)
def nxR (r : List Nat) (A : rn_L) (sg : Nat → Bool) (c : Nat) : Prop := r = tk sg A ∧ okF A.flatten c ∧ c ≤ 12 ∧ A.length ≤ 6
def genR (Ls : List (List Nat)) (r0 : List Nat) : Prop := Ls[0]? = some r0 ∧ ∀ (i : Nat) r, Ls[i]? = some r → i = 0 ∨ ∃ i' r' A sg c kd A' sg', i' < i ∧ Ls[i']? = some r' ∧ nxR r' A sg c ∧ k024 kd ∧ OM A sg c kd A' sg' ∧ nfR A' sg' r
def pcR (Ls : List (List Nat)) (r : List Nat) (kd : Nat) : Prop := ∃ A sg c, nxR r A sg c ∧ ∀ A' sg', OM A sg c kd A' sg' → (∃ r', r' ∈ Ls ∧ nfR A' sg' r') ∨ Ls.length = 310
def cloR (Ls : List (List Nat)) : Prop := ∀ r, r ∈ Ls → ∀ kd, k024 kd → ∃ A sg c, nxR r A sg c ∧ ∀ A' sg', OM A sg c kd A' sg' → ∃ r', r' ∈ Ls ∧ nfR A' sg' r'
section XSI
variable {X : (Nat → Nat → Int32) → Prop} {z : ow_MS} {St : plT} {x : Int32} {Ls Y : List (List Nat)} {r r0 : List Nat} {kd : Nat}
theorem pcR_app (hl : (Ls ++ Y).length ≤ 310) (h : pcR Ls r kd) : pcR (Ls ++ Y) r kd := by
  obtain ⟨A, sg, c, h1, h2⟩ := h
  refine ⟨A, sg, c, h1, fun A' sg' hO => (h2 A' sg' hO).imp (fun ⟨r', k1, k2⟩ => ⟨r', List.mem_append_left _ k1, k2⟩) (fun k => ?_)⟩
  rw [List.length_append] at hl ⊢
  omega
theorem genR_app {i : Nat} {A : rn_L} {sg : Nat → Bool} {c : Nat} (h : genR Ls r0) (hi : Ls[i]? = some r) (hR : nxR r A sg c) (hk : k024 kd) (hY : ∀ s, s ∈ Y → ∃ A' sg', OM A sg c kd A' sg' ∧ nfR A' sg' s) : genR (Ls ++ Y) r0 := by
  have up : ∀ {a : Nat} {D : List Nat}, Ls[a]? = some D → (Ls ++ Y)[a]? = some D := fun h9 => by
    rw [List.getElem?_append_left (List.getElem?_eq_some_iff.mp h9).1]
    exact h9
  have hil := (List.getElem?_eq_some_iff.mp hi).1
  refine ⟨up h.1, fun a D hD => ?_⟩
  by_cases ha : a < Ls.length
  · rw [List.getElem?_append_left ha] at hD
    rcases h.2 a D hD with h9 | ⟨i', r', A9, sg9, c9, kd9, A', sg', q1, q2, q3⟩
    · exact Or.inl h9
    · exact Or.inr ⟨i', r', A9, sg9, c9, kd9, A', sg', q1, up q2, q3⟩
  · rw [List.getElem?_append_right (by omega)] at hD
    obtain ⟨A', sg', j1, j2⟩ := hY D (List.mem_of_getElem? hD)
    exact Or.inr ⟨i, r, A, sg, c, kd, A', sg', by omega, up hi, hR, hk, j1, j2⟩
def sim9 (X : (Nat → Nat → Int32) → Prop) (z : ow_MS) (St : plT) (e : Nat) (r0 : List Nat) (r : Int32 × ow_MS) : Prop := ∃ Ls, Ls.Nodup ∧ genR Ls r0 ∧ (300 < Ls.length ∧ r.1 = -2 ∧ gI X r.2 ∧ r.2.1 1 = 0 ∧ fr (fun g => g = 1 ∨ g = 30 ∨ fB3 g) z r.2 ∨ Ls.length ≤ 300 ∧ cloR Ls ∧ ∃ B sgB, tk sgB B ∈ Ls ∧ (∀ r', r' ∈ Ls → lsr r' (tk sgB B) = false) ∧ (∀ p, p ∈ B.flatten → p.2 < 2) ∧ (B ≠ [] → r.1 = nI e ∧ gI X r.2 ∧ r.2.1 1 = 0 ∧ fr (fun g => g = 1 ∨ g = 12 ∨ g = 30 ∨ fB3 g) z r.2 ∧ relR r.2 (upP St e (some (B, sgB)))))
theorem xq_simplify (h : gI X z) (hR : relR z St) : Te (fun K => qe_X13_simplify K x z) (fun r => (rFl X z 1 r ∧ ∀ d, d < 40 → x = nI d → St d = none) ∨ ∃ d A sg, d < 40 ∧ x = nI d ∧ St d = some (A, sg) ∧ (rFl X z 2 r ∧ allF St ∨ ∃ e, lstF St e ∧ sim9 X z St e (tk sg A) r)) := by
  have h1 := gI_1 (c := 0) h
  have hR1 := relR_1 (c := 0) hR
  refine e_X13_simplify ?_
  refine u_X13_simplify_0 ?_; unfold qm_X13_simplify_0
  refine w_wrF (w_hasX hR1 (fun h0 => w_ifT rfl (w_mono (w_failX (k := 1) h1 fr_1) (fun r hr => Or.inl ⟨hr, h0⟩))) (fun d A sg hd hx hSt hv hne => w_ifF (by decide) (w_freeX hR1 (fun h0 => w_ifT rfl (w_mono (w_failX (k := 2) h1 fr_1) (fun r hr => Or.inr ⟨d, A, sg, hd, hx, hSt, Or.inl ⟨hr, h0⟩⟩))) (fun f hlf => w_ifF (rn_neg1 (by have := hlf.1; omega)) ?_))))
  subst hx
  have hl := hv.1.1
  refine w_mono (R := fun r => sim9 X z St f (tk sg A) r) ?_ (fun r hr => Or.inr ⟨d, A, sg, hd, rfl, hSt, Or.inr ⟨f, hlf, hr⟩⟩)
  let Q : Int32 × ow_MS → Prop := fun r => sim9 X z St f (tk sg A) r
  let J : List (List Nat) → ow_MS → Prop := fun Ls y => gI X y ∧ y.1 30 = nI 3 ∧ fr (fun g => g = 30 ∨ fB3 g) (usF z 1 0) y ∧ y.1 26 = nI Ls.length ∧ rwS 25 y Ls ∧ Ls.length ≤ 310
  let I : List (List Nat) → Nat → Nat → Prop := fun Ls at9 le => genR Ls (tk sg A) ∧ (∀ (a : Nat) r, a < at9 → Ls[a]? = some r → ∀ kd, k024 kd → pcR Ls r kd) ∧ le < Ls.length ∧ ∀ (a : Nat) r rl, a < at9 → Ls[a]? = some r → Ls[le]? = some rl → lsr r rl = false
  have z1 : (usF z 1 0).1 1 = 0 := po_usF_at
  have c5 : ∀ (le at9 : Nat) (Ls : List (List Nat)) (y : ow_MS), J Ls y → I Ls at9 le → (Ls.length ≤ at9 ∨ 300 < Ls.length) → Tt (fun K i => q_X13_simplify K i 5 (nI d) (nI le) (nI at9) 0 y) Q := by
    intro le at9 Ls y ⟨j1, j2, j3, j4, j5, j6⟩ ⟨i1, i2, i3, i4⟩ hex
    have e1 : y.1 1 = 0 := by rw [(j3 1 (by unfold fB3; omega)).1]; exact z1
    refine u_X13_simplify_5 ?_; unfold qm_X13_simplify_5
    rw [show (32 : Int32) * nI le = nI (32 * le) from pk_mul 32 le]
    refine w_rdF j4 (w_le (b := 300) (by omega) (by omega) (fun h300 => ?_) (fun h300 => w_some ⟨Ls, j5.2.2, i1, Or.inl ⟨h300, rfl, j1, e1, fr_tr (fr_F (Or.inl rfl)) (fr_mono (fun g hg => Or.inr hg) j3)⟩⟩))
    have hat : Ls.length ≤ at9 := by omega
    have clo : cloR Ls := by
      intro r hr kd hk
      obtain ⟨a, ha, e⟩ := List.getElem_of_mem hr
      obtain ⟨A1, sg1, c1, q1, q2⟩ := i2 a r (by omega) (by rw [List.getElem?_eq_getElem ha, e]) kd hk
      exact ⟨A1, sg1, c1, q1, fun A' sg' hO => (q2 A' sg' hO).elim id (fun k => by omega)⟩
    have hle : Ls[le]? = some Ls[le] := List.getElem?_eq_getElem i3
    obtain ⟨B, sgB, hw⟩ := j5.2.1 le i3
    have eB : tk sgB B = Ls[le] := rc_uni hw.1 (j5.1 le _ hle)
    have least : ∀ r', r' ∈ Ls → lsr r' (tk sgB B) = false := by
      intro r' hr'
      obtain ⟨a, ha, e⟩ := List.getElem_of_mem hr'
      rw [eB]
      exact i4 a r' _ (by omega) (by rw [List.getElem?_eq_getElem ha, e]) hle
    have hu : ∀ p, p ∈ B.flatten → p.2 < 2 := fun p hp => by
      obtain ⟨c9, hc9, -⟩ := hw.2.1
      exact ((hc9.2 p).mp hp).2
    have hRy : relR y St := relR_fr j3 (by unfold fB3; omega) hR1
    by_cases hB : B = []
    · have hT := tm_keepRow j1 (frD_of hRy hlf) (by omega) ml25 (by omega) (by omega) (j5.2.1 le i3)
      refine w_cs1 hT (fun a y1 h9 => w_some ⟨Ls, j5.2.2, i1, Or.inr ⟨h300, clo, B, sgB, by rw [eB]; exact List.getElem_mem _, least, hu, fun h8 => absurd hB h8⟩⟩)
    · refine w_cs1 (xr_keepRow j1 hRy hlf (by omega) ml25 (by omega) (by omega) hw hB) (fun a y1 ⟨q1, q2, q3, q4⟩ => w_some ⟨Ls, j5.2.2, i1, Or.inr ⟨h300, clo, B, sgB, by rw [eB]; exact List.getElem_mem _, least, hu, fun _ => ⟨q2, q1, ?_, ?_, q4⟩⟩⟩)
      · show y1.1 1 = 0
        rw [(q3 1 (by omega)).1]
        exact e1
      · refine fr_tr (fr_F (Or.inl rfl)) (fr_tr (fr_mono (fun g hg => ?_) j3) (fr_mono (fun g hg => Or.inr (Or.inl hg)) q3))
        rcases hg with hg | hg
        · exact Or.inr (Or.inr (Or.inl hg))
        · exact Or.inr (Or.inr (Or.inr hg))
  have main : ∀ (k at9 le : Nat) (Ls : List (List Nat)) (y : ow_MS), at9 + k = 311 → J Ls y → I Ls at9 le → Tt (fun K i => q_X13_simplify K i 2 (nI d) (nI le) (nI at9) 0 y) Q := by
    intro k
    induction k with
    | zero =>
      intro at9 le Ls y ha hj hi
      have j6 := hj.2.2.2.2.2
      refine u_X13_simplify_2 ?_; unfold qm_X13_simplify_2
      exact w_rdF hj.2.2.2.1 (w_leT (by omega) (by omega) (c5 le at9 Ls y hj hi (Or.inl (by omega))))
    | succ k ih =>
      intro at9 le Ls y ha hj hi
      have kinds : ∀ (j kd le2 : Nat) (Ls : List (List Nat)) (y : ow_MS), kd + 2 * j = 6 → J Ls y → genR Ls (tk sg A) → (∀ (a : Nat) r, a < at9 → Ls[a]? = some r → ∀ kd, k024 kd → pcR Ls r kd) → le2 < Ls.length → (∀ (a : Nat) r rl, a < at9 + 1 → Ls[a]? = some r → Ls[le2]? = some rl → lsr r rl = false) → at9 < Ls.length → (∀ r, Ls[at9]? = some r → ∀ kd', k024 kd' → kd' < kd → pcR Ls r kd') → Tt (fun K i => q_X13_simplify K i 4 (nI d) (nI le2) (nI at9) (nI kd) y) Q := by
        intro j
        induction j with
        | zero =>
          intro kd le2 Ls y hkd hj g1 g2 g3 g4 g5 g6
          refine u_X13_simplify_4 ?_; unfold qm_X13_simplify_4
          rw [nI_1]
          refine w_leT (a := 5) (by omega) (by omega) (ih (at9 + 1) le2 Ls y (by omega) hj ⟨g1, fun a r ha9 hr kd' hk' => ?_, g3, g4⟩)
          by_cases e : a = at9
          · rw [e] at hr
            exact g6 r hr kd' hk' (by rcases hk' with h9 | h9 | h9 <;> omega)
          · exact g2 a r (by omega) hr kd' hk'
        | succ j ihj =>
          intro kd le2 Ls y hkd hj g1 g2 g3 g4 g5 g6
          obtain ⟨j1, j2, j3, j4, j5, j6⟩ := hj
          have hk0 : k024 kd := by unfold k024; omega
          obtain ⟨B, sg2, hw⟩ := j5.2.1 at9 g5
          have hat : Ls[at9]? = some Ls[at9] := List.getElem?_eq_getElem g5
          have eB : tk sg2 B = Ls[at9] := rc_uni hw.1 (j5.1 at9 _ hat)
          obtain ⟨c9, hc1, hc2⟩ := hw.2.1
          have hnx : nxR Ls[at9] B sg2 c9 := ⟨eB.symm, hc1, hc2, hw.2.2⟩
          refine u_X13_simplify_4 ?_; unfold qm_X13_simplify_4
          rw [show (32 : Int32) * nI at9 = nI (32 * at9) from pk_mul 32 at9, show nI kd + 2 = nI (kd + 2) from nI_add kd 2]
          refine w_leF (a := 5) (by omega) (by omega) (w_cs0 (to_unpack (by omega) ml25 (by omega) (by omega) hw) (fun y1 ⟨a1, a2, a3⟩ => w_cs0 (to_link hw a1 a2) (fun y2 ⟨b1, b2⟩ => ?_)))
          have f12 : fr fB3 y y2 := fr_tr (fr_mono (fun g hg => by unfold fB3; omega) a3) (fr_mono (fun g hg => by unfold fB3; omega) b2)
          have hs2 : snk3 X y2 Ls y2 (fun r => r ∈ Ls) 0 := by
            refine ⟨gI_net pn1 (fr_tr (fr_mono (fun g hg => by omega) a3) (fr_mono (fun g hg => by omega) b2)) (fun g hg => hg) j1, ?_, fr_rf, Ls, ?_, rwS_fr b2 (by omega) (rwS_fr a3 (by omega) j5), j6, ⟨[], (List.append_nil _).symm⟩, fun r hr => hr, fun _ r hr => hr⟩
            · rw [(b2 30 (by omega)).1, (a3 30 (by omega)).1]
              exact j2
            · rw [(b2 26 (by omega)).1, (a3 26 (by omega)).1]
              exact j4
          refine w_cs0 (xr_try snk3_ok pn1 (by omega) hc1 (show kd < 5 by omega) b1 hs2) (fun y3 ⟨⟨S', s1, s2, s3, s4, Ls', s5, s6, s7, ⟨Yy, s8⟩, s9, s10⟩, _⟩ => ?_)
          subst s8
          have up : ∀ {a : Nat} {D : List Nat}, Ls[a]? = some D → (Ls ++ Yy)[a]? = some D := fun h9 => by
            rw [List.getElem?_append_left (List.getElem?_eq_some_iff.mp h9).1]
            exact h9
          have dn : ∀ {a : Nat} {D : List Nat}, a < Ls.length → (Ls ++ Yy)[a]? = some D → Ls[a]? = some D := fun h8 h9 => by
            rw [List.getElem?_append_left h8] at h9
            exact h9
          have nd := List.nodup_append.mp s6.2.2
          have G := genR_app (Y := Yy) (kd := kd) g1 hat hnx hk0 (fun s hs => by
            rcases s1.2.1 s (s9 s (List.mem_append_right _ hs)) with h9 | h9
            · exact absurd rfl (nd.2.2 s h9 s hs)
            · exact h9)
          refine ihj (kd + 2) le2 (Ls ++ Yy) y3 (by omega) ⟨s2, s3, fr_tr j3 (fr_mono (fun g hg => Or.inr hg) (fr_tr f12 s4)), s5, s6, s7⟩ G (fun a r ha9 hr kd' hk' => pcR_app s7 (g2 a r ha9 (dn (by omega) hr) kd' hk')) (by rw [List.length_append]; omega) (fun a r rl ha9 hr hrl => g4 a r rl ha9 (dn (by omega) hr) (dn g3 hrl)) (by rw [List.length_append]; omega) (fun r hr kd' hk' hlt => ?_)
          have hr := dn g5 hr
          by_cases e : kd' = kd
          · rw [hat] at hr
            cases hr
            subst e
            refine ⟨B, sg2, c9, hnx, fun A' sg' hO => ?_⟩
            obtain ⟨r', q1, q2⟩ := s1.2.2 A' sg' hO
            by_cases hlt : (Ls ++ Yy).length < 310
            · exact Or.inl ⟨r', s10 hlt r' q1, q2⟩
            · exact Or.inr (by omega)
          · exact pcR_app s7 (g6 r hr kd' hk' (by rcases hk' with h9 | h9 | h9 <;> rcases hk0 with h8 | h8 | h8 <;> omega))
      obtain ⟨i1, i2, i3, i4⟩ := id hi
      obtain ⟨j1, j2, j3, j4, j5, j6⟩ := id hj
      refine u_X13_simplify_2 ?_; unfold qm_X13_simplify_2
      refine w_rdF j4 (w_le (by omega) (by omega) (fun h9 => c5 le at9 Ls y hj hi (Or.inl h9)) (fun hat => w_rdF j4 (w_lt (a := 300) (by omega) (by omega) (fun h9 => c5 le at9 Ls y hj hi (Or.inr h9)) (fun h300 => ?_))))
      have e1 : Ls[at9]? = some Ls[at9] := List.getElem?_eq_getElem hat
      have e2 : Ls[le]? = some Ls[le] := List.getElem?_eq_getElem i3
      have w1 := j5.1 at9 _ e1
      have w2 := j5.1 le _ e2
      have wl1 := w1.1
      have wl2 := w2.1
      rw [show (32 : Int32) * nI at9 = nI (32 * at9) from pk_mul 32 at9, show (32 : Int32) * nI le = nI (32 * le) from pk_mul 32 le]
      refine w_cs1 (tr_lesser ml25 ml25 (by omega) (by omega) (by omega) (by omega) w1 w2) (fun a y9 e9 => ?_)
      cases e9
      cases hls : lsr Ls[at9] Ls[le] with
      | false =>
        refine w_ifT rfl ?_
        refine u_X13_simplify_3 ?_; unfold qm_X13_simplify_3
        refine kinds 3 0 le Ls y (by omega) hj i1 i2 i3 (fun a r rl ha9 hr hrl => ?_) hat (fun r hr kd' hk' hlt => absurd hlt (Nat.not_lt_zero _))
        by_cases e : a = at9
        · rw [e, e1] at hr
          rw [e2] at hrl
          cases hr
          cases hrl
          exact hls
        · exact i4 a r rl (by omega) hr hrl
      | true =>
        refine w_ifF (by decide) ?_
        refine u_X13_simplify_3 ?_; unfold qm_X13_simplify_3
        refine kinds 3 0 at9 Ls y (by omega) hj i1 i2 hat (fun a r rl ha9 hr hrl => ?_) hat (fun r hr kd' hk' hlt => absurd hlt (Nat.not_lt_zero _))
        rw [e1] at hrl
        cases hrl
        by_cases e : a = at9
        · rw [e, e1] at hr
          cases hr
          exact lsr_irr
        · cases h9 : lsr r Ls[at9] with
          | false => rfl
          | true =>
            have := i4 a r _ (by omega) hr e2
            rw [lsr_tr h9 hls] at this
            cases this
  have cp : ∀ (j k : Nat) (y : ow_MS), k + j = (tk sg A).length + 1 → fr (fun g => g = 25) (usF z 1 0) y → (∀ i, i < k → y.2.1 25 i = (usF z 1 0).2.1 12 (32 * d + i)) → Tt (fun K i => q_X13_simplify K i 1 (nI d) (nI k) 0 0 y) Q := by
    intro j
    induction j with
    | zero =>
      intro k y hk hf2 hc
      have e12 := (hf2 12 (by omega)).2.1
      refine u_X13_simplify_1 ?_; unfold qm_X13_simplify_1
      rw [show (32 : Int32) * nI d = nI (32 * d) from pk_mul 32 d]
      refine w_rdI ml12 rfl (by omega) (x := nI (tk sg A).length) (by rw [e12]; exact hv.1.2.2.1) (w_ltT (by omega) (by omega) (w_wrF (w_wrF ?_)))
      have f3 : fr (fun g => g = 25 ∨ g = 26 ∨ g = 30) (usF z 1 0) (usF (usF y 26 1) 30 3) := fr_F2 (fr_F2 (fr_mono (fun g hg => by omega) hf2) (by omega)) (by omega)
      have hrow : vRow (usF (usF y 26 1) 30 3) 25 0 A sg := cp_row hv (fun i hi => hc i (by omega))
      have h26 : (usF (usF y 26 1) 30 3).1 26 = nI 1 := rf_ot (by omega) po_usF_at
      refine main 311 0 0 [tk sg A] _ (by omega) ⟨gI_fr f3 (fun g hg => by unfold per; omega) h1, po_usF_at, fr_mono (fun g hg => by unfold fB3; omega) f3, h26, ⟨fun k r hk => ?_, fun j hj => ?_, List.nodup_cons.mpr ⟨List.not_mem_nil, List.nodup_nil⟩⟩, by show 1 ≤ 310; omega⟩ ⟨⟨rfl, fun i r hi => ?_⟩, fun a r ha => absurd ha (Nat.not_lt_zero _), Nat.succ_pos _, fun a r rl ha => absurd ha (Nat.not_lt_zero _)⟩
      · have hk1 : k < 1 := (List.getElem?_eq_some_iff.mp hk).1
        have e : k = 0 := by omega
        subst e
        cases hk
        exact hrow.1
      · have hj : j < 1 := hj
        have e : j = 0 := by omega
        subst e
        exact ⟨A, sg, hrow⟩
      · have h9 : i < 1 := (List.getElem?_eq_some_iff.mp hi).1
        exact Or.inl (by omega)
    | succ j ih =>
      intro k y hk hf2 hc
      have e12 := (hf2 12 (by omega)).2.1
      refine u_X13_simplify_1 ?_; unfold qm_X13_simplify_1
      rw [show (32 : Int32) * nI d = nI (32 * d) from pk_mul 32 d, nI_add, nI_1]
      refine w_rdI ml12 rfl (by omega) (x := nI (tk sg A).length) (by rw [e12]; exact hv.1.2.2.1) (w_ltF (by omega) (by omega) (w_rdI ml12 rfl (by omega) (by rw [e12]) (w_wrI ml25 rfl (by omega) (ih (k + 1) _ (by omega) (fr_I2 hf2 rfl) (fun i hi => ?_)))))
      by_cases hik : i = k
      · rw [hik, po_usI_at]
      · exact rd_ne hik (hc i (by omega))
  exact cp ((tk sg A).length + 1) 0 (usF z 1 0) (by omega) fr_rf (fun i hi => by omega)
end XSI
