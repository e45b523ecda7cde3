/-! signature, the reference: exactly -/
section XSHB
variable {X : (Nat → Nat → Int32) → Prop} {z : ow_MS} {St : plT} {T : ow_NT} {nn Pc : Nat} {M : Nat → Int32} {φ ψ : Nat → Nat} {w cf : Nat → Bool}
/-- marks of the list and marks of the net -/
theorem mk_M {A : rn_L} {sg : Nat → Bool} {mm : Nat → Nat} {P : Nat} (h : fcD9 T.1 T.2.2.1 T.2.2.2 w nn Pc M φ ψ cf) (hV : isoV A sg idN T) (hk : mk A mm P) {v u : Nat} (h1 : v < A.flatten.length) (h2 : u < A.flatten.length) : M (lbv A idN v) = M (lbv A idN u) ↔ mm (rn_c A v) = mm (rn_c A u) := by
  have hi := isoS_iff.mp hV.1
  have hv := h.1
  have hc : T.1 ≤ 12 := h.2.2.2.2.2.2.2.2.2.2.2.2.1
  have l1 := lbv_lt hi h1
  have l2 := lbv_lt hi h2
  rw [← part_iff hi hv hk h1 h2, parts_iff hv hc l1 l2]
  refine ⟨fun e => h.2.2.2.2.2.2.2.2.2.2.1 _ _ l1 l2 e, fun r => ?_⟩
  have := r (fun k => k < 2 * T.1 ∧ M k = M (lbv A idN v)) ⟨l1, rfl⟩ (fun j hj ⟨_, e⟩ => ⟨(hv j hj).1, by rw [(h.2.2.2.2.2.2.2.2.2.1 j hj).1]; exact e⟩) (fun j hj ⟨_, e⟩ => ⟨mt_lt hj, by rw [(h.2.2.2.2.2.2.2.2.2.1 j hj).2]; exact e⟩)
  exact this.2.symm
theorem xq_signature {d : Int32} (hXa : X53a X) (h : gI X z) (hR : relR z St) (hT : ∀ e A sg, e < 40 → d = nI e → St e = some (A, sg) → isoV A sg idN T ∧ pm1 T ∧ fcD9 T.1 T.2.2.1 T.2.2.2 w nn Pc M φ ψ cf) : Te (fun K => qe_X13_signature K d z) (fun r => (r.2.1 1 = nI 1 ∧ ∀ e, e < 40 → d = nI e → St e = none) ∨ ∃ e A sg, e < 40 ∧ d = nI e ∧ St e = some (A, sg) ∧ r.2.1 1 = 0 ∧ r.1 = iI (zS9 (fun p => vlG9 T.1 T.2.2.1 T.2.2.2 w nn M φ ψ cf p) Pc)) := by
  let Q : Int32 × ow_MS → Prop := fun r => (r.2.1 1 = nI 1 ∧ ∀ e, e < 40 → d = nI e → St e = none) ∨ ∃ e A sg, e < 40 ∧ d = nI e ∧ St e = some (A, sg) ∧ r.2.1 1 = 0 ∧ r.1 = iI (zS9 (fun p => vlG9 T.1 T.2.2.1 T.2.2.2 w nn M φ ψ cf p) Pc)
  have h1 := gI_1 (c := 0) h
  have hR1 := relR_1 (c := 0) hR
  refine e_X13_signature ?_
  refine u_X13_signature_0 ?_; unfold qm_X13_signature_0
  refine w_wrF (w_hasX hR1 (fun h0 => w_ifT rfl (w_mono (w_failX h1 fr_1) (fun r hr => Or.inl ⟨hr.2.1, h0⟩))) (fun e A sg he hx hs hv9 hne => w_ifF (by decide) ?_))
  obtain ⟨hV, hp1, hD⟩ := hT e A sg he hx hs
  subst hx
  have hi := isoS_iff.mp hV.1
  have hv := hD.1
  have hcT : T.1 ≤ 12 := hD.2.2.2.2.2.2.2.2.2.2.2.2.1
  have hPc : Pc ≤ 24 := hD.2.2.2.2.2.2.2.2.2.2.2.2.2.2
  refine w_cs0 (to_open pn1 he hv9) (fun z2 ⟨o2, f2⟩ => ?_)
  have hl := o2.len
  have hC := o2.2.2.2
  have hd := wkF_ok o2.wk
  obtain ⟨c, hok, hc⟩ := o2.2.2.1
  refine w_cs0 (tn_split pn1 (by omega) (by omega) hd o2.1) (fun z3 ⟨f3, P, hP3⟩ => ?_)
  obtain ⟨mm, hmk, hmm⟩ := mk_of (by omega) hP3
  have o3 : oNet z3 1000 A sg := oNet_fr f3 (fun g hg => by unfold frP at hg; omega) o2
  refine w_cs0 (xr_walk (Lb := fun s => φ (psS A s)) pn1 (by omega) hd o3.1 o3.2.1 (fun s hs9 => ?_)) (fun z4 ⟨f4, F, hF4, hw4⟩ => ?_)
  · show φ (psS A (phi A sg s)) = φ (psS A s)
    rw [← ps_on hV hp1 hs9]
    exact hD.2.2.2.1 _ (ps_lt hV hs9)
  have f4 : fr (frW 1000) z3 z4 := f4
  have o4 : oNet z4 1000 A sg := oNet_fr f4 (fun g hg => by unfold frW at hg; omega) o3
  have hP4 : rn_pt z4 1000 A P := by
    unfold rn_pt
    rw [(f4 1013 (by unfold frW; omega)).1, (f4 1012 (by unfold frW; omega)).2.1]
    exact hP3
  have hmm4 : ∀ c, c < A.length → z4.2.1 1012 c = nI (mm c) := fun c hc9 => by
    rw [(f4 1012 (by unfold frW; omega)).2.1]
    exact hmm c hc9
  have hI4 : fcI z4 1000 A sg F P := ⟨o4, hF4, hw4.1, hP4⟩
  have t4 : z4.1 1 = 0 := by
    rw [(f4 1 (by unfold frW; omega)).1, (f3 1 (by unfold frP; omega)).1, (f2 1 (by omega)).1]
    exact po_usF_at
  have iF : ∀ {y : ow_MS}, fr sgH z4 y → fcI y 1000 A sg F P := fun hf => fcI_fr pn1 hf (fun g hg => by unfold sgH at hg; omega) hI4
  have PA : P ≤ A.length := hP4.2.1
  have F80 := hF4.2.1
  -- the faces as a function
  obtain ⟨fl, hfl⟩ : ∃ fl : Nat → Nat, ∀ s, s < 2 * A.flatten.length → z4.2.1 1014 s = nI (fl s) ∧ fl s < F := by
    refine ⟨fun s => (z4.2.1 1014 s).toNatClampNeg, fun s hs9 => ?_⟩
    obtain ⟨f, hf, ef⟩ := hF4.2.2.1 s hs9
    have ef : z4.2.1 1014 s = nI f := ef
    dsimp only
    rw [ef, nI_clamp (by omega)]
    exact ⟨rfl, hf⟩
  have hfc : ∀ s, s < 2 * A.flatten.length → fl (phi A sg s) = fl s := fun s hs9 => by
    obtain ⟨a1, a2⟩ := hfl s hs9
    obtain ⟨b1, b2⟩ := hfl _ (phi_lt (sg := sg) hd hs9)
    have := (hw4.1 (fl s) a2 s hs9).mp a1
    have this : z4.2.1 1014 (phi A sg s) = nI (fl s) := this
    rw [b1] at this
    exact nI_inj9 (by omega) (by omega) this
  have hfi : ∀ s t, s < 2 * A.flatten.length → t < 2 * A.flatten.length → fl s = fl t → φ (psS A s) = φ (psS A t) := fun s t hs9 ht9 e9 => by
    obtain ⟨a1, a2⟩ := hfl s hs9
    obtain ⟨b1, b2⟩ := hfl t ht9
    rw [← e9] at b1
    exact (hw4.2 (fl s) a2).2 s t hs9 ht9 a1 b1
  -- which part of the net a part of the list is
  obtain ⟨D, hDD⟩ : ∃ D : Nat → Nat → Bool, ∀ p pc, D p pc = true ↔ ∃ v, v < A.flatten.length ∧ mm (rn_c A v) = p ∧ M (lbv A idN v) = nI pc := by
    have hex : ∀ p pc, ∃ b : Bool, b = true ↔ ∃ v, v < A.flatten.length ∧ mm (rn_c A v) = p ∧ M (lbv A idN v) = nI pc := fun p pc => by
      by_cases hs9 : ∃ v, v < A.flatten.length ∧ mm (rn_c A v) = p ∧ M (lbv A idN v) = nI pc
      · exact ⟨true, ⟨fun _ => hs9, fun _ => rfl⟩⟩
      · exact ⟨false, ⟨fun h9 => absurd h9 (by decide), fun h9 => absurd h9 hs9⟩⟩
    exact ⟨fun p pc => Classical.choose (hex p pc), fun p pc => Classical.choose_spec (hex p pc)⟩
  have Mn : ∀ v, v < A.flatten.length → ∃ pc, pc < Pc ∧ M (lbv A idN v) = nI pc := fun v hv1 => by
    have hl9 := lbv_lt hi hv1
    have a := hD.2.2.2.2.2.2.1 (2 * lbv A idN v) (by omega)
    rw [show 2 * lbv A idN v / 2 = lbv A idN v by omega] at a
    exact ⟨_, hD.2.2.2.2.2.1 _ (hD.2.2.1 _ (by omega)), a⟩
  let gv : Nat → Int := fun p => zS9 (fun pc => if D p pc = true then vlG9 T.1 T.2.2.1 T.2.2.2 w nn M φ ψ cf pc else 0) Pc
  have total : zS9 gv P = zS9 (fun p => vlG9 T.1 T.2.2.1 T.2.2.2 w nn M φ ψ cf p) Pc := by
    show zS9 (fun p => zS9 (fun pc => if D p pc = true then vlG9 T.1 T.2.2.1 T.2.2.2 w nn M φ ψ cf pc else 0) Pc) P = _
    rw [zS_sw]
    refine zS_cg (fun pc hpc => ?_)
    obtain ⟨u, u1, u2⟩ := hD.2.2.2.2.2.2.2.2.2.2.2.1 pc hpc
    obtain ⟨v, v1, v2⟩ := lbv_sur hi u1
    have v2 : lbv A idN v = u := v2
    have Mv : M (lbv A idN v) = nI pc := by rw [v2]; exact u2
    refine zS_one (P := fun p => D p pc) (g := fun _ => vlG9 T.1 T.2.2.1 T.2.2.2 w nn M φ ψ cf pc) (a := mm (rn_c A v)) (hmk.1 _ (rn_c_in A v v1).1) ((hDD _ _).mpr ⟨v, v1, rfl, Mv⟩) (fun b _ hb => ?_)
    obtain ⟨v', a1, a2, a3⟩ := (hDD b pc).mp hb
    rw [← a2]
    exact (mk_M hD hV hmk a1 v1).mp (by rw [a3, Mv])
  have c1 : ∀ (d9 p : Nat) (x2 : Int32) (y : ow_MS), p + d9 = P → fr sgH z4 y → x2 = iI (zS9 gv p) → Tt (fun K i => q_X13_signature K i 1 (nI e) x2 (nI p) 0 0 0 0 y) Q := by
    intro d9
    induction d9 with
    | zero =>
      intro p x2 y hp hf hx2
      have hp : p = P := by omega
      refine u_X13_signature_1 ?_; unfold qm_X13_signature_1
      refine w_rdF (iF hf).2.2.2.1 (w_leT (by omega) (by omega) (w_some (Or.inr ⟨e, A, sg, he, rfl, hs, ?_, ?_⟩)))
      · show y.1 1 = 0
        rw [(hf 1 (by unfold sgH; omega)).1]
        exact t4
      · show x2 = _
        rw [hx2, hp, total]
    | succ d9 ih =>
      intro p x2 y hp hf hx2
      have hIy := iF hf
      have y12 : y.2.1 1012 = z4.2.1 1012 := (hf 1012 (by unfold sgH; omega)).2.1
      have y14 : y.2.1 1014 = z4.2.1 1014 := (hf 1014 (by unfold sgH; omega)).2.1
      have inq : ∀ v, v < A.flatten.length → (inP A (y.2.1 1012) p v ↔ mm (rn_c A v) = p) := fun v hv1 => by
        have hcc := (rn_c_in A v hv1).1
        have := hmk.1 _ hcc
        unfold inP
        rw [y12, hmm4 _ hcc]
        exact ⟨fun h9 => nI_inj9 (by omega) (by omega) h9.2, fun h9 => ⟨hv1, by rw [h9]⟩⟩
      have c4 : ∀ (x4 x5 : Int32) (t : Int) (y : ow_MS), fr sgH z4 y → t = gv p → Tt (fun K i => q_X13_signature K i 4 (nI e) x2 (nI p) x4 x5 (iI t) x2 y) Q := by
        intro x4 x5 t y hf ht
        refine u_X13_signature_4 ?_; unfold qm_X13_signature_4
        rw [nI_1]
        refine ih (p + 1) _ y (by omega) hf ?_
        rw [hx2, ht, iI_add]
        rfl
      have c2 : ∀ (d : Nat) (x4 : Int32), d ≤ A.flatten.length → (x4 = -1 ∧ (∀ v, d ≤ v → v < A.flatten.length → mm (rn_c A v) ≠ p) ∨ ∃ v0, x4 = nI v0 ∧ inP A (y.2.1 1012) p v0) → Tt (fun K i => q_X13_signature K i 2 (nI e) x2 (nI p) x4 (iI ((d : Int) - 1)) 0 0 y) Q := by
        intro d
        induction d with
        | zero =>
          intro x4 _ h4
          refine u_X13_signature_2 ?_; unfold qm_X13_signature_2
          refine w_ifT (by show iI (-1) < iI 0; rw [iI_lt (by omega) (by omega) (by omega) (by omega)]; omega) (w_if (fun n4 => ?_) (fun n4 => ?_))
          · rcases h4 with ⟨h4, h5⟩ | ⟨v0, h4, hv0⟩
            · refine c4 _ _ 0 y hf ?_
              show 0 = zS9 (fun pc => if D p pc = true then vlG9 T.1 T.2.2.1 T.2.2.2 w nn M φ ψ cf pc else 0) Pc
              refine (zS_none (P := fun pc => D p pc) (fun pc _ => ?_)).symm
              cases e9 : D p pc with
              | false => rfl
              | true =>
                obtain ⟨v, a1, a2, -⟩ := (hDD p pc).mp e9
                exact absurd a2 (h5 v (Nat.zero_le _) a1)
            · rw [h4] at n4
              have := hv0.1
              exact absurd n4 (rn_neg1 (by omega))
          · rcases h4 with ⟨h4, -⟩ | ⟨v0, rfl, hv0⟩
            · exact absurd h4 n4
            · have hv0l := hv0.1
              obtain ⟨pc, pc1, pc2⟩ := Mn v0 hv0l
              have e0 := (inq v0 hv0l).mp hv0
              refine w_cs1 (xr_sigOf (pc := pc) (fl := fl) pn1 hok hc hIy (by omega) hv0 (fun s hs9 => by rw [y14]; exact hfl s hs9) hD hV hp1 pc1 (fun v hv1 => ?_) hfc hfi) (fun a y1 ⟨r1, f5⟩ => ?_)
              · rw [inq v hv1]
                have q := mk_M hD hV hmk hv1 hv0l
                rw [e0, pc2] at q
                rw [← q]
                exact ⟨fun h9 => decide_eq_true h9, fun h9 => of_decide_eq_true h9⟩
              · have r1 : a = _ := r1
                rw [r1]
                refine c4 _ _ _ y1 (fr_tr hf f5) ?_
                refine (zS_one (P := fun pc => D p pc) (g := fun pc => vlG9 T.1 T.2.2.1 T.2.2.2 w nn M φ ψ cf pc) (a := pc) pc1 ((hDD p pc).mpr ⟨v0, hv0l, e0, pc2⟩) (fun b hb hb2 => ?_)).symm
                obtain ⟨v, a1, a2, a3⟩ := (hDD p b).mp hb2
                have q := (mk_M hD hV hmk a1 hv0l).mpr (by rw [a2, e0])
                rw [a3, pc2] at q
                exact nI_inj9 (by omega) (by omega) q
        | succ d ih2 =>
          intro x4 hd9 h4
          have e1 : iI (((d + 1 : Nat) : Int) - 1) = nI d := iI_nI (by omega)
          have e2 : nI d + (-1) = iI ((d : Int) - 1) := by
            rw [nI_iI]
            show iI (d : Int) + iI (-1) = _
            rw [iI_add]
            rfl
          have hdl : d < A.flatten.length := by omega
          have hcc := (rn_c_in A d hdl).1
          rw [e1]
          refine u_X13_signature_2 ?_; unfold qm_X13_signature_2
          refine w_ifF (fun h9 => absurd h9 (nI_pos (by omega))) (w_rdI (pl8 pn1) rfl (by omega) (lk_c hIy.1.1 hdl) (w_rdI (pl12 pn1) rfl (by omega) rfl (w_if (fun h9 => ?_) (fun h9 => ?_))))
          · refine u_X13_signature_3 ?_; unfold qm_X13_signature_3
            rw [e2]
            exact ih2 _ (by omega) (Or.inr ⟨d, rfl, hdl, h9⟩)
          · refine u_X13_signature_3 ?_; unfold qm_X13_signature_3
            rw [e2]
            refine ih2 _ (by omega) ?_
            rcases h4 with ⟨h4, h5⟩ | h4
            · refine Or.inl ⟨h4, fun v hv1 hv2 => ?_⟩
              by_cases h8 : v = d
              · rw [h8]
                exact fun h7 => h9 ((inq d hdl).mpr h7).2
              · exact h5 v (by omega) hv2
            · exact Or.inr h4
      refine u_X13_signature_1 ?_; unfold qm_X13_signature_1
      refine w_rdF hIy.2.2.2.1 (w_leF (by omega) (by omega) (w_rdF hIy.1.1.V ?_))
      rw [show nI A.flatten.length - 1 = iI ((A.flatten.length : Nat) - 1) from by rw [nI_iI]; exact iI_sub _ 1]
      exact c2 A.flatten.length (-1) (Nat.le_refl _) (Or.inl ⟨rfl, fun v h8 h9 => by omega⟩)
  exact c1 P 0 0 z4 (by omega) fr_rf rfl
end XSHB
