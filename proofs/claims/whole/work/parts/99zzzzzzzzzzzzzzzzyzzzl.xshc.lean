/-! signature: both sides answer the same; it is a step of the law; what is left of the whole: two cases -/
section XSHC
variable {X : (Nat → Nat → Int32) → Prop} {z y : ow_MS} {vl : Nat → Nat} {x : Int32} {St : plT}
theorem xc_signature (hM : gM y) (hC : relC y St) (hS : okS St) : Te (fun K => ce_X11_signature vl K 0 x y) (fun r => (r.1 = 1 ∧ ∀ d, d < 40 → x = nI d → St d = none) ∨ ∃ d A sg, d < 40 ∧ x = nI d ∧ St d = some (A, sg) ∧ r.1 = 0 ∧ ∃ T w n P M φ ψ cf, isoV A sg idN T ∧ pm1 T ∧ fcD9 T.1 T.2.2.1 T.2.2.2 w n P M φ ψ cf ∧ r.2.1 = iI (zS9 (fun p => vlG9 T.1 T.2.2.1 T.2.2.2 w n M φ ψ cf p) P)) := by
  refine e_X11_signature ?_; unfold cm_X11_signature_0
  refine w_tc0 (xc_need hM.1.1 hC hS) ?_ ?_
  · rintro y1 ⟨h1, rfl⟩
    rcases h1 with h1 | ⟨-, d, A, sg, c, hd, rfl, hSt, hs, hA, hne, hpl⟩
    · exact absurd (show (0 : Nat) = 1 from h1.1) (by decide)
    · refine w_cs0 (tc_ld3 nH4 hM.1 hd hs hA) ?_
      rintro y2 ⟨g1, g2, S, G, g3, g4⟩
      obtain ⟨j1, j2, j3, j4⟩ := g4
      have hV : isoV A sg (fun x => x) (c, cirs A, S, G) := isoV_of j2 j3
      have hG : ∀ x, x < c → G x = 1 ∨ G x = -1 := fun x hx => by
        have h7 : G x = if sg x then -1 else 1 := j4 x hx
        rw [h7]
        split
        · exact Or.inr rfl
        · exact Or.inl rfl
      have hp1 : pm1 (c, cirs A, S, G) := hG
      have hpn : nt_plane (c, cirs A, S, G) = true := hpl (fun x => x) _ hV hp1
      obtain ⟨w, hw⟩ := plane_ga (T := (c, cirs A, S, G)) j3 hA.2.2.2.1 hpn
      refine w_cs1 (te_sgOf g3.1 g3.2.2.1.2.2.1 j3 hA.2.2.2.1 hw hG hpn) ?_
      rintro v z9 ⟨⟨n, P, M, φ, ψ, cf, hD, e9⟩, f3⟩
      exact w_some (Or.inr ⟨d, A, sg, hd, rfl, hSt, rfl, (c, cirs A, S, G), w, n, P, M, φ, ψ, cf, hV, hp1, hD, e9⟩)
  · rintro a y1 ha ⟨h1, rfl⟩
    rcases h1 with h1 | h1
    · exact w_some (Or.inl ⟨h1.1, h1.2⟩)
    · exact absurd h1.1 ha
theorem c_signature (hXa : X53a X) (hXb : X53b X) (h : rel3 X z y) : Te (fun K => qe_X13_signature K x z) (fun rr => Te (fun K => ce_X11_signature vl K 0 x y) (fun rc => rel3 X rr.2 rc.2.2 ∧ ansI [(1, 1)] rr rc)) := by
  obtain ⟨⟨St, k⟩, hM, h2⟩ := id h
  have hga := rel_ga vl hM.1 k.2.2.2.1 k.2.2.2.2
  have hpl := rel_plS hM.1 k.2.2.2.1 k.2.2.2.2
  refine te_two (te_all (α := ow_NT × (Nat → Bool) × Nat × Nat × (Nat → Int32) × (Nat → Nat) × (Nat → Nat) × (Nat → Bool)) (H := fun a => ∀ e A sg, e < 40 → x = nI e → St e = some (A, sg) → isoV A sg idN a.1 ∧ pm1 a.1 ∧ fcD9 a.1.1 a.1.2.2.1 a.1.2.2.2 a.2.1 a.2.2.1 a.2.2.2.1 a.2.2.2.2.1 a.2.2.2.2.2.1 a.2.2.2.2.2.2.1 a.2.2.2.2.2.2.2) (te_fo (tp_signature (d := x) hXa hXb k.1) (fun K => ff_X13_signature)) (fun a ha => xq_signature (St := St) hXa k.1 k.2.2.1 ha)) (te_and (tc_signature (x := x) hM hga hpl) (xc_signature hM k.2.2.2.1 k.2.2.2.2)) (fun rr rc ⟨⟨hgI, fR⟩, hr⟩ ⟨⟨hG, hf, _⟩, hc⟩ => ?_)
  have hC : relC rc.2.2 St := relC_fr hf (fun q hq h9 => by unfold cW at hq; unfold sxP at h9; omega) k.2.2.2.1
  have h2' : rel2 rr.2 rc.2.2 := by
    obtain ⟨k1, k2, k3, ⟨Ns, q1, q2, q3⟩, Ms, q4, q5, q6⟩ := h2
    exact ⟨relT_k fR hf (by decide) (by unfold sxP; omega) k1, relB_k fR hf (by decide) (by unfold sxP; omega) k2, brC_fr hf (by unfold sxP; omega) k3, ⟨Ns, rlR_k fR (by decide) q1, rlC_k hf (fun q hq => by unfold cV at hq; unfold sxP; omega) q2, q3⟩, Ms, rlR_k fR (by decide) q4, rlC_k hf (fun q hq => by unfold cV at hq; unfold sxP; omega) q5, q6⟩
  have fin : ansI [(1, 1)] rr rc → rel3 X rr.2 rc.2.2 ∧ ansI [(1, 1)] rr rc := fun ha => ⟨⟨⟨St, hgI, hG.1, relR_fr fR (by decide) k.2.2.1, hC, k.2.2.2.2⟩, hG, h2'⟩, ha⟩
  rcases hc with ⟨c1, c2⟩ | ⟨d, A, sg, hd, hx, hSt, c1, T, w, n, P, M, φ, ψ, cf, hV, hp1, hD, e9⟩
  · rcases hr ((0, 0, (fun _ => 0, fun _ => 0), fun _ => 0), fun _ => false, 0, 0, fun _ => 0, fun _ => 0, fun _ => 0, fun _ => false) (fun e A sg e0 e1 e2 => by
      rw [c2 e e0 e1] at e2
      cases e2) with ⟨r1, -⟩ | ⟨e, A, sg, e1, e2, e3, -⟩
    · exact fin (Or.inr ⟨1, 1, by simp, r1, c1⟩)
    · rw [c2 e e1 e2] at e3
      cases e3
  · rcases hr (T, w, n, P, M, φ, ψ, cf) (fun e A' sg' e0 e1 e2 => by
      have ed := nI_inj9 (a := e) (b := d) (by omega) (by omega) (by rw [← e1, hx])
      subst ed
      rw [hSt] at e2
      cases e2
      exact ⟨hV, hp1, hD⟩) with ⟨-, r2⟩ | ⟨e, A', sg', e1, e2, e3, e4, e5⟩
    · rw [r2 d hd hx] at hSt
      cases hSt
    · exact fin (Or.inl ⟨e4, c1, e5.trans e9.symm⟩)
theorem s2_signature : stp2 lst_signature := by
  intro S x1 x2 x3 x4 x5 h
  have hc := rel_of (vl := S.1) (y := S.2.1) (z := S.2.2) (em := [(1, 1)]) (fc := fun K => ce_X11_signature S.1 K 0 x1 S.2.1) (fm := fun K => qe_X13_signature K x1 S.2.2) h.1 (c_signature XR_a XR_b h.1.1) (fun K => ff_X13_signature) (fun K => ff_X11_signature) (by decide) (fun g hg h9 => by unfold ciH at h9; omega)
  have hn : Te (fun K => ce_X11_signature S.1 K 0 x1 S.2.1) (fun rc => NM rc.2.2) := te_nmF (te_in hc) (fun K => ff_X11_signature) (fun g hg h9 => by omega) h.2
  have hs : Te (lsV S.1 (fun K => ce_X11_signature S.1 K 0 x1 S.2.1) (fun k z => if k = 1 then some (1, z) else none) (fun K => qe_X13_signature K x1 S.2.2)) (fun S1 => REL S1 ∧ dPhi S.1 ≤ dPhi S1.1) := by
    refine st_int hc (fun j k hm => ?_)
    simp only [List.mem_cons, List.not_mem_nil, or_false, Prod.mk.injEq] at hm
    obtain ⟨rfl, rfl⟩ := hm
    exact ⟨by decide, by decide, by decide, fun _ => rfl⟩
  exact w_monoE (lsV_nm hs hn (fun k z r hr => by
    have hr : (if k = 1 then some (1, z) else none) = some r := hr
    by_cases c0 : k = 1
    · rw [if_pos c0] at hr
      cases hr
      rfl
    rw [if_neg c0] at hr
    cases hr)) (fun S1 ⟨⟨q1, q2⟩, q3⟩ => ⟨⟨q1, q3⟩, q2⟩)
variable {Pc Pr : ow_MS → Prop}
theorem s3_signature (hc : keepP ciX Pc) (hr : keepP rfX Pr) : stpX Pc Pr lst_signature := by
  intro S x1 x2 x3 x4 x5 h pc pr
  have hs : Te (lsV S.1 (fun K => ce_X11_signature S.1 K 0 x1 S.2.1) (fun k z => if k = 1 then some (1, z) else none) (fun K => qe_X13_signature K x1 S.2.2)) (fun S1 => REL2 S1 ∧ dPhi S.1 ≤ dPhi S1.1) := s2_signature S x1 x2 x3 x4 x5 h
  exact w_monoE (lsV_fo hs (fun K => ff_X11_signature) (fun K => ff_X13_signature) (fun k z r hr => by
    have hr : (if k = 1 then some (1, z) else none) = some r := hr
    by_cases c0 : k = 1
    · rw [if_pos c0] at hr
      cases hr
      rfl
    rw [if_neg c0] at hr
    cases hr)) (fun S1 ⟨q, f1, f2⟩ => ⟨q, hc _ _ _ f1 (fun g hg h9 => by unfold ciX at h9; omega) pc, hr _ _ _ f2 (pf_rf (by decide)) pr⟩)
end XSHC
