/-! chain: both sides -/
section XCL3
variable {X : (Nat → Nat → Int32) → Prop} {z y : ow_MS} {vl : Nat → Nat} {W C : Nat} {x x' : Int32}
theorem tab_ok {A : rn_L} {c c' P P' : Nat} {mm mm' : Nat → Nat} (h : okF A.flatten c) (h' : okF A.flatten c') (m : mk A mm P) (m' : mk A mm' P') : c = c' ∧ P = P' := by
  have a := okF_len h
  have b := okF_len h'
  exact ⟨by omega, mk_uni m m'⟩
theorem c_chain (h : rel3 X z y) (hv : vI vl W C) (htb : tbP y) (hch : chP y) : Te (fun K => qe_X13_chain K x x' z) (fun rr => Te (fun K => ce_X11_chain K 0 x x' vl y) (fun rc => (rel3 X rr.2 rc.2.2.2 ∧ ansI [(1, 1), (2, 2), (3, 4)] rr (rc.1, rc.2.1, rc.2.2.2)) ∧ fr chG y rc.2.2.2 ∧ fr (pf [1, 47, 81, 82, 83, 84, 85, 86, 87, 88, 89, 90, 91, 92, 93] []) z rr.2 ∧ dPhi vl ≤ dPhi rc.2.2.1 ∧ (∃ W' C', vI rc.2.2.1 W' C') ∧ (tkR z rr.2 ∧ tkC y rc.2.2.2 ∨ ∃ D, tcD D rc.2.2.2 ∧ trD D rr.2))) := by
  obtain ⟨⟨St, k⟩, hM, h2⟩ := id h
  have hg : gaS y := rel_ga vl hM.1 k.2.2.2.1 k.2.2.2.2
  refine te_two (te_and (te_fo (tp_chain (d := x) (p0 := x') k.1) (fun K => ff_X13_chain)) (xq_chain k.1 k.2.2.1 (fun e A sg he hs => rel_prC vl hM.1 hg k.2.2.2.1 k.2.2.2.2 he hs))) (te_and (tc_chain (x := x) (x' := x') hv hM hg htb hch) (xc_chain hv hM hg htb hch k.2.2.2.1 k.2.2.2.2)) (fun rr rc ⟨⟨hgI, fR⟩, hr⟩ ⟨⟨hG, hf, hd, hW⟩, hc⟩ => ?_)
  have hC : relC rc.2.2.2 St := relC_fr hf (fun q hq h9 => by unfold cW at hq; unfold chG cmG cP at h9; omega) k.2.2.2.1
  have h2' : rel2 rr.2 rc.2.2.2 := by
    obtain ⟨k1, k2, k3, ⟨Ns, q1, q2, q3⟩, Ms, q4, q5, q6⟩ := h2
    exact ⟨relT_k fR hf (by decide) (by unfold chG cmG cP; omega) k1, relB_k fR hf (by decide) (by unfold chG cmG cP; omega) k2, brC_fr hf (by unfold chG cmG cP; omega) k3, ⟨Ns, rlR_k fR (by decide) q1, rlC_k hf (fun q hq => by unfold cV at hq; unfold chG cmG cP; omega) q2, q3⟩, Ms, rlR_k fR (by decide) q4, rlC_k hf (fun q hq => by unfold cV at hq; unfold chG cmG cP; omega) q5, q6⟩
  have fin : ansI [(1, 1), (2, 2), (3, 4)] rr (rc.1, rc.2.1, rc.2.2.2) → (tkR z rr.2 ∧ tkC y rc.2.2.2 ∨ ∃ D, tcD D rc.2.2.2 ∧ trD D rr.2) → ((rel3 X rr.2 rc.2.2.2 ∧ ansI [(1, 1), (2, 2), (3, 4)] rr (rc.1, rc.2.1, rc.2.2.2)) ∧ fr chG y rc.2.2.2 ∧ fr (pf [1, 47, 81, 82, 83, 84, 85, 86, 87, 88, 89, 90, 91, 92, 93] []) z rr.2 ∧ dPhi vl ≤ dPhi rc.2.2.1 ∧ (∃ W' C', vI rc.2.2.1 W' C') ∧ (tkR z rr.2 ∧ tkC y rc.2.2.2 ∨ ∃ D, tcD D rc.2.2.2 ∧ trD D rr.2)) := fun ha hD => ⟨⟨⟨⟨St, hgI, hG.1, relR_fr fR (by decide) k.2.2.1, hC, k.2.2.2.2⟩, hG, h2'⟩, ha⟩, hf, fR, hd, hW, hD⟩
  rcases hr with ⟨r1, rk, r2⟩ | ⟨e, A, sg, he, rfl, hSt, hr⟩
  · rcases hc with ⟨c1, ck, -⟩ | ⟨d, A, sg, hd, hx, hSt, -⟩
    · exact fin (Or.inr ⟨1, 1, by simp, r1, c1⟩) (Or.inl ⟨rk, ck⟩)
    · rw [r2 d hd hx] at hSt
      cases hSt
  · rcases hc with ⟨-, -, c2⟩ | ⟨d, A', sg', hd, hx, hSt', hc⟩
    · rw [c2 e he rfl] at hSt
      cases hSt
    · have ed := nI_inj9 (a := e) (b := d) (by omega) (by omega) hx
      subst ed
      rw [hSt] at hSt'
      cases hSt'
      rcases hr with ⟨r1, rk, r2⟩ | ⟨p, rfl, hp, hp9, c, P, mm, hok, hmk, hr⟩
      · rcases hc with ⟨c1, ck, -⟩ | ⟨p, e1, e2, e3, -⟩
        · exact fin (Or.inr ⟨2, 2, by simp, r1, c1⟩) (Or.inl ⟨rk, ck⟩)
        · exact absurd ⟨p, e1, e2, e3⟩ r2
      · rcases hc with ⟨-, -, c2⟩ | ⟨p', ep, hp', hp9', c', P', mm', hok', hmk', hc⟩
        · exact absurd ⟨p, rfl, hp, hp9⟩ c2
        · have ep := nI_inj9 (a := p) (b := p') (by omega) (by omega) ep
          subst ep
          obtain ⟨rfl, rfl⟩ := tab_ok hok hok' hmk hmk'
          rcases hr with ⟨r1, rk, r2⟩ | ⟨r1, r2, r3⟩
          · rcases hc with ⟨c1, ck, c2⟩ | ⟨-, c2, -⟩
            · exact fin (Or.inr ⟨3, 4, by simp, r1, c1⟩) (Or.inl ⟨rk, ck⟩)
            · omega
          · rcases hc with ⟨-, -, c2⟩ | ⟨c1, -, c3⟩
            · omega
            · obtain ⟨ea, D, d1, d2⟩ := tab_eq hp (rel_prC vl hM.1 hg k.2.2.2.1 k.2.2.2.2 he hSt) hok r3 c3
              exact fin (Or.inl ⟨r1, c1, ea⟩) (Or.inr ⟨D, d1, d2⟩)
end XCL3
