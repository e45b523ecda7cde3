/-! both sides: moved, summand -/
section XBM
variable {X : (Nat → Nat → Int32) → Prop} {z y : ow_MS} {St : plT} {vl : Nat → Nat} {x : Int32}
theorem okS_put {e : Nat} {A : rn_L} {sg : Nat → Bool} (hS : okS St) (h : A ≠ [] ∧ plnA A sg ∧ ∃ c, okL A c) : okS (upP St e (some (A, sg))) := fun d B sb hd hs => by
  by_cases ed : d = e
  · rw [ed, show upP St e (some (A, sg)) e = some (A, sg) from if_pos rfl] at hs
    have := Option.some.inj hs
    rw [← (Prod.mk.inj this).1, ← (Prod.mk.inj this).2]
    exact h
  · rw [show upP St e (some (A, sg)) d = St d from if_neg ed] at hs
    exact hS d B sb hd hs
theorem mv_jn {m : Nat} {Ms : List (rn_L × (Nat → Bool))} {rr : Int32 × ow_MS} {rc : Nat × Int32 × ow_MS} (h : rel1 X z y St) (hm : Ms.length ≤ m) (hO : okM Ms) (hr : rFl X z 1 rr ∧ ¬ in9 x Ms.length ∨ ∃ j A sg, Ms[j]? = some (A, sg) ∧ x = nI j ∧ (rFl X z 2 rr ∧ allF St ∨ ∃ e, lstF St e ∧ rr.1 = nI e ∧ gI X rr.2 ∧ rr.2.1 1 = 0 ∧ fr rPk z rr.2 ∧ relR rr.2 (upP St e (some (A, sg))))) (hc : gM rc.2.2 ∧ (rc.1 = 1 ∧ rc.2.2 = y ∧ ¬ in9 x Ms.length ∨ ∃ j A sg, Ms[j]? = some (A, sg) ∧ x = nI j ∧ (rc.1 = 3 ∧ rc.2.2 = y ∧ allF St ∨ rc.1 = 0 ∧ ∃ e, lstF St e ∧ rc.2.1 = nI e ∧ fr (cW 1000) y rc.2.2 ∧ relC rc.2.2 (upP St e (some (A, sg)))))) (hm31 : m ≤ 2700 := by omega) : (∃ St', rel1 X rr.2 rc.2.2 St') ∧ gM rc.2.2 ∧ fr rPk z rr.2 ∧ fr (cW 1000) y rc.2.2 ∧ ansI [(1, 1), (2, 3)] rr rc := by
  obtain ⟨hG, hc⟩ := hc
  have fail : ∀ {j k : Nat}, rFl X z j rr → (j, k) ∈ [(1, 1), (2, 3)] → rc.1 = k → rc.2.2 = y → (∃ St', rel1 X rr.2 rc.2.2 St') ∧ gM rc.2.2 ∧ fr rPk z rr.2 ∧ fr (cW 1000) y rc.2.2 ∧ ansI [(1, 1), (2, 3)] rr rc := fun {j k} hf hm e1 e2 => ⟨⟨St, hf.1, hG.1, relR_fr hf.2.2 (by unfold rPs rSc; omega) h.2.2.1, by rw [e2]; exact h.2.2.2.1, h.2.2.2.2⟩, hG, fr_mono (fun g hg => rPs_k hg) hf.2.2, by rw [e2]; exact fr_rf, Or.inr ⟨j, k, hm, hf.2.1, e1⟩⟩
  have lt : ∀ {j : Nat} {C : rn_L × (Nat → Bool)}, Ms[j]? = some C → j < Ms.length := fun hC => (List.getElem?_eq_some_iff.mp hC).1
  rcases hr with ⟨r1, r2⟩ | ⟨j, A, sg, j1, j2, hr⟩
  · rcases hc with ⟨c1, c2, -⟩ | ⟨j, A, sg, j1, j2, -⟩
    · exact fail r1 (by simp) c1 c2
    · exact absurd ⟨j, lt j1, j2⟩ r2
  · rcases hc with ⟨-, -, c3⟩ | ⟨j', A', sg', j1', j2', hc⟩
    · exact absurd ⟨j, lt j1, j2⟩ c3
    · have l1 := lt j1
      have l2 := lt j1'
      have ej : j = j' := nI_inj9 (by omega) (by omega) (j2.symm.trans j2')
      subst ej
      rw [j1] at j1'
      have eA := Option.some.inj j1'
      obtain ⟨q1, q2⟩ := Prod.mk.inj eA
      subst q1
      subst q2
      rcases hr with ⟨r1, r2⟩ | ⟨e, r0, r1, r2, r3, r4, r5⟩
      · rcases hc with ⟨c1, c2, -⟩ | ⟨-, e, c1, -⟩
        · exact fail r1 (by simp) c1 c2
        · exact (all_lst r2 c1).elim
      · rcases hc with ⟨-, -, c3⟩ | ⟨c0, e', c1, c2, c3, c4⟩
        · exact (all_lst c3 r0).elim
        · have ee := lst_uni2 r0 c1
          subst ee
          exact ⟨⟨_, r2, hG.1, r5, c4, okS_put h.2.2.2.2 (hO j A sg j1)⟩, hG, r4, c3, Or.inl ⟨r3, c0, r1.trans c2.symm⟩⟩
theorem b_moved {Ms : List (rn_L × (Nat → Bool))} (h : rel1 X z y St) (hG : gM y) (hz : rlR 20 21 22 2700 z Ms) (hy : rlC 2000 1848 y Ms) (hO : okM Ms) : Te (fun K => qe_X13_moved K x z) (fun rr => Te (fun K => ce_X11_moved vl K 0 x y) (fun rc => (∃ St', rel1 X rr.2 rc.2.2 St') ∧ gM rc.2.2 ∧ fr rPk z rr.2 ∧ fr (cW 1000) y rc.2.2 ∧ ansI [(1, 1), (2, 3)] rr rc)) := by
  have hcls : Te (fun K => ce_X11_moved vl K 0 x y) (fun r => gM r.2.2 ∧ (r.1 = 1 ∧ r.2.2 = y ∧ ¬ in9 x Ms.length ∨ ∃ j A sg, Ms[j]? = some (A, sg) ∧ x = nI j ∧ (r.1 = 3 ∧ r.2.2 = y ∧ allF St ∨ r.1 = 0 ∧ ∃ e, lstF St e ∧ r.2.1 = nI e ∧ fr (cW 1000) y r.2.2 ∧ relC r.2.2 (upP St e (some (A, sg)))))) := by
    refine e_X11_moved ?_; unfold cm_X11_moved_0
    refine w_tc1 (xc_copyOut tH2 (Or.inl rfl) hy hO hG h.2.2.2.1 h.2.2.2.2) ?_ ?_
    · rintro v y1 h1
      exact w_some h1
    · rintro a v y1 ha h1
      refine w_some ⟨h1.1, ?_⟩
      rcases h1.2 with h2 | ⟨j, A, sg, k1, k2, h2⟩
      · exact Or.inl h2
      · rcases h2 with h2 | h2
        · exact Or.inr ⟨j, A, sg, k1, k2, Or.inl h2⟩
        · exact absurd h2.1 ha
  exact te_two (xq_moved h.1 h.2.2.1 hz) hcls (fun rr rc hr hc => mv_jn h hz.1 hO hr hc)
theorem b_summand {Ms : List (rn_L × (Nat → Bool))} (h : rel1 X z y St) (hG : gM y) (hz : rlR 35 39 36 16 z Ms) (hy : rlC 3000 12 y Ms) (hO : okM Ms) : Te (fun K => qe_X13_summand K x z) (fun rr => Te (fun K => ce_X11_summand vl K 0 x y) (fun rc => (∃ St', rel1 X rr.2 rc.2.2 St') ∧ gM rc.2.2 ∧ fr rPk z rr.2 ∧ fr (cW 1000) y rc.2.2 ∧ ansI [(1, 1), (2, 3)] rr rc)) := by
  have hcls : Te (fun K => ce_X11_summand vl K 0 x y) (fun r => gM r.2.2 ∧ (r.1 = 1 ∧ r.2.2 = y ∧ ¬ in9 x Ms.length ∨ ∃ j A sg, Ms[j]? = some (A, sg) ∧ x = nI j ∧ (r.1 = 3 ∧ r.2.2 = y ∧ allF St ∨ r.1 = 0 ∧ ∃ e, lstF St e ∧ r.2.1 = nI e ∧ fr (cW 1000) y r.2.2 ∧ relC r.2.2 (upP St e (some (A, sg)))))) := by
    refine e_X11_summand ?_; unfold cm_X11_summand_0
    refine w_tc1 (xc_copyOut tH3 (Or.inr rfl) hy hO hG h.2.2.2.1 h.2.2.2.2) ?_ ?_
    · rintro v y1 h1
      exact w_some h1
    · rintro a v y1 ha h1
      refine w_some ⟨h1.1, ?_⟩
      rcases h1.2 with h2 | ⟨j, A, sg, k1, k2, h2⟩
      · exact Or.inl h2
      · rcases h2 with h2 | h2
        · exact Or.inr ⟨j, A, sg, k1, k2, Or.inl h2⟩
        · exact absurd h2.1 ha
  exact te_two (xq_summand h.1 h.2.2.1 hz) hcls (fun rr rc hr hc => mv_jn h hz.1 hO hr hc)
end XBM
