/-! the reference's way, exactly -/
def fB2 (g : Nat) : Prop := 2 ≤ g ∧ g ≤ 9 ∨ g = 23 ∨ g = 24 ∨ g = 27 ∨ g = 29 ∨ 31 ≤ g ∧ g ≤ 34 ∨ 1000 ≤ g
def snk2 (X : (Nat → Nat → Int32) → Prop) (z0 z : ow_MS) (S : List Nat → Prop) (n : Nat) : Prop := gI X z ∧ z.1 30 = nI 2 ∧ fr fB2 z0 z ∧ ∃ Ls, z.1 24 = nI Ls.length ∧ rwS 23 z Ls ∧ Ls.length ≤ 1000 ∧ (∀ r, r ∈ Ls → S r) ∧ (Ls.length < 1000 → ∀ r, S r → r ∈ Ls)
theorem snk2_ok {X : (Nat → Nat → Int32) → Prop} {z0 : ow_MS} : snkF (snk2 X z0) := by
  refine ⟨fun P z z1 S n hf hP h => ?_, fun z S n A sg hn h hA hG hF h24 h6 => ?_, fun z S n n' hn h => h⟩
  · obtain ⟨h1, h2, h3, Ls, h4, h5, h6⟩ := h
    refine ⟨gI_fr hf (fun g hg => by have := hP g hg; unfold per; omega) h1, by rw [(hf 30 (fun h9 => by have := hP _ h9; omega)).1]; exact h2, fr_tr h3 (fr_mono (fun g hg => by have := hP g hg; unfold fB2; omega) hf), Ls, by rw [(hf 24 (fun h9 => by have := hP _ h9; omega)).1]; exact h4, rwS_fr hf (fun h9 => by have := hP _ h9; omega) h5, h6⟩
  · obtain ⟨h1, h2, h3, Ls, h4, h5, h7, h9, h10⟩ := h
    refine e_X13_offer ?_; unfold qm_X13_offer_0
    refine w_cs0 (tr_pack (o := 0) pn3 (by omega) ml27 (by omega) (by omega) (by omega) (by omega) hF hA hG) (fun z1 ⟨m, P, g1, g2, g3, g4, _, _⟩ => ?_)
    have i1 : gI X z1 := gI_fr g3 (fun g hg => by unfold frQ at hg; unfold per; omega) h1
    have i2 : z1.1 30 = nI 2 := by rw [(g3 30 (by unfold frQ; omega)).1]; exact h2
    have i3 : rwS 23 z1 Ls := rwS_fr g3 (by unfold frQ; omega) h5
    have i4 : z1.1 24 = nI Ls.length := by rw [(g3 24 (by unfold frQ; omega)).1]; exact h4
    have f1 : fr fB2 z z1 := fr_mono (fun g hg => by unfold frQ at hg; unfold fB2; omega) g3
    refine w_rdF i2 (w_ifF (by decide) (w_ifF (by decide) (w_ifF (by decide) (w_ifT (by decide) (w_rdF i4 (w_cs1 (xm_offerRow (M := 1000) ml23 (by omega) (by omega) h7 (by omega) g2 (dRow_pack hF g1 h24 h6 g2) i3) (fun a z2 ⟨Ls', k1, k2, k3, k4, k5⟩ => w_wrF (w_some ?_))))))))
    have k1 : a = nI Ls'.length := k1
    have f2 : fr (fun g => g = 23 ∨ g = 24) z1 (usF z2 24 a) := fr_F2 (fr_mono (fun g hg => Or.inl hg) k2) (Or.inr rfl)
    refine ⟨⟨fun r => r = pkR A sg m P ∨ S r, ⟨fun r hr => Or.inr hr, fun r hr => ?_, fun A' sg' ⟨e1, e2⟩ => ?_⟩, gI_fr f2 (fun g hg => by unfold per; omega) i1, by rw [(f2 30 (by omega)).1]; exact i2, fr_tr h3 (fr_tr f1 (fr_mono (fun g hg => by unfold fB2; omega) f2)), Ls', by rw [po_usF_at, k1], rwS_fr (P := fun g => g = 24) (fr_F rfl) (by decide) k3, k4, fun r hr => ?_, fun hlt r hr => ?_⟩, ?_⟩
    · rcases hr with hr | hr
      · exact Or.inr ⟨A, sg, ⟨rfl, rfl⟩, m, P, g1, hr⟩
      · exact Or.inl hr
    · rw [e1, e2]
      exact ⟨_, Or.inl rfl, m, P, g1, rfl⟩
    · rcases k5 with ⟨e, -⟩ | ⟨-, e⟩
      · rw [e] at hr
        exact Or.inr (h9 r hr)
      · rw [e] at hr
        rcases List.mem_append.mp hr with hr | hr
        · exact Or.inr (h9 r hr)
        · exact Or.inl (List.mem_singleton.mp hr)
    · rcases k5 with ⟨e, hm⟩ | ⟨-, e⟩
      · rw [e] at hlt ⊢
        rcases hr with hr | hr
        · rcases hm with hm | hm
          · rw [hr]
            exact hm
          · omega
        · exact h10 hlt r hr
      · rw [e] at hlt ⊢
        rw [List.length_append] at hlt
        rcases hr with hr | hr
        · rw [hr]
          exact List.mem_append_right _ (List.mem_singleton.mpr rfl)
        · exact List.mem_append_left _ (h10 (by omega) r hr)
    · exact fr_tr (fr_mono (fun g hg => by unfold frQ at hg; unfold frO; omega) g3) (fr_mono (fun g hg => Or.inl (by omega)) f2)
/-- offers that are only looked at -/
def snk1 (X : (Nat → Nat → Int32) → Prop) (z0 : ow_MS) (T0 : List Nat) (z : ow_MS) (S : List Nat → Prop) (n : Nat) : Prop := gI X z ∧ z.1 30 = nI 1 ∧ fr (fun g => fB2 g ∧ g ≠ 23 ∧ g ≠ 24) z0 z ∧ rc_At z 28 0 T0 ∧ (z.1 29 = 1 ∧ S T0 ∨ z.1 29 = 0 ∧ ¬ S T0)
theorem snk1_ok {X : (Nat → Nat → Int32) → Prop} {z0 : ow_MS} {T0 : List Nat} : snkF (snk1 X z0 T0) := by
  refine ⟨fun P z z1 S n hf hP h => ?_, fun z S n A sg hn h hA hG hF h24 h6 => ?_, fun z S n n' hn h => h⟩
  · obtain ⟨h1, h2, h3, h4, h5⟩ := h
    refine ⟨gI_fr hf (fun g hg => by have := hP g hg; unfold per; omega) h1, by rw [(hf 30 (fun h9 => by have := hP _ h9; omega)).1]; exact h2, fr_tr h3 (fr_mono (fun g hg => by have := hP g hg; unfold fB2; omega) hf), rc_fr hf (fun h9 => by have := hP _ h9; omega) h4, ?_⟩
    rw [(hf 29 (fun h9 => by have := hP _ h9; omega)).1]
    exact h5
  · obtain ⟨h1, h2, h3, h4, h5⟩ := h
    have hT := h4.1
    refine e_X13_offer ?_; unfold qm_X13_offer_0
    refine w_cs0 (tr_pack (o := 0) pn3 (by omega) ml27 (by omega) (by omega) (by omega) (by omega) hF hA hG) (fun z1 ⟨m, P, g1, g2, g3, g4, _, _⟩ => ?_)
    have i1 : gI X z1 := gI_fr g3 (fun g hg => by unfold frQ at hg; unfold per; omega) h1
    have i2 : z1.1 30 = nI 1 := by rw [(g3 30 (by unfold frQ; omega)).1]; exact h2
    have i3 : rc_At z1 28 0 T0 := rc_fr g3 (by unfold frQ; omega) h4
    have i4 : z1.1 29 = z.1 29 := (g3 29 (by unfold frQ; omega)).1
    have hl := g2.1
    have f1 : fr (fun g => fB2 g ∧ g ≠ 23 ∧ g ≠ 24) z z1 := fr_mono (fun g hg => by unfold frQ at hg; unfold fB2; omega) g3
    refine w_rdF i2 (w_ifF (by decide) (w_ifF (by decide) (w_ifT (by decide) (w_rdF i4 (w_cs1 (tr_same (o := 0) (p := 0) ml27 ml28 (by omega) (by omega) (by omega) (by omega) g2 i3) (fun a z2 ea => ?_))))))
    cases ea
    have hv : z.1 29 ||| bZ (decide (pkR A sg m P = T0)) = 1 ∧ (pkR A sg m P = T0 ∨ S T0) ∨ z.1 29 ||| bZ (decide (pkR A sg m P = T0)) = 0 ∧ ¬ (pkR A sg m P = T0 ∨ S T0) := by
      by_cases e : pkR A sg m P = T0
      · refine Or.inl ⟨?_, Or.inl e⟩
        rw [decide_eq_true e]
        rcases h5 with ⟨h5, -⟩ | ⟨h5, -⟩ <;> rw [h5] <;> decide
      · rw [decide_eq_false e]
        rcases h5 with ⟨h5, h6⟩ | ⟨h5, h6⟩ <;> rw [h5]
        · exact Or.inl ⟨by decide, Or.inr h6⟩
        · exact Or.inr ⟨by decide, fun h9 => h9.elim e h6⟩
    refine w_okZ (by rcases hv with ⟨hv, -⟩ | ⟨hv, -⟩ <;> rw [hv] <;> simp) (w_wrF (w_some ?_))
    have f2 : fr (fun g => g = 29) z1 (usF z1 29 (z.1 29 ||| bZ (decide (pkR A sg m P = T0)))) := fr_F rfl
    refine ⟨⟨fun r => pkR A sg m P = r ∨ S r, ⟨fun r hr => Or.inr hr, fun r hr => ?_, fun A' sg' ⟨e1, e2⟩ => ?_⟩, gI_fr f2 (fun g hg => by unfold per; omega) i1, by rw [(f2 30 (by omega)).1]; exact i2, fr_tr h3 (fr_tr f1 (fr_mono (fun g hg => by unfold fB2; omega) f2)), rc_fr f2 (by decide) i3, ?_⟩, ?_⟩
    · rcases hr with hr | hr
      · exact Or.inr ⟨A, sg, ⟨rfl, rfl⟩, m, P, g1, hr.symm⟩
      · exact Or.inl hr
    · rw [e1, e2]
      exact ⟨_, Or.inl rfl, m, P, g1, rfl⟩
    · rw [po_usF_at]
      exact hv
    · exact fr_tr (fr_mono (fun g hg => by unfold frQ at hg; unfold frO; omega) g3) (fr_mono (fun g hg => Or.inl (by omega)) f2)
