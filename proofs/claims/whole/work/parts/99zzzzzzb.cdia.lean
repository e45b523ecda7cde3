/-! the class: diagram -/
def gT (y : ow_MS) : Prop := ∃ n, n ≤ 400 ∧ y.1 11001 = nI n
def diP (g : Nat) : Prop := uP g ∨ g = 6001 ∨ g = 6002 ∨ 11001 ≤ g ∧ g ≤ 11006
theorem gN_d {P : Nat → Prop} {y y1 : ow_MS} (hf : fr P y y1) (hP : ∀ g, P g → 4001 ≤ g ∧ g ≤ 4011 ∨ g = 6001 ∨ g = 6002 ∨ 11001 ≤ g ∧ g ≤ 11006) (hT : ∃ T, cAt y1 4000 T ∧ ow_b24 T.2.2.1) (hN : gN y) : gN y1 := by
  refine ⟨dgC_fr hf (fun g g1 g2 h9 => by have := hP g h9; omega) hN.1, nsC_put nH4 hf (fun h' hh' hne g hg h9 => ?_) hT hN.2.1, kdC_fr hf (fun g h9 => by have := hP g h9; omega) hN.2.2⟩
  have h7 := hP g h9
  have key : ∀ a, a ∈ nHL → a = 4000 ∨ a = 5000 ∨ 16000 ≤ a := by decide
  have := key h' hh'
  unfold cP at hg
  omega
section CDI
variable {vl : Nat → Nat} {y : ow_MS}
theorem u_X11_diagram_1 {vl : Nat → Nat} {x1 : Int32} {x2 : Int32} {r0 : Nat} {z : ow_MS} {Q : (Nat × Int32 × ow_MS) → Prop} (H : Tt (fun K k => cm_X11_diagram_1 vl K (c_X11_diagram vl K k) x1 x2 r0 z) Q) : Tt (fun K k => c_X11_diagram vl K k 1 x1 x2 r0 z) Q := w_un (fun _ _ => rfl) H
theorem e_X11_diagram {vl : Nat → Nat} {r0 : Nat} {z : ow_MS} {Q : (Nat × Int32 × ow_MS) → Prop} (H : Tt (fun K k => c_X11_diagram vl K k 0 0 0 r0 z) Q) : Te (fun K => ce_X11_diagram vl K r0 z) Q := w_te H
theorem u_X11_diagram_0 {vl : Nat → Nat} {x1 : Int32} {x2 : Int32} {r0 : Nat} {z : ow_MS} {Q : (Nat × Int32 × ow_MS) → Prop} (H : Tt (fun K k => cm_X11_diagram_0 vl K (c_X11_diagram vl K k) x1 x2 r0 z) Q) : Tt (fun K k => c_X11_diagram vl K k 0 x1 x2 r0 z) Q := w_un (fun _ _ => rfl) H
theorem tc_diagram (hN : gM y) (hT : gT y) : Te (fun K => ce_X11_diagram vl K 0 y) (fun r => gM r.2.2 ∧ gT r.2.2 ∧ fr diP y r.2.2) := by
  obtain ⟨n, hn, en⟩ := id hT
  let Q0 : ow_MS → Nat × Int32 × ow_MS → Prop := fun y r => gM r.2.2 ∧ gT r.2.2 ∧ fr diP y r.2.2
  have c1 : ∀ (y0 z : ow_MS) (e : Nat) (x2 : Int32), e < 40 → gM z → fr diP y0 z → (x2 = -1 → ∃ T, cAt z 4000 T ∧ nv T) → Tt (fun K t => c_X11_diagram vl K t 1 (nI e) x2 0 z) (Q0 y0) := by
    intro y0 z e x2 he h1 h2 h3
    refine u_X11_diagram_1 ?_; unfold cm_X11_diagram_1
    have f1 : fr (fun g => g = 11001) z (usF z (0 + 11000 + 1) 0) := fr_F rfl
    have hN1 : gN (usF z (0 + 11000 + 1) 0) := gN_F (g := 11001) (far_cP (by omega)) h1.1
    have hM1 : gM (usF z (0 + 11000 + 1) 0) := ⟨hN1, tbs_fr f1 (fun g hg => by omega) h1.2⟩
    have fd1 : fr diP y0 (usF z (0 + 11000 + 1) 0) := fr_tr h2 (fr_mono (fun g hg => by unfold diP uP; omega) f1)
    have t1 : (usF z (0 + 11000 + 1) 0).1 11001 = nI 0 := po_usF_at
    refine w_wrF (w_if (fun ex => ?_) (fun _ => w_some ⟨hM1, ⟨0, by omega, t1⟩, fd1⟩))
    obtain ⟨T, t2, t3⟩ := h3 ex
    refine w_cs1 (tc_keep hN1 he (cAt_fr f1 (fun g hg h9 => by unfold cP at hg; omega) t2) t3) ?_
    rintro r z2 ⟨-, g1, g2, -⟩
    refine w_some ⟨gM_u g2 g1 hM1, ⟨0, by omega, ?_⟩, fr_tr fd1 (fr_mono (fun g hg => Or.inl hg) g2)⟩
    show z2.1 11001 = nI 0
    rw [(g2 11001 (by unfold uP; omega)).1]
    exact t1
  refine e_X11_diagram ?_
  refine u_X11_diagram_0 ?_; unfold cm_X11_diagram_0
  refine w_tc1 (tc_freeDiagram (dgC_E hN.1.1)) ?_ ?_
  · rintro v y1 ⟨h2, rfl⟩
    rcases h2 with ⟨e, he, -, rfl, h3, h4⟩ | h2
    · refine w_cs1 (tc_readDiagram en hn (hN.1.2.1 4000 nH4)) ?_
      rintro v y2 ⟨f2, hT2, e2⟩
      dsimp only at f2 hT2 e2
      have u2 : ∀ g, rdP g → 4001 ≤ g ∧ g ≤ 4011 ∨ g = 6001 ∨ g = 6002 ∨ 11001 ≤ g ∧ g ≤ 11006 := fun g hg => by unfold rdP cP at hg; omega
      have hM2 : gM y2 := ⟨gN_d f2 u2 hT2 hN.1, tbs_fr f2 (fun g hg => by have := u2 g hg; omega) hN.2⟩
      have fd2 : fr diP y1 y2 := fr_mono (fun g hg => by have := u2 g hg; unfold diP uP; omega) f2
      rcases e2 with ⟨rfl, T, t1, t2⟩ | ⟨b, b1, rfl⟩
      · refine w_ifT rfl (w_cs1 (tc_plane (f := 6000) nH4 (Or.inl rfl) (by omega) t1 t2.2.2.1 t2.1 t2.2.1) ?_)
        rintro w y3 ⟨e3, f3⟩
        dsimp only at e3 f3
        have u3 : ∀ g, (cQ 4000 g ∨ cF 6000 g) → 4001 ≤ g ∧ g ≤ 4011 ∨ g = 6001 ∨ g = 6002 ∨ 11001 ≤ g ∧ g ≤ 11006 := fun g hg => by unfold cQ cF at hg; omega
        have t13 : cAt y3 4000 T := cAt_fr f3 (fun g hg h9 => by unfold cP at hg; unfold cQ cF at h9; omega) t1
        have hM3 : gM y3 := ⟨gN_d f3 u3 ⟨T, t13, t2.2.2.1⟩ hM2.1, tbs_fr f3 (fun g hg => by have := u3 g hg; omega) hM2.2⟩
        have fd3 : fr diP y1 y3 := fr_tr fd2 (fr_mono (fun g hg => by have := u3 g hg; unfold diP uP; omega) f3)
        have en3 : y3.1 11001 = nI n := by
          rw [(f3 11001 (by unfold cQ cF; omega)).1, (f2 11001 (by unfold rdP cP; omega)).1]
          exact en
        refine w_if (fun _ => w_rdF en3 (c1 y1 y3 e (nI n) he hM3 fd3 (fun h9 => absurd h9 (nI_nm1 (by omega))))) (fun _ => c1 y1 y3 e (-1) he hM3 fd3 (fun _ => ⟨T, t13, t2⟩))
      · exact w_ifF (nI_nm1 (by omega)) (c1 y1 y2 e (nI b) he hM2 fd2 (fun h9 => absurd h9 (nI_nm1 (by omega))))
    · exact absurd (show (0 : Nat) = 3 from h2.1) (by decide)
  · rintro a v y1 ha ⟨h2, rfl⟩
    exact w_some ⟨hN, hT, fr_rf⟩
end CDI
