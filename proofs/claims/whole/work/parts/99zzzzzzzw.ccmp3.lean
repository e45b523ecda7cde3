/-! the class: compute -/
section CM3
variable {vl : Nat → Nat} {y : ow_MS} {W C : Nat}
theorem e_X1_compute {r0 : Nat} {r1 : Nat} {x2 : Int32} {vl : Nat → Nat} {z : ow_MS} {Q : (Int32 × (Nat → Nat) × ow_MS) → Prop} (H : Tt (fun K k => d_X1_compute K k 0 x2 0 0 r0 r1 vl z) Q) : Te (fun K => de_X1_compute K r0 r1 x2 vl z) Q := w_te H
theorem u_X1_compute_0 {x2 : Int32} {x3 : Int32} {x4 : Int32} {r0 : Nat} {r1 : Nat} {vl : Nat → Nat} {z : ow_MS} {Q : (Int32 × (Nat → Nat) × ow_MS) → Prop} (H : Tt (fun K k => dm_X1_compute_0 K (d_X1_compute K k) x2 x3 x4 r0 r1 vl z) (gQ vl Q)) : Tt (fun K k => d_X1_compute K k 0 x2 x3 x4 r0 r1 vl z) (gQ vl Q) := w_un (g := fun K k => chV vl (dm_X1_compute_0 K (d_X1_compute K k) x2 x3 x4 r0 r1 vl z)) (fun _ _ => rfl) (w_chV (E := fun K k => dm_X1_compute_0 K (d_X1_compute K k) x2 x3 x4 r0 r1 vl z) (Nat.le_refl _) H)
theorem tc_compute {p : Nat} {R : ow_NT} (hv : vI vl W C) (h4 : cAt y 4000 R) (h44 : ∃ T, cAt y 44000 T ∧ ow_b24 T.2.2.1) (hR : tyI R) (htb : tbP y) (hch : chP y) (hp1 : 2 ≤ p) (hp2 : p ≤ 997) : Te (fun K => de_X1_compute K 43000 4000 (nI p) vl y) (gQ vl (fun r => (∃ T, cAt r.2.2 44000 T ∧ ow_b24 T.2.2.1) ∧ fr cmG y r.2.2 ∧ ∃ W' C', vI r.2.1 W' C')) := by
  obtain ⟨T0, t1, t2⟩ := h44
  have hcp := tc_copy (vl := vl) nH44 nH4 (Or.inr (by omega)) t1 h4 hR.1.2.1
  refine e_X1_compute ?_
  refine u_X1_compute_0 ?_; unfold dm_X1_compute_0
  refine w_cs0 hcp ?_
  rintro z1 ⟨a1, a2⟩
  refine w_cs0 (tc_tidy a1 (tyI_cp hR t2)) ?_
  rintro z2 ⟨⟨⟨c, ci, S, G⟩, b1, b2⟩, b3⟩
  have hb24 : ow_b24 S := b2.1.2.2.1
  have hc12 : c ≤ 12 := b2.1.2.1
  have f2 : fr cmG y z2 := fr_tr (fr_mono (fun g hg => cmG_c hg) a2) (fr_mono (fun g hg => cmG_c hg) b3)
  refine w_wrF ?_
  have c3 : cAt (usF z2 (43000 + 10) (nI p)) 44000 (c, ci, S, G) := cAt_fr (fr_F (P := fun g => g = 43010) rfl) (fun g hg h9 => by unfold cP at hg; omega) b1
  refine w_cs1 (tc_writhe nH44 c3 hc12) ?_
  rintro wr z3 ⟨-, g3⟩
  dsimp only at g3
  subst g3
  refine w_wrF ?_
  have c4 : cAt (usF (usF z2 (43000 + 10) (nI p)) (43000 + 19) wr) 44000 (c, ci, S, G) := cAt_fr (fr_F (P := fun g => g = 43019) rfl) (fun g hg h9 => by unfold cP at hg; omega) c3
  refine w_rdF c4.1 (w_rdF rfl (w_nzI (by decide) (w_wrF ?_)))
  have f5 : ∀ x, fr (fun g => g = 43010 ∨ g = 43019 ∨ g = 43020) z2 (usF (usF (usF z2 (43000 + 10) (nI p)) (43000 + 19) wr) (43000 + 20) x) := fun x => fr_F2 (fr_F2 (fr_F (Or.inl rfl)) (Or.inr (Or.inl rfl))) (Or.inr (Or.inr rfl))
  have g5 : ∀ g, (g = 43010 ∨ g = 43019 ∨ g = 43020) → cmG g := fun g hg => by unfold cmG; omega
  have g6 : ∀ g, cmH g → cmG g := fun g hg => by unfold cmG; unfold cmH at hg; omega
  have n5 : ¬ cmG 43005 := by unfold cmG cP; omega
  have c5 : ∀ x, cAt (usF (usF (usF z2 (43000 + 10) (nI p)) (43000 + 19) wr) (43000 + 20) x) 44000 (c, ci, S, G) := fun x => cAt_fr (f5 x) (fun g hg h9 => by unfold cP at hg; omega) b1
  have p5 : ∀ x, (usF (usF (usF z2 (43000 + 10) (nI p)) (43000 + 19) wr) (43000 + 20) x).1 43010 = nI p := fun x => rf_ot (by omega) (rf_ot (by omega) po_usF_at)
  refine w_mono (tc_cmp0 b2 (c5 _) (tbP_fr (fr_tr f2 (fr_mono g5 (f5 _))) n5 htb) (chP_fr (fr_tr f2 (fr_mono g5 (f5 _))) (fun g hg => by unfold cmG cP at hg; omega) hch) (p5 _) hp1 hp2 hv) ?_
  rintro r ⟨r1, r2, r3⟩
  exact ⟨r1, ⟨_, cAt_fr r2 (fun g hg h9 => by unfold cP at hg; unfold cmH at h9; omega) (c5 _), hb24⟩, fr_tr (fr_tr f2 (fr_mono g5 (f5 _))) (fr_mono g6 r2), r3⟩
end CM3
