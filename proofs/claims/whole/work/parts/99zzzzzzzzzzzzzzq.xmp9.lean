/-! maps: the arcs of the reference, crossing by crossing -/
section XM9
theorem vu_inj {A : rn_L} {c u v : Nat} (h : okF A.flatten c) (hu : u < A.flatten.length) (hv : v < A.flatten.length) (e1 : crs A u = crs A v) (e2 : uns A u = uns A v) : u = v := by
  have k1 := vAt_of hu
  have k2 := vAt_of hv
  have e : vAt A u = vAt A v := Prod.ext e1 e2
  rw [e, ← k2] at k1
  exact (List.getElem?_inj hu h.1).mp k1
theorem xp_arc8 {n c a : Nat} {A : rn_L} {sg : Nat → Bool} {y : ow_MS} {ga gb : Nat → Nat} (hn : mw_net n) (hA : oNet y n A sg) (hok : okF A.flatten c) (hR : ∀ u, u < A.flatten.length → y.2.1 59 u = nI (ga u) ∧ (uns A u ≠ 0 → y.2.1 60 u = nI (gb u))) : Tt (fun K i => q_X13_makeArcs K i 8 (nI 0) 0 0 n 0 y) (fun z1 => (∀ u, u < A.flatten.length → (uns A u = 0 → z1.2.1 61 (crs A u) = nI (ga u)) ∧ (uns A u ≠ 0 → z1.2.1 62 (crs A u) = nI (ga u) ∧ z1.2.1 63 (crs A u) = nI (gb u))) ∧ fr (fun g => 61 ≤ g ∧ g ≤ 63) y z1) := by
  have hl := hA.len
  have hmn := net_mod hn
  have hV := okF_len hok
  have oA : ∀ {z : ow_MS}, fr (fun g => 61 ≤ g ∧ g ≤ 63) y z → oNet z n A sg := fun hf => oNet_fr hf (fun g hg => by omega) hA
  have r1 : ∀ {z : ow_MS}, fr (fun g => 61 ≤ g ∧ g ≤ 63) y z → ∀ u, u < A.flatten.length → z.2.1 59 u = nI (ga u) ∧ (uns A u ≠ 0 → z.2.1 60 u = nI (gb u)) := fun hf u hu => by
    rw [(hf 59 (by omega)).2.1, (hf 60 (by omega)).2.1]
    exact hR u hu
  have c8 : ∀ (d v : Nat) (z : ow_MS), v + d = A.flatten.length → fr (fun g => 61 ≤ g ∧ g ≤ 63) y z → (∀ u, u < v → (uns A u = 0 → z.2.1 61 (crs A u) = nI (ga u)) ∧ (uns A u ≠ 0 → z.2.1 62 (crs A u) = nI (ga u) ∧ z.2.1 63 (crs A u) = nI (gb u))) → Tt (fun K i => q_X13_makeArcs K i 8 (nI v) 0 0 n 0 z) (fun z1 => (∀ u, u < A.flatten.length → (uns A u = 0 → z1.2.1 61 (crs A u) = nI (ga u)) ∧ (uns A u ≠ 0 → z1.2.1 62 (crs A u) = nI (ga u) ∧ z1.2.1 63 (crs A u) = nI (gb u))) ∧ fr (fun g => 61 ≤ g ∧ g ≤ 63) y z1) := by
    intro d
    induction d with
    | zero =>
      intro v z hv hf hD
      refine u_X13_makeArcs_8 ?_; unfold qm_X13_makeArcs_8
      exact w_rdF (oA hf).1.V (w_leT (by omega) (by omega) (w_some ⟨fun u hu => hD u (by omega), hf⟩))
    | succ d ih =>
      intro v z hv hf hD
      have hvl : v < A.flatten.length := by omega
      have hO := oA hf
      obtain ⟨c1, c2, c3⟩ := hO.cx hvl
      obtain ⟨ei, hB⟩ := r1 hf v hvl
      refine u_X13_makeArcs_8 ?_; unfold qm_X13_makeArcs_8
      refine w_rdF hO.1.V (w_leF (by omega) hvl (w_rdI (pl4 hn) rfl (by omega) (lk_cu hO.1 hvl).1 (w_rdI (pl5 hn) rfl (by omega) (lk_cu hO.1 hvl).2 (w_eqN (b := 0) (by omega) (by omega) (fun h0 => w_rdI ml59 rfl (by omega) ei (w_wrI ml61 rfl (by omega) ?_)) (fun h0 => ?_)))))
      · refine u_X13_makeArcs_9 ?_; unfold qm_X13_makeArcs_9
        rw [nI_1]
        refine ih (v + 1) _ (by omega) (fr_I2 hf (by omega)) (fun u hu => ⟨fun h9 => ?_, fun h9 => ?_⟩)
        · by_cases huv : u = v
          · rw [huv]
            exact po_usI_at
          · exact rd_ne (fun e => huv (vu_inj hok (by omega) hvl e (h9.trans h0.symm))) ((hD u (by omega)).1 h9)
        · have huv : u ≠ v := fun e => h9 (by rw [e]; exact h0)
          obtain ⟨k1, k2⟩ := (hD u (by omega)).2 h9
          exact ⟨rd_ot (by omega) k1, rd_ot (by omega) k2⟩
      · refine w_rdI ml59 rfl (by omega) ei (w_wrI ml62 rfl (by omega) (w_rdI ml60 rfl (by omega) (rd_ot (by omega) (hB h0)) (w_wrI ml63 rfl (by omega) ?_)))
        refine u_X13_makeArcs_9 ?_; unfold qm_X13_makeArcs_9
        rw [nI_1]
        refine ih (v + 1) _ (by omega) (fr_I2 (fr_I2 hf (by omega)) (by omega)) (fun u hu => ⟨fun h9 => ?_, fun h9 => ?_⟩)
        · have huv : u ≠ v := fun e => h0 (by rw [← e]; exact h9)
          exact rd_ot (by omega) (rd_ot (by omega) ((hD u (by omega)).1 h9))
        · by_cases huv : u = v
          · rw [huv]
            exact ⟨rd_ot (by omega) po_usI_at, po_usI_at⟩
          · have u2 : uns A u < 2 := ((hok.2 _).mp (vAt_mem (A := A) (v := u) (by omega))).2
            have v2 : uns A v < 2 := ((hok.2 _).mp (vAt_mem hvl)).2
            obtain ⟨k1, k2⟩ := (hD u (by omega)).2 h9
            have ne : crs A u ≠ crs A v := fun e => huv (vu_inj hok (by omega) hvl e (by omega))
            exact ⟨rd_ot (by omega) (rd_ne ne k1), rd_ne ne (rd_ot (by omega) k2)⟩
  exact c8 A.flatten.length 0 y (by omega) fr_rf (fun u hu => absurd hu (Nat.not_lt_zero _))
end XM9
