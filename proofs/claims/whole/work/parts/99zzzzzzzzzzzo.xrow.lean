/-! offers into rows in the order of their coming, exactly -/
def rwS (h : Nat) (z : ow_MS) (Ls : List (List Nat)) : Prop := (∀ (k : Nat) r, Ls[k]? = some r → rc_At z h (32 * k) r) ∧ (∀ j, j < Ls.length → dRow z h (32 * j)) ∧ Ls.Nodup
theorem rwS_fr {P : Nat → Prop} {z z1 : ow_MS} {h : Nat} {Ls : List (List Nat)} (hf : fr P z z1) (hP : ¬ P h) (hr : rwS h z Ls) : rwS h z1 Ls := ⟨fun k r hk => rc_fr hf hP (hr.1 k r hk), fun j hj => dRow_fr hf hP (hr.2.1 j hj), hr.2.2⟩
section XRO
variable {z : ow_MS} {h M la : Nat} {Ls : List (List Nat)} {F : List Nat}
theorem xm_offerRow (hla : (mX.2 h).2.1 = la) (ha : la < 2 ^ 30) (hh : h ≠ 27) (hM : Ls.length ≤ M) (hMl : 32 * M ≤ la) (hF : rc_At z 27 0 F) (hD : dRow z 27 0) (hR : rwS h z Ls) : Te (fun K => qe_X13_offerRow K h (nI Ls.length) (nI M) z) (fun r => ∃ Ls', r.1 = nI Ls'.length ∧ fr (fun g => g = h) z r.2 ∧ rwS h r.2 Ls' ∧ Ls'.length ≤ M ∧ (Ls' = Ls ∧ (F ∈ Ls ∨ Ls.length = M) ∨ F ∉ Ls ∧ Ls' = Ls ++ [F])) := by
  let Q : Int32 × ow_MS → Prop := fun r => ∃ Ls', r.1 = nI Ls'.length ∧ fr (fun g => g = h) z r.2 ∧ rwS h r.2 Ls' ∧ Ls'.length ≤ M ∧ (Ls' = Ls ∧ (F ∈ Ls ∨ Ls.length = M) ∨ F ∉ Ls ∧ Ls' = Ls ++ [F])
  have hl := hF.1
  obtain ⟨N, hN⟩ : ∃ N, N = Ls.length := ⟨_, rfl⟩
  rw [← hN] at hM
  have cp : N < M → F ∉ Ls → ∀ (d k : Nat) (z1 : ow_MS), k + d = F.length + 1 → fr (fun g => g = h) z z1 → (∀ i, i < k → z1.2.1 h (32 * N + i) = z.2.1 27 i) → (∀ i, i < 32 * N → z1.2.1 h i = z.2.1 h i) → Tt (fun K i => q_X13_offerRow K i 2 (nI N) (nI M) (nI k) h z1) Q := by
    intro hNM hno d
    induction d with
    | zero =>
      intro k z1 hk hf hc hi
      refine u_X13_offerRow_2 ?_; unfold qm_X13_offerRow_2
      refine w_rdI ml27 nI_0.symm (by omega) (x := nI F.length) (by rw [(hf 27 (fun e => hh e.symm)).2.1]; exact hF.2.2.1) (w_ltT (by omega) (by omega) (w_some ⟨Ls ++ [F], ?_, hf, ⟨fun j r hj => ?_, fun j hj => ?_, ?_⟩, ?_, Or.inr ⟨hno, rfl⟩⟩))
      · rw [List.length_append, ← hN]
        exact nI_1 N
      · by_cases hjN : j < N
        · rw [List.getElem?_append_left (by omega)] at hj
          exact rc_eq (fun i h1 h2 => hi i (by omega)) (hR.1 j r hj)
        · have h9 := (List.getElem?_eq_some_iff.mp hj).1
          rw [List.length_append, ← hN] at h9
          have h9 : j < N + 1 := h9
          have e : j = N := by omega
          subst e
          rw [List.getElem?_append_right (by omega), ← hN, Nat.sub_self] at hj
          cases hj
          exact rc_cp hF (fun i hi9 => hc i (by omega))
      · rw [List.length_append, ← hN] at hj
        have hj : j < N + 1 := hj
        by_cases hjN : j = N
        · rw [hjN]
          obtain ⟨A, sg, hv⟩ := hD
          have e := rc_uni hv.1 hF
          refine dRow_cp hv (fun i hi9 => hc i ?_)
          rw [e] at hi9
          omega
        · exact dRow_eq (fun i h1 h2 => hi i (by omega)) (hR.2.1 j (by omega))
      · rw [List.nodup_append]
        exact ⟨hR.2.2, List.nodup_cons.mpr ⟨List.not_mem_nil, List.nodup_nil⟩, fun a ha b hb e => hno (by rw [← List.mem_singleton.mp hb, ← e]; exact ha)⟩
      · rw [List.length_append, ← hN]
        exact hNM
    | succ d ih =>
      intro k z1 hk hf hc hi
      refine u_X13_offerRow_2 ?_; unfold qm_X13_offerRow_2
      rw [show (32 : Int32) * nI N = nI (32 * N) from pk_mul 32 N, nI_add, nI_1 k]
      refine w_rdI ml27 nI_0.symm (by omega) (x := nI F.length) (by rw [(hf 27 (fun e => hh e.symm)).2.1]; exact hF.2.2.1) (w_ltF (by omega) (by omega) (w_rdI ml27 rfl (by omega) (by rw [(hf 27 (fun e => hh e.symm)).2.1]) (w_wrI hla rfl (by omega) ?_)))
      refine ih (k + 1) _ (by omega) (fr_I2 hf rfl) (fun i hi9 => ?_) (fun i hi9 => rd_ne (by omega) (hi i hi9))
      by_cases hik : i = k
      · rw [hik, po_usI_at]
      · exact rd_ne (by omega) (hc i (by omega))
  have look : ∀ (d k : Nat), k + d = N → (∀ (i : Nat) r, i < k → Ls[i]? = some r → r ≠ F) → Tt (fun K i => q_X13_offerRow K i 1 (nI N) (nI M) (nI k) h z) Q := by
    intro d
    induction d with
    | zero =>
      intro k hk hbef
      have hno : F ∉ Ls := fun h9 => by
        obtain ⟨i, hi, e⟩ := List.getElem_of_mem h9
        exact hbef i _ (by omega) (List.getElem?_eq_getElem hi) e
      refine u_X13_offerRow_1 ?_; unfold qm_X13_offerRow_1
      exact w_leT (by omega) (by omega) (w_eqN (by omega) (by omega) (fun e => w_some ⟨Ls, by rw [hN], fr_rf, hR, by omega, Or.inl ⟨rfl, Or.inr (by omega)⟩⟩) (fun h9 => cp (by omega) hno _ 0 z (Nat.zero_add _) fr_rf (fun i hi => by omega) (fun i _ => rfl)))
    | succ d ih =>
      intro k hk hbef
      have hg : Ls[k]? = some Ls[k] := List.getElem?_eq_getElem (by omega)
      have hw := hR.1 k _ hg
      refine u_X13_offerRow_1 ?_; unfold qm_X13_offerRow_1
      rw [show (32 : Int32) * nI k = nI (32 * k) from pk_mul 32 k, nI_1]
      refine w_leF (by omega) (by omega) (w_cs1 (tr_same (o := 0) ml27 hla (by omega) ha (by omega) (by omega) hF hw) (fun a z1 e => ?_))
      cases e
      by_cases e : F = Ls[k]
      · refine w_ifF (by rw [decide_eq_true e]; decide) (w_some ⟨Ls, by rw [hN], fr_rf, hR, by omega, Or.inl ⟨rfl, Or.inl (by rw [e]; exact List.getElem_mem _)⟩⟩)
      · refine w_ifT (by rw [decide_eq_false e]; decide) (ih (k + 1) (by omega) (fun i r hi hr => ?_))
        by_cases hik : i = k
        · rw [hik, hg] at hr
          cases hr
          exact fun e9 => e e9.symm
        · exact hbef i r (by omega) hr
  have fin := look N 0 (by omega) (fun i r hi => by omega)
  rw [hN] at fin
  refine e_X13_offerRow ?_
  refine u_X13_offerRow_0 ?_; unfold qm_X13_offerRow_0
  exact fin
end XRO
