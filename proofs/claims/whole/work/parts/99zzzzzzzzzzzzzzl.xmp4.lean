/-! maps: the reference gives and takes back -/
section XM4
variable {z : ow_MS}
theorem xp_give {a m b q : Nat} {T : List Nat} (ha : a ≤ 18) (hI : mgI z a m T) (hb : b < a) (hn : b ∉ T) : Te (fun K => qe_X13_give K (nI b) (nI q) z) (fun z1 => z1.2.1 77 b = nI q ∧ ∀ b', b' ≠ b → z1.2.1 77 b' = z.2.1 77 b') := by
  have hr := mgI_room hI hb hn
  obtain ⟨h1, -⟩ := hI
  refine e_X13_give ?_; unfold qm_X13_give_0
  exact w_wrI ml77 rfl (by omega) (w_rdF (x := nI T.length) h1 (w_wrI ml78 rfl (by omega) (w_rdF (x := nI T.length) h1 (w_wrF (w_some ⟨rd_ot (by omega) po_usI_at, fun b' hb' => rd_ot (by omega) (rd_ne hb' rfl)⟩)))))
theorem xp_takeBack {a m k : Nat} (ha : a ≤ 18) : ∀ {z : ow_MS} {T E : List Nat}, mgI z a m (T ++ E) → T.length = k → Te (fun K => qe_X13_takeBack K (nI k) z) (fun z1 => (mgI z1 a m T ∧ fr gvH z z1) ∧ ∀ b, b ∈ T → z1.2.1 77 b = z.2.1 77 b) := by
  intro z T E hI hk
  have key : ∀ (d : Nat) (E : List Nat) (y : ow_MS), E.length = d → mgI y a m (T ++ E) → fr gvH z y → (∀ b, b ∈ T → y.2.1 77 b = z.2.1 77 b) → Tt (fun K i => q_X13_takeBack K i 0 (nI k) y) (fun z1 => (mgI z1 a m T ∧ fr gvH z z1) ∧ ∀ b, b ∈ T → z1.2.1 77 b = z.2.1 77 b) := by
    intro d
    induction d with
    | zero =>
      intro E y hE hI hf hu
      have hE : E = [] := List.length_eq_zero_iff.mp hE
      subst hE
      rw [List.append_nil] at hI
      have := mgI_len hI
      refine u_X13_takeBack_0 ?_; unfold qm_X13_takeBack_0
      exact w_rdF hI.1 (w_leT (by omega) (by omega) (w_some ⟨⟨hI, hf⟩, hu⟩))
    | succ d ih =>
      intro E y hE hI hf hu
      have hlen := mgI_len hI
      rw [List.length_append] at hlen
      obtain ⟨F, b, rfl⟩ : ∃ F b, E = F ++ [b] := by
        rcases List.eq_nil_or_concat E with h9 | ⟨F, b, h9⟩
        · rw [h9] at hE
          cases hE
        · exact ⟨F, b, by rw [h9, List.concat_eq_append]⟩
      rw [List.length_append] at hE hlen
      have hE : F.length + 1 = d + 1 := hE
      have hlen : T.length + (F.length + 1) ≤ a := hlen
      obtain ⟨h1, h2, h3, h4, h5⟩ := hI
      rw [← List.append_assoc] at h1 h2 h3 h4 h5
      have hb : b < a := h3 b (List.mem_append_right _ (List.mem_singleton.mpr rfl))
      have hL : ((T ++ F) ++ [b]).length = T.length + F.length + 1 := by
        rw [List.length_append, List.length_append]
        rfl
      rw [hL] at h1
      have h78 := h4 (T.length + F.length) b (by rw [List.getElem?_append_right (by rw [List.length_append]; exact Nat.le_refl _), List.length_append, Nat.sub_self]; rfl)
      have hnb : b ∉ T ++ F := fun h9 => (List.nodup_append.mp h2).2.2 b h9 b (List.mem_singleton.mpr rfl) rfl
      have e79 : nI (T.length + F.length + 1) - 1 = nI (T.length + F.length) := pk_sub (b := 1) (by omega)
      refine u_X13_takeBack_0 ?_; unfold qm_X13_takeBack_0
      refine w_rdF h1 (w_leF (by omega) (by omega) (w_rdF h1 (w_wrF (w_rdF (x := nI (T.length + F.length)) (po_usF_at.trans e79) (w_rdI ml78 rfl (by omega) h78 (w_wrI ml77 rfl (by omega) (ih F _ (by omega) ⟨?_, (List.nodup_append.mp h2).1, fun c hc => h3 c (List.mem_append_left _ hc), fun i c hc => ?_, fun c hc => ?_⟩ (fr_I2 (fr_F2 hf (by unfold gvH; omega)) (by unfold gvH; omega)) (fun c hc => rd_ne (fun e => hnb (e ▸ List.mem_append_left _ hc)) (hu c hc)))))))))
      · show (usF y 79 (nI (T.length + F.length + 1) - 1)).1 79 = _
        rw [po_usF_at, e79, List.length_append]
      · show (usI (usF y 79 (nI (T.length + F.length + 1) - 1)) 77 b (-1)).2.1 78 i = nI c
        refine rd_ot (by omega) (h4 i c ?_)
        rw [List.getElem?_append_left (List.getElem?_eq_some_iff.mp hc).1]
        exact hc
      · show (c ∉ T ++ F ∧ (usI (usF y 79 (nI (T.length + F.length + 1) - 1)) 77 b (-1)).2.1 77 c = -1) ∨ (c ∈ T ++ F ∧ ∃ q, q < thM m ∧ (usI (usF y 79 (nI (T.length + F.length + 1) - 1)) 77 b (-1)).2.1 77 c = nI q)
        by_cases hcb : c = b
        · rw [hcb]
          exact Or.inl ⟨hnb, po_usI_at⟩
        · rcases h5 c hc with ⟨k1, k2⟩ | ⟨k1, q, k3, k4⟩
          · exact Or.inl ⟨fun h9 => k1 (List.mem_append_left _ h9), rd_ne hcb k2⟩
          · refine Or.inr ⟨?_, q, k3, rd_ne hcb k4⟩
            rcases List.mem_append.mp k1 with h8 | h8
            · exact h8
            · exact absurd (by simpa using h8) hcb
  refine e_X13_takeBack ?_
  exact key E.length E z rfl hI fr_rf (fun _ _ => rfl)
end XM4
