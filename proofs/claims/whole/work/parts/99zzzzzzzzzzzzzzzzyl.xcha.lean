-- CHAIN: quotient by an acyclic subgroup, subgroup with an acyclic rest, likeness
section XCHF
variable {p : Int} {S S' : Nat → gn9 → Prop} {D D' h : gn9 → fc9} {K C : gn9 → Prop} {l : fc9} {b : Int} {E' : Nat → Nat → gn9} {N' : Nat → Nat}
theorem flt_bd (l : fc9) (δ : gn9) : cf9 (bd9 (fun γ => flt9 K [(1, γ)]) l) δ = cf9 (flt9 K l) δ := by
  by_cases c : K δ
  · rw [cf_fy c]
    have e : cf9 (bd9 (fun γ => flt9 K [(1, γ)]) l) δ = cf9 (bd9 (fun _ => []) l) δ := bd_su δ (fun γ _ => by
      rw [cf_fy c]
      rfl)
    rw [e]
    exact bd_nil (fun q _ => rfl) δ
  · rw [cf_fn c]
    have e : cf9 (bd9 (fun γ => flt9 K [(1, γ)]) l) δ = cf9 (bd9 (fun γ => [(1, γ)]) l) δ := bd_su δ (fun γ _ => cf_fn c)
    rw [e]
    exact bd_id l δ
theorem bb_c {f g : gn9 → fc9} (l : fc9) (δ : gn9) : cf9 (bd9 g (bd9 f l)) δ = cf9 (bd9 (fun ε => bd9 g (f ε)) l) δ := by
  rw [cf_bd, sm_bd, cf_bd]
  have e : (fun γ => smf9 (fun δ_1 => cf9 (g δ_1) δ) (f γ)) = fun γ => cf9 (bd9 g (f γ)) δ := funext (fun γ => (cf_bd δ).symm)
  rw [e]
theorem quoK (hp : pr9 p) (hi : iv9 p) (hC : cg9 S D) (hk : ∀ r γ, S r γ → K γ → su9 (D γ) K) (hs : ∀ r γ, S (r + 1) γ → su9 (h γ) (fun δ => S r δ ∧ K δ)) (hh : ∀ r γ, S (r + 1) γ → K γ → eq9 (bd9 D (h γ) ++ bd9 h (D γ)) [(1, γ)]) (r : Nat) (hb : be9 p S D r b) (he' : ∀ r, en9 (fun γ => S r γ ∧ ¬ K γ) (E' r) (N' r)) : cg9 (fun r γ => S r γ ∧ ¬ K γ) (fun γ => flt9 K (D γ)) ∧ (N' (r + 1) : Int) = b + rn9 p E' N' (fun γ => flt9 K (D γ)) (r + 1) + rn9 p E' N' (fun γ => flt9 K (D γ)) r := by
  obtain ⟨E, N, he, hN⟩ := hb
  -- the quotient is a row of groups
  have hC' : cg9 (fun r γ => S r γ ∧ ¬ K γ) (fun γ => flt9 K (D γ)) := by
    refine ⟨fun r γ hγ δ hδ => ?_, fun r γ hγ δ => ?_⟩
    · by_cases c : K δ
      · exact absurd (cf_fy c) hδ
      · rw [cf_fn c] at hδ
        exact ⟨hC.1 r γ hγ.1 δ hδ, c⟩
    · show _ = (0 : Int)
      by_cases c : K δ
      · have e : cf9 (bd9 (fun γ => flt9 K (D γ)) (flt9 K (D γ))) δ = cf9 (bd9 (fun _ => []) (flt9 K (D γ))) δ := bd_su δ (fun γ _ => by
          rw [cf_fy c]
          rfl)
        rw [e]
        exact bd_nil (fun q _ => rfl) δ
      · have e : cf9 (bd9 (fun γ => flt9 K (D γ)) (flt9 K (D γ))) δ = cf9 (bd9 D (flt9 K (D γ))) δ := bd_su δ (fun γ _ => cf_fn c)
        rw [e]
        -- what is left out lies in K
        have e2 : cf9 (bd9 D (D γ)) δ = cf9 (bd9 D (flt9 K (D γ))) δ := by
          rw [← bd_q (f := D) (flt_bd (K := K) (D γ)) δ, bb_c]
          refine bd_su δ (fun ε hε => ?_)
          show cf9 (D ε) δ = cf9 (bd9 D (flt9 K [(1, ε)])) δ
          by_cases c2 : K ε
          · have q : flt9 K [(1, ε)] = [] := List.filter_cons_of_neg (by rw [dcb_t.mpr c2]; decide)
            rw [q]
            by_cases c3 : cf9 (D ε) δ = 0
            · rw [c3]
              rfl
            · exact absurd (hk (r + 1) ε (hC.1 r γ hγ.1 ε hε) c2 δ c3) c
          · have q : flt9 K [(1, ε)] = [(1, ε)] := List.filter_cons_of_pos (by rw [dcb_f.mpr c2]; rfl)
            rw [q]
            exact (bd_1 ε δ).symm
        rw [← e2]
        exact hC.2 r γ hγ.1 δ
  refine ⟨hC', ?_⟩
  have key := subT (F := fun γ => flt9 K [(1, γ)]) (h := h) hp hi (cg_cx he hC) (cg_cx he' hC') K (fun r i hi9 => en_sp (he' r) (fun δ hδ => by
      by_cases c : K δ
      · exact absurd (cf_fy c) hδ
      · rw [cf_fn c, cf_1, Int.one_mul] at hδ
        by_cases e : E r i = δ
        · rw [← e] at c ⊢
          exact ⟨en_at (he r) hi9, c⟩
        · exact absurd (id_n e) hδ)) (fun r i hi9 δ => by
      rw [flt_bd]
      by_cases c2 : K (E r i)
      · have q : flt9 K [(1, E r i)] = [] := List.filter_cons_of_neg (by rw [dcb_t.mpr c2]; decide)
        show cf9 (flt9 K (D (E r i))) δ = cf9 (bd9 (fun γ => flt9 K (D γ)) (flt9 K [(1, E r i)])) δ
        rw [q]
        show _ = (0 : Int)
        by_cases c : K δ
        · exact cf_fy c
        · rw [cf_fn c]
          by_cases c3 : cf9 (D (E r i)) δ = 0
          · exact c3
          · exact absurd (hk r _ (en_at (he r) hi9) c2 δ c3) c
      · have q : flt9 K [(1, E r i)] = [(1, E r i)] := List.filter_cons_of_pos (by rw [dcb_f.mpr c2]; rfl)
        show cf9 (flt9 K (D (E r i))) δ = cf9 (bd9 (fun γ => flt9 K (D γ)) (flt9 K [(1, E r i)])) δ
        rw [q]
        exact (bd_1 (f := fun γ => flt9 K (D γ)) _ δ).symm) (fun r u => by
      have ch : ∀ j, ∃ i, j < N' r → i < N r ∧ E' r j = E r i := fun j => by
        by_cases c : j < N' r
        · obtain ⟨i, h1, h2⟩ := ((he r).2 _).mp (en_at (he' r) c).1
          exact ⟨i, fun _ => ⟨h1, h2⟩⟩
        · exact ⟨0, fun h9 => absurd h9 c⟩
      refine ⟨fun i => smf9 (fun δ => id9 δ (E r i)) (cmb9 (E' r) (N' r) u), fun j hj => ?_⟩
      rw [flt_bd, cf_fn (en_at (he' r) hj).2]
      obtain ⟨i, h0⟩ := ch j
      obtain ⟨h1, h2⟩ := h0 hj
      rw [h2, cf_cy (he r).1 h1, sm_cm]
      rw [sN_sg hj (fun k hk9 hne => by
        rw [id_n (fun h9 => hne ?_), Int.mul_zero]
        exact (he' r).1 k j hk9 hj (by rw [h2]; exact h9.symm))]
      rw [h2, id_y, Int.mul_one]) (fun r v hv i hi9 => by
      by_cases c : K (E r i)
      · exact Or.inl c
      · right
        obtain ⟨j, h1, h2⟩ := ((he' r).2 (E r i)).mp ⟨en_at (he r) hi9, c⟩
        have : p ∣ cf9 (bd9 (fun γ => flt9 K [(1, γ)]) (cmb9 (E r) (N r) v)) (E' r j) - 0 := hv j h1
        rw [flt_bd, cf_fn (en_at (he' r) h1).2, ← h2, cf_cy (he r).1 hi9, Int.sub_zero] at this
        exact this) (fun r i hi9 => en_sp (he r) (fun δ hδ => (hs r _ (en_at (he (r + 1)) hi9) δ hδ).1)) (fun r i hi9 δ => by
      rw [flt_bd]
      show _ = (0 : Int)
      by_cases c : K δ
      · exact cf_fy c
      · rw [cf_fn c]
        by_cases c3 : cf9 (h (E (r + 1) i)) δ = 0
        · exact c3
        · exact absurd (hs r _ (en_at (he (r + 1)) hi9) δ c3).2 c) (fun r i hi9 hK => hh r _ (en_at (he (r + 1)) hi9) hK) r
  omega
theorem subC (hp : pr9 p) (hi : iv9 p) (hC : cg9 S D) (h0 : ∀ γ, ¬ S 0 γ) (hk : ∀ r γ, S r γ → C γ → su9 (D γ) C) (hs : ∀ r γ, S (r + 1) γ → su9 (h γ) (S r)) (hc : ∀ r γ, S (r + 1) γ → C γ → eq9 (h γ) []) (hh : ∀ r γ δ, S (r + 1) γ → S (r + 1) δ → ¬ C γ → ¬ C δ → cf9 (bd9 D (h γ) ++ bd9 h (D γ)) δ = id9 δ γ) (r : Nat) (hb : be9 p S D r b) (he' : ∀ r, en9 (fun γ => S r γ ∧ C γ) (E' r) (N' r)) : cg9 (fun r γ => S r γ ∧ C γ) D ∧ (N' (r + 1) : Int) = b + rn9 p E' N' D (r + 1) + rn9 p E' N' D r := by
  obtain ⟨E, N, he, hN⟩ := hb
  have hC' : cg9 (fun r γ => S r γ ∧ C γ) D := ⟨fun r γ hγ δ hδ => ⟨hC.1 r γ hγ.1 δ hδ, hk r γ hγ.1 hγ.2 δ hδ⟩, fun r γ hγ => hC.2 r γ hγ.1⟩
  refine ⟨hC', ?_⟩
  have n0 : N 0 = 0 := by
    rcases Nat.eq_zero_or_pos (N 0) with e | e
    · exact e
    · exact absurd (en_at (he 0) e) (h0 _)
  have at_ : ∀ r (v : vc9) i j, j < N' r → E r i = E' r j → cf9 (cmb9 (E' r) (N' r) v) (E r i) = v j := fun r v i j h1 h2 => by
    rw [h2]
    exact cf_cy (he' r).1 h1
  have no_ : ∀ r (v : vc9) i, i < N r → ¬ C (E r i) → cf9 (cmb9 (E' r) (N' r) v) (E r i) = 0 := fun r v i hi9 hn => cf_cn (fun j hj h9 => hn (h9 ▸ (en_at (he' r) hj).2))
  have key := quoT (f := fun γ => [(1, γ)]) (h := h) hp hi (cg_cx he hC) (cg_cx he' hC') n0 C (fun r i hi9 => en_sp (he r) (fun δ hδ => by
      rw [cf_1, Int.one_mul] at hδ
      by_cases e : E' r i = δ
      · rw [← e]
        exact (en_at (he' r) hi9).1
      · exact absurd (id_n e) hδ)) (fun r i hi9 δ => by
      rw [bd_id]
      exact (bd_1 (f := D) _ δ).symm) (fun r v hv j hj => by
      obtain ⟨i, h1, h2⟩ := ((he r).2 _).mp (en_at (he' r) hj).1
      have q : p ∣ cf9 (bd9 (fun γ => [(1, γ)]) (cmb9 (E' r) (N' r) v)) (E r i) - 0 := hv i h1
      rw [bd_id, at_ r v i j hj h2.symm] at q
      exact q) (fun r u hu => by
      refine ⟨fun j => cf9 (cmb9 (E r) (N r) u) (E' r j), fun i hi9 => ?_⟩
      show p ∣ u i - cf9 (bd9 (fun γ => [(1, γ)]) (cmb9 (E' r) (N' r) (fun j => cf9 (cmb9 (E r) (N r) u) (E' r j)))) (E r i)
      rw [bd_id]
      by_cases c : C (E r i)
      · obtain ⟨j, h1, h2⟩ := ((he' r).2 (E r i)).mp ⟨en_at (he r) hi9, c⟩
        rw [at_ r _ i j h1 h2, ← h2, cf_cy (he r).1 hi9, Int.sub_self]
        exact Int.dvd_zero p
      · rw [no_ r _ i hi9 c, Int.sub_zero]
        rcases hu i hi9 with k | k
        · exact absurd k c
        · exact k) (fun r v j hj => by
      by_cases c : C (E r j)
      · exact Or.inl c
      · right
        rw [bd_id]
        exact no_ r v j hj c) (fun r i hi9 => en_sp (he r) (hs r _ (en_at (he (r + 1)) hi9))) (fun r i hi9 hS => hc r _ (en_at (he (r + 1)) hi9) hS) (fun r i j hi9 hj hS => by
      by_cases c : cf9 (D (E r i)) (E (r + 1) j) = 0
      · exact Or.inr c
      · exact Or.inl (hk r _ (en_at (he r) hi9) hS _ c)) (fun r i j hi9 hj => by
      by_cases c : C (E (r + 1) i)
      · exact Or.inl c
      · by_cases c2 : C (E (r + 1) j)
        · exact Or.inr (Or.inl c2)
        · exact Or.inr (Or.inr (hh r _ _ (en_at (he (r + 1)) hi9) (en_at (he (r + 1)) hj) c c2))) r
  omega
/-- one group for the other, a generator for a generator -/
theorem isoT (hp : pr9 p) (hi : iv9 p) (hC : cg9 S D) (hC' : cg9 S' D') (κ ι : gn9 → gn9) (ε : gn9 → Int) (hε : ∀ γ, ε γ * ε γ = 1) (k1 : ∀ r γ, S r γ → S' r (κ γ) ∧ ι (κ γ) = γ) (k2 : ∀ r γ, S' r γ → S r (ι γ) ∧ κ (ι γ) = γ) (kc : ∀ r γ, S r γ → eq9 (bd9 (fun δ => [(ε δ, κ δ)]) (D γ)) (scf9 (ε γ) (D' (κ γ)))) (r : Nat) (hb : be9 p S D r b) (he' : ∀ r, en9 (S' r) (E' r) (N' r)) : (N' (r + 1) : Int) = b + rn9 p E' N' D' (r + 1) + rn9 p E' N' D' r := by
  obtain ⟨E, N, he, hN⟩ := hb
  have cfk : ∀ r (v : vc9) i, i < N r → cf9 (bd9 (fun δ => [(ε δ, κ δ)]) (cmb9 (E r) (N r) v)) (κ (E r i)) = v i * ε (E r i) := fun r v i hi9 => by
    rw [cf_cb, sN_sg hi9 (fun k hk9 hne => by
      rw [cf_1, id_n (fun h9 => hne ?_), Int.mul_zero, Int.mul_zero]
      refine (he r).1 k i hk9 hi9 ?_
      rw [← (k1 r _ (en_at (he r) hk9)).2, h9, (k1 r _ (en_at (he r) hi9)).2])]
    rw [cf_1, id_y, Int.mul_one]
  have ix : ∀ r j, j < N' r → ∃ i, i < N r ∧ E' r j = κ (E r i) := fun r j hj => by
    obtain ⟨q1, q2⟩ := k2 r _ (en_at (he' r) hj)
    obtain ⟨i, h1, h2⟩ := ((he r).2 _).mp q1
    exact ⟨i, h1, by rw [← h2, q2]⟩
  have key := subT (F := fun δ => [(ε δ, κ δ)]) (h := fun _ => []) hp hi (cg_cx he hC) (cg_cx he' hC') (fun _ => False) (fun r i hi9 => en_sp (he' r) (fun δ hδ => by
      rw [cf_1] at hδ
      by_cases e : κ (E r i) = δ
      · rw [← e]
        exact (k1 r _ (en_at (he r) hi9)).1
      · exact absurd (by rw [id_n e, Int.mul_zero]) hδ)) (fun r i hi9 δ => by
      rw [kc r _ (en_at (he r) hi9) δ, cf_sc, cf_bd]
      show _ = ε (E r i) * cf9 (D' (κ (E r i))) δ + 0
      omega) (fun r u => by
      refine ⟨fun i => ε (E r i) * smf9 (fun δ => id9 δ (κ (E r i))) (cmb9 (E' r) (N' r) u), fun j hj => ?_⟩
      obtain ⟨i, h1, h2⟩ := ix r j hj
      rw [h2, cfk r _ i h1]
      show ε (E r i) * smf9 (fun δ => id9 δ (κ (E r i))) (cmb9 (E' r) (N' r) u) * ε (E r i) = u j
      rw [Int.mul_comm, ← Int.mul_assoc, hε, Int.one_mul, sm_cm]
      rw [sN_sg hj (fun k hk9 hne => by
        rw [id_n (fun h9 => hne ?_), Int.mul_zero]
        exact (he' r).1 k j hk9 hj (by rw [h2]; exact h9.symm))]
      rw [h2, id_y, Int.mul_one]) (fun r v hv i hi9 => by
      right
      obtain ⟨j, h1, h2⟩ := ((he' r).2 _).mp (k1 r _ (en_at (he r) hi9)).1
      have q : p ∣ cf9 (bd9 (fun δ => [(ε δ, κ δ)]) (cmb9 (E r) (N r) v)) (E' r j) - 0 := hv j h1
      rw [← h2, cfk r v i hi9, Int.sub_zero] at q
      have q2 := dvl9 (ε (E r i)) q
      rw [Int.mul_assoc, hε, Int.mul_one] at q2
      exact q2) (fun r i hi9 => en_sp (he r) (fun δ hδ => absurd rfl hδ)) (fun r i hi9 δ => rfl) (fun r i hi9 hK => absurd hK id) r
  omega
theorem be_en (hp : pr9 p) (hi : iv9 p) (hC : cg9 S D) (r : Nat) (hb : be9 p S D r b) (he' : ∀ r, en9 (S r) (E' r) (N' r)) : (N' (r + 1) : Int) = b + rn9 p E' N' D (r + 1) + rn9 p E' N' D r := isoT hp hi hC hC (fun γ => γ) (fun γ => γ) (fun _ => 1) (fun _ => rfl) (fun r γ h => ⟨h, rfl⟩) (fun r γ h => ⟨h, rfl⟩) (fun r γ _ δ => by
  rw [bd_id, cf_sc, Int.one_mul]) r hb he'
theorem be_un (hp : pr9 p) (hi : iv9 p) (hC : cg9 S D) (r : Nat) {b b' : Int} (hb : be9 p S D r b) (hb' : be9 p S D r b') : b = b' := by
  obtain ⟨E, N, he, hN⟩ := hb'
  have := be_en hp hi hC r hb he
  omega
theorem fi_en (hf : fi9 S) : ∃ (E : Nat → Nat → gn9) (N : Nat → Nat), ∀ r, en9 (S r) (E r) (N r) := ⟨fun r => (hf r).choose, fun r => (hf r).choose_spec.choose, fun r => (hf r).choose_spec.choose_spec⟩
end XCHF
