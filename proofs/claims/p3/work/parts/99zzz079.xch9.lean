section
/-! 99zzzzzzzzzzzzzzzzyk.xch9 -/
-- CHAIN: groups as sets of generators; quotient, subgroup, likeness
def en9 (S : gn9 → Prop) (E : Nat → gn9) (N : Nat) : Prop := inj9 E N ∧ ∀ γ, S γ ↔ ∃ i, i < N ∧ γ = E i
def su9 (l : fc9) (S : gn9 → Prop) : Prop := ∀ γ, cf9 l γ ≠ 0 → S γ
def cg9 (S : Nat → gn9 → Prop) (D : gn9 → fc9) : Prop := (∀ r γ, S r γ → su9 (D γ) (S (r + 1))) ∧ ∀ r γ, S r γ → eq9 (bd9 D (D γ)) []
def fi9 (S : Nat → gn9 → Prop) : Prop := ∀ r, ∃ E N, en9 (S r) E N
/-- b is what is left of group r + 1 -/
def be9 (p : Int) (S : Nat → gn9 → Prop) (D : gn9 → fc9) (r : Nat) (b : Int) : Prop := ∃ E N, (∀ r, en9 (S r) (E r) (N r)) ∧ (N (r + 1) : Int) = b + rn9 p E N D (r + 1) + rn9 p E N D r
noncomputable def flt9 (K : gn9 → Prop) (l : fc9) : fc9 := l.filter (fun q => !dcb (K q.2))
section XCHE
variable {p : Int} {S S' : Nat → gn9 → Prop} {D D' h : gn9 → fc9} {K C : gn9 → Prop} {l : fc9} {b : Int}
theorem sN_sg {f : Nat → Int} {j : Nat} : ∀ {n : Nat}, j < n → (∀ i, i < n → i ≠ j → f i = 0) → sN9 f n = f j
  | 0, h, _ => absurd h (Nat.not_lt_zero _)
  | n + 1, h, h0 => by
    show sN9 f n + f n = f j
    by_cases e : j = n
    · have : sN9 f n = sN9 (fun _ => 0) n := sN_cg (fun i hi => h0 i (by omega) (by omega))
      rw [this, sN_0, e]
      omega
    · rw [sN_sg (n := n) (by omega) (fun i hi hne => h0 i (by omega) hne), h0 n (by omega) (fun h9 => e h9.symm)]
      omega
theorem cf_cb {f : gn9 → fc9} {E : Nat → gn9} {n : Nat} {v : vc9} (δ : gn9) : cf9 (bd9 f (cmb9 E n v)) δ = sN9 (fun i => v i * cf9 (f (E i)) δ) n := by
  rw [cf_bd, sm_cm]
theorem en_sp {S : gn9 → Prop} {E : Nat → gn9} {N : Nat} (he : en9 S E N) (h : su9 l S) : spt9 l E N := fun γ hγ => (he.2 γ).mp (h γ hγ)
theorem en_at {S : gn9 → Prop} {E : Nat → gn9} {N i : Nat} (he : en9 S E N) (hi : i < N) : S (E i) := (he.2 _).mpr ⟨i, hi, rfl⟩
theorem cg_cx {E : Nat → Nat → gn9} {N : Nat → Nat} (he : ∀ r, en9 (S r) (E r) (N r)) (hC : cg9 S D) : cx9 E N D := ⟨fun r => (he r).1, fun r i hi => en_sp (he (r + 1)) (hC.1 r _ (en_at (he r) hi)), fun r i hi => hC.2 r _ (en_at (he r) hi)⟩
theorem cf_1 (c : Int) (γ δ : gn9) : cf9 [(c, γ)] δ = c * id9 δ γ := Int.add_zero _
theorem cf_fl : ∀ {l : fc9} (γ : gn9), cf9 (flt9 K l) γ = @ite _ (K γ) (Classical.propDecidable _) 0 (cf9 l γ)
  | [], γ => by
    show (0 : Int) = @ite _ (K γ) (Classical.propDecidable _) 0 0
    by_cases c : K γ
    · rw [if_pos c]
    · rw [if_neg c]
  | q :: l, γ => by
    have ih := cf_fl (l := l) γ
    have e1 : cf9 (q :: l) γ = q.1 * id9 γ q.2 + cf9 l γ := rfl
    by_cases c : K q.2
    · have e : flt9 K (q :: l) = flt9 K l := List.filter_cons_of_neg (by rw [dcb_t.mpr c]; decide)
      rw [e, ih, e1]
      by_cases c2 : K γ
      · rw [if_pos c2, if_pos c2]
      · rw [if_neg c2, if_neg c2, id_n (show q.2 ≠ γ from fun h9 => c2 (h9 ▸ c)), Int.mul_zero, Int.zero_add]
    · have e : flt9 K (q :: l) = q :: flt9 K l := List.filter_cons_of_pos (by rw [dcb_f.mpr c]; rfl)
      have e2 : cf9 (q :: flt9 K l) γ = q.1 * id9 γ q.2 + cf9 (flt9 K l) γ := rfl
      rw [e, e2, ih, e1]
      by_cases c2 : K γ
      · rw [if_pos c2, if_pos c2, id_n (show q.2 ≠ γ from fun h9 => c (h9.symm ▸ c2)), Int.mul_zero, Int.zero_add]
      · rw [if_neg c2, if_neg c2]
theorem cf_fy {γ' : gn9} (hk : K γ') : cf9 (flt9 K l) γ' = 0 := by rw [cf_fl, if_pos hk]
theorem cf_fn {γ' : gn9} (hk : ¬ K γ') : cf9 (flt9 K l) γ' = cf9 l γ' := by rw [cf_fl, if_neg hk]
/-- sums over what has a number -/
theorem bd_su {f g : gn9 → fc9} (δ : gn9) (h : ∀ γ, cf9 l γ ≠ 0 → cf9 (f γ) δ = cf9 (g γ) δ) : cf9 (bd9 f l) δ = cf9 (bd9 g l) δ := by
  -- all that has number 0 does not count
  have key : ∀ (φ : gn9 → Int) (l : fc9), (∀ γ, cf9 l γ ≠ 0 → φ γ = 0) → smf9 φ l = 0 := fun φ l hφ => by
    generalize hk : l.length = k
    induction k using Nat.strongRecOn generalizing l with
    | ind k ih =>
      cases l with
      | nil => rfl
      | cons q l =>
        -- all of q.2 gathered
        have part : ∀ (l : fc9), smf9 φ l = cf9 l q.2 * φ q.2 + smf9 φ (flt9 (fun δ => δ = q.2) l) := fun l => by
          induction l with
          | nil => show (0 : Int) = 0 * φ q.2 + 0; omega
          | cons t l ih2 =>
            have e1 : cf9 (t :: l) q.2 = t.1 * id9 q.2 t.2 + cf9 l q.2 := rfl
            have e2 : smf9 φ (t :: l) = t.1 * φ t.2 + smf9 φ l := rfl
            by_cases c : t.2 = q.2
            · have e : flt9 (fun δ => δ = q.2) (t :: l) = flt9 (fun δ => δ = q.2) l := List.filter_cons_of_neg (by rw [dcb_t.mpr c]; decide)
              rw [e, e1, e2, ih2, c, id_y, Int.add_mul, Int.mul_one]
              omega
            · have e : flt9 (fun δ => δ = q.2) (t :: l) = t :: flt9 (fun δ => δ = q.2) l := List.filter_cons_of_pos (by rw [dcb_f.mpr c]; rfl)
              have e3 : smf9 φ (t :: flt9 (fun δ => δ = q.2) l) = t.1 * φ t.2 + smf9 φ (flt9 (fun δ => δ = q.2) l) := rfl
              rw [e, e1, e2, e3, ih2, id_n c, Int.mul_zero, Int.zero_add]
              omega
        rw [part]
        have h1 : cf9 (q :: l) q.2 * φ q.2 = 0 := by
          by_cases c : cf9 (q :: l) q.2 = 0
          · rw [c, Int.zero_mul]
          · rw [hφ _ c, Int.mul_zero]
        have h2 : flt9 (fun δ => δ = q.2) (q :: l) = flt9 (fun δ => δ = q.2) l := List.filter_cons_of_neg (by rw [dcb_t.mpr rfl]; decide)
        rw [h1, h2, Int.zero_add]
        refine ih (flt9 (fun δ => δ = q.2) l).length ?_ _ (fun γ hγ => ?_) rfl
        · have : (flt9 (fun δ => δ = q.2) l).length ≤ l.length := List.length_filter_le _ _
          rw [← hk]
          show _ < l.length + 1
          omega
        · refine hφ γ (fun h9 => hγ ?_)
          by_cases c : γ = q.2
          · exact cf_fy c
          · rw [cf_fn (K := fun δ => δ = q.2) c]
            have e1 : cf9 (q :: l) γ = q.1 * id9 γ q.2 + cf9 l γ := rfl
            rw [e1, id_n (fun h8 => c h8.symm), Int.mul_zero, Int.zero_add] at h9
            exact h9
  rw [cf_bd, cf_bd]
  have d := key (fun γ => cf9 (f γ) δ - cf9 (g γ) δ) l (fun γ hγ => by
    show cf9 (f γ) δ - cf9 (g γ) δ = 0
    rw [h γ hγ]
    omega)
  have lin : ∀ l : fc9, smf9 (fun γ => cf9 (f γ) δ - cf9 (g γ) δ) l = smf9 (fun γ => cf9 (f γ) δ) l - smf9 (fun γ => cf9 (g γ) δ) l := fun l => by
    induction l with
    | nil => rfl
    | cons q l ih =>
      show q.1 * (cf9 (f q.2) δ - cf9 (g q.2) δ) + smf9 (fun γ => cf9 (f γ) δ - cf9 (g γ) δ) l = q.1 * cf9 (f q.2) δ + smf9 (fun γ => cf9 (f γ) δ) l - (q.1 * cf9 (g q.2) δ + smf9 (fun γ => cf9 (g γ) δ) l)
      rw [ih, Int.mul_sub]
      omega
  rw [lin] at d
  omega
theorem bd_id (l : fc9) (δ : gn9) : cf9 (bd9 (fun γ => [(1, γ)]) l) δ = cf9 l δ := by
  rw [cf_bd]
  induction l with
  | nil => rfl
  | cons q l ih =>
    show q.1 * cf9 [(1, q.2)] δ + smf9 (fun γ => cf9 [(1, γ)] δ) l = q.1 * id9 δ q.2 + cf9 l δ
    rw [ih, cf_1, Int.one_mul]
end XCHE
end
section
/-! 99zzzzzzzzzzzzzzzzyl.xcha -/
-- CHAIN: quotient by an acyclic subgroup, subgroup with an acyclic rest, likeness
section XCHF
variable {p : Int} {S S' : Nat → gn9 → Prop} {D D' h : gn9 → fc9} {K C : gn9 → Prop} {l : fc9} {b : Int} {E' : Nat → Nat → gn9} {N' : Nat → Nat}
theorem flt_bd (l : fc9) (δ : gn9) : cf9 (bd9 (fun γ => flt9 K [(1, γ)]) l) δ = cf9 (flt9 K l) δ := by
  by_cases c : K δ
  · rw [cf_fy c]
    have e : cf9 (bd9 (fun γ => flt9 K [(1, γ)]) l) δ = cf9 (bd9 (fun _ => []) l) δ := bd_su δ (fun γ _ => by
      rw [cf_fy c]
      rfl)
    rw [e]
    exact bd_nil (fun q _ => rfl) δ
  · rw [cf_fn c]
    have e : cf9 (bd9 (fun γ => flt9 K [(1, γ)]) l) δ = cf9 (bd9 (fun γ => [(1, γ)]) l) δ := bd_su δ (fun γ _ => cf_fn c)
    rw [e]
    exact bd_id l δ
theorem bb_c {f g : gn9 → fc9} (l : fc9) (δ : gn9) : cf9 (bd9 g (bd9 f l)) δ = cf9 (bd9 (fun ε => bd9 g (f ε)) l) δ := by
  rw [cf_bd, sm_bd, cf_bd]
  have e : (fun γ => smf9 (fun δ_1 => cf9 (g δ_1) δ) (f γ)) = fun γ => cf9 (bd9 g (f γ)) δ := funext (fun γ => (cf_bd δ).symm)
  rw [e]
theorem quoK (hp : pr9 p) (hi : iv9 p) (hC : cg9 S D) (hk : ∀ r γ, S r γ → K γ → su9 (D γ) K) (hs : ∀ r γ, S (r + 1) γ → su9 (h γ) (fun δ => S r δ ∧ K δ)) (hh : ∀ r γ, S (r + 1) γ → K γ → eq9 (bd9 D (h γ) ++ bd9 h (D γ)) [(1, γ)]) (r : Nat) (hb : be9 p S D r b) (he' : ∀ r, en9 (fun γ => S r γ ∧ ¬ K γ) (E' r) (N' r)) : cg9 (fun r γ => S r γ ∧ ¬ K γ) (fun γ => flt9 K (D γ)) ∧ (N' (r + 1) : Int) = b + rn9 p E' N' (fun γ => flt9 K (D γ)) (r + 1) + rn9 p E' N' (fun γ => flt9 K (D γ)) r := by
  obtain ⟨E, N, he, hN⟩ := hb
  -- the quotient is a row of groups
  have hC' : cg9 (fun r γ => S r γ ∧ ¬ K γ) (fun γ => flt9 K (D γ)) := by
    refine ⟨fun r γ hγ δ hδ => ?_, fun r γ hγ δ => ?_⟩
    · by_cases c : K δ
      · exact absurd (cf_fy c) hδ
      · rw [cf_fn c] at hδ
        exact ⟨hC.1 r γ hγ.1 δ hδ, c⟩
    · show _ = (0 : Int)
      by_cases c : K δ
      · have e : cf9 (bd9 (fun γ => flt9 K (D γ)) (flt9 K (D γ))) δ = cf9 (bd9 (fun _ => []) (flt9 K (D γ))) δ := bd_su δ (fun γ _ => by
          rw [cf_fy c]
          rfl)
        rw [e]
        exact bd_nil (fun q _ => rfl) δ
      · have e : cf9 (bd9 (fun γ => flt9 K (D γ)) (flt9 K (D γ))) δ = cf9 (bd9 D (flt9 K (D γ))) δ := bd_su δ (fun γ _ => cf_fn c)
        rw [e]
        -- what is left out lies in K
        have e2 : cf9 (bd9 D (D γ)) δ = cf9 (bd9 D (flt9 K (D γ))) δ := by
          rw [← bd_q (f := D) (flt_bd (K := K) (D γ)) δ, bb_c]
          refine bd_su δ (fun ε hε => ?_)
          show cf9 (D ε) δ = cf9 (bd9 D (flt9 K [(1, ε)])) δ
          by_cases c2 : K ε
          · have q : flt9 K [(1, ε)] = [] := List.filter_cons_of_neg (by rw [dcb_t.mpr c2]; decide)
            rw [q]
            by_cases c3 : cf9 (D ε) δ = 0
            · rw [c3]
              rfl
            · exact absurd (hk (r + 1) ε (hC.1 r γ hγ.1 ε hε) c2 δ c3) c
          · have q : flt9 K [(1, ε)] = [(1, ε)] := List.filter_cons_of_pos (by rw [dcb_f.mpr c2]; rfl)
            rw [q]
            exact (bd_1 ε δ).symm
        rw [← e2]
        exact hC.2 r γ hγ.1 δ
  refine ⟨hC', ?_⟩
  have key := subT (F := fun γ => flt9 K [(1, γ)]) (h := h) hp hi (cg_cx he hC) (cg_cx he' hC') K (fun r i hi9 => en_sp (he' r) (fun δ hδ => by
      by_cases c : K δ
      · exact absurd (cf_fy c) hδ
      · rw [cf_fn c, cf_1, Int.one_mul] at hδ
        by_cases e : E r i = δ
        · rw [← e] at c ⊢
          exact ⟨en_at (he r) hi9, c⟩
        · exact absurd (id_n e) hδ)) (fun r i hi9 δ => by
      rw [flt_bd]
      by_cases c2 : K (E r i)
      · have q : flt9 K [(1, E r i)] = [] := List.filter_cons_of_neg (by rw [dcb_t.mpr c2]; decide)
        show cf9 (flt9 K (D (E r i))) δ = cf9 (bd9 (fun γ => flt9 K (D γ)) (flt9 K [(1, E r i)])) δ
        rw [q]
        show _ = (0 : Int)
        by_cases c : K δ
        · exact cf_fy c
        · rw [cf_fn c]
          by_cases c3 : cf9 (D (E r i)) δ = 0
          · exact c3
          · exact absurd (hk r _ (en_at (he r) hi9) c2 δ c3) c
      · have q : flt9 K [(1, E r i)] = [(1, E r i)] := List.filter_cons_of_pos (by rw [dcb_f.mpr c2]; rfl)
        show cf9 (flt9 K (D (E r i))) δ = cf9 (bd9 (fun γ => flt9 K (D γ)) (flt9 K [(1, E r i)])) δ
        rw [q]
        exact (bd_1 (f := fun γ => flt9 K (D γ)) _ δ).symm) (fun r u => by
      have ch : ∀ j, ∃ i, j < N' r → i < N r ∧ E' r j = E r i := fun j => by
        by_cases c : j < N' r
        · obtain ⟨i, h1, h2⟩ := ((he r).2 _).mp (en_at (he' r) c).1
          exact ⟨i, fun _ => ⟨h1, h2⟩⟩
        · exact ⟨0, fun h9 => absurd h9 c⟩
      refine ⟨fun i => smf9 (fun δ => id9 δ (E r i)) (cmb9 (E' r) (N' r) u), fun j hj => ?_⟩
      rw [flt_bd, cf_fn (en_at (he' r) hj).2]
      obtain ⟨i, h0⟩ := ch j
      obtain ⟨h1, h2⟩ := h0 hj
      rw [h2, cf_cy (he r).1 h1, sm_cm]
      rw [sN_sg hj (fun k hk9 hne => by
        rw [id_n (fun h9 => hne ?_), Int.mul_zero]
        exact (he' r).1 k j hk9 hj (by rw [h2]; exact h9.symm))]
      rw [h2, id_y, Int.mul_one]) (fun r v hv i hi9 => by
      by_cases c : K (E r i)
      · exact Or.inl c
      · right
        obtain ⟨j, h1, h2⟩ := ((he' r).2 (E r i)).mp ⟨en_at (he r) hi9, c⟩
        have : p ∣ cf9 (bd9 (fun γ => flt9 K [(1, γ)]) (cmb9 (E r) (N r) v)) (E' r j) - 0 := hv j h1
        rw [flt_bd, cf_fn (en_at (he' r) h1).2, ← h2, cf_cy (he r).1 hi9, Int.sub_zero] at this
        exact this) (fun r i hi9 => en_sp (he r) (fun δ hδ => (hs r _ (en_at (he (r + 1)) hi9) δ hδ).1)) (fun r i hi9 δ => by
      rw [flt_bd]
      show _ = (0 : Int)
      by_cases c : K δ
      · exact cf_fy c
      · rw [cf_fn c]
        by_cases c3 : cf9 (h (E (r + 1) i)) δ = 0
        · exact c3
        · exact absurd (hs r _ (en_at (he (r + 1)) hi9) δ c3).2 c) (fun r i hi9 hK => hh r _ (en_at (he (r + 1)) hi9) hK) r
  omega
theorem subC (hp : pr9 p) (hi : iv9 p) (hC : cg9 S D) (h0 : ∀ γ, ¬ S 0 γ) (hk : ∀ r γ, S r γ → C γ → su9 (D γ) C) (hs : ∀ r γ, S (r + 1) γ → su9 (h γ) (S r)) (hc : ∀ r γ, S (r + 1) γ → C γ → eq9 (h γ) []) (hh : ∀ r γ δ, S (r + 1) γ → S (r + 1) δ → ¬ C γ → ¬ C δ → cf9 (bd9 D (h γ) ++ bd9 h (D γ)) δ = id9 δ γ) (r : Nat) (hb : be9 p S D r b) (he' : ∀ r, en9 (fun γ => S r γ ∧ C γ) (E' r) (N' r)) : cg9 (fun r γ => S r γ ∧ C γ) D ∧ (N' (r + 1) : Int) = b + rn9 p E' N' D (r + 1) + rn9 p E' N' D r := by
  obtain ⟨E, N, he, hN⟩ := hb
  have hC' : cg9 (fun r γ => S r γ ∧ C γ) D := ⟨fun r γ hγ δ hδ => ⟨hC.1 r γ hγ.1 δ hδ, hk r γ hγ.1 hγ.2 δ hδ⟩, fun r γ hγ => hC.2 r γ hγ.1⟩
  refine ⟨hC', ?_⟩
  have n0 : N 0 = 0 := by
    rcases Nat.eq_zero_or_pos (N 0) with e | e
    · exact e
    · exact absurd (en_at (he 0) e) (h0 _)
  have at_ : ∀ r (v : vc9) i j, j < N' r → E r i = E' r j → cf9 (cmb9 (E' r) (N' r) v) (E r i) = v j := fun r v i j h1 h2 => by
    rw [h2]
    exact cf_cy (he' r).1 h1
  have no_ : ∀ r (v : vc9) i, i < N r → ¬ C (E r i) → cf9 (cmb9 (E' r) (N' r) v) (E r i) = 0 := fun r v i hi9 hn => cf_cn (fun j hj h9 => hn (h9 ▸ (en_at (he' r) hj).2))
  have key := quoT (f := fun γ => [(1, γ)]) (h := h) hp hi (cg_cx he hC) (cg_cx he' hC') n0 C (fun r i hi9 => en_sp (he r) (fun δ hδ => by
      rw [cf_1, Int.one_mul] at hδ
      by_cases e : E' r i = δ
      · rw [← e]
        exact (en_at (he' r) hi9).1
      · exact absurd (id_n e) hδ)) (fun r i hi9 δ => by
      rw [bd_id]
      exact (bd_1 (f := D) _ δ).symm) (fun r v hv j hj => by
      obtain ⟨i, h1, h2⟩ := ((he r).2 _).mp (en_at (he' r) hj).1
      have q : p ∣ cf9 (bd9 (fun γ => [(1, γ)]) (cmb9 (E' r) (N' r) v)) (E r i) - 0 := hv i h1
      rw [bd_id, at_ r v i j hj h2.symm] at q
      exact q) (fun r u hu => by
      refine ⟨fun j => cf9 (cmb9 (E r) (N r) u) (E' r j), fun i hi9 => ?_⟩
      show p ∣ u i - cf9 (bd9 (fun γ => [(1, γ)]) (cmb9 (E' r) (N' r) (fun j => cf9 (cmb9 (E r) (N r) u) (E' r j)))) (E r i)
      rw [bd_id]
      by_cases c : C (E r i)
      · obtain ⟨j, h1, h2⟩ := ((he' r).2 (E r i)).mp ⟨en_at (he r) hi9, c⟩
        rw [at_ r _ i j h1 h2, ← h2, cf_cy (he r).1 hi9, Int.sub_self]
        exact Int.dvd_zero p
      · rw [no_ r _ i hi9 c, Int.sub_zero]
        rcases hu i hi9 with k | k
        · exact absurd k c
        · exact k) (fun r v j hj => by
      by_cases c : C (E r j)
      · exact Or.inl c
      · right
        rw [bd_id]
        exact no_ r v j hj c) (fun r i hi9 => en_sp (he r) (hs r _ (en_at (he (r + 1)) hi9))) (fun r i hi9 hS => hc r _ (en_at (he (r + 1)) hi9) hS) (fun r i j hi9 hj hS => by
      by_cases c : cf9 (D (E r i)) (E (r + 1) j) = 0
      · exact Or.inr c
      · exact Or.inl (hk r _ (en_at (he r) hi9) hS _ c)) (fun r i j hi9 hj => by
      by_cases c : C (E (r + 1) i)
      · exact Or.inl c
      · by_cases c2 : C (E (r + 1) j)
        · exact Or.inr (Or.inl c2)
        · exact Or.inr (Or.inr (hh r _ _ (en_at (he (r + 1)) hi9) (en_at (he (r + 1)) hj) c c2))) r
  omega
/-- one group for the other, a generator for a generator -/
theorem isoT (hp : pr9 p) (hi : iv9 p) (hC : cg9 S D) (hC' : cg9 S' D') (κ ι : gn9 → gn9) (ε : gn9 → Int) (hε : ∀ γ, ε γ * ε γ = 1) (k1 : ∀ r γ, S r γ → S' r (κ γ) ∧ ι (κ γ) = γ) (k2 : ∀ r γ, S' r γ → S r (ι γ) ∧ κ (ι γ) = γ) (kc : ∀ r γ, S r γ → eq9 (bd9 (fun δ => [(ε δ, κ δ)]) (D γ)) (scf9 (ε γ) (D' (κ γ)))) (r : Nat) (hb : be9 p S D r b) (he' : ∀ r, en9 (S' r) (E' r) (N' r)) : (N' (r + 1) : Int) = b + rn9 p E' N' D' (r + 1) + rn9 p E' N' D' r := by
  obtain ⟨E, N, he, hN⟩ := hb
  have cfk : ∀ r (v : vc9) i, i < N r → cf9 (bd9 (fun δ => [(ε δ, κ δ)]) (cmb9 (E r) (N r) v)) (κ (E r i)) = v i * ε (E r i) := fun r v i hi9 => by
    rw [cf_cb, sN_sg hi9 (fun k hk9 hne => by
      rw [cf_1, id_n (fun h9 => hne ?_), Int.mul_zero, Int.mul_zero]
      refine (he r).1 k i hk9 hi9 ?_
      rw [← (k1 r _ (en_at (he r) hk9)).2, h9, (k1 r _ (en_at (he r) hi9)).2])]
    rw [cf_1, id_y, Int.mul_one]
  have ix : ∀ r j, j < N' r → ∃ i, i < N r ∧ E' r j = κ (E r i) := fun r j hj => by
    obtain ⟨q1, q2⟩ := k2 r _ (en_at (he' r) hj)
    obtain ⟨i, h1, h2⟩ := ((he r).2 _).mp q1
    exact ⟨i, h1, by rw [← h2, q2]⟩
  have key := subT (F := fun δ => [(ε δ, κ δ)]) (h := fun _ => []) hp hi (cg_cx he hC) (cg_cx he' hC') (fun _ => False) (fun r i hi9 => en_sp (he' r) (fun δ hδ => by
      rw [cf_1] at hδ
      by_cases e : κ (E r i) = δ
      · rw [← e]
        exact (k1 r _ (en_at (he r) hi9)).1
      · exact absurd (by rw [id_n e, Int.mul_zero]) hδ)) (fun r i hi9 δ => by
      rw [kc r _ (en_at (he r) hi9) δ, cf_sc, cf_bd]
      show _ = ε (E r i) * cf9 (D' (κ (E r i))) δ + 0
      omega) (fun r u => by
      refine ⟨fun i => ε (E r i) * smf9 (fun δ => id9 δ (κ (E r i))) (cmb9 (E' r) (N' r) u), fun j hj => ?_⟩
      obtain ⟨i, h1, h2⟩ := ix r j hj
      rw [h2, cfk r _ i h1]
      show ε (E r i) * smf9 (fun δ => id9 δ (κ (E r i))) (cmb9 (E' r) (N' r) u) * ε (E r i) = u j
      rw [Int.mul_comm, ← Int.mul_assoc, hε, Int.one_mul, sm_cm]
      rw [sN_sg hj (fun k hk9 hne => by
        rw [id_n (fun h9 => hne ?_), Int.mul_zero]
        exact (he' r).1 k j hk9 hj (by rw [h2]; exact h9.symm))]
      rw [h2, id_y, Int.mul_one]) (fun r v hv i hi9 => by
      right
      obtain ⟨j, h1, h2⟩ := ((he' r).2 _).mp (k1 r _ (en_at (he r) hi9)).1
      have q : p ∣ cf9 (bd9 (fun δ => [(ε δ, κ δ)]) (cmb9 (E r) (N r) v)) (E' r j) - 0 := hv j h1
      rw [← h2, cfk r v i hi9, Int.sub_zero] at q
      have q2 := dvl9 (ε (E r i)) q
      rw [Int.mul_assoc, hε, Int.mul_one] at q2
      exact q2) (fun r i hi9 => en_sp (he r) (fun δ hδ => absurd rfl hδ)) (fun r i hi9 δ => rfl) (fun r i hi9 hK => absurd hK id) r
  omega
theorem be_en (hp : pr9 p) (hi : iv9 p) (hC : cg9 S D) (r : Nat) (hb : be9 p S D r b) (he' : ∀ r, en9 (S r) (E' r) (N' r)) : (N' (r + 1) : Int) = b + rn9 p E' N' D (r + 1) + rn9 p E' N' D r := isoT hp hi hC hC (fun γ => γ) (fun γ => γ) (fun _ => 1) (fun _ => rfl) (fun r γ h => ⟨h, rfl⟩) (fun r γ h => ⟨h, rfl⟩) (fun r γ _ δ => by
  rw [bd_id, cf_sc, Int.one_mul]) r hb he'
theorem be_un (hp : pr9 p) (hi : iv9 p) (hC : cg9 S D) (r : Nat) {b b' : Int} (hb : be9 p S D r b) (hb' : be9 p S D r b') : b = b' := by
  obtain ⟨E, N, he, hN⟩ := hb'
  have := be_en hp hi hC r hb he
  omega
theorem fi_en (hf : fi9 S) : ∃ (E : Nat → Nat → gn9) (N : Nat → Nat), ∀ r, en9 (S r) (E r) (N r) := ⟨fun r => (hf r).choose, fun r => (hf r).choose_spec.choose, fun r => (hf r).choose_spec.choose_spec⟩
end XCHF
end
section
/-! 99zzzzzzzzzzzzzzzzym.xchb -/
-- CHAIN: how many loops, the degree, the groups of a cube
def ld9 (R : Nat → Nat → Prop) (G : Nat → Prop) (g : Nat) : Prop := G g ∧ ∀ h, h < g → G h → ¬ R h g
noncomputable def cls9 (R : Nat → Nat → Prop) (G : Nat → Prop) (V : Nat) (Q : Nat → Prop) : Nat := cn9 (fun g => ld9 R G g ∧ Q g) V
def ons9 (s : Nat → Bool) : Nat → Nat
  | 0 => 0
  | n + 1 => ons9 s n + if s n = true then 1 else 0
noncomputable def dg9 (rel : (Nat → Bool) → Nat → Nat → Prop) (G : Nat → Prop) (V n : Nat) (γ : gn9) : Int := cls9 (rel γ.1) G V (fun _ => True) - 2 * cls9 (rel γ.1) G V (fun g => γ.2 g = true) + ons9 γ.1 n
section XCHG
variable {R R' : Nat → Nat → Prop} {G : Nat → Prop} {V : Nat} {Q Q' : Nat → Prop}
theorem ld_ex (hR : eqv9 R) : ∀ g, G g → ∃ l, ld9 R G l ∧ R l g ∧ l ≤ g := fun g => by
  induction g using Nat.strongRecOn with
  | ind g ih =>
    intro hg
    by_cases c : ∃ h, h < g ∧ G h ∧ R h g
    · obtain ⟨h, h1, h2, h3⟩ := c
      obtain ⟨l, l1, l2, l3⟩ := ih h h1 h2
      exact ⟨l, l1, hR.2.2 _ _ _ l2 h3, by omega⟩
    · exact ⟨g, ⟨hg, fun h h1 h2 h3 => c ⟨h, h1, h2, h3⟩⟩, hR.1 g, Nat.le_refl g⟩
theorem ld_un {l l' : Nat} (hR : eqv9 R) (h : ld9 R G l) (h' : ld9 R G l') (e : R l l') : l = l' := by
  rcases Nat.lt_trichotomy l l' with c | c | c
  · exact absurd e (h'.2 l c h.1)
  · exact c
  · exact absurd (hR.2.1 _ _ e) (h.2 l' c h'.1)
theorem ld_le {l g : Nat} (hR : eqv9 R) (h : ld9 R G l) (hg : G g) (e : R l g) : l ≤ g := by
  rcases Nat.lt_or_ge g l with c | c
  · exact absurd (hR.2.1 _ _ e) (h.2 g c hg)
  · exact c
theorem cl_cg (h : ∀ g, G g → (Q g ↔ Q' g)) : cls9 R G V Q = cls9 R G V Q' := cn_cg (fun g _ => ⟨fun h9 => ⟨h9.1, (h g h9.1.1).mp h9.2⟩, fun h9 => ⟨h9.1, (h g h9.1.1).mpr h9.2⟩⟩)
/-- a class more -/
theorem cl_add {b : Nat} (hR : eqv9 R) (hV : ∀ g, G g → g < V) (hb : G b) (hQ : ∀ g h, R g h → Q g → Q h) (hn : ¬ Q b) (h : ∀ g, G g → (Q' g ↔ Q g ∨ R g b)) : cls9 R G V Q' = cls9 R G V Q + 1 := by
  obtain ⟨l, l1, l2, -⟩ := ld_ex hR b hb
  refine cn_one (a := l) (hV l l1.1) (fun h9 => hn (hQ _ _ l2 h9.2)) (fun g _ => ⟨fun h9 => ?_, fun h9 => ?_⟩)
  · rcases (h g h9.1.1).mp h9.2 with k | k
    · exact Or.inl ⟨h9.1, k⟩
    · exact Or.inr (ld_un hR h9.1 l1 (hR.2.2 _ _ _ k (hR.2.1 _ _ l2)))
  · rcases h9 with k | k
    · exact ⟨k.1, (h g k.1.1).mpr (Or.inl k.2)⟩
    · rw [k]
      exact ⟨l1, (h l l1.1).mpr (Or.inr l2)⟩
/-- two classes become one -/
theorem cl_mrg {a b : Nat} (hR : eqv9 R) (hR' : ∀ g h, R' g h ↔ adr R a b g h) (hab : ¬ R a b) (hV : ∀ g, G g → g < V) (ha : G a) (hb : G b) (hQ : ∀ g h, R g h → Q g → Q h) (hq : Q a ↔ Q b) : (Q a → cls9 R G V Q = cls9 R' G V Q + 1) ∧ (¬ Q a → cls9 R G V Q = cls9 R' G V Q) := by
  -- the greater of the two least ones goes
  have key : ∀ a b, (∀ g h, R' g h ↔ adr R a b g h) → ¬ R a b → (Q a ↔ Q b) → ∀ la lb, ld9 R G la → ld9 R G lb → R la a → R lb b → la < lb → (Q a → cls9 R G V Q = cls9 R' G V Q + 1) ∧ (¬ Q a → cls9 R G V Q = cls9 R' G V Q) := fun a b hR' hab hq la lb A B ra rb lt => by
    have e : ∀ g, ld9 R' G g ↔ ld9 R G g ∧ g ≠ lb := fun g => by
      constructor
      · intro h9
        refine ⟨⟨h9.1, fun k h1 h2 h3 => h9.2 k h1 h2 ((hR' k g).mpr (Or.inl h3))⟩, fun h8 => ?_⟩
        rw [h8] at h9
        exact h9.2 la lt A.1 ((hR' la lb).mpr (Or.inr (Or.inl ⟨ra, rb⟩)))
      · rintro ⟨h9, h8⟩
        refine ⟨h9.1, fun k h1 h2 h3 => ?_⟩
        rcases (hR' k g).mp h3 with k1 | ⟨k1, k2⟩ | ⟨k1, k2⟩
        · exact h9.2 k h1 h2 k1
        · exact h8 (ld_un hR h9 B (hR.2.2 _ _ _ k2 (hR.2.1 _ _ rb)))
        · have e1 : g = la := ld_un hR h9 A (hR.2.2 _ _ _ k2 (hR.2.1 _ _ ra))
          have e2 := ld_le hR B h2 (hR.2.2 _ _ _ rb (hR.2.1 _ _ k1))
          omega
    constructor
    · intro qa
      refine cn_one (a := lb) (hV lb B.1) (fun h9 => ((e lb).mp h9.1).2 rfl) (fun g _ => ⟨fun h9 => ?_, fun h9 => ?_⟩)
      · by_cases c : g = lb
        · exact Or.inr c
        · exact Or.inl ⟨(e g).mpr ⟨h9.1, c⟩, h9.2⟩
      · rcases h9 with k | k
        · exact ⟨((e g).mp k.1).1, k.2⟩
        · rw [k]
          exact ⟨B, hQ _ _ (hR.2.1 _ _ rb) (hq.mp qa)⟩
    · intro qa
      refine cn_cg (fun g _ => ⟨fun h9 => ⟨(e g).mpr ⟨h9.1, fun h8 => ?_⟩, h9.2⟩, fun h9 => ⟨((e g).mp h9.1).1, h9.2⟩⟩)
      rw [h8] at h9
      exact qa (hq.mpr (hQ _ _ rb h9.2))
  obtain ⟨la, A, ra, -⟩ := ld_ex hR a ha
  obtain ⟨lb, B, rb, -⟩ := ld_ex hR b hb
  rcases Nat.lt_trichotomy la lb with c | c | c
  · exact key a b hR' hab hq la lb A B ra rb c
  · rw [← c] at rb
    exact absurd (hR.2.2 _ _ _ (hR.2.1 _ _ ra) rb) hab
  · have k := key b a (fun g h => (hR' g h).trans (by unfold adr; constructor <;> rintro (h9 | h9 | h9) <;> first | exact Or.inl h9 | exact Or.inr (Or.inl h9) | exact Or.inr (Or.inr h9))) (fun h9 => hab (hR.2.1 _ _ h9)) hq.symm lb la B A rb ra c
    exact ⟨fun h9 => k.1 (hq.mp h9), fun h9 => k.2 (fun h8 => h9 (hq.mpr h8))⟩
theorem ons_on {s : Nat → Bool} {x : Nat} (hs : s x = false) : ∀ {n : Nat}, x < n → ons9 (on9 s x) n = ons9 s n + 1
  | 0, h => absurd h (Nat.not_lt_zero _)
  | n + 1, h => by
    show ons9 (on9 s x) n + (if on9 s x n = true then 1 else 0) = ons9 s n + (if s n = true then 1 else 0) + 1
    by_cases e : x = n
    · rw [← e, on_x, hs, if_pos rfl, if_neg (by decide)]
      have : ∀ k, k ≤ x → ons9 (on9 s x) k = ons9 s k := fun k => by
        induction k with
        | zero => intro _; rfl
        | succ k ih =>
          intro hk
          show ons9 (on9 s x) k + (if on9 s x k = true then 1 else 0) = ons9 s k + (if s k = true then 1 else 0)
          rw [ih (by omega), on_o (by omega)]
      rw [this x (Nat.le_refl x)]
    · rw [ons_on hs (n := n) (by omega), on_o (by omega)]
      omega
end XCHG
/-- a cube over the gaps G -/
def cu9 (n V : Nat) (G : Nat → Prop) (P1 P2 P3 : Nat → Nat) (rel : (Nat → Bool) → Nat → Nat → Prop) : Prop := cub9 n P1 P2 P3 rel ∧ (∀ s, (∀ y, n ≤ y → s y = false) → ∀ g h, rel s g h → g ≠ h → G g ∧ G h) ∧ (∀ g, G g → g < V) ∧ ∀ x, x < n → G (P1 x) ∧ G (P2 x) ∧ G (P3 x)
/-- the group with r - k ones, degree d -/
def Sg9 (n V : Nat) (G : Nat → Prop) (rel : (Nat → Bool) → Nat → Nat → Prop) (k : Nat) (d : Int) (r : Nat) (γ : gn9) : Prop := (∀ y, n ≤ y → γ.1 y = false) ∧ (∀ g, ¬ G g → γ.2 g = false) ∧ vl9 rel γ ∧ ons9 γ.1 n + k = r ∧ dg9 rel G V n γ = d
section XCHH
variable {n V k r : Nat} {G : Nat → Prop} {P1 P2 P3 : Nat → Nat} {rel : (Nat → Bool) → Nat → Nat → Prop} {d c : Int} {γ δ : gn9} {l : fc9}
theorem cf_mem : ∀ {l : fc9}, cf9 l γ ≠ 0 → ∃ q, q ∈ l ∧ q.2 = γ
  | [], h => absurd rfl h
  | q :: l, h => by
    by_cases e : q.2 = γ
    · exact ⟨q, List.mem_cons_self, e⟩
    · have e1 : cf9 (q :: l) γ = q.1 * id9 γ q.2 + cf9 l γ := rfl
      rw [e1, id_n e, Int.mul_zero, Int.zero_add] at h
      obtain ⟨t, h1, h2⟩ := cf_mem h
      exact ⟨t, List.mem_cons_of_mem _ h1, h2⟩
theorem on_z {s : Nat → Bool} {x : Nat} (hx : x < n) (hs : ∀ y, n ≤ y → s y = false) : ∀ y, n ≤ y → on9 s x y = false := fun y hy => by
  rw [on_o (by omega)]
  exact hs y hy
/-- what one turned crossing makes is a generator of the same degree -/
theorem Dx_ok {x : Nat} (hC : cu9 n V G P1 P2 P3 rel) (hx : x < n) (hγ : Sg9 n V G rel k d r γ) (hs : γ.1 x = false) (h : (c, δ) ∈ Dx9 P1 P2 P3 rel x γ) : Sg9 n V G rel k d (r + 1) δ := by
  obtain ⟨z1, z2, z3, z4, z5⟩ := hγ
  obtain ⟨cC, cG, cV, cP⟩ := hC
  have st := Dx_st h
  have st : δ.1 = on9 γ.1 x := st
  have hE := cC.1 γ.1
  have hF := cC.1 (on9 γ.1 x)
  have o1 := ons_on hs hx
  obtain ⟨gp1, gp2, gp3⟩ := cP x hx
  have zt := on_z hx z1
  have outs : ∀ g, ¬ G g → ∀ a, G a → dcb (rel (on9 γ.1 x) g a) = false := fun g hg a ha => dcb_f.mpr (fun h9 => hg (cG _ zt g a h9 (fun h8 => hg (h8 ▸ ha))).1)
  have dgt : dg9 rel G V n δ = cls9 (rel (on9 γ.1 x)) G V (fun _ => True) - 2 * cls9 (rel (on9 γ.1 x)) G V (fun g => δ.2 g = true) + ons9 (on9 γ.1 x) n := by
    unfold dg9
    rw [st]
  have dgs : cls9 (rel γ.1) G V (fun _ => True) - 2 * cls9 (rel γ.1) G V (fun g => γ.2 g = true) + ons9 γ.1 n = d := z5
  have base : vl9 rel δ → (∀ g, ¬ G g → δ.2 g = false) → (cls9 (rel (on9 γ.1 x)) G V (fun _ => True) : Int) - 2 * cls9 (rel (on9 γ.1 x)) G V (fun g => δ.2 g = true) + 1 = cls9 (rel γ.1) G V (fun _ => True) - 2 * cls9 (rel γ.1) G V (fun g => γ.2 g = true) → Sg9 n V G rel k d (r + 1) δ := fun a1 a2 a3 => by
    refine ⟨fun y hy => ?_, a2, a1, ?_, ?_⟩
    · rw [st]
      exact zt y hy
    · rw [st, o1]
      omega
    · rw [dgt, o1]
      omega
  have vlq : ∀ g k, rel γ.1 g k → γ.2 g = true → γ.2 k = true := fun g k h1 h2 => by rw [← z3 g k h1]; exact h2
  have tt : ∀ (R : Nat → Nat → Prop) g k, R g k → (fun _ : Nat => True) g → (fun _ : Nat => True) k := fun _ _ _ _ _ => trivial
  unfold Dx9 at h
  rcases cC.2 γ.1 x hx hs with ⟨hm, hr⟩ | ⟨hm, hn, hr⟩
  · -- merge
    rw [if_neg (fun h9 => hm (dcb_t.mp h9))] at h
    have L := (cl_mrg (V := V) (Q := fun _ => True) hE hr hm cV gp1 gp3 (tt _) Iff.rfl).1 trivial
    split at h
    · exact absurd h List.not_mem_nil
    · rename_i hb
      have e := List.mem_singleton.mp h
      have e2 : δ.2 = fun g => γ.2 g || ((γ.2 (P1 x) || γ.2 (P3 x)) && dcb (rel (on9 γ.1 x) g (P1 x))) := by
        have := congrArg (fun q => q.2.2) e
        exact this
      have p13 : rel (on9 γ.1 x) (P1 x) (P3 x) := (hr _ _).mpr (adr_ab hE)
      have tr : ∀ g, δ.2 g = true ↔ γ.2 g = true ∨ ((γ.2 (P1 x) = true ∨ γ.2 (P3 x) = true) ∧ rel (on9 γ.1 x) g (P1 x)) := fun g => by
        rw [e2]
        show (γ.2 g || ((γ.2 (P1 x) || γ.2 (P3 x)) && dcb (rel (on9 γ.1 x) g (P1 x)))) = true ↔ _
        rw [Bool.or_eq_true, Bool.and_eq_true, Bool.or_eq_true, dcb_t]
      have val : ∀ g k, rel (on9 γ.1 x) g k → δ.2 g = true → δ.2 k = true := fun g k h1 h2 => by
        rw [tr] at h2 ⊢
        rcases h2 with h2 | ⟨h2, h3⟩
        · rcases (hr g k).mp h1 with k1 | ⟨k1, k2⟩ | ⟨k1, k2⟩
          · exact Or.inl (vlq _ _ k1 h2)
          · exact Or.inr ⟨Or.inl (vlq _ _ k1 h2), hF.2.2 _ _ _ ((hr _ _).mpr (Or.inl k2)) (hF.2.1 _ _ p13)⟩
          · exact Or.inr ⟨Or.inr (vlq _ _ k1 h2), (hr _ _).mpr (Or.inl k2)⟩
        · exact Or.inr ⟨h2, hF.2.2 _ _ _ (hF.2.1 _ _ h1) h3⟩
      refine base (fun g k h1 => ?_) (fun g hg => ?_) ?_
      · rw [st] at h1
        exact bx ⟨val g k h1, val k g (hF.2.1 _ _ h1)⟩
      · rw [e2]
        show (γ.2 g || ((γ.2 (P1 x) || γ.2 (P3 x)) && dcb (rel (on9 γ.1 x) g (P1 x)))) = false
        rw [z2 g hg, outs g hg _ gp1, Bool.and_false]
        rfl
      · -- δ's minus over the old loops
        have up : ∀ g k, rel γ.1 g k → δ.2 g = true → δ.2 k = true := fun g k h1 h2 => val g k ((hr g k).mpr (Or.inl h1)) h2
        have d13 : δ.2 (P1 x) = true ↔ δ.2 (P3 x) = true := ⟨val _ _ p13, val _ _ (hF.2.1 _ _ p13)⟩
        have M := cl_mrg (V := V) (Q := fun g => δ.2 g = true) hE hr hm cV gp1 gp3 up d13
        -- who is in the new loop
        have side : ∀ g, rel (on9 γ.1 x) g (P1 x) ↔ rel γ.1 g (P1 x) ∨ rel γ.1 g (P3 x) := fun g => by
          constructor
          · intro h9
            rcases (hr _ _).mp h9 with k1 | ⟨k1, k2⟩ | ⟨k1, k2⟩
            · exact Or.inl k1
            · exact absurd k2 hm
            · exact Or.inr k1
          · rintro (h9 | h9)
            · exact (hr _ _).mpr (Or.inl h9)
            · exact hF.2.2 _ _ _ ((hr _ _).mpr (Or.inl h9)) (hF.2.1 _ _ p13)
        by_cases c1 : γ.2 (P1 x) = true
        · have c3 : ¬ γ.2 (P3 x) = true := fun h9 => hb ⟨c1, h9⟩
          have A := cl_add (V := V) (Q := fun g => γ.2 g = true) (Q' := fun g => δ.2 g = true) hE cV gp3 vlq c3 (fun g _ => by
            rw [tr g, side g]
            constructor
            · rintro (h9 | ⟨-, h9 | h9⟩)
              · exact Or.inl h9
              · exact Or.inl (vlq _ _ (hE.2.1 _ _ h9) c1)
              · exact Or.inr h9
            · rintro (h9 | h9)
              · exact Or.inl h9
              · exact Or.inr ⟨Or.inl c1, Or.inr h9⟩)
          have B := M.1 ((tr _).mpr (Or.inl c1))
          omega
        · by_cases c3 : γ.2 (P3 x) = true
          · have A := cl_add (V := V) (Q := fun g => γ.2 g = true) (Q' := fun g => δ.2 g = true) hE cV gp1 vlq c1 (fun g _ => by
              rw [tr g, side g]
              constructor
              · rintro (h9 | ⟨-, h9 | h9⟩)
                · exact Or.inl h9
                · exact Or.inr h9
                · exact Or.inl (vlq _ _ (hE.2.1 _ _ h9) c3)
              · rintro (h9 | h9)
                · exact Or.inl h9
                · exact Or.inr ⟨Or.inr c3, Or.inl h9⟩)
            have B := M.1 ((tr _).mpr (Or.inr ⟨Or.inr c3, hF.1 _⟩))
            omega
          · have e3 : cls9 (rel γ.1) G V (fun g => δ.2 g = true) = cls9 (rel γ.1) G V (fun g => γ.2 g = true) := cl_cg (fun g _ => by
              rw [tr g]
              constructor
              · rintro (h9 | ⟨h9 | h9, -⟩)
                · exact h9
                · exact absurd h9 c1
                · exact absurd h9 c3
              · exact Or.inl)
            have B := M.2 (fun h9 => by
              rcases (tr _).mp h9 with h8 | ⟨h8 | h8, -⟩
              · exact c1 h8
              · exact c1 h8
              · exact c3 h8)
            omega
  · -- split
    rw [if_pos (dcb_t.mpr hm)] at h
    have L := (cl_mrg (V := V) (Q := fun _ => True) hF hr hn cV gp1 gp2 (tt _) Iff.rfl).1 trivial
    have up : ∀ g k, rel (on9 γ.1 x) g k → rel γ.1 g k := fun g k h9 => (hr g k).mpr (Or.inl h9)
    have p12 : rel γ.1 (P1 x) (P2 x) := (hr _ _).mpr (adr_ab hF)
    have vlt : ∀ g k, rel (on9 γ.1 x) g k → γ.2 g = true → γ.2 k = true := fun g k h1 h2 => vlq g k (up g k h1) h2
    have d12 : γ.2 (P1 x) = true ↔ γ.2 (P2 x) = true := ⟨vlq _ _ p12, vlq _ _ (hE.2.1 _ _ p12)⟩
    have M := cl_mrg (V := V) (Q := fun g => γ.2 g = true) hF hr hn cV gp1 gp2 vlt d12
    by_cases c1 : γ.2 (P1 x) = true
    · rw [if_pos c1] at h
      have e := List.mem_singleton.mp h
      have e2 : δ.2 = γ.2 := congrArg (fun q => q.2.2) e
      refine base (fun g k h1 => ?_) (fun g hg => ?_) ?_
      · rw [st] at h1
        rw [e2]
        exact z3 g k (up g k h1)
      · rw [e2]
        exact z2 g hg
      · rw [e2]
        have B := M.1 c1
        omega
    · rw [if_neg c1] at h
      have two : ∀ a, G a → ¬ γ.2 a = true → δ.2 = (fun g => γ.2 g || dcb (rel (on9 γ.1 x) g a)) → Sg9 n V G rel k d (r + 1) δ := fun a ga na e2 => by
        have tr : ∀ g, δ.2 g = true ↔ γ.2 g = true ∨ rel (on9 γ.1 x) g a := fun g => by
          rw [e2]
          show (γ.2 g || dcb (rel (on9 γ.1 x) g a)) = true ↔ _
          rw [Bool.or_eq_true, dcb_t]
        have val : ∀ g k, rel (on9 γ.1 x) g k → δ.2 g = true → δ.2 k = true := fun g k h1 h2 => by
          rw [tr] at h2 ⊢
          rcases h2 with h2 | h2
          · exact Or.inl (vlt g k h1 h2)
          · exact Or.inr (hF.2.2 _ _ _ (hF.2.1 _ _ h1) h2)
        refine base (fun g k h1 => ?_) (fun g hg => ?_) ?_
        · rw [st] at h1
          exact bx ⟨val g k h1, val k g (hF.2.1 _ _ h1)⟩
        · rw [e2]
          show (γ.2 g || dcb (rel (on9 γ.1 x) g a)) = false
          rw [z2 g hg, outs g hg _ ga]
          rfl
        · have A := cl_add (V := V) (Q := fun g => γ.2 g = true) (Q' := fun g => δ.2 g = true) hF cV ga vlt na (fun g _ => tr g)
          have B := M.2 c1
          omega
      rcases List.mem_cons.mp h with e | e
      · exact two (P1 x) gp1 c1 (congrArg (fun q => q.2.2) e)
      · exact two (P2 x) gp2 (fun h9 => c1 (d12.mpr h9)) (congrArg (fun q => q.2.2) (List.mem_singleton.mp e))
/-- a generator is a monomial -/
theorem gn_mo (hC : cu9 n V G P1 P2 P3 rel) (z1 : ∀ y, n ≤ y → γ.1 y = false) (z2 : ∀ g, ¬ G g → γ.2 g = false) (z3 : vl9 rel γ) : ∃ T, mo9 rel γ.1 T = [(1, γ)] := by
  have hE := hC.1.1 γ.1
  have hT : ∃ T : List Nat, fe9 rel γ.1 T ∧ ∀ g, (∃ h, h ∈ T ∧ rel γ.1 g h) ↔ γ.2 g = true := by
    have key : ∀ k, ∃ T : List Nat, fe9 rel γ.1 T ∧ (∀ h, h ∈ T → h < k ∧ ld9 (rel γ.1) G h ∧ γ.2 h = true) ∧ ∀ h, h < k → ld9 (rel γ.1) G h → γ.2 h = true → h ∈ T := fun k => by
      induction k with
      | zero => exact ⟨[], List.Pairwise.nil, fun h h9 => absurd h9 List.not_mem_nil, fun h h9 => absurd h9 (Nat.not_lt_zero _)⟩
      | succ k ih =>
        obtain ⟨T, t1, t2, t3⟩ := ih
        by_cases c : ld9 (rel γ.1) G k ∧ γ.2 k = true
        · refine ⟨k :: T, List.pairwise_cons.mpr ⟨fun h hh h9 => ?_, t1⟩, fun h hh => ?_, fun h h1 h2 h3 => ?_⟩
          · have := t2 h hh
            have e := ld_un hE c.1 this.2.1 h9
            omega
          · rcases List.mem_cons.mp hh with e | e
            · rw [e]
              exact ⟨by omega, c⟩
            · have := t2 h e
              exact ⟨by omega, this.2⟩
          · by_cases e : h = k
            · rw [e]
              exact List.mem_cons_self
            · exact List.mem_cons_of_mem _ (t3 h (by omega) h2 h3)
        · refine ⟨T, t1, fun h hh => ?_, fun h h1 h2 h3 => ?_⟩
          · have := t2 h hh
            exact ⟨by omega, this.2⟩
          · by_cases e : h = k
            · rw [e] at h2 h3
              exact absurd ⟨h2, h3⟩ c
            · exact t3 h (by omega) h2 h3
    obtain ⟨T, t1, t2, t3⟩ := key V
    refine ⟨T, t1, fun g => ⟨fun ⟨h, h1, h2⟩ => ?_, fun hg => ?_⟩⟩
    · rw [z3 g h h2]
      exact (t2 h h1).2.2
    · have Gg : G g := by
        by_cases c : G g
        · exact c
        · rw [z2 g c] at hg
          cases hg
      obtain ⟨l, l1, l2, l3⟩ := ld_ex hE g Gg
      exact ⟨l, t3 l (hC.2.2.1 l l1.1) l1 (by rw [z3 l g l2]; exact hg), hE.2.1 _ _ l2⟩
  obtain ⟨T, t1, t2⟩ := hT
  refine ⟨T, ?_⟩
  rw [mo_y t1]
  have e : inm9 rel γ.1 T = γ.2 := funext (fun g => bx (in_t.trans (t2 g)))
  rw [e]
/-- the groups of a cube are a row -/
theorem cu_cg (hC : cu9 n V G P1 P2 P3 rel) : cg9 (Sg9 n V G rel k d) (D9 P1 P2 P3 rel n) := by
  refine ⟨fun r γ hγ δ hδ => ?_, fun r γ hγ δ => ?_⟩
  · obtain ⟨q, q1, q2⟩ := cf_mem hδ
    obtain ⟨y, y1, y2, -, c, y3⟩ := D_st q1
    rw [← q2]
    exact Dx_ok hC y1 hγ y2 y3
  · obtain ⟨T, hT⟩ := gn_mo hC hγ.1 hγ.2.1 hγ.2.2.1
    have e := D_mo hC.1 γ.1 T n (Nat.le_refl n)
    rw [hT] at e
    have e2 : eq9 (D9 P1 P2 P3 rel n γ) (mD9 P1 P2 P3 rel n γ.1 T) := eq_t (eq_s (bd_1 γ)) e
    rw [bd_q e2 δ]
    exact DD_0 hC.1 γ.1 T δ
end XCHH
end
section
/-! 99zzzzzzzzzzzzzzzzyn.xchc -/
-- CHAIN: lists of generators; other gaps
section XCHI
theorem en_li (P : gn9 → Prop) : ∀ L : List gn9, ∃ E N, en9 (fun γ => γ ∈ L ∧ P γ) E N
  | [] => ⟨fun _ => (fun _ => false, fun _ => false), 0, fun i j h => absurd h (Nat.not_lt_zero _), fun γ => ⟨fun h => absurd h.1 List.not_mem_nil, fun ⟨i, h, _⟩ => absurd h (Nat.not_lt_zero _)⟩⟩
  | a :: L => by
    obtain ⟨E, N, h1, h2⟩ := en_li P L
    by_cases c : P a ∧ ¬ a ∈ L
    · have lo : ∀ i, i < N → (fun i => if i < N then E i else a) i = E i := fun i hi => if_pos hi
      have hi : (fun i => if i < N then E i else a) N = a := if_neg (Nat.lt_irrefl N)
      refine ⟨fun i => if i < N then E i else a, N + 1, fun i j h3 h4 h5 => ?_, fun γ => ⟨fun h => ?_, fun ⟨i, h3, h4⟩ => ?_⟩⟩
      · by_cases ei : i < N
        · by_cases ej : j < N
          · rw [lo i ei, lo j ej] at h5
            exact h1 i j ei ej h5
          · rw [lo i ei, show j = N by omega, hi] at h5
            exact absurd ((h2 a).mpr ⟨i, ei, h5.symm⟩).1 c.2
        · by_cases ej : j < N
          · rw [lo j ej, show i = N by omega, hi] at h5
            exact absurd ((h2 a).mpr ⟨j, ej, h5⟩).1 c.2
          · omega
      · rcases List.mem_cons.mp h.1 with e | e
        · exact ⟨N, by omega, by rw [hi, e]⟩
        · obtain ⟨i, i1, i2⟩ := (h2 γ).mp ⟨e, h.2⟩
          exact ⟨i, by omega, by rw [lo i i1, i2]⟩
      · by_cases ei : i < N
        · rw [lo i ei] at h4
          have := (h2 γ).mpr ⟨i, ei, h4⟩
          exact ⟨List.mem_cons_of_mem _ this.1, this.2⟩
        · rw [show i = N by omega, hi] at h4
          rw [h4]
          exact ⟨List.mem_cons_self, c.1⟩
    · refine ⟨E, N, h1, fun γ => ⟨fun h => ?_, fun h => ?_⟩⟩
      · rcases List.mem_cons.mp h.1 with e | e
        · by_cases c2 : a ∈ L
          · exact (h2 γ).mp ⟨e ▸ c2, h.2⟩
          · exact absurd ⟨e ▸ h.2, c2⟩ c
        · exact (h2 γ).mp ⟨e, h.2⟩
      · have := (h2 γ).mpr h
        exact ⟨List.mem_cons_of_mem _ this.1, this.2⟩
def alF9 : Nat → List (Nat → Bool)
  | 0 => [fun _ => false]
  | n + 1 => alF9 n ++ (alF9 n).map (fun s => on9 s n)
theorem alF_in : ∀ {n : Nat} {s : Nat → Bool}, (∀ y, n ≤ y → s y = false) → s ∈ alF9 n
  | 0, s, h => by
    rw [show s = fun _ => false from funext (fun y => h y (Nat.zero_le y))]
    exact List.mem_singleton.mpr rfl
  | n + 1, s, h => by
    by_cases c : s n = true
    · refine List.mem_append.mpr (Or.inr (List.mem_map.mpr ⟨off9 s n, alF_in (fun y hy => ?_), on_off c⟩))
      by_cases e : y = n
      · rw [e, off_x]
      · rw [off_o e]
        exact h y (by omega)
    · refine List.mem_append.mpr (Or.inl (alF_in (fun y hy => ?_)))
      by_cases e : y = n
      · rw [e]
        cases h9 : s n
        · rfl
        · exact absurd h9 c
      · exact h y (by omega)
theorem en_ex {P : gn9 → Prop} {n V : Nat} (h : ∀ γ, P γ → (∀ y, n ≤ y → γ.1 y = false) ∧ ∀ g, V ≤ g → γ.2 g = false) : ∃ E N, en9 P E N := by
  obtain ⟨E, N, h1, h2⟩ := en_li P ((alF9 n).flatMap (fun s => (alF9 V).map (fun m => (s, m))))
  refine ⟨E, N, h1, fun γ => ⟨fun h9 => (h2 γ).mp ⟨?_, h9⟩, fun h9 => ((h2 γ).mpr h9).2⟩⟩
  obtain ⟨a, b⟩ := h γ h9
  exact List.mem_flatMap.mpr ⟨γ.1, alF_in a, List.mem_map.mpr ⟨γ.2, alF_in b, rfl⟩⟩
theorem cn_le : ∀ {V V' : Nat} {P P' : Nat → Prop} (f : Nat → Nat), (∀ i, i < V → P i → f i < V' ∧ P' (f i)) → (∀ i j, i < V → j < V → P i → P j → f i = f j → i = j) → cn9 P V ≤ cn9 P' V'
  | 0, V', P, P', f, _, _ => Nat.zero_le _
  | V + 1, V', P, P', f, h1, h2 => by
    by_cases c : P V
    · rw [cn_y c]
      obtain ⟨q1, q2⟩ := h1 V (by omega) c
      have e := cn_one (P := fun i => P' i ∧ i ≠ f V) (Q := P') (a := f V) q1 (fun h9 => h9.2 rfl) (fun i _ => by
        constructor
        · intro h9
          by_cases e : i = f V
          · exact Or.inr e
          · exact Or.inl ⟨h9, e⟩
        · rintro (h9 | h9)
          · exact h9.1
          · rw [h9]
            exact q2)
      have := cn_le (V := V) (V' := V') (P := P) (P' := fun i => P' i ∧ i ≠ f V) f (fun i hi hp => ⟨(h1 i (by omega) hp).1, (h1 i (by omega) hp).2, fun h9 => by
        have := h2 i V (by omega) (by omega) hp c h9
        omega⟩) (fun i j hi hj => h2 i j (by omega) (by omega))
      omega
    · rw [cn_n c]
      exact cn_le f (fun i hi => h1 i (by omega)) (fun i j hi hj => h2 i j (by omega) (by omega))
end XCHI
section XCHJ
variable {n V V' k : Nat} {G G' : Nat → Prop} {P1 P2 P3 P1' P2' P3' : Nat → Nat} {rel rel' : (Nat → Bool) → Nat → Nat → Prop} {d : Int} {p b : Int}
theorem Sg_en (hC : cu9 n V G P1 P2 P3 rel) : fi9 (Sg9 n V G rel k d) := fun r => en_ex (n := n) (V := V) (fun γ hγ => ⟨hγ.1, fun g hg => hγ.2.1 g (fun h9 => by
  have := hC.2.2.1 g h9
  omega)⟩)
/-- as many loops -/
theorem cls_ph {R R' : Nat → Nat → Prop} {Q Q' : Nat → Prop} {φ : Nat → Nat} (hR : eqv9 R) (hR' : eqv9 R') (hV : ∀ g, G g → g < V) (hV' : ∀ g, G' g → g < V') (h1 : ∀ g, G' g → G (φ g)) (h2 : ∀ g h, G' g → G' h → (R' g h ↔ R (φ g) (φ h))) (h3 : ∀ g, G g → ∃ g', G' g' ∧ R g (φ g')) (hQ : ∀ g h, R g h → (Q g ↔ Q h)) (hq : ∀ g, G' g → (Q' g ↔ Q (φ g))) : cls9 R G V Q = cls9 R' G' V' Q' := by
  refine Nat.le_antisymm ?_ ?_
  · -- to the least of the loop there
    have ch : ∀ g, ∃ l, G g → ld9 R' G' l ∧ R g (φ l) := fun g => by
      by_cases c : G g
      · obtain ⟨g', a1, a2⟩ := h3 g c
        obtain ⟨l, l1, l2, -⟩ := ld_ex hR' g' a1
        exact ⟨l, fun _ => ⟨l1, hR.2.2 _ _ _ a2 (hR.2.1 _ _ ((h2 l g' l1.1 a1).mp l2))⟩⟩
      · exact ⟨0, fun h9 => absurd h9 c⟩
    refine cn_le (fun g => (ch g).choose) (fun g _ hg => ?_) (fun g h _ _ hg hh e => ?_)
    · obtain ⟨l1, l2⟩ := (ch g).choose_spec hg.1.1
      exact ⟨hV' _ l1.1, l1, (hq _ l1.1).mpr ((hQ _ _ l2).mp hg.2)⟩
    · obtain ⟨l1, l2⟩ := (ch g).choose_spec hg.1.1
      obtain ⟨m1, m2⟩ := (ch h).choose_spec hh.1.1
      have e : (ch g).choose = (ch h).choose := e
      rw [e] at l2
      exact ld_un hR hg.1 hh.1 (hR.2.2 _ _ _ l2 (hR.2.1 _ _ m2))
  · have ch : ∀ g, ∃ l, G' g → ld9 R G l ∧ R l (φ g) := fun g => by
      by_cases c : G' g
      · obtain ⟨l, l1, l2, -⟩ := ld_ex hR (φ g) (h1 g c)
        exact ⟨l, fun _ => ⟨l1, l2⟩⟩
      · exact ⟨0, fun h9 => absurd h9 c⟩
    refine cn_le (fun g => (ch g).choose) (fun g _ hg => ?_) (fun g h _ _ hg hh e => ?_)
    · obtain ⟨l1, l2⟩ := (ch g).choose_spec hg.1.1
      exact ⟨hV _ l1.1, l1, (hQ _ _ l2).mpr ((hq _ hg.1.1).mp hg.2)⟩
    · obtain ⟨l1, l2⟩ := (ch g).choose_spec hg.1.1
      obtain ⟨m1, m2⟩ := (ch h).choose_spec hh.1.1
      have e : (ch g).choose = (ch h).choose := e
      rw [e] at l2
      exact ld_un hR' hg.1 hh.1 ((h2 g h hg.1.1 hh.1.1).mpr (hR.2.2 _ _ _ (hR.2.1 _ _ l2) m2))
/-- the gaps G' for the gaps G -/
def phi9 (n : Nat) (G G' : Nat → Prop) (P1 P2 P3 P1' P2' P3' : Nat → Nat) (rel rel' : (Nat → Bool) → Nat → Nat → Prop) (φ : Nat → Nat) : Prop := (∀ g, G' g → G (φ g)) ∧ ∀ s, (∀ y, n ≤ y → s y = false) → (∀ g h, G' g → G' h → (rel' s g h ↔ rel s (φ g) (φ h))) ∧ (∀ g, G g → ∃ g', G' g' ∧ rel s g (φ g')) ∧ ∀ x, x < n → rel s (P1 x) (φ (P1' x)) ∧ rel s (P2 x) (φ (P2' x)) ∧ rel s (P3 x) (φ (P3' x))
noncomputable def kph9 (G' : Nat → Prop) (φ : Nat → Nat) (γ : gn9) : gn9 := (γ.1, fun g => dcb (G' g) && γ.2 (φ g))
theorem ph_deg {φ : Nat → Nat} (hC : cu9 n V G P1 P2 P3 rel) (hC' : cu9 n V' G' P1' P2' P3' rel') (hφ : phi9 n G G' P1 P2 P3 P1' P2' P3' rel rel' φ) {γ γ' : gn9} (z1 : ∀ y, n ≤ y → γ.1 y = false) (z3 : vl9 rel γ) (e1 : γ'.1 = γ.1) (e2 : ∀ g, G' g → γ'.2 g = γ.2 (φ g)) : dg9 rel' G' V' n γ' = dg9 rel G V n γ := by
  obtain ⟨f1, f2⟩ := hφ
  obtain ⟨a1, a2, -⟩ := f2 γ.1 z1
  unfold dg9
  rw [e1, ← cls_ph (Q := fun _ => True) (Q' := fun _ => True) (hC.1.1 γ.1) (hC'.1.1 γ.1) hC.2.2.1 hC'.2.2.1 f1 a1 a2 (fun _ _ _ => Iff.rfl) (fun _ _ => Iff.rfl), ← cls_ph (Q := fun g => γ.2 g = true) (Q' := fun g => γ'.2 g = true) (hC.1.1 γ.1) (hC'.1.1 γ.1) hC.2.2.1 hC'.2.2.1 f1 a1 a2 (fun g h h9 => by rw [z3 g h h9]) (fun g hg => by rw [e2 g hg])]
theorem Dx_ph {φ : Nat → Nat} {x : Nat} (hC : cu9 n V G P1 P2 P3 rel) (hC' : cu9 n V' G' P1' P2' P3' rel') (hφ : phi9 n G G' P1 P2 P3 P1' P2' P3' rel rel' φ) {γ : gn9} (z1 : ∀ y, n ≤ y → γ.1 y = false) (z3 : vl9 rel γ) (hx : x < n) (hs : γ.1 x = false) : Dx9 P1' P2' P3' rel' x (kph9 G' φ γ) = (Dx9 P1 P2 P3 rel x γ).map (fun q => (q.1, kph9 G' φ q.2)) := by
  obtain ⟨f1, f2⟩ := hφ
  obtain ⟨a1, a2, a3⟩ := f2 γ.1 z1
  obtain ⟨b1, b2, b3⟩ := f2 (on9 γ.1 x) (on_z hx z1)
  obtain ⟨g1, g2, g3⟩ := hC'.2.2.2 x hx
  have hE := hC.1.1 γ.1
  have hF := hC.1.1 (on9 γ.1 x)
  obtain ⟨u1, u2, u3⟩ := a3 x hx
  obtain ⟨v1, v2, v3⟩ := b3 x hx
  have m1 : ∀ a, G' a → (kph9 G' φ γ).2 a = γ.2 (φ a) := fun a ha => by
    show (dcb (G' a) && γ.2 (φ a)) = _
    rw [dcb_t.mpr ha, Bool.true_and]
  have e1 : (kph9 G' φ γ).2 (P1' x) = γ.2 (P1 x) := by rw [m1 _ g1, z3 _ _ u1]
  have e3 : (kph9 G' φ γ).2 (P3' x) = γ.2 (P3 x) := by rw [m1 _ g3, z3 _ _ u3]
  have c0 : dcb (rel' (kph9 G' φ γ).1 (P1' x) (P3' x)) = dcb (rel γ.1 (P1 x) (P3 x)) := dcb_c ((a1 _ _ g1 g3).trans ⟨fun h => hE.2.2 _ _ _ u1 (hE.2.2 _ _ _ h (hE.2.1 _ _ u3)), fun h => hE.2.2 _ _ _ (hE.2.1 _ _ u1) (hE.2.2 _ _ _ h u3)⟩)
  -- one term
  have tm : ∀ (B : Bool) (a a' : Nat), G' a' → rel (on9 γ.1 x) a (φ a') → ((on9 γ.1 x, fun g => (kph9 G' φ γ).2 g || (B && dcb (rel' (on9 γ.1 x) g a'))) : gn9) = kph9 G' φ (on9 γ.1 x, fun g => γ.2 g || (B && dcb (rel (on9 γ.1 x) g a))) := fun B a a' ga r => by
    refine Prod.ext rfl (funext (fun g => ?_))
    show ((dcb (G' g) && γ.2 (φ g)) || (B && dcb (rel' (on9 γ.1 x) g a'))) = (dcb (G' g) && (γ.2 (φ g) || (B && dcb (rel (on9 γ.1 x) (φ g) a))))
    by_cases c : G' g
    · have q : dcb (rel' (on9 γ.1 x) g a') = dcb (rel (on9 γ.1 x) (φ g) a) := dcb_c ((b1 g a' c ga).trans ⟨fun h => hF.2.2 _ _ _ h (hF.2.1 _ _ r), fun h => hF.2.2 _ _ _ h r⟩)
      rw [q, dcb_t.mpr c, Bool.true_and, Bool.true_and]
    · have q : dcb (rel' (on9 γ.1 x) g a') = false := dcb_f.mpr (fun h => c (hC'.2.1 _ (on_z hx z1) g a' h (fun h8 => c (h8 ▸ ga))).1)
      rw [q, dcb_f.mpr c, Bool.and_false]
      rfl
  unfold Dx9
  rw [c0]
  by_cases cc : dcb (rel γ.1 (P1 x) (P3 x)) = true
  · rw [if_pos cc, if_pos cc, e1]
    by_cases c1 : γ.2 (P1 x) = true
    · rw [if_pos c1, if_pos c1]
      rfl
    · rw [if_neg c1, if_neg c1]
      have t1 := tm true (P1 x) (P1' x) g1 v1
      have t2 := tm true (P2 x) (P2' x) g2 v2
      show [((1 : Int), ((on9 γ.1 x, fun g => (kph9 G' φ γ).2 g || (true && dcb (rel' (on9 γ.1 x) g (P1' x)))) : gn9)), (1, (on9 γ.1 x, fun g => (kph9 G' φ γ).2 g || (true && dcb (rel' (on9 γ.1 x) g (P2' x)))))] = _
      rw [t1, t2]
      rfl
  · rw [if_neg cc, if_neg cc, e1, e3]
    by_cases c1 : γ.2 (P1 x) = true ∧ γ.2 (P3 x) = true
    · rw [if_pos c1, if_pos c1]
      rfl
    · rw [if_neg c1, if_neg c1]
      have t1 := tm (γ.2 (P1 x) || γ.2 (P3 x)) (P1 x) (P1' x) g1 v1
      show [((1 : Int), ((on9 γ.1 x, fun g => (kph9 G' φ γ).2 g || ((γ.2 (P1 x) || γ.2 (P3 x)) && dcb (rel' (on9 γ.1 x) g (P1' x)))) : gn9))] = _
      rw [t1]
      rfl
theorem D_ph {φ : Nat → Nat} (hC : cu9 n V G P1 P2 P3 rel) (hC' : cu9 n V' G' P1' P2' P3' rel') (hφ : phi9 n G G' P1 P2 P3 P1' P2' P3' rel rel' φ) {γ : gn9} (z1 : ∀ y, n ≤ y → γ.1 y = false) (z3 : vl9 rel γ) : ∀ {k : Nat}, k ≤ n → D9 P1' P2' P3' rel' k (kph9 G' φ γ) = (D9 P1 P2 P3 rel k γ).map (fun q => (q.1, kph9 G' φ q.2))
  | 0, _ => rfl
  | k + 1, h => by
    show D9 P1' P2' P3' rel' k (kph9 G' φ γ) ++ (if γ.1 k = true then [] else scf9 (par9 γ.1 k) (Dx9 P1' P2' P3' rel' k (kph9 G' φ γ))) = (D9 P1 P2 P3 rel k γ ++ (if γ.1 k = true then [] else scf9 (par9 γ.1 k) (Dx9 P1 P2 P3 rel k γ))).map _
    rw [D_ph hC hC' hφ z1 z3 (k := k) (by omega), List.map_append]
    congr 1
    by_cases c : γ.1 k = true
    · rw [if_pos c, if_pos c]
      rfl
    · have c0 : γ.1 k = false := by
        cases h9 : γ.1 k
        · rfl
        · exact absurd h9 c
      rw [if_neg c, if_neg c, Dx_ph hC hC' hφ z1 z3 (by omega) c0]
      unfold scf9
      rw [List.map_map, List.map_map]
      rfl
/-- other gaps, the same number -/
theorem be_ph {φ : Nat → Nat} {r : Nat} (hp : pr9 p) (hi : iv9 p) (hC : cu9 n V G P1 P2 P3 rel) (hC' : cu9 n V' G' P1' P2' P3' rel') (hφ : phi9 n G G' P1 P2 P3 P1' P2' P3' rel rel' φ) (hb : be9 p (Sg9 n V G rel k d) (D9 P1 P2 P3 rel n) r b) : be9 p (Sg9 n V' G' rel' k d) (D9 P1' P2' P3' rel' n) r b := by
  obtain ⟨E', N', he'⟩ := fi_en (Sg_en (k := k) (d := d) hC')
  refine ⟨E', N', he', ?_⟩
  have ch : ∀ (s : Nat → Bool) g, ∃ g', (∀ y, n ≤ y → s y = false) → G g → G' g' ∧ rel s g (φ g') := fun s g => by
    by_cases c : (∀ y, n ≤ y → s y = false) ∧ G g
    · obtain ⟨g', h⟩ := (hφ.2 s c.1).2.1 g c.2
      exact ⟨g', fun _ _ => h⟩
    · exact ⟨0, fun h1 h2 => absurd ⟨h1, h2⟩ c⟩
  have pr : ∀ γ : gn9, (∀ y, n ≤ y → γ.1 y = false) → (∀ g, ¬ G' g → γ.2 g = false) → vl9 rel' γ → vl9 rel (γ.1, fun g => dcb (G g) && γ.2 (ch γ.1 g).choose) ∧ ∀ g, G' g → (dcb (G (φ g)) && γ.2 (ch γ.1 (φ g)).choose) = γ.2 g := fun γ z1 z2 z3 => by
    have hE := hC.1.1 γ.1
    obtain ⟨a1, -, -⟩ := hφ.2 γ.1 z1
    refine ⟨fun g h h1 => ?_, fun g hg => ?_⟩
    · show (dcb (G g) && γ.2 (ch γ.1 g).choose) = (dcb (G h) && γ.2 (ch γ.1 h).choose)
      have h1 : rel γ.1 g h := h1
      by_cases e : g = h
      · rw [e]
      · obtain ⟨q1, q2⟩ := hC.2.1 _ z1 g h h1 e
        rw [dcb_t.mpr q1, dcb_t.mpr q2]
        obtain ⟨w1, w2⟩ := (ch γ.1 g).choose_spec z1 q1
        obtain ⟨w3, w4⟩ := (ch γ.1 h).choose_spec z1 q2
        rw [z3 _ _ ((a1 _ _ w1 w3).mpr (hE.2.2 _ _ _ (hE.2.1 _ _ w2) (hE.2.2 _ _ _ h1 w4)))]
    · have q1 := hφ.1 g hg
      obtain ⟨w1, w2⟩ := (ch γ.1 (φ g)).choose_spec z1 q1
      rw [dcb_t.mpr q1, Bool.true_and]
      exact (z3 _ _ ((a1 _ _ hg w1).mpr w2)).symm
  refine isoT hp hi (cu_cg hC) (cu_cg hC') (kph9 G' φ) (fun γ => (γ.1, fun g => dcb (G g) && γ.2 (ch γ.1 g).choose)) (fun _ => 1) (fun _ => rfl) (fun r γ hγ => ?_) (fun r γ hγ => ?_) (fun r γ hγ => ?_) r hb he'
  · obtain ⟨z1, z2, z3, z4, z5⟩ := hγ
    obtain ⟨a1, -, -⟩ := hφ.2 γ.1 z1
    refine ⟨⟨z1, fun g hg => ?_, fun g h h1 => ?_, z4, ?_⟩, Prod.ext rfl (funext (fun g => ?_))⟩
    · show (dcb (G' g) && γ.2 (φ g)) = false
      rw [dcb_f.mpr hg]
      rfl
    · show (dcb (G' g) && γ.2 (φ g)) = (dcb (G' h) && γ.2 (φ h))
      have h1 : rel' γ.1 g h := h1
      by_cases e : g = h
      · rw [e]
      · obtain ⟨q1, q2⟩ := hC'.2.1 _ z1 g h h1 e
        rw [dcb_t.mpr q1, dcb_t.mpr q2, z3 _ _ ((a1 g h q1 q2).mp h1)]
    · rw [← z5]
      exact ph_deg hC hC' hφ z1 z3 rfl (fun g hg => by
        show (dcb (G' g) && γ.2 (φ g)) = _
        rw [dcb_t.mpr hg, Bool.true_and])
    · show (dcb (G g) && (dcb (G' (ch γ.1 g).choose) && γ.2 (φ (ch γ.1 g).choose))) = γ.2 g
      by_cases c : G g
      · obtain ⟨w1, w2⟩ := (ch γ.1 g).choose_spec z1 c
        rw [dcb_t.mpr c, dcb_t.mpr w1, Bool.true_and, Bool.true_and]
        exact (z3 _ _ w2).symm
      · rw [dcb_f.mpr c, z2 g c]
        rfl
  · obtain ⟨z1, z2, z3, z4, z5⟩ := hγ
    obtain ⟨t1, t2⟩ := pr γ z1 z2 z3
    refine ⟨⟨z1, fun g hg => ?_, t1, z4, ?_⟩, Prod.ext rfl (funext (fun g => ?_))⟩
    · show (dcb (G g) && γ.2 (ch γ.1 g).choose) = false
      rw [dcb_f.mpr hg]
      rfl
    · rw [← z5]
      exact (ph_deg hC hC' hφ (γ := (γ.1, fun g => dcb (G g) && γ.2 (ch γ.1 g).choose)) (γ' := γ) z1 t1 rfl (fun g hg => (t2 g hg).symm)).symm
    · show (dcb (G' g) && (dcb (G (φ g)) && γ.2 (ch γ.1 (φ g)).choose)) = γ.2 g
      by_cases c : G' g
      · rw [dcb_t.mpr c, Bool.true_and]
        exact t2 g c
      · rw [dcb_f.mpr c, z2 g c]
        rfl
  · obtain ⟨z1, z2, z3, z4, z5⟩ := hγ
    rw [D_ph hC hC' hφ z1 z3 (Nat.le_refl n)]
    exact eq_t (bd_map (c := 1) (κ := kph9 G' φ) (fun q _ => rfl)) eq_r
end XCHJ
end
section
/-! 99zzzzzzzzzzzzzzzzyo.xchd -/
-- CHAIN: other numbers of crossings
def tau9 (x y : Nat) : Nat := if y = x then x + 1 else if y = x + 1 then x else y
def swp9 (x m y : Nat) : Nat := if y = x then m else if y = m then x else y
def sgb9 (b : Bool) : Int := if b = true then -1 else 1
section XCHK
variable {n V k x : Nat} {G : Nat → Prop} {P1 P2 P3 : Nat → Nat} {rel : (Nat → Bool) → Nat → Nat → Prop} {d : Int} {p b : Int} {γ : gn9} {s : Nat → Bool}
theorem tau_1 : tau9 x x = x + 1 := if_pos rfl
theorem tau_2 : tau9 x (x + 1) = x := (if_neg (by omega)).trans (if_pos rfl)
theorem tau_3 {y : Nat} (h1 : y ≠ x) (h2 : y ≠ x + 1) : tau9 x y = y := (if_neg h1).trans (if_neg h2)
theorem tau_i (x y : Nat) : tau9 x (tau9 x y) = y := by
  by_cases c : y = x
  · rw [c, tau_1, tau_2]
  · by_cases c2 : y = x + 1
    · rw [c2, tau_2, tau_1]
    · rw [tau_3 c c2, tau_3 c c2]
theorem tau_lt {y : Nat} (hx : x + 1 < n) (hy : y < n) : tau9 x y < n := by
  by_cases c : y = x
  · rw [c, tau_1]
    exact hx
  · by_cases c2 : y = x + 1
    · rw [c2, tau_2]
      omega
    · rw [tau_3 c c2]
      exact hy
theorem tau_ge {y : Nat} (hx : x + 1 < n) (hy : n ≤ y) : tau9 x y = y := tau_3 (by omega) (by omega)
theorem on_tau (s : Nat → Bool) (x y : Nat) : (fun z => on9 s y (tau9 x z)) = on9 (fun z => s (tau9 x z)) (tau9 x y) := funext (fun z => by
  by_cases c : z = tau9 x y
  · rw [c, on_x, tau_i, on_x]
  · rw [on_o c, on_o (fun h9 => c (by rw [← h9, tau_i]))])
theorem tau_tau (s : Nat → Bool) : (fun z => (fun w => s (tau9 x w)) (tau9 x z)) = s := funext (fun z => congrArg s (tau_i x z))
theorem sN_tau {f : Nat → Int} : ∀ {n : Nat}, x + 1 < n → sN9 (fun y => f (tau9 x y)) n = sN9 f n
  | 0, h => absurd h (Nat.not_lt_zero _)
  | n + 1, h => by
    show sN9 (fun y => f (tau9 x y)) n + f (tau9 x n) = sN9 f n + f n
    by_cases c : x + 1 = n
    · rw [← c, tau_2]
      show sN9 (fun y => f (tau9 x y)) x + f (tau9 x x) + f x = sN9 f x + f x + f (x + 1)
      rw [tau_1, sN_cg (f := fun y => f (tau9 x y)) (g := f) (fun i hi => congrArg f (tau_3 (by omega) (by omega)))]
      omega
    · rw [sN_tau (n := n) (by omega), tau_3 (by omega) (by omega)]
theorem sN_mulc {f : Nat → Int} (c : Int) : ∀ {n : Nat}, sN9 (fun i => c * f i) n = c * sN9 f n
  | 0 => (Int.mul_zero c).symm
  | n + 1 => by
    show sN9 (fun i => c * f i) n + c * f n = c * (sN9 f n + f n)
    rw [sN_mulc, Int.mul_add]
theorem smf_D (φ : gn9 → Int) : ∀ n, smf9 φ (D9 P1 P2 P3 rel n γ) = sN9 (fun y => if γ.1 y = true then 0 else par9 γ.1 y * smf9 φ (Dx9 P1 P2 P3 rel y γ)) n
  | 0 => rfl
  | n + 1 => by
    show smf9 φ (D9 P1 P2 P3 rel n γ ++ (if γ.1 n = true then [] else scf9 (par9 γ.1 n) (Dx9 P1 P2 P3 rel n γ))) = sN9 _ n + (if γ.1 n = true then 0 else par9 γ.1 n * smf9 φ (Dx9 P1 P2 P3 rel n γ))
    rw [sm_a, smf_D φ n]
    by_cases c : γ.1 n = true
    · rw [if_pos c, if_pos c]
      rfl
    · rw [if_neg c, if_neg c, sm_sc]
theorem par_s (s : Nat → Bool) (y : Nat) : par9 s (y + 1) = par9 s y * sgb9 (s y) := by
  show (if s y = true then -par9 s y else par9 s y) = par9 s y * (if s y = true then -1 else 1)
  by_cases c : s y = true
  · rw [if_pos c, if_pos c]
    omega
  · rw [if_neg c, if_neg c]
    omega
theorem par_cg {t : Nat → Bool} : ∀ {y : Nat}, (∀ z, z < y → s z = t z) → par9 s y = par9 t y
  | 0, _ => rfl
  | y + 1, h => by rw [par_s, par_s, par_cg (fun z hz => h z (by omega)), h y (by omega)]
theorem par_t1 {y : Nat} (h : y ≤ x) : par9 (fun z => s (tau9 x z)) y = par9 s y := par_cg (fun z hz => congrArg s (tau_3 (by omega) (by omega)))
theorem par_t2 : par9 (fun z => s (tau9 x z)) (x + 1) = par9 s x * sgb9 (s (x + 1)) := by
  rw [par_s, par_t1 (Nat.le_refl x), tau_1]
theorem par_t3 : ∀ {y : Nat}, x + 2 ≤ y → par9 (fun z => s (tau9 x z)) y = par9 s y
  | 0, h => by omega
  | y + 1, h => by
    by_cases c : y = x + 1
    · rw [c, par_s, par_t2, tau_2, par_s, par_s, Int.mul_assoc, Int.mul_assoc, Int.mul_comm (sgb9 (s (x + 1)))]
    · rw [par_s, par_s, par_t3 (by omega), tau_3 (by omega) (by omega)]
theorem ons_s (s : Nat → Bool) (y : Nat) : ons9 s (y + 1) = ons9 s y + if s y = true then 1 else 0 := rfl
theorem ons_cg {t : Nat → Bool} : ∀ {y : Nat}, (∀ z, z < y → s z = t z) → ons9 s y = ons9 t y
  | 0, _ => rfl
  | y + 1, h => by rw [ons_s, ons_s, ons_cg (fun z hz => h z (by omega)), h y (by omega)]
theorem ons_t : ∀ {y : Nat}, x + 2 ≤ y → ons9 (fun z => s (tau9 x z)) y = ons9 s y
  | 0, h => by omega
  | y + 1, h => by
    by_cases c : y = x + 1
    · rw [c, ons_s, ons_s, ons_s, ons_s, tau_1, tau_2, ons_cg (t := s) (fun z hz => congrArg s (tau_3 (by omega) (by omega)))]
      omega
    · rw [ons_s, ons_s, ons_t (by omega), tau_3 (by omega) (by omega)]
/-- the sign of a state when x and x + 1 are exchanged -/
def eps9 (x : Nat) (γ : gn9) : Int := if γ.1 x = true ∧ γ.1 (x + 1) = true then -1 else 1
theorem eps_par {y : Nat} (hs : s y = false) (m m' : Nat → Bool) : par9 s y * eps9 x (on9 s y, m) = eps9 x (s, m') * par9 (fun z => s (tau9 x z)) (tau9 x y) := by
  have e0 : ∀ t m, eps9 x (t, m) = if t x = true ∧ t (x + 1) = true then -1 else 1 := fun _ _ => rfl
  rw [e0, e0]
  by_cases c : y = x
  · rw [c] at hs ⊢
    rw [tau_1, par_t2, on_x, on_o (by omega), hs, if_neg (show ¬ (false = true ∧ s (x + 1) = true) from fun h9 => by cases h9.1), Int.one_mul]
    unfold sgb9
    by_cases c2 : s (x + 1) = true
    · rw [if_pos ⟨rfl, c2⟩, if_pos c2]
    · rw [if_neg (fun h9 => c2 h9.2), if_neg c2]
  · by_cases c2 : y = x + 1
    · rw [c2] at hs ⊢
      rw [tau_2, par_t1 (Nat.le_refl x), on_x, on_o (by omega), hs, if_neg (show ¬ (s x = true ∧ false = true) from fun h9 => by cases h9.2), Int.one_mul, par_s]
      unfold sgb9
      by_cases c3 : s x = true
      · rw [if_pos c3, if_pos ⟨c3, rfl⟩]
        omega
      · rw [if_neg c3, if_neg (fun h9 => c3 h9.1)]
        omega
    · rw [tau_3 c c2, on_o (fun h9 => c h9.symm), on_o (fun h9 => c2 h9.symm), Int.mul_comm]
      congr 1
      rcases Nat.lt_or_ge y x with h | h
      · exact (par_t1 (by omega)).symm
      · exact (par_t3 (by omega)).symm
theorem tau_cu (hx : x + 1 < n) (hC : cu9 n V G P1 P2 P3 rel) : cu9 n V G (fun y => P1 (tau9 x y)) (fun y => P2 (tau9 x y)) (fun y => P3 (tau9 x y)) (fun s => rel (fun z => s (tau9 x z))) := by
  refine ⟨⟨fun s => hC.1.1 _, fun s y hy hs => ?_⟩, fun s hz => hC.2.1 _ (fun y hy => ?_), hC.2.2.1, fun y hy => hC.2.2.2 _ (tau_lt hx hy)⟩
  · have := hC.1.2 (fun z => s (tau9 x z)) (tau9 x y) (tau_lt hx hy) (by show s (tau9 x (tau9 x y)) = false; rw [tau_i]; exact hs)
    rw [← on_tau] at this
    exact this
  · show s (tau9 x y) = false
    rw [tau_ge hx hy]
    exact hz y hy
noncomputable def dxv9 (R R' : Nat → Nat → Prop) (a b c : Nat) (t m : Nat → Bool) : fc9 := if dcb (R a c) = true then (if m a = true then [(1, (t, m))] else [(1, (t, fun g => m g || dcb (R' g a))), (1, (t, fun g => m g || dcb (R' g b)))]) else (if m a = true ∧ m c = true then [] else [(1, (t, fun g => m g || ((m a || m c) && dcb (R' g a))))])
theorem Dx_tau (y : Nat) : Dx9 (fun y => P1 (tau9 x y)) (fun y => P2 (tau9 x y)) (fun y => P3 (tau9 x y)) (fun s => rel (fun z => s (tau9 x z))) (tau9 x y) ((fun z => γ.1 (tau9 x z)), γ.2) = (Dx9 P1 P2 P3 rel y γ).map (fun q => (q.1, ((fun z => q.2.1 (tau9 x z)), q.2.2))) := by
  have e1 : rel (fun z => (fun z => γ.1 (tau9 x z)) (tau9 x z)) = rel γ.1 := congrArg rel (tau_tau γ.1)
  have e2 : on9 (fun z => γ.1 (tau9 x z)) (tau9 x y) = fun z => on9 γ.1 y (tau9 x z) := (on_tau γ.1 x y).symm
  have e3 : rel (fun z => (fun z => on9 γ.1 y (tau9 x z)) (tau9 x z)) = rel (on9 γ.1 y) := congrArg rel (tau_tau (on9 γ.1 y))
  show dxv9 (rel (fun z => (fun z => γ.1 (tau9 x z)) (tau9 x z))) (rel (fun z => on9 (fun z => γ.1 (tau9 x z)) (tau9 x y) (tau9 x z))) (P1 (tau9 x (tau9 x y))) (P2 (tau9 x (tau9 x y))) (P3 (tau9 x (tau9 x y))) (on9 (fun z => γ.1 (tau9 x z)) (tau9 x y)) γ.2 = (dxv9 (rel γ.1) (rel (on9 γ.1 y)) (P1 y) (P2 y) (P3 y) (on9 γ.1 y) γ.2).map _
  rw [e1, e2, tau_i]
  show dxv9 (rel γ.1) (rel (fun z => (fun z => on9 γ.1 y (tau9 x z)) (tau9 x z))) (P1 y) (P2 y) (P3 y) (fun z => on9 γ.1 y (tau9 x z)) γ.2 = (dxv9 (rel γ.1) (rel (on9 γ.1 y)) (P1 y) (P2 y) (P3 y) (on9 γ.1 y) γ.2).map _
  rw [e3]
  unfold dxv9
  split
  · split <;> rfl
  · split <;> rfl
theorem be_tau {r : Nat} (hp : pr9 p) (hi : iv9 p) (hx : x + 1 < n) (hC : cu9 n V G P1 P2 P3 rel) (hb : be9 p (Sg9 n V G rel k d) (D9 P1 P2 P3 rel n) r b) : be9 p (Sg9 n V G (fun s => rel (fun z => s (tau9 x z))) k d) (D9 (fun y => P1 (tau9 x y)) (fun y => P2 (tau9 x y)) (fun y => P3 (tau9 x y)) (fun s => rel (fun z => s (tau9 x z))) n) r b := by
  have hC' := tau_cu hx hC
  obtain ⟨E', N', he'⟩ := fi_en (Sg_en (k := k) (d := d) hC')
  refine ⟨E', N', he', ?_⟩
  have inv : ∀ γ : gn9, (((fun z => (fun w => γ.1 (tau9 x w)) (tau9 x z)), γ.2) : gn9) = γ := fun γ => Prod.ext (tau_tau γ.1) rfl
  refine isoT hp hi (cu_cg hC) (cu_cg hC') (fun γ => ((fun z => γ.1 (tau9 x z)), γ.2)) (fun γ => ((fun z => γ.1 (tau9 x z)), γ.2)) (eps9 x) (fun γ => ?_) (fun r γ hγ => ⟨?_, inv γ⟩) (fun r γ hγ => ⟨?_, inv γ⟩) (fun r γ hγ δ => ?_) r hb he'
  · unfold eps9
    split <;> rfl
  · obtain ⟨z1, z2, z3, z4, z5⟩ := hγ
    have e1 : rel (fun z => (fun z => γ.1 (tau9 x z)) (tau9 x z)) = rel γ.1 := congrArg rel (tau_tau γ.1)
    refine ⟨fun y hy => ?_, z2, fun g h h1 => ?_, ?_, ?_⟩
    · show γ.1 (tau9 x y) = false
      rw [tau_ge hx hy]
      exact z1 y hy
    · have h1 : rel (fun z => (fun z => γ.1 (tau9 x z)) (tau9 x z)) g h := h1
      rw [e1] at h1
      exact z3 g h h1
    · show ons9 (fun z => γ.1 (tau9 x z)) n + k = r
      rw [ons_t (by omega)]
      exact z4
    · show (cls9 (rel (fun z => (fun z => γ.1 (tau9 x z)) (tau9 x z))) G V (fun _ => True) : Int) - 2 * cls9 (rel (fun z => (fun z => γ.1 (tau9 x z)) (tau9 x z))) G V (fun g => γ.2 g = true) + ons9 (fun z => γ.1 (tau9 x z)) n = d
      rw [e1, ons_t (by omega)]
      exact z5
  · obtain ⟨z1, z2, z3, z4, z5⟩ := hγ
    refine ⟨fun y hy => ?_, z2, fun g h h1 => z3 g h h1, ?_, ?_⟩
    · show γ.1 (tau9 x y) = false
      rw [tau_ge hx hy]
      exact z1 y hy
    · show ons9 (fun z => γ.1 (tau9 x z)) n + k = r
      rw [ons_t (by omega)]
      exact z4
    · show (cls9 (rel (fun z => γ.1 (tau9 x z))) G V (fun _ => True) : Int) - 2 * cls9 (rel (fun z => γ.1 (tau9 x z))) G V (fun g => γ.2 g = true) + ons9 (fun z => γ.1 (tau9 x z)) n = d
      rw [ons_t (by omega)]
      exact z5
  · rw [cf_bd, smf_D, cf_sc]
    have e2 : cf9 (D9 (fun y => P1 (tau9 x y)) (fun y => P2 (tau9 x y)) (fun y => P3 (tau9 x y)) (fun s => rel (fun z => s (tau9 x z))) n ((fun z => γ.1 (tau9 x z)), γ.2)) δ = sN9 (fun y => if γ.1 (tau9 x y) = true then 0 else par9 (fun z => γ.1 (tau9 x z)) y * cf9 (Dx9 (fun y => P1 (tau9 x y)) (fun y => P2 (tau9 x y)) (fun y => P3 (tau9 x y)) (fun s => rel (fun z => s (tau9 x z))) y ((fun z => γ.1 (tau9 x z)), γ.2)) δ) n := smf_D (id9 δ) n
    rw [e2]
    refine Eq.trans ?_ (congrArg (fun t => eps9 x γ * t) (sN_tau hx))
    rw [← sN_mulc]
    refine sN_cg (fun y hy => ?_)
    show (if γ.1 y = true then 0 else _) = eps9 x γ * (if γ.1 (tau9 x (tau9 x y)) = true then 0 else _)
    rw [tau_i]
    by_cases c : γ.1 y = true
    · rw [if_pos c, if_pos c, Int.mul_zero]
    · have c0 : γ.1 y = false := by
        cases h9 : γ.1 y
        · rfl
        · exact absurd h9 c
      rw [if_neg c, if_neg c, Dx_tau]
      have e3 : ∀ l : fc9, (∀ q, q ∈ l → q.2.1 = on9 γ.1 y) → smf9 (fun ε => cf9 [(eps9 x ε, ((fun z => ε.1 (tau9 x z)), ε.2))] δ) l = eps9 x (on9 γ.1 y, γ.2) * cf9 (l.map (fun q => (q.1, ((fun z => q.2.1 (tau9 x z)), q.2.2)))) δ := fun l hl => by
        induction l with
        | nil => exact (Int.mul_zero _).symm
        | cons q l ih =>
          show q.1 * cf9 [(eps9 x q.2, ((fun z => q.2.1 (tau9 x z)), q.2.2))] δ + smf9 _ l = eps9 x (on9 γ.1 y, γ.2) * (q.1 * id9 δ ((fun z => q.2.1 (tau9 x z)), q.2.2) + cf9 (l.map (fun q => (q.1, ((fun z => q.2.1 (tau9 x z)), q.2.2)))) δ)
          rw [ih (fun t ht => hl t (List.mem_cons_of_mem _ ht)), cf_1, Int.mul_add]
          have e4 : eps9 x q.2 = eps9 x (on9 γ.1 y, γ.2) := by
            unfold eps9
            rw [hl q List.mem_cons_self]
          rw [e4, ← Int.mul_assoc, ← Int.mul_assoc, Int.mul_comm q.1]
      rw [e3 _ (fun q hq => Dx_st hq), ← Int.mul_assoc, ← Int.mul_assoc, eps_par c0 γ.2 γ.2]
end XCHK
end
section
/-! 99zzzzzzzzzzzzzzzzyp.xche -/
-- CHAIN: crossings exchanged; the other end first; a loop that goes (type A), in some states only
def rlk9 (n : Nat) (α β : Nat → Nat) : Prop := ∀ (V k r : Nat) (G : Nat → Prop) (P1 P2 P3 : Nat → Nat) (rel : (Nat → Bool) → Nat → Nat → Prop) (d p b : Int), pr9 p → iv9 p → cu9 n V G P1 P2 P3 rel → be9 p (Sg9 n V G rel k d) (D9 P1 P2 P3 rel n) r b → cu9 n V G (fun y => P1 (β y)) (fun y => P2 (β y)) (fun y => P3 (β y)) (fun s => rel (fun z => s (α z))) ∧ be9 p (Sg9 n V G (fun s => rel (fun z => s (α z))) k d) (D9 (fun y => P1 (β y)) (fun y => P2 (β y)) (fun y => P3 (β y)) (fun s => rel (fun z => s (α z))) n) r b
theorem rl_tau {n x : Nat} (hx : x + 1 < n) : rlk9 n (tau9 x) (tau9 x) := fun V k r G P1 P2 P3 rel d p b hp hi hC hb => ⟨tau_cu hx hC, be_tau hp hi hx hC hb⟩
theorem rl_cmp {n : Nat} {α β α' β' : Nat → Nat} (h1 : rlk9 n α β) (h2 : rlk9 n α' β') : rlk9 n (fun z => α' (α z)) (fun y => β (β' y)) := fun V k r G P1 P2 P3 rel d p b hp hi hC hb => by
  obtain ⟨a1, a2⟩ := h1 V k r G P1 P2 P3 rel d p b hp hi hC hb
  exact h2 V k r G _ _ _ _ d p b hp hi a1 a2
theorem rl_swp {n x : Nat} : ∀ j, x + j + 1 < n → rlk9 n (swp9 x (x + j + 1)) (swp9 x (x + j + 1))
  | 0, h => by
    have e : swp9 x (x + 0 + 1) = tau9 x := rfl
    rw [e]
    exact rl_tau h
  | j + 1, h => by
    have e : swp9 x (x + (j + 1) + 1) = fun z => tau9 (x + j + 1) (swp9 x (x + j + 1) (tau9 (x + j + 1) z)) := funext (fun z => by
      unfold swp9 tau9
      repeat' split
      all_goals omega)
    rw [e]
    have t := rl_tau (n := n) (x := x + j + 1) h
    have u := rl_swp (n := n) (x := x) j (by omega)
    have v := rl_cmp t u
    exact rl_cmp (α := fun z => swp9 x (x + j + 1) (tau9 (x + j + 1) z)) (β := fun y => tau9 (x + j + 1) (swp9 x (x + j + 1) y)) (α' := tau9 (x + j + 1)) (β' := tau9 (x + j + 1)) v t
theorem rl_sw {n x m : Nat} (h1 : x < m) (h2 : m < n) : rlk9 n (swp9 x m) (swp9 x m) := by
  have := rl_swp (n := n) (x := x) (m - x - 1) (by omega)
  rw [show x + (m - x - 1) + 1 = m by omega] at this
  exact this
section XCHL
variable {p b : Int} {S : Nat → gn9 → Prop} {D D' : gn9 → fc9}
theorem rwl_cg {d d' : Nat → vc9} : ∀ {n : Nat}, (∀ i, i < n → d i = d' i) → rwl9 d n = rwl9 d' n
  | 0, _ => rfl
  | n + 1, h => by
    show d n :: rwl9 d n = d' n :: rwl9 d' n
    rw [h n (by omega), rwl_cg (fun i hi => h i (by omega))]
theorem be_cg {r : Nat} (h : ∀ r γ, S r γ → eq9 (D γ) (D' γ)) (hb : be9 p S D r b) : be9 p S D' r b := by
  obtain ⟨E, N, he, hN⟩ := hb
  refine ⟨E, N, he, ?_⟩
  have e : ∀ r, rn9 p E N D' r = rn9 p E N D r := fun r => by
    unfold rn9
    rw [rwl_cg (d := mtx9 D' (E r) (E (r + 1))) (d' := mtx9 D (E r) (E (r + 1))) (fun i hi => funext (fun j => (h r _ (en_at (he r) hi) _).symm))]
  rw [e, e]
  exact hN
end XCHL
/-- the same ends, or the other end first -/
def flp9 (P1 P2 P3 P1' P2' P3' : Nat → Nat) (x : Nat) : Prop := (P1' x = P1 x ∧ P2' x = P2 x ∧ P3' x = P3 x) ∨ (P2 x = P3 x ∧ P1' x = P3 x ∧ P2' x = P1 x ∧ P3' x = P1 x)
section XCHM
variable {n V k : Nat} {G : Nat → Prop} {P1 P2 P3 P1' P2' P3' : Nat → Nat} {rel : (Nat → Bool) → Nat → Nat → Prop} {d p b : Int} {γ : gn9}
theorem flp_cu (h : ∀ x, x < n → flp9 P1 P2 P3 P1' P2' P3' x) (hC : cu9 n V G P1 P2 P3 rel) : cu9 n V G P1' P2' P3' rel := by
  have sw : ∀ (R : Nat → Nat → Prop) a b g h, adr R a b g h ↔ adr R b a g h := fun R a b g h => by
    unfold adr
    constructor <;> rintro (h9 | h9 | h9) <;> first | exact Or.inl h9 | exact Or.inr (Or.inl h9) | exact Or.inr (Or.inr h9)
  refine ⟨⟨hC.1.1, fun s x hx hs => ?_⟩, hC.2.1, hC.2.2.1, fun x hx => ?_⟩
  · rcases h x hx with ⟨e1, e2, e3⟩ | ⟨e0, e1, e2, e3⟩
    · rw [e1, e2, e3]
      exact hC.1.2 s x hx hs
    · rw [e1, e2, e3]
      have hE := hC.1.1 s
      have hF := hC.1.1 (on9 s x)
      rcases hC.1.2 s x hx hs with ⟨h1, h2⟩ | ⟨h1, h2, h3⟩
      · exact Or.inl ⟨fun h9 => h1 (hE.2.1 _ _ h9), fun g k => (h2 g k).trans (sw _ _ _ _ _)⟩
      · rw [e0] at h2 h3
        exact Or.inr ⟨hE.2.1 _ _ h1, fun h9 => h2 (hF.2.1 _ _ h9), fun g k => (h3 g k).trans (sw _ _ _ _ _)⟩
  · obtain ⟨a, b, c⟩ := hC.2.2.2 x hx
    rcases h x hx with ⟨e1, e2, e3⟩ | ⟨e0, e1, e2, e3⟩
    · rw [e1, e2, e3]
      exact ⟨a, b, c⟩
    · rw [e1, e2, e3]
      exact ⟨c, a, a⟩
theorem flp_D (h : ∀ x, x < n → flp9 P1 P2 P3 P1' P2' P3' x) (hC : cu9 n V G P1 P2 P3 rel) (hv : vl9 rel γ) : eq9 (D9 P1 P2 P3 rel n γ) (D9 P1' P2' P3' rel n γ) := fun δ => by
  refine (smf_D (id9 δ) n).trans (Eq.trans ?_ (smf_D (id9 δ) n).symm)
  refine sN_cg (fun x hx => ?_)
  by_cases c : γ.1 x = true
  · rw [if_pos c, if_pos c]
  · have c0 : γ.1 x = false := by
      cases h9 : γ.1 x
      · rfl
      · exact absurd h9 c
    rw [if_neg c, if_neg c]
    congr 1
    show cf9 (dxv9 (rel γ.1) (rel (on9 γ.1 x)) (P1 x) (P2 x) (P3 x) (on9 γ.1 x) γ.2) δ = cf9 (dxv9 (rel γ.1) (rel (on9 γ.1 x)) (P1' x) (P2' x) (P3' x) (on9 γ.1 x) γ.2) δ
    rcases h x hx with ⟨e1, e2, e3⟩ | ⟨e0, e1, e2, e3⟩
    · rw [e1, e2, e3]
    · rw [e1, e2, e3, e0]
      have hE := hC.1.1 γ.1
      have hF := hC.1.1 (on9 γ.1 x)
      unfold dxv9
      by_cases c1 : rel γ.1 (P1 x) (P3 x)
      · rw [if_pos (dcb_t.mpr c1), if_pos (dcb_t.mpr (hE.2.1 _ _ c1)), hv _ _ c1]
        split
        · rfl
        · show (1 : Int) * _ + (1 * _ + 0) = 1 * _ + (1 * _ + 0)
          omega
      · rw [if_neg (fun h9 => c1 (dcb_t.mp h9)), if_neg (fun h9 => c1 (hE.2.1 _ _ (dcb_t.mp h9)))]
        by_cases c2 : γ.2 (P1 x) = true ∧ γ.2 (P3 x) = true
        · rw [if_pos c2, if_pos c2.symm]
        · rw [if_neg c2, if_neg (fun h9 => c2 h9.symm)]
          rcases hC.1.2 γ.1 x hx c0 with ⟨h1, h2⟩ | ⟨h1, -⟩
          · have p13 : rel (on9 γ.1 x) (P1 x) (P3 x) := (h2 _ _).mpr (adr_ab hE)
            have e4 : (fun g => γ.2 g || ((γ.2 (P1 x) || γ.2 (P3 x)) && dcb (rel (on9 γ.1 x) g (P1 x)))) = fun g => γ.2 g || ((γ.2 (P3 x) || γ.2 (P1 x)) && dcb (rel (on9 γ.1 x) g (P3 x))) := funext (fun g => by
              rw [Bool.or_comm (γ.2 (P1 x)), dcb_c (P := rel (on9 γ.1 x) g (P1 x)) (Q := rel (on9 γ.1 x) g (P3 x)) ⟨fun h9 => hF.2.2 _ _ _ h9 p13, fun h9 => hF.2.2 _ _ _ h9 (hF.2.1 _ _ p13)⟩])
            rw [e4]
          · exact absurd h1 c1
theorem be_flp {r : Nat} (h : ∀ x, x < n → flp9 P1 P2 P3 P1' P2' P3' x) (hC : cu9 n V G P1 P2 P3 rel) (hb : be9 p (Sg9 n V G rel k d) (D9 P1 P2 P3 rel n) r b) : be9 p (Sg9 n V G rel k d) (D9 P1' P2' P3' rel n) r b := be_cg (fun r γ hγ => flp_D h hC hγ.2.2.1) hb
end XCHM
end
