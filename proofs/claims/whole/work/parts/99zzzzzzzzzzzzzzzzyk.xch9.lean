-- CHAIN: groups as sets of generators; quotient, subgroup, likeness
def en9 (S : gn9 → Prop) (E : Nat → gn9) (N : Nat) : Prop := inj9 E N ∧ ∀ γ, S γ ↔ ∃ i, i < N ∧ γ = E i
def su9 (l : fc9) (S : gn9 → Prop) : Prop := ∀ γ, cf9 l γ ≠ 0 → S γ
def cg9 (S : Nat → gn9 → Prop) (D : gn9 → fc9) : Prop := (∀ r γ, S r γ → su9 (D γ) (S (r + 1))) ∧ ∀ r γ, S r γ → eq9 (bd9 D (D γ)) []
def fi9 (S : Nat → gn9 → Prop) : Prop := ∀ r, ∃ E N, en9 (S r) E N
/-- b is what is left of group r + 1 -/
def be9 (p : Int) (S : Nat → gn9 → Prop) (D : gn9 → fc9) (r : Nat) (b : Int) : Prop := ∃ E N, (∀ r, en9 (S r) (E r) (N r)) ∧ (N (r + 1) : Int) = b + rn9 p E N D (r + 1) + rn9 p E N D r
noncomputable def flt9 (K : gn9 → Prop) (l : fc9) : fc9 := l.filter (fun q => !dcb (K q.2))
section XCHE
variable {p : Int} {S S' : Nat → gn9 → Prop} {D D' h : gn9 → fc9} {K C : gn9 → Prop} {l : fc9} {b : Int}
theorem sN_sg {f : Nat → Int} {j : Nat} : ∀ {n : Nat}, j < n → (∀ i, i < n → i ≠ j → f i = 0) → sN9 f n = f j
  | 0, h, _ => absurd h (Nat.not_lt_zero _)
  | n + 1, h, h0 => by
    show sN9 f n + f n = f j
    by_cases e : j = n
    · have : sN9 f n = sN9 (fun _ => 0) n := sN_cg (fun i hi => h0 i (by omega) (by omega))
      rw [this, sN_0, e]
      omega
    · rw [sN_sg (n := n) (by omega) (fun i hi hne => h0 i (by omega) hne), h0 n (by omega) (fun h9 => e h9.symm)]
      omega
theorem cf_cb {f : gn9 → fc9} {E : Nat → gn9} {n : Nat} {v : vc9} (δ : gn9) : cf9 (bd9 f (cmb9 E n v)) δ = sN9 (fun i => v i * cf9 (f (E i)) δ) n := by
  rw [cf_bd, sm_cm]
theorem en_sp {S : gn9 → Prop} {E : Nat → gn9} {N : Nat} (he : en9 S E N) (h : su9 l S) : spt9 l E N := fun γ hγ => (he.2 γ).mp (h γ hγ)
theorem en_at {S : gn9 → Prop} {E : Nat → gn9} {N i : Nat} (he : en9 S E N) (hi : i < N) : S (E i) := (he.2 _).mpr ⟨i, hi, rfl⟩
theorem cg_cx {E : Nat → Nat → gn9} {N : Nat → Nat} (he : ∀ r, en9 (S r) (E r) (N r)) (hC : cg9 S D) : cx9 E N D := ⟨fun r => (he r).1, fun r i hi => en_sp (he (r + 1)) (hC.1 r _ (en_at (he r) hi)), fun r i hi => hC.2 r _ (en_at (he r) hi)⟩
theorem cf_1 (c : Int) (γ δ : gn9) : cf9 [(c, γ)] δ = c * id9 δ γ := Int.add_zero _
theorem cf_fl : ∀ {l : fc9} (γ : gn9), cf9 (flt9 K l) γ = @ite _ (K γ) (Classical.propDecidable _) 0 (cf9 l γ)
  | [], γ => by
    show (0 : Int) = @ite _ (K γ) (Classical.propDecidable _) 0 0
    by_cases c : K γ
    · rw [if_pos c]
    · rw [if_neg c]
  | q :: l, γ => by
    have ih := cf_fl (l := l) γ
    have e1 : cf9 (q :: l) γ = q.1 * id9 γ q.2 + cf9 l γ := rfl
    by_cases c : K q.2
    · have e : flt9 K (q :: l) = flt9 K l := List.filter_cons_of_neg (by rw [dcb_t.mpr c]; decide)
      rw [e, ih, e1]
      by_cases c2 : K γ
      · rw [if_pos c2, if_pos c2]
      · rw [if_neg c2, if_neg c2, id_n (show q.2 ≠ γ from fun h9 => c2 (h9 ▸ c)), Int.mul_zero, Int.zero_add]
    · have e : flt9 K (q :: l) = q :: flt9 K l := List.filter_cons_of_pos (by rw [dcb_f.mpr c]; rfl)
      have e2 : cf9 (q :: flt9 K l) γ = q.1 * id9 γ q.2 + cf9 (flt9 K l) γ := rfl
      rw [e, e2, ih, e1]
      by_cases c2 : K γ
      · rw [if_pos c2, if_pos c2, id_n (show q.2 ≠ γ from fun h9 => c (h9.symm ▸ c2)), Int.mul_zero, Int.zero_add]
      · rw [if_neg c2, if_neg c2]
theorem cf_fy {γ' : gn9} (hk : K γ') : cf9 (flt9 K l) γ' = 0 := by rw [cf_fl, if_pos hk]
theorem cf_fn {γ' : gn9} (hk : ¬ K γ') : cf9 (flt9 K l) γ' = cf9 l γ' := by rw [cf_fl, if_neg hk]
/-- sums over what has a number -/
theorem bd_su {f g : gn9 → fc9} (δ : gn9) (h : ∀ γ, cf9 l γ ≠ 0 → cf9 (f γ) δ = cf9 (g γ) δ) : cf9 (bd9 f l) δ = cf9 (bd9 g l) δ := by
  -- all that has number 0 does not count
  have key : ∀ (φ : gn9 → Int) (l : fc9), (∀ γ, cf9 l γ ≠ 0 → φ γ = 0) → smf9 φ l = 0 := fun φ l hφ => by
    generalize hk : l.length = k
    induction k using Nat.strongRecOn generalizing l with
    | ind k ih =>
      cases l with
      | nil => rfl
      | cons q l =>
        -- all of q.2 gathered
        have part : ∀ (l : fc9), smf9 φ l = cf9 l q.2 * φ q.2 + smf9 φ (flt9 (fun δ => δ = q.2) l) := fun l => by
          induction l with
          | nil => show (0 : Int) = 0 * φ q.2 + 0; omega
          | cons t l ih2 =>
            have e1 : cf9 (t :: l) q.2 = t.1 * id9 q.2 t.2 + cf9 l q.2 := rfl
            have e2 : smf9 φ (t :: l) = t.1 * φ t.2 + smf9 φ l := rfl
            by_cases c : t.2 = q.2
            · have e : flt9 (fun δ => δ = q.2) (t :: l) = flt9 (fun δ => δ = q.2) l := List.filter_cons_of_neg (by rw [dcb_t.mpr c]; decide)
              rw [e, e1, e2, ih2, c, id_y, Int.add_mul, Int.mul_one]
              omega
            · have e : flt9 (fun δ => δ = q.2) (t :: l) = t :: flt9 (fun δ => δ = q.2) l := List.filter_cons_of_pos (by rw [dcb_f.mpr c]; rfl)
              have e3 : smf9 φ (t :: flt9 (fun δ => δ = q.2) l) = t.1 * φ t.2 + smf9 φ (flt9 (fun δ => δ = q.2) l) := rfl
              rw [e, e1, e2, e3, ih2, id_n c, Int.mul_zero, Int.zero_add]
              omega
        rw [part]
        have h1 : cf9 (q :: l) q.2 * φ q.2 = 0 := by
          by_cases c : cf9 (q :: l) q.2 = 0
          · rw [c, Int.zero_mul]
          · rw [hφ _ c, Int.mul_zero]
        have h2 : flt9 (fun δ => δ = q.2) (q :: l) = flt9 (fun δ => δ = q.2) l := List.filter_cons_of_neg (by rw [dcb_t.mpr rfl]; decide)
        rw [h1, h2, Int.zero_add]
        refine ih (flt9 (fun δ => δ = q.2) l).length ?_ _ (fun γ hγ => ?_) rfl
        · have : (flt9 (fun δ => δ = q.2) l).length ≤ l.length := List.length_filter_le _ _
          rw [← hk]
          show _ < l.length + 1
          omega
        · refine hφ γ (fun h9 => hγ ?_)
          by_cases c : γ = q.2
          · exact cf_fy c
          · rw [cf_fn (K := fun δ => δ = q.2) c]
            have e1 : cf9 (q :: l) γ = q.1 * id9 γ q.2 + cf9 l γ := rfl
            rw [e1, id_n (fun h8 => c h8.symm), Int.mul_zero, Int.zero_add] at h9
            exact h9
  rw [cf_bd, cf_bd]
  have d := key (fun γ => cf9 (f γ) δ - cf9 (g γ) δ) l (fun γ hγ => by
    show cf9 (f γ) δ - cf9 (g γ) δ = 0
    rw [h γ hγ]
    omega)
  have lin : ∀ l : fc9, smf9 (fun γ => cf9 (f γ) δ - cf9 (g γ) δ) l = smf9 (fun γ => cf9 (f γ) δ) l - smf9 (fun γ => cf9 (g γ) δ) l := fun l => by
    induction l with
    | nil => rfl
    | cons q l ih =>
      show q.1 * (cf9 (f q.2) δ - cf9 (g q.2) δ) + smf9 (fun γ => cf9 (f γ) δ - cf9 (g γ) δ) l = q.1 * cf9 (f q.2) δ + smf9 (fun γ => cf9 (f γ) δ) l - (q.1 * cf9 (g q.2) δ + smf9 (fun γ => cf9 (g γ) δ) l)
      rw [ih, Int.mul_sub]
      omega
  rw [lin] at d
  omega
theorem bd_id (l : fc9) (δ : gn9) : cf9 (bd9 (fun γ => [(1, γ)]) l) δ = cf9 l δ := by
  rw [cf_bd]
  induction l with
  | nil => rfl
  | cons q l ih =>
    show q.1 * cf9 [(1, q.2)] δ + smf9 (fun γ => cf9 [(1, γ)] δ) l = q.1 * id9 δ q.2 + cf9 l δ
    rw [ih, cf_1, Int.one_mul]
theorem su_bd {f : gn9 → fc9} {S T : gn9 → Prop} (hl : su9 l S) (h : ∀ γ, S γ → su9 (f γ) T) : su9 (bd9 f l) T := fun δ hδ => by
  by_cases c : T δ
  · exact c
  · refine absurd ?_ hδ
    have e : cf9 (bd9 f l) δ = cf9 (bd9 (fun _ => []) l) δ := bd_su δ (fun γ hγ => by
      by_cases c2 : cf9 (f γ) δ = 0
      · rw [c2]
        rfl
      · exact absurd (h γ (hl γ hγ) δ c2) c)
    rw [e]
    exact bd_nil (fun q _ => rfl) δ
end XCHE
