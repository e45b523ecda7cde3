/-! chain: an inclusion with an acyclic rest -/
section XCHC
variable {p : Int} {E E' : Nat → Nat → gn9} {N N' : Nat → Nat} {D D' f h : gn9 → fc9}
theorem dvN {a : Nat → Int} : ∀ {k : Nat}, (∀ i, i < k → p ∣ a i) → p ∣ sN9 a k
  | 0, _ => Int.dvd_zero p
  | k + 1, h => Int.dvd_add (dvN (fun i hi => h i (by omega))) (h k (by omega))
theorem sN_sub {a b : Nat → Int} : ∀ {k : Nat}, sN9 a k - sN9 b k = sN9 (fun i => a i - b i) k
  | 0 => rfl
  | k + 1 => by
    show sN9 a k + a k - (sN9 b k + b k) = sN9 (fun i => a i - b i) k + (a k - b k)
    rw [← sN_sub]
    omega
theorem quoT (hp : pr9 p) (hi : iv9 p) (hC : cx9 E N D) (hC' : cx9 E' N' D') (h0 : N 0 = 0) (S : gn9 → Prop) (fs : ∀ r i, i < N' r → spt9 (f (E' r i)) (E r) (N r)) (fc : ∀ r i, i < N' r → eq9 (bd9 f (D' (E' r i))) (bd9 D (f (E' r i)))) (fi : ∀ r (v : vc9), zq9 p (N r) (fun j => cf9 (bd9 f (cmb9 (E' r) (N' r) v)) (E r j)) (fun _ => 0) → zq9 p (N' r) v (fun _ => 0)) (fS : ∀ r (u : vc9), (∀ j, j < N r → S (E r j) ∨ p ∣ u j) → ∃ t, zq9 p (N r) u (fun j => cf9 (bd9 f (cmb9 (E' r) (N' r) t)) (E r j))) (fT : ∀ r (v : vc9) j, j < N r → S (E r j) ∨ cf9 (bd9 f (cmb9 (E' r) (N' r) v)) (E r j) = 0) (hs : ∀ r i, i < N (r + 1) → spt9 (h (E (r + 1) i)) (E r) (N r)) (hS : ∀ r i, i < N (r + 1) → S (E (r + 1) i) → eq9 (h (E (r + 1) i)) []) (sD : ∀ r i j, i < N r → j < N (r + 1) → S (E r i) → S (E (r + 1) j) ∨ cf9 (D (E r i)) (E (r + 1) j) = 0) (hh : ∀ r i j, i < N (r + 1) → j < N (r + 1) → S (E (r + 1) i) ∨ S (E (r + 1) j) ∨ cf9 (bd9 D (h (E (r + 1) i)) ++ bd9 h (D (E (r + 1) i))) (E (r + 1) j) = id9 (E (r + 1) j) (E (r + 1) i)) (r : Nat) : N (r + 1) + (rn9 p E' N' D' (r + 1) + rn9 p E' N' D' r) = N' (r + 1) + (rn9 p E N D (r + 1) + rn9 p E N D r) := by
  -- h of what lies in S is 0
  have hz : ∀ r (w : vc9), (∀ i, i < N (r + 1) → S (E (r + 1) i) ∨ p ∣ w i) → ∀ γ, p ∣ cf9 (bd9 h (cmb9 (E (r + 1)) (N (r + 1)) w)) γ := fun r w hw γ => by
    rw [cf_bd, sm_cm]
    refine dvN (fun i hi9 => ?_)
    rcases hw i hi9 with k | k
    · have h9 : cf9 (h (E (r + 1) i)) γ = 0 := hS r i hi9 k γ
      show p ∣ w i * cf9 (h (E (r + 1) i)) γ
      rw [h9, Int.mul_zero]
      exact Int.dvd_zero p
    · exact dvl9 _ k
  have ex : ∀ r (v u : vc9), zq9 p (N (r + 2)) (ap9 (mtx9 D (E (r + 1)) (E (r + 2))) (N (r + 1)) v) (ap9 (mtx9 f (E' (r + 2)) (E (r + 2))) (N' (r + 2)) u) → ∃ t w, zq9 p (N (r + 1)) v (fun i => ap9 (mtx9 f (E' (r + 1)) (E (r + 1))) (N' (r + 1)) t i + ap9 (mtx9 D (E r) (E (r + 1))) (N r) w i) := fun r v u hv => by
    have dS : ∀ i, i < N (r + 2) → S (E (r + 2) i) ∨ p ∣ ap9 (mtx9 D (E (r + 1)) (E (r + 2))) (N (r + 1)) v i := fun i hi9 => by
      rcases fT (r + 2) u i hi9 with k | k
      · exact Or.inl k
      · have := hv i hi9
        rw [ap_mt (f := f), k, Int.sub_zero] at this
        exact Or.inr this
    have hD0 := hz (r + 1) _ dS
    have key : ∀ j, j < N (r + 1) → S (E (r + 1) j) ∨ p ∣ v j - ap9 (mtx9 D (E r) (E (r + 1))) (N r) (ap9 (mtx9 h (E (r + 1)) (E r)) (N (r + 1)) v) j := fun j hj => by
      by_cases sj : S (E (r + 1) j)
      · exact Or.inl sj
      refine Or.inr ?_
      rw [ap_ap (hC.1 r) (hs r)]
      have h3 : p ∣ cf9 (bd9 h (bd9 D (cmb9 (E (r + 1)) (N (r + 1)) v))) (E (r + 1) j) := by
        have q := hD0 (E (r + 1) j)
        have e := ap_ap (g := h) (E'' := E (r + 1)) (v := v) (hC.1 (r + 2)) (hC.2.1 (r + 1)) j
        rw [ap_mt] at e
        rw [← e]
        exact q
      have e1 : ∀ f g : gn9 → fc9, cf9 (bd9 g (bd9 f (cmb9 (E (r + 1)) (N (r + 1)) v))) (E (r + 1) j) = sN9 (fun i => v i * cf9 (bd9 g (f (E (r + 1) i))) (E (r + 1) j)) (N (r + 1)) := fun f g => by
        rw [cf_bd, sm_bd, sm_cm]
        exact sN_cg (fun i _ => by rw [cf_bd])
      have h4 : p ∣ sN9 (fun i => v i * (cf9 (bd9 D (h (E (r + 1) i))) (E (r + 1) j) + cf9 (bd9 h (D (E (r + 1) i))) (E (r + 1) j) - id9 (E (r + 1) j) (E (r + 1) i))) (N (r + 1)) := dvN (fun i hi9 => by
        by_cases si : S (E (r + 1) i)
        · -- all three are 0
          have z1 : cf9 (bd9 D (h (E (r + 1) i))) (E (r + 1) j) = 0 := (bd_q (f := D) (hS r i hi9 si)) (E (r + 1) j)
          have z2 : cf9 (bd9 h (D (E (r + 1) i))) (E (r + 1) j) = 0 := by
            have c := cm_cf (hC.1 (r + 2)) (hC.2.1 (r + 1) i hi9)
            rw [← bd_q (f := h) c (E (r + 1) j), cf_bd, sm_cm]
            have : sN9 (fun t => cf9 (D (E (r + 1) i)) (E (r + 2) t) * cf9 (h (E (r + 2) t)) (E (r + 1) j)) (N (r + 2)) = sN9 (fun _ => 0) (N (r + 2)) := sN_cg (fun t ht => by
              rcases sD (r + 1) i t hi9 ht si with k | k
              · have h9 : cf9 (h (E (r + 2) t)) (E (r + 1) j) = 0 := hS (r + 1) t ht k _
                rw [h9, Int.mul_zero]
              · rw [k, Int.zero_mul])
            rw [this]
            exact sN_0
          have z3 : id9 (E (r + 1) j) (E (r + 1) i) = 0 := id_n (fun h9 => sj (by rw [← h9]; exact si))
          show p ∣ v i * (cf9 (bd9 D (h (E (r + 1) i))) (E (r + 1) j) + cf9 (bd9 h (D (E (r + 1) i))) (E (r + 1) j) - id9 (E (r + 1) j) (E (r + 1) i))
          rw [z1, z2, z3]
          exact dvr9 _ (Int.dvd_zero p)
        · rcases hh r i j hi9 hj with k | k | k
          · exact absurd k si
          · exact absurd k sj
          · rw [cf_a] at k
            show p ∣ v i * (cf9 (bd9 D (h (E (r + 1) i))) (E (r + 1) j) + cf9 (bd9 h (D (E (r + 1) i))) (E (r + 1) j) - id9 (E (r + 1) j) (E (r + 1) i))
            rw [k, Int.sub_self]
            exact dvr9 _ (Int.dvd_zero p))
      have e2 : sN9 (fun i => v i * (cf9 (bd9 D (h (E (r + 1) i))) (E (r + 1) j) + cf9 (bd9 h (D (E (r + 1) i))) (E (r + 1) j) - id9 (E (r + 1) j) (E (r + 1) i))) (N (r + 1)) = cf9 (bd9 D (bd9 h (cmb9 (E (r + 1)) (N (r + 1)) v))) (E (r + 1) j) + cf9 (bd9 h (bd9 D (cmb9 (E (r + 1)) (N (r + 1)) v))) (E (r + 1) j) - v j := by
        rw [e1 h D, e1 D h, ← cf_cy (v := v) (hC.1 (r + 1)) hj, cf_cm, ← sN_a, sN_sub]
        refine sN_cg (fun i _ => ?_)
        rw [Int.mul_sub, Int.mul_add]
      rw [e2] at h4
      have := Int.dvd_neg.mpr (Int.dvd_sub h4 h3)
      rw [show -(cf9 (bd9 D (bd9 h (cmb9 (E (r + 1)) (N (r + 1)) v))) (E (r + 1) j) + cf9 (bd9 h (bd9 D (cmb9 (E (r + 1)) (N (r + 1)) v))) (E (r + 1) j) - v j - cf9 (bd9 h (bd9 D (cmb9 (E (r + 1)) (N (r + 1)) v))) (E (r + 1) j)) = v j - cf9 (bd9 D (bd9 h (cmb9 (E (r + 1)) (N (r + 1)) v))) (E (r + 1) j) by omega] at this
      exact this
    obtain ⟨t, ht⟩ := fS (r + 1) (fun j => v j - ap9 (mtx9 D (E r) (E (r + 1))) (N r) (ap9 (mtx9 h (E (r + 1)) (E r)) (N (r + 1)) v) j) key
    refine ⟨t, ap9 (mtx9 h (E (r + 1)) (E r)) (N (r + 1)) v, fun i hi9 => ?_⟩
    have := ht i hi9
    show p ∣ v i - (ap9 (mtx9 f (E' (r + 1)) (E (r + 1))) (N' (r + 1)) t i + ap9 (mtx9 D (E r) (E (r + 1))) (N r) (ap9 (mtx9 h (E (r + 1)) (E r)) (N (r + 1)) v) i)
    rw [ap_mt (f := f)]
    show p ∣ v i - (cf9 (bd9 f (cmb9 (E' (r + 1)) (N' (r + 1)) t)) (E (r + 1) i) + ap9 (mtx9 D (E r) (E (r + 1))) (N r) (ap9 (mtx9 h (E (r + 1)) (E r)) (N (r + 1)) v) i)
    rw [show v i - (cf9 (bd9 f (cmb9 (E' (r + 1)) (N' (r + 1)) t)) (E (r + 1) i) + ap9 (mtx9 D (E r) (E (r + 1))) (N r) (ap9 (mtx9 h (E (r + 1)) (E r)) (N (r + 1)) v) i) = v i - ap9 (mtx9 D (E r) (E (r + 1))) (N r) (ap9 (mtx9 h (E (r + 1)) (E r)) (N (r + 1)) v) i - cf9 (bd9 f (cmb9 (E' (r + 1)) (N' (r + 1)) t)) (E (r + 1) i) by omega]
    exact this
  have ch : ∀ r (v : vc9), zq9 p (N (r + 1)) (ap9 (mtx9 f (E' (r + 1)) (E (r + 1))) (N' (r + 1)) (ap9 (mtx9 D' (E' r) (E' (r + 1))) (N' r) v)) (ap9 (mtx9 D (E r) (E (r + 1))) (N r) (ap9 (mtx9 f (E' r) (E r)) (N' r) v)) := fun r v => zq_of (fun j _ => by
    rw [ap_ap (hC'.1 (r + 1)) (hC'.2.1 r), ap_ap (hC.1 r) (fs r)]
    exact bb_q (fc r) _)
  have inj : ∀ r v, zq9 p (N r) (ap9 (mtx9 f (E' r) (E r)) (N' r) v) (fun _ => 0) → zq9 p (N' r) v (fun _ => 0) := fun r v h9 => fi r v (by
    rw [ap_fun] at h9
    exact h9)
  refine quo9 (f0 := mtx9 f (E' r) (E r)) (f1 := mtx9 f (E' (r + 1)) (E (r + 1))) (f2 := mtx9 f (E' (r + 2)) (E (r + 2))) hp hi (cx_dd hC r) (cx_dd hC' r) (ch r) (ch (r + 1)) (inj (r + 1)) (inj (r + 2)) (ex r) (fun v u hv => ?_)
  cases r with
  | zero =>
    refine ⟨fun _ => 0, ?_⟩
    rw [h0]
    exact zq_r
  | succ r =>
    obtain ⟨t, w, h1⟩ := ex r v u hv
    refine ⟨t, zq_t (ap_q h1) (fun j hj => ?_)⟩
    rw [ap_add]
    have := cx_dd (p := p) hC r w j hj
    rw [show ap9 (mtx9 D (E (r + 1)) (E (r + 1 + 1))) (N (r + 1)) (ap9 (mtx9 f (E' (r + 1)) (E (r + 1))) (N' (r + 1)) t) j + ap9 (mtx9 D (E (r + 1)) (E (r + 1 + 1))) (N (r + 1)) (ap9 (mtx9 D (E r) (E (r + 1))) (N r) w) j - ap9 (mtx9 D (E (r + 1)) (E (r + 1 + 1))) (N (r + 1)) (ap9 (mtx9 f (E' (r + 1)) (E (r + 1))) (N' (r + 1)) t) j = ap9 (mtx9 D (E (r + 1)) (E (r + 1 + 1))) (N (r + 1)) (ap9 (mtx9 D (E r) (E (r + 1))) (N r) w) j - 0 by omega]
    exact this
end XCHC
