/-! chain: groups given by their generators -/
def cmb9 (E : Nat → gn9) : Nat → vc9 → fc9
  | 0, _ => []
  | n + 1, v => cmb9 E n v ++ [(v n, E n)]
noncomputable def mtx9 (f : gn9 → fc9) (E E' : Nat → gn9) : Nat → vc9 := fun i j => cf9 (f (E i)) (E' j)
def inj9 (E : Nat → gn9) (n : Nat) : Prop := ∀ i j, i < n → j < n → E i = E j → i = j
/-- nothing outside -/
def spt9 (l : fc9) (E : Nat → gn9) (n : Nat) : Prop := ∀ γ, cf9 l γ ≠ 0 → ∃ j, j < n ∧ γ = E j
section XCHA
variable {p : Int} {n n' : Nat} {E E' E'' : Nat → gn9} {f g : gn9 → fc9} {φ : gn9 → Int} {v : vc9} {l l' : fc9}
theorem sm_cm : ∀ {n : Nat}, smf9 φ (cmb9 E n v) = sN9 (fun i => v i * φ (E i)) n
  | 0 => rfl
  | n + 1 => by
    show smf9 φ (cmb9 E n v ++ [(v n, E n)]) = sN9 (fun i => v i * φ (E i)) n + v n * φ (E n)
    rw [sm_a, sm_cm]
    show _ + (v n * φ (E n) + 0) = _
    omega
theorem cf_bd (γ : gn9) : cf9 (bd9 f l) γ = smf9 (fun δ => cf9 (f δ) γ) l := sm_bd
theorem ap_mt (j : Nat) : ∀ {n : Nat}, ap9 (mtx9 f E E') n v j = cf9 (bd9 f (cmb9 E n v)) (E' j)
  | 0 => rfl
  | n + 1 => by
    show ap9 (mtx9 f E E') n v j + v n * cf9 (f (E n)) (E' j) = cf9 (bd9 f (cmb9 E n v ++ [(v n, E n)])) (E' j)
    rw [ap_mt j, cf_bd, cf_bd, sm_a]
    show _ = _ + (v n * cf9 (f (E n)) (E' j) + 0)
    omega
theorem cf_cm (γ : gn9) : cf9 (cmb9 E n v) γ = sN9 (fun i => v i * id9 γ (E i)) n := sm_cm
theorem cf_cn {γ : gn9} : ∀ {n : Nat}, (∀ i, i < n → E i ≠ γ) → cf9 (cmb9 E n v) γ = 0
  | 0, _ => rfl
  | n + 1, h => by
    show cf9 (cmb9 E n v ++ [(v n, E n)]) γ = 0
    rw [cf_a, cf_cn (n := n) (fun i hi => h i (by omega))]
    show 0 + (v n * id9 γ (E n) + 0) = 0
    rw [id_n (h n (by omega)), Int.mul_zero]
    rfl
theorem cf_cy {j : Nat} : ∀ {n : Nat}, inj9 E n → j < n → cf9 (cmb9 E n v) (E j) = v j
  | 0, _, h => absurd h (Nat.not_lt_zero _)
  | n + 1, hi, h => by
    show cf9 (cmb9 E n v ++ [(v n, E n)]) (E j) = v j
    rw [cf_a]
    by_cases e : j = n
    · rw [e, cf_cn (fun i hi9 h9 => by have := hi i n (by omega) (by omega) h9; omega)]
      show 0 + (v n * id9 (E n) (E n) + 0) = v n
      rw [id_y, Int.mul_one]
      omega
    · rw [cf_cy (n := n) (fun i k h1 h2 => hi i k (by omega) (by omega)) (by omega)]
      show v j + (v n * id9 (E j) (E n) + 0) = v j
      rw [id_n (fun h9 => e (hi j n (by omega) (by omega) h9.symm)), Int.mul_zero]
      omega
theorem cm_cf (hi : inj9 E n) (hs : spt9 l E n) : eq9 (cmb9 E n (fun j => cf9 l (E j))) l := fun γ => by
  by_cases c : ∃ j, j < n ∧ γ = E j
  · obtain ⟨j, h1, rfl⟩ := c
    exact cf_cy hi h1
  · rw [cf_cn (fun i hi9 h9 => c ⟨i, hi9, h9.symm⟩)]
    by_cases z : cf9 l γ = 0
    · exact z.symm
    · exact absurd (hs γ z) c
theorem sN_nz {h : Nat → Int} : ∀ {n : Nat}, sN9 h n ≠ 0 → ∃ i, i < n ∧ h i ≠ 0
  | 0, h9 => absurd rfl h9
  | n + 1, h9 => by
    by_cases c : h n = 0
    · have h9 : sN9 h n + h n ≠ 0 := h9
      rw [c, Int.add_zero] at h9
      obtain ⟨i, h1, h2⟩ := sN_nz h9
      exact ⟨i, by omega, h2⟩
    · exact ⟨n, by omega, c⟩
theorem sp_bd (hs : ∀ i, i < n → spt9 (f (E i)) E' n') : spt9 (bd9 f (cmb9 E n v)) E' n' := fun γ h => by
  rw [cf_bd, sm_cm] at h
  obtain ⟨i, h1, h2⟩ := sN_nz h
  exact hs i h1 γ (fun h9 => h2 (by rw [h9, Int.mul_zero]))
theorem ap_fun : ap9 (mtx9 f E E') n v = fun j => cf9 (bd9 f (cmb9 E n v)) (E' j) := funext (fun j => ap_mt j)
theorem ap_ap (hi : inj9 E' n') (hs : ∀ i, i < n → spt9 (f (E i)) E' n') (j : Nat) : ap9 (mtx9 g E' E'') n' (ap9 (mtx9 f E E') n v) j = cf9 (bd9 g (bd9 f (cmb9 E n v))) (E'' j) := by
  rw [ap_mt, ap_fun]
  exact bd_q (cm_cf hi (sp_bd hs)) _
/-- two ways alike on generators are alike -/
theorem bb_q {f1 g1 f2 g2 : gn9 → fc9} (h : ∀ i, i < n → eq9 (bd9 g1 (f1 (E i))) (bd9 g2 (f2 (E i)))) (γ : gn9) : cf9 (bd9 g1 (bd9 f1 (cmb9 E n v))) γ = cf9 (bd9 g2 (bd9 f2 (cmb9 E n v))) γ := by
  rw [cf_bd, cf_bd]
  have e : ∀ (f g : gn9 → fc9), smf9 (fun δ => cf9 (g δ) γ) (bd9 f (cmb9 E n v)) = sN9 (fun i => v i * cf9 (bd9 g (f (E i))) γ) n := fun f g => by
    rw [sm_bd, sm_cm]
    refine sN_cg (fun i _ => ?_)
    rw [cf_bd]
  rw [e, e]
  exact sN_cg (fun i hi => by rw [h i hi γ])
theorem bb_0 {f1 g1 : gn9 → fc9} (h : ∀ i, i < n → eq9 (bd9 g1 (f1 (E i))) []) (γ : gn9) : cf9 (bd9 g1 (bd9 f1 (cmb9 E n v))) γ = 0 := by
  rw [cf_bd, sm_bd, sm_cm]
  have : (fun i => v i * smf9 (fun δ => cf9 (g1 δ) γ) (f1 (E i))) = fun i => v i * cf9 (bd9 g1 (f1 (E i))) γ := funext (fun i => by rw [cf_bd])
  rw [this]
  have e : sN9 (fun i => v i * cf9 (bd9 g1 (f1 (E i))) γ) n = sN9 (fun _ => 0) n := sN_cg (fun i hi => by
    rw [h i hi γ]
    exact Int.mul_zero _)
  rw [e]
  exact sN_0
theorem zq_of {u w : vc9} (h : ∀ j, j < n → u j = w j) : zq9 p n u w := fun j hj => by
  rw [h j hj, Int.sub_self]
  exact Int.dvd_zero p
end XCHA
/-- a row of groups -/
def cx9 (E : Nat → Nat → gn9) (N : Nat → Nat) (D : gn9 → fc9) : Prop := (∀ r, inj9 (E r) (N r)) ∧ (∀ r i, i < N r → spt9 (D (E r i)) (E (r + 1)) (N (r + 1))) ∧ ∀ r i, i < N r → eq9 (bd9 D (D (E r i))) []
/-- the rank from group r to the next -/
noncomputable def rn9 (p : Int) (E : Nat → Nat → gn9) (N : Nat → Nat) (D : gn9 → fc9) (r : Nat) : Nat := rk9 p (N (r + 1)) (rwl9 (mtx9 D (E r) (E (r + 1))) (N r))
section XCHB
variable {p : Int} {E E' : Nat → Nat → gn9} {N N' : Nat → Nat} {D D' F h : gn9 → fc9}
theorem cx_dd (hC : cx9 E N D) (r : Nat) (v : vc9) : zq9 p (N (r + 2)) (ap9 (mtx9 D (E (r + 1)) (E (r + 2))) (N (r + 1)) (ap9 (mtx9 D (E r) (E (r + 1))) (N r) v)) (fun _ => 0) := zq_of (fun j _ => by
  rw [ap_ap (hC.1 (r + 1)) (hC.2.1 r)]
  exact bb_0 (hC.2.2 r) _)
/-- a projection whose kernel is spanned by the generators K and is acyclic by h -/
theorem subT (hp : pr9 p) (hi : iv9 p) (hC : cx9 E N D) (hC' : cx9 E' N' D') (K : gn9 → Prop) (fs : ∀ r i, i < N r → spt9 (F (E r i)) (E' r) (N' r)) (fc : ∀ r i, i < N r → eq9 (bd9 F (D (E r i))) (bd9 D' (F (E r i)))) (fo : ∀ r (u : vc9), ∃ v, ∀ j, j < N' r → cf9 (bd9 F (cmb9 (E r) (N r) v)) (E' r j) = u j) (fk : ∀ r (v : vc9), zq9 p (N' r) (fun j => cf9 (bd9 F (cmb9 (E r) (N r) v)) (E' r j)) (fun _ => 0) → ∀ i, i < N r → K (E r i) ∨ p ∣ v i) (hs : ∀ r i, i < N (r + 1) → spt9 (h (E (r + 1) i)) (E r) (N r)) (hF : ∀ r i, i < N (r + 1) → eq9 (bd9 F (h (E (r + 1) i))) []) (hh : ∀ r i, i < N (r + 1) → K (E (r + 1) i) → eq9 (bd9 D (h (E (r + 1) i)) ++ bd9 h (D (E (r + 1) i))) [(1, E (r + 1) i)]) (r : Nat) : N' (r + 1) + (rn9 p E N D (r + 1) + rn9 p E N D r) = N (r + 1) + (rn9 p E' N' D' (r + 1) + rn9 p E' N' D' r) := by
  -- what is taken to 0 by F and by D is an image
  have ac : ∀ r (v : vc9), zq9 p (N' (r + 1)) (ap9 (mtx9 F (E (r + 1)) (E' (r + 1))) (N (r + 1)) v) (fun _ => 0) → zq9 p (N (r + 2)) (ap9 (mtx9 D (E (r + 1)) (E (r + 2))) (N (r + 1)) v) (fun _ => 0) → zq9 p (N (r + 1)) v (ap9 (mtx9 D (E r) (E (r + 1))) (N r) (ap9 (mtx9 h (E (r + 1)) (E r)) (N (r + 1)) v)) := fun r v h1 h2 => by
    rw [ap_fun] at h1
    have k1 := fk (r + 1) v h1
    intro j hj
    rw [ap_ap (hC.1 r) (hs r)]
    -- D h v + h D v = v on K; h D v = 0
    have h3 : p ∣ cf9 (bd9 h (bd9 D (cmb9 (E (r + 1)) (N (r + 1)) v))) (E (r + 1) j) := by
      have q : zq9 p (N (r + 1)) (ap9 (mtx9 h (E (r + 2)) (E (r + 1))) (N (r + 2)) (ap9 (mtx9 D (E (r + 1)) (E (r + 2))) (N (r + 1)) v)) (fun _ => 0) := zq_t (ap_q h2) (fun t _ => by rw [ap_0, Int.sub_self]; exact Int.dvd_zero p)
      have := q j hj
      rw [ap_ap (hC.1 (r + 2)) (hC.2.1 (r + 1)), Int.sub_zero] at this
      exact this
    have e1 : ∀ f g : gn9 → fc9, cf9 (bd9 g (bd9 f (cmb9 (E (r + 1)) (N (r + 1)) v))) (E (r + 1) j) = sN9 (fun i => v i * cf9 (bd9 g (f (E (r + 1) i))) (E (r + 1) j)) (N (r + 1)) := fun f g => by
      rw [cf_bd, sm_bd, sm_cm]
      exact sN_cg (fun i _ => by rw [cf_bd])
    have dvN : ∀ (a : Nat → Int) (k : Nat), (∀ i, i < k → p ∣ a i) → p ∣ sN9 a k := fun a k => by
      induction k with
      | zero => intro _; exact Int.dvd_zero p
      | succ k ih => intro ha; exact Int.dvd_add (ih (fun i hi9 => ha i (by omega))) (ha k (by omega))
    have h4 : p ∣ sN9 (fun i => v i * (cf9 (bd9 D (h (E (r + 1) i))) (E (r + 1) j) + cf9 (bd9 h (D (E (r + 1) i))) (E (r + 1) j) - id9 (E (r + 1) j) (E (r + 1) i))) (N (r + 1)) := dvN _ _ (fun i hi9 => by
      rcases k1 i hi9 with k | k
      · have := hh r i hi9 k (E (r + 1) j)
        rw [cf_a] at this
        rw [this]
        show p ∣ v i * (1 * id9 (E (r + 1) j) (E (r + 1) i) + 0 - id9 (E (r + 1) j) (E (r + 1) i))
        rw [show (1 : Int) * id9 (E (r + 1) j) (E (r + 1) i) + 0 - id9 (E (r + 1) j) (E (r + 1) i) = 0 by omega, Int.mul_zero]
        exact Int.dvd_zero p
      · exact dvl9 _ k)
    have e2 : sN9 (fun i => v i * (cf9 (bd9 D (h (E (r + 1) i))) (E (r + 1) j) + cf9 (bd9 h (D (E (r + 1) i))) (E (r + 1) j) - id9 (E (r + 1) j) (E (r + 1) i))) (N (r + 1)) = cf9 (bd9 D (bd9 h (cmb9 (E (r + 1)) (N (r + 1)) v))) (E (r + 1) j) + cf9 (bd9 h (bd9 D (cmb9 (E (r + 1)) (N (r + 1)) v))) (E (r + 1) j) - v j := by
      rw [e1 h D, e1 D h, ← cf_cy (v := v) (hC.1 (r + 1)) hj, cf_cm, ← sN_a]
      have neg : ∀ (a b : Nat → Int) (k : Nat), sN9 a k - sN9 b k = sN9 (fun i => a i - b i) k := fun a b k => by
        induction k with
        | zero => rfl
        | succ k ih =>
          show sN9 a k + a k - (sN9 b k + b k) = sN9 (fun i => a i - b i) k + (a k - b k)
          rw [← ih]
          omega
      rw [neg]
      refine sN_cg (fun i _ => ?_)
      rw [Int.mul_sub, Int.mul_add]
    rw [e2] at h4
    have := Int.dvd_neg.mpr (Int.dvd_sub h4 h3)
    rw [show -(cf9 (bd9 D (bd9 h (cmb9 (E (r + 1)) (N (r + 1)) v))) (E (r + 1) j) + cf9 (bd9 h (bd9 D (cmb9 (E (r + 1)) (N (r + 1)) v))) (E (r + 1) j) - v j - cf9 (bd9 h (bd9 D (cmb9 (E (r + 1)) (N (r + 1)) v))) (E (r + 1) j)) = v j - cf9 (bd9 D (bd9 h (cmb9 (E (r + 1)) (N (r + 1)) v))) (E (r + 1) j) by omega] at this
    exact this
  have ch : ∀ r (v : vc9), zq9 p (N' (r + 1)) (ap9 (mtx9 F (E (r + 1)) (E' (r + 1))) (N (r + 1)) (ap9 (mtx9 D (E r) (E (r + 1))) (N r) v)) (ap9 (mtx9 D' (E' r) (E' (r + 1))) (N' r) (ap9 (mtx9 F (E r) (E' r)) (N r) v)) := fun r v => zq_of (fun j _ => by
    rw [ap_ap (hC.1 (r + 1)) (hC.2.1 r), ap_ap (hC'.1 r) (fs r)]
    exact bb_q (fc r) _)
  have on9 : ∀ r u, ∃ v, zq9 p (N' r) (ap9 (mtx9 F (E r) (E' r)) (N r) v) u := fun r u => by
    obtain ⟨v, hv⟩ := fo r u
    exact ⟨v, zq_of (fun j hj => by rw [ap_mt]; exact hv j hj)⟩
  refine sbx9 (f0 := mtx9 F (E r) (E' r)) (f1 := mtx9 F (E (r + 1)) (E' (r + 1))) (f2 := mtx9 F (E (r + 2)) (E' (r + 2))) hp hi (cx_dd hC r) (cx_dd hC' r) (ch r) (ch (r + 1)) (on9 r) (on9 (r + 1)) (fun v h1 h2 => ⟨_, ac r v h1 h2⟩) (fun v h1 => ?_)
  refine ⟨ap9 (mtx9 h (E (r + 2)) (E (r + 1))) (N (r + 2)) (ap9 (mtx9 D (E (r + 1)) (E (r + 2))) (N (r + 1)) v), ?_, ac (r + 1) _ h1 (cx_dd hC (r + 1) v)⟩
  refine zq_of (fun j hj => ?_)
  generalize ap9 (mtx9 D (E (r + 1)) (E (r + 2))) (N (r + 1)) v = w
  rw [ap_ap (hC.1 (r + 1)) (hs (r + 1))]
  exact bb_0 (hF (r + 1)) _
end XCHB
