-- CHAIN: primes; the class's reciprocal
def pdN9 : List Nat → Nat
  | [] => 1
  | a :: l => a * pdN9 l
section XCI9
variable {p a : Nat}
theorem pd_pm {l l' : List Nat} (h : l.Perm l') : pdN9 l = pdN9 l' := by
  induction h with
  | nil => rfl
  | cons x _ ih => exact congrArg (fun t => x * t) ih
  | swap x y l =>
    show y * (x * pdN9 l) = x * (y * pdN9 l)
    exact Nat.mul_left_comm y x _
  | trans _ _ h1 h2 => exact h1.trans h2
theorem eu9 (hp : prT p) {x y : Nat} (h : p ∣ x * y) : p ∣ x ∨ p ∣ y := by
  have hp2 := hp.1
  by_cases c : p ∣ y
  · exact Or.inr c
  · left
    have h1 : 1 ≤ y % p := by
      rcases Nat.eq_zero_or_pos (y % p) with e | e
      · exact absurd (Nat.dvd_of_mod_eq_zero e) c
      · exact e
    have h2 : y % p < p := Nat.mod_lt _ (by omega)
    have hc : Nat.Coprime p (y % p) := pr_cop hp h1 h2
    refine Nat.Coprime.dvd_of_dvd_mul_right hc ?_
    have e : x * y % p = 0 := Nat.mod_eq_zero_of_dvd h
    refine Nat.dvd_of_mod_eq_zero ?_
    rw [Nat.mul_mod, Nat.mod_mod, ← Nat.mul_mod]
    exact e
theorem pd_md (a : Nat) : ∀ l : List Nat, pdN9 (l.map (fun i => i * a % p)) % p = pdN9 l * a ^ l.length % p
  | [] => rfl
  | i :: l => by
    show (i * a % p) * pdN9 (l.map (fun i => i * a % p)) % p = i * pdN9 l * a ^ (l.length + 1) % p
    rw [Nat.mul_mod, pd_md a l, Nat.mod_mod, ← Nat.mul_mod]
    congr 1
    rw [Nat.pow_succ]
    simp only [Nat.mul_assoc, Nat.mul_comm, Nat.mul_left_comm]
/-- Fermat -/
theorem fer9 (hp : prT p) (h1 : 1 ≤ a) (h2 : a < p) : a ^ (p - 1) % p = 1 := by
  have hp2 := hp.1
  have hpa : ¬ p ∣ a := fun h9 => by
    have := Nat.le_of_dvd h1 h9
    omega
  have inj : ∀ i j, i < p → j < p → i * a % p = j * a % p → i = j := by
    have key : ∀ i j, i ≤ j → j < p → i * a % p = j * a % p → i = j := by
      intro i j hij hj e
      have hd : p ∣ (j - i) * a := by
        rw [Nat.sub_mul]
        exact Nat.dvd_of_mod_eq_zero (Nat.sub_mod_eq_zero_of_mod_eq e.symm)
      rcases eu9 hp hd with h9 | h9
      · rcases Nat.eq_zero_or_pos (j - i) with h8 | h8
        · omega
        · have := Nat.le_of_dvd h8 h9
          omega
      · exact absurd h9 hpa
    intro i j hi hj e
    rcases Nat.le_total i j with h9 | h9
    · exact key i j h9 hj e
    · exact (key j i h9 hi e.symm).symm
  have nd : ((List.range' 1 (p - 1)).map (fun i => i * a % p)).Nodup := nodup_map List.nodup_range' (fun i j hi hj e => inj i j (by
    have := List.mem_range'_1.mp hi
    omega) (by
    have := List.mem_range'_1.mp hj
    omega) e)
  have sub : ∀ x, x ∈ (List.range' 1 (p - 1)).map (fun i => i * a % p) → x ∈ List.range' 1 (p - 1) := fun x hx => by
    obtain ⟨i, i1, e⟩ := List.mem_map.mp hx
    have i2 := List.mem_range'_1.mp i1
    have h3 : x < p := by
      rw [← e]
      exact Nat.mod_lt _ (by omega)
    have h4 : x ≠ 0 := fun h9 => by
      rw [h9] at e
      rcases eu9 hp (Nat.dvd_of_mod_eq_zero e) with h8 | h8
      · have := Nat.le_of_dvd (by omega) h8
        omega
      · exact hpa h8
    exact List.mem_range'_1.mpr (by omega)
  have sup : ∀ x, x ∈ List.range' 1 (p - 1) → x ∈ (List.range' 1 (p - 1)).map (fun i => i * a % p) := fun x hx => by
    refine Classical.byContradiction (fun hno => ?_)
    have := nodup_le (x :: (List.range' 1 (p - 1)).map (fun i => i * a % p)) (List.range' 1 (p - 1)) (List.nodup_cons.mpr ⟨hno, nd⟩) (fun y hy => by
      rcases List.mem_cons.mp hy with h9 | h9
      · rw [h9]
        exact hx
      · exact sub y h9)
    rw [List.length_cons, List.length_map] at this
    omega
  have pm : ((List.range' 1 (p - 1)).map (fun i => i * a % p)).Perm (List.range' 1 (p - 1)) := (List.perm_ext_iff_of_nodup nd List.nodup_range').mpr (fun x => ⟨sub x, sup x⟩)
  have e := pd_md (p := p) a (List.range' 1 (p - 1))
  rw [pd_pm pm, List.length_range'] at e
  have np : ∀ l : List Nat, (∀ x, x ∈ l → 1 ≤ x ∧ x < p) → ¬ p ∣ pdN9 l := by
    intro l
    induction l with
    | nil =>
      intro _ h9
      have : p ≤ 1 := Nat.le_of_dvd (by decide) h9
      omega
    | cons x l ih =>
      intro hl h9
      rcases eu9 hp h9 with h8 | h8
      · have := hl x List.mem_cons_self
        have := Nat.le_of_dvd (by omega) h8
        omega
      · exact ih (fun y hy => hl y (List.mem_cons_of_mem _ hy)) h8
  have n1 := np (List.range' 1 (p - 1)) (fun x hx => by
    have := List.mem_range'_1.mp hx
    omega)
  have ge : 1 ≤ a ^ (p - 1) := Nat.pos_of_ne_zero (fun h9 => by
    have := Nat.pow_le_pow_left h1 (p - 1)
    rw [h9, Nat.one_pow] at this
    omega)
  have hd : p ∣ pdN9 (List.range' 1 (p - 1)) * (a ^ (p - 1) - 1) := by
    rw [Nat.mul_sub, Nat.mul_one]
    exact Nat.dvd_of_mod_eq_zero (Nat.sub_mod_eq_zero_of_mod_eq e.symm)
  rcases eu9 hp hd with h9 | h9
  · exact absurd h9 n1
  · obtain ⟨q, hq⟩ := h9
    have : a ^ (p - 1) = p * q + 1 := by omega
    rw [this, Nat.mul_add_mod, Nat.mod_eq_of_lt (by omega)]
theorem prp_of (hp : prT p) : pr9 (p : Int) := by
  refine ⟨by have := hp.1; omega, fun x y h => ?_⟩
  have h9 : (p : Int).natAbs ∣ (x * y).natAbs := Int.natAbs_dvd_natAbs.mpr h
  rw [Int.natAbs_mul] at h9
  rcases eu9 hp h9 with h8 | h8
  · exact Or.inl (Int.natAbs_dvd_natAbs.mp h8)
  · exact Or.inr (Int.natAbs_dvd_natAbs.mp h8)
theorem dv_md {x y : Nat} (h : x % p = y % p) : (p : Int) ∣ (x : Int) - y := by
  have a := Nat.div_add_mod x p
  have b := Nat.div_add_mod y p
  refine ⟨(x / p : Int) - (y / p : Int), ?_⟩
  rw [Int.mul_sub]
  have a' : (x : Int) = p * (x / p : Nat) + (x % p : Nat) := by
    rw [← Int.natCast_mul, ← Int.natCast_add, a]
  have b' : (y : Int) = p * (y / p : Nat) + (y % p : Nat) := by
    rw [← Int.natCast_mul, ← Int.natCast_add, b]
  rw [h] at a'
  rw [Int.natCast_ediv] at a' b'
  omega
theorem iv_of (hp : prT p) : iv9 (p : Int) := fun x hx => by
  have hp2 := hp.1
  have r0 := Int.emod_nonneg x (show (p : Int) ≠ 0 by omega)
  have r1 := Int.emod_lt_of_pos x (show (0 : Int) < p by omega)
  have r2 : x % p ≠ 0 := fun h9 => hx (Int.dvd_of_emod_eq_zero h9)
  obtain ⟨a, ha⟩ := Int.eq_ofNat_of_zero_le r0
  obtain ⟨k, k1, k2, k3⟩ := pr_inv (a := a) hp (by omega) (by omega)
  refine ⟨(k : Int), ?_⟩
  have e1 : (p : Int) ∣ ((k * a : Nat) : Int) - (1 : Nat) := dv_md (by
    rw [k3, Nat.mod_eq_of_lt (by omega)])
  have e2 : (p : Int) ∣ x - a := by
    rw [← ha]
    exact Int.dvd_self_sub_of_emod_eq rfl
  have := Int.dvd_add (dvl9 (k : Int) e2) e1
  rw [Int.natCast_mul] at this
  have e3 : (x - (a : Int)) * k + ((k : Int) * a - ((1 : Nat) : Int)) = x * k - 1 := by
    rw [Int.sub_mul, Int.mul_comm (k : Int) a]
    omega
  rw [e3] at this
  exact this
end XCI9
section XCJ1
variable {vl : Nat → Nat} {y : ow_MS}
theorem and_1 : ∀ l : Fin 1024, (nI l.val &&& 1 = (1 : Int32)) ↔ l.val % 2 = 1 := by decide +kernel
theorem te_reciprocal {p a : Nat} (h10 : y.1 43010 = nI p) (hp : prT p) (hp2 : p ≤ 997) (h1 : 1 ≤ a) (h2 : a < p) : Te (fun K => ce_X1_reciprocal vl K 43000 (nI a) y) (fun r => r.2 = y ∧ ∃ t, r.1 = nI t ∧ t < p ∧ a * t % p = 1) := by
  have hp1 := hp.1
  let Q : Int32 × ow_MS → Prop := fun r => r.2 = y ∧ ∃ t, r.1 = nI t ∧ t < p ∧ a * t % p = 1
  have hnz : nI p ≠ 0 := fun h9 => by
    have := (nI_eq (a := p) (b := 0) (by omega) (by omega)).mp h9
    omega
  have hsh : ∀ l : Fin 1024, nI l.val >>> ((1 : Int32) &&& 31) = nI (l.val / 2) := by decide +kernel
  have rem : ∀ u v, u < p → v < p → nI u * nI v - nI u * nI v / nI p * nI p = nI (u * v % p) := fun u v hu hv => by
    have : u * v < 2 ^ 31 := by
      have := Nat.mul_le_mul (show u ≤ 997 by omega) (show v ≤ 997 by omega)
      omega
    rw [pk_mul, pk_rem this (by omega) (by omega)]
  have c1 : ∀ (d l u v : Nat), l ≤ d → l < 1024 → u < p → v < p → u * v ^ l % p = a ^ (p - 2) % p → Tt (fun K k => c_X1_reciprocal vl K k 1 (nI a) (nI u) (nI v) (nI l) 43000 0 y) Q := by
    have fin : ∀ u v, u < p → u * v ^ 0 % p = a ^ (p - 2) % p → Q (nI u, y) := fun u v hu e => by
      refine ⟨rfl, u, rfl, hu, ?_⟩
      rw [Nat.pow_zero, Nat.mul_one] at e
      rw [Nat.mul_mod, e, ← Nat.mul_mod, ← Nat.pow_succ']
      rw [Nat.succ_eq_add_one, show p - 2 + 1 = p - 1 by omega]
      exact fer9 hp h1 h2
    intro d
    induction d with
    | zero =>
      intro l u v hl _ hu hv e
      refine u_X1_reciprocal_1 ?_; unfold cm_X1_reciprocal_1
      refine w_leT (b := 0) (by omega) hl (w_some (fin u v hu ?_))
      rw [show l = 0 by omega] at e
      exact e
    | succ d ih =>
      intro l u v hl hl1 hu hv e
      refine u_X1_reciprocal_1 ?_; unfold cm_X1_reciprocal_1
      refine w_le (b := 0) (by omega) (by omega) (fun h0 => w_some (fin u v hu (by rw [show l = 0 by omega] at e; exact e))) (fun hlt => ?_)
      have hv2 : v * v % p < p := Nat.mod_lt _ (by omega)
      have c2 : ∀ t0 : Nat, t0 < p → t0 * (v * v % p) ^ (l / 2) % p = a ^ (p - 2) % p → Tt (fun K k => c_X1_reciprocal vl K k 2 (nI a) (nI u) (nI v) (nI l) 43000 (nI t0) y) Q := by
        intro t0 ht e2
        refine u_X1_reciprocal_2 ?_; unfold cm_X1_reciprocal_2
        refine w_rdF h10 (w_nzI hnz ?_)
        rw [hsh ⟨l, hl1⟩, rem v v hv hv]
        exact (ih (l / 2) _ _ (by omega) (by omega) ht hv2 e2)
      have pw : ∀ t, (t * (v * v % p) ^ (l / 2)) % p = (t * v ^ (2 * (l / 2))) % p := fun t => by
        rw [Nat.mul_mod, ← Nat.pow_mod, ← Nat.mul_mod, Nat.pow_mul, Nat.pow_two]
      refine w_if (fun ho => w_rdF h10 (w_nzI hnz ?_)) (fun ho => c2 u hu ?_)
      · have lo : l % 2 = 1 := (and_1 ⟨l, hl1⟩).mp ho
        rw [rem u v hu hv]
        refine c2 _ (Nat.mod_lt _ (by omega)) ?_
        rw [pw, Nat.mul_mod, Nat.mod_mod, ← Nat.mul_mod, ← e]
        congr 1
        rw [Nat.mul_assoc, ← Nat.pow_succ', Nat.succ_eq_add_one, show 2 * (l / 2) + 1 = l by omega]
      · have lo : ¬ l % 2 = 1 := fun h9 => ho ((and_1 ⟨l, hl1⟩).mpr h9)
        rw [pw, ← e, show 2 * (l / 2) = l by omega]
  refine e_X1_reciprocal ?_
  refine u_X1_reciprocal_0 ?_; unfold cm_X1_reciprocal_0
  refine w_rdF h10 ?_
  rw [show nI p - 2 = nI (p - 2) from pk_sub (b := 2) hp1]
  refine c1 _ _ 1 a (Nat.le_refl _) (by omega) (by omega) h2 ?_
  rw [Nat.one_mul]
end XCJ1
