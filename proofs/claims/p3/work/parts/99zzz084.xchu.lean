section
/-! 99zzzzzzzzzzzzzzzzyzf.xchu -/
-- CHAIN: primes; the class's reciprocal
def pdN9 : List Nat → Nat
  | [] => 1
  | a :: l => a * pdN9 l
section XCI9
variable {p a : Nat}
theorem pd_pm {l l' : List Nat} (h : l.Perm l') : pdN9 l = pdN9 l' := by
  induction h with
  | nil => rfl
  | cons x _ ih => exact congrArg (fun t => x * t) ih
  | swap x y l =>
    show y * (x * pdN9 l) = x * (y * pdN9 l)
    exact Nat.mul_left_comm y x _
  | trans _ _ h1 h2 => exact h1.trans h2
theorem eu9 (hp : prT p) {x y : Nat} (h : p ∣ x * y) : p ∣ x ∨ p ∣ y := by
  have hp2 := hp.1
  by_cases c : p ∣ y
  · exact Or.inr c
  · left
    have h1 : 1 ≤ y % p := by
      rcases Nat.eq_zero_or_pos (y % p) with e | e
      · exact absurd (Nat.dvd_of_mod_eq_zero e) c
      · exact e
    have h2 : y % p < p := Nat.mod_lt _ (by omega)
    have hc : Nat.Coprime p (y % p) := pr_cop hp h1 h2
    refine Nat.Coprime.dvd_of_dvd_mul_right hc ?_
    have e : x * y % p = 0 := Nat.mod_eq_zero_of_dvd h
    refine Nat.dvd_of_mod_eq_zero ?_
    rw [Nat.mul_mod, Nat.mod_mod, ← Nat.mul_mod]
    exact e
theorem pd_md (a : Nat) : ∀ l : List Nat, pdN9 (l.map (fun i => i * a % p)) % p = pdN9 l * a ^ l.length % p
  | [] => rfl
  | i :: l => by
    show (i * a % p) * pdN9 (l.map (fun i => i * a % p)) % p = i * pdN9 l * a ^ (l.length + 1) % p
    rw [Nat.mul_mod, pd_md a l, Nat.mod_mod, ← Nat.mul_mod]
    congr 1
    rw [Nat.pow_succ]
    simp only [Nat.mul_assoc, Nat.mul_comm, Nat.mul_left_comm]
/-- Fermat -/
theorem fer9 (hp : prT p) (h1 : 1 ≤ a) (h2 : a < p) : a ^ (p - 1) % p = 1 := by
  have hp2 := hp.1
  have hpa : ¬ p ∣ a := fun h9 => by
    have := Nat.le_of_dvd h1 h9
    omega
  have inj : ∀ i j, i < p → j < p → i * a % p = j * a % p → i = j := by
    have key : ∀ i j, i ≤ j → j < p → i * a % p = j * a % p → i = j := by
      intro i j hij hj e
      have hd : p ∣ (j - i) * a := by
        rw [Nat.sub_mul]
        exact Nat.dvd_of_mod_eq_zero (Nat.sub_mod_eq_zero_of_mod_eq e.symm)
      rcases eu9 hp hd with h9 | h9
      · rcases Nat.eq_zero_or_pos (j - i) with h8 | h8
        · omega
        · have := Nat.le_of_dvd h8 h9
          omega
      · exact absurd h9 hpa
    intro i j hi hj e
    rcases Nat.le_total i j with h9 | h9
    · exact key i j h9 hj e
    · exact (key j i h9 hi e.symm).symm
  have nd : ((List.range' 1 (p - 1)).map (fun i => i * a % p)).Nodup := nodup_map List.nodup_range' (fun i j hi hj e => inj i j (by
    have := List.mem_range'_1.mp hi
    omega) (by
    have := List.mem_range'_1.mp hj
    omega) e)
  have sub : ∀ x, x ∈ (List.range' 1 (p - 1)).map (fun i => i * a % p) → x ∈ List.range' 1 (p - 1) := fun x hx => by
    obtain ⟨i, i1, e⟩ := List.mem_map.mp hx
    have i2 := List.mem_range'_1.mp i1
    have h3 : x < p := by
      rw [← e]
      exact Nat.mod_lt _ (by omega)
    have h4 : x ≠ 0 := fun h9 => by
      rw [h9] at e
      rcases eu9 hp (Nat.dvd_of_mod_eq_zero e) with h8 | h8
      · have := Nat.le_of_dvd (by omega) h8
        omega
      · exact hpa h8
    exact List.mem_range'_1.mpr (by omega)
  have sup : ∀ x, x ∈ List.range' 1 (p - 1) → x ∈ (List.range' 1 (p - 1)).map (fun i => i * a % p) := fun x hx => by
    refine Classical.byContradiction (fun hno => ?_)
    have := nodup_le (x :: (List.range' 1 (p - 1)).map (fun i => i * a % p)) (List.range' 1 (p - 1)) (List.nodup_cons.mpr ⟨hno, nd⟩) (fun y hy => by
      rcases List.mem_cons.mp hy with h9 | h9
      · rw [h9]
        exact hx
      · exact sub y h9)
    rw [List.length_cons, List.length_map] at this
    omega
  have pm : ((List.range' 1 (p - 1)).map (fun i => i * a % p)).Perm (List.range' 1 (p - 1)) := (List.perm_ext_iff_of_nodup nd List.nodup_range').mpr (fun x => ⟨sub x, sup x⟩)
  have e := pd_md (p := p) a (List.range' 1 (p - 1))
  rw [pd_pm pm, List.length_range'] at e
  have np : ∀ l : List Nat, (∀ x, x ∈ l → 1 ≤ x ∧ x < p) → ¬ p ∣ pdN9 l := by
    intro l
    induction l with
    | nil =>
      intro _ h9
      have : p ≤ 1 := Nat.le_of_dvd (by decide) h9
      omega
    | cons x l ih =>
      intro hl h9
      rcases eu9 hp h9 with h8 | h8
      · have := hl x List.mem_cons_self
        have := Nat.le_of_dvd (by omega) h8
        omega
      · exact ih (fun y hy => hl y (List.mem_cons_of_mem _ hy)) h8
  have n1 := np (List.range' 1 (p - 1)) (fun x hx => by
    have := List.mem_range'_1.mp hx
    omega)
  have ge : 1 ≤ a ^ (p - 1) := Nat.pos_of_ne_zero (fun h9 => by
    have := Nat.pow_le_pow_left h1 (p - 1)
    rw [h9, Nat.one_pow] at this
    omega)
  have hd : p ∣ pdN9 (List.range' 1 (p - 1)) * (a ^ (p - 1) - 1) := by
    rw [Nat.mul_sub, Nat.mul_one]
    exact Nat.dvd_of_mod_eq_zero (Nat.sub_mod_eq_zero_of_mod_eq e.symm)
  rcases eu9 hp hd with h9 | h9
  · exact absurd h9 n1
  · obtain ⟨q, hq⟩ := h9
    have : a ^ (p - 1) = p * q + 1 := by omega
    rw [this, Nat.mul_add_mod, Nat.mod_eq_of_lt (by omega)]
theorem prp_of (hp : prT p) : pr9 (p : Int) := by
  refine ⟨by have := hp.1; omega, fun x y h => ?_⟩
  have h9 : (p : Int).natAbs ∣ (x * y).natAbs := Int.natAbs_dvd_natAbs.mpr h
  rw [Int.natAbs_mul] at h9
  rcases eu9 hp h9 with h8 | h8
  · exact Or.inl (Int.natAbs_dvd_natAbs.mp h8)
  · exact Or.inr (Int.natAbs_dvd_natAbs.mp h8)
theorem dv_md {x y : Nat} (h : x % p = y % p) : (p : Int) ∣ (x : Int) - y := by
  have a := Nat.div_add_mod x p
  have b := Nat.div_add_mod y p
  refine ⟨(x / p : Int) - (y / p : Int), ?_⟩
  rw [Int.mul_sub]
  have a' : (x : Int) = p * (x / p : Nat) + (x % p : Nat) := by
    rw [← Int.natCast_mul, ← Int.natCast_add, a]
  have b' : (y : Int) = p * (y / p : Nat) + (y % p : Nat) := by
    rw [← Int.natCast_mul, ← Int.natCast_add, b]
  rw [h] at a'
  rw [Int.natCast_ediv] at a' b'
  omega
theorem iv_of (hp : prT p) : iv9 (p : Int) := fun x hx => by
  have hp2 := hp.1
  have r0 := Int.emod_nonneg x (show (p : Int) ≠ 0 by omega)
  have r1 := Int.emod_lt_of_pos x (show (0 : Int) < p by omega)
  have r2 : x % p ≠ 0 := fun h9 => hx (Int.dvd_of_emod_eq_zero h9)
  obtain ⟨a, ha⟩ := Int.eq_ofNat_of_zero_le r0
  obtain ⟨k, k1, k2, k3⟩ := pr_inv (a := a) hp (by omega) (by omega)
  refine ⟨(k : Int), ?_⟩
  have e1 : (p : Int) ∣ ((k * a : Nat) : Int) - (1 : Nat) := dv_md (by
    rw [k3, Nat.mod_eq_of_lt (by omega)])
  have e2 : (p : Int) ∣ x - a := by
    rw [← ha]
    exact Int.dvd_self_sub_of_emod_eq rfl
  have := Int.dvd_add (dvl9 (k : Int) e2) e1
  rw [Int.natCast_mul] at this
  have e3 : (x - (a : Int)) * k + ((k : Int) * a - ((1 : Nat) : Int)) = x * k - 1 := by
    rw [Int.sub_mul, Int.mul_comm (k : Int) a]
    omega
  rw [e3] at this
  exact this
end XCI9
section XCJ1
variable {vl : Nat → Nat} {y : ow_MS}
theorem and_1 : ∀ l : Fin 1024, (nI l.val &&& 1 = (1 : Int32)) ↔ l.val % 2 = 1 := by decide +kernel
theorem te_reciprocal {p a : Nat} (h10 : y.1 43010 = nI p) (hp : prT p) (hp2 : p ≤ 997) (h1 : 1 ≤ a) (h2 : a < p) : Te (fun K => ce_X1_reciprocal vl K 43000 (nI a) y) (fun r => r.2 = y ∧ ∃ t, r.1 = nI t ∧ t < p ∧ a * t % p = 1) := by
  have hp1 := hp.1
  let Q : Int32 × ow_MS → Prop := fun r => r.2 = y ∧ ∃ t, r.1 = nI t ∧ t < p ∧ a * t % p = 1
  have hnz : nI p ≠ 0 := fun h9 => by
    have := (nI_eq (a := p) (b := 0) (by omega) (by omega)).mp h9
    omega
  have hsh : ∀ l : Fin 1024, nI l.val >>> ((1 : Int32) &&& 31) = nI (l.val / 2) := by decide +kernel
  have rem : ∀ u v, u < p → v < p → nI u * nI v - nI u * nI v / nI p * nI p = nI (u * v % p) := fun u v hu hv => by
    have : u * v < 2 ^ 31 := by
      have := Nat.mul_le_mul (show u ≤ 997 by omega) (show v ≤ 997 by omega)
      omega
    rw [pk_mul, pk_rem this (by omega) (by omega)]
  have c1 : ∀ (d l u v : Nat), l ≤ d → l < 1024 → u < p → v < p → u * v ^ l % p = a ^ (p - 2) % p → Tt (fun K k => c_X1_reciprocal vl K k 1 (nI a) (nI u) (nI v) (nI l) 43000 0 y) Q := by
    have fin : ∀ u v, u < p → u * v ^ 0 % p = a ^ (p - 2) % p → Q (nI u, y) := fun u v hu e => by
      refine ⟨rfl, u, rfl, hu, ?_⟩
      rw [Nat.pow_zero, Nat.mul_one] at e
      rw [Nat.mul_mod, e, ← Nat.mul_mod, ← Nat.pow_succ']
      rw [Nat.succ_eq_add_one, show p - 2 + 1 = p - 1 by omega]
      exact fer9 hp h1 h2
    intro d
    induction d with
    | zero =>
      intro l u v hl _ hu hv e
      refine u_X1_reciprocal_1 ?_; unfold cm_X1_reciprocal_1
      refine w_leT (b := 0) (by omega) hl (w_some (fin u v hu ?_))
      rw [show l = 0 by omega] at e
      exact e
    | succ d ih =>
      intro l u v hl hl1 hu hv e
      refine u_X1_reciprocal_1 ?_; unfold cm_X1_reciprocal_1
      refine w_le (b := 0) (by omega) (by omega) (fun h0 => w_some (fin u v hu (by rw [show l = 0 by omega] at e; exact e))) (fun hlt => ?_)
      have hv2 : v * v % p < p := Nat.mod_lt _ (by omega)
      have c2 : ∀ t0 : Nat, t0 < p → t0 * (v * v % p) ^ (l / 2) % p = a ^ (p - 2) % p → Tt (fun K k => c_X1_reciprocal vl K k 2 (nI a) (nI u) (nI v) (nI l) 43000 (nI t0) y) Q := by
        intro t0 ht e2
        refine u_X1_reciprocal_2 ?_; unfold cm_X1_reciprocal_2
        refine w_rdF h10 (w_nzI hnz ?_)
        rw [hsh ⟨l, hl1⟩, rem v v hv hv]
        exact (ih (l / 2) _ _ (by omega) (by omega) ht hv2 e2)
      have pw : ∀ t, (t * (v * v % p) ^ (l / 2)) % p = (t * v ^ (2 * (l / 2))) % p := fun t => by
        rw [Nat.mul_mod, ← Nat.pow_mod, ← Nat.mul_mod, Nat.pow_mul, Nat.pow_two]
      refine w_if (fun ho => w_rdF h10 (w_nzI hnz ?_)) (fun ho => c2 u hu ?_)
      · have lo : l % 2 = 1 := (and_1 ⟨l, hl1⟩).mp ho
        rw [rem u v hu hv]
        refine c2 _ (Nat.mod_lt _ (by omega)) ?_
        rw [pw, Nat.mul_mod, Nat.mod_mod, ← Nat.mul_mod, ← e]
        congr 1
        rw [Nat.mul_assoc, ← Nat.pow_succ', Nat.succ_eq_add_one, show 2 * (l / 2) + 1 = l by omega]
      · have lo : ¬ l % 2 = 1 := fun h9 => ho ((and_1 ⟨l, hl1⟩).mpr h9)
        rw [pw, ← e, show 2 * (l / 2) = l by omega]
  refine e_X1_reciprocal ?_
  refine u_X1_reciprocal_0 ?_; unfold cm_X1_reciprocal_0
  refine w_rdF h10 ?_
  rw [show nI p - 2 = nI (p - 2) from pk_sub (b := 2) hp1]
  refine c1 _ _ 1 a (Nat.le_refl _) (by omega) (by omega) h2 ?_
  rw [Nat.one_mul]
end XCJ1
end
section
/-! 99zzzzzzzzzzzzzzzzyzg.xchv -/
-- CHAIN: the class's work row holds D of the generator (made by tools/mkchv.py out of cimg, cimg2)
def wk9 (z : ow_MS) (p w : Nat) (v : vc9) : Prop := ∀ j, j < w → ∃ a, z.2.1 43011 j = nI a ∧ a < p ∧ (p : Int) ∣ (a : Int) - v j
def crB (m a b l : Nat) (φ : Nat → Nat) (k : Nat) : Prop := k < 2 ^ l ∧ ∀ j, btN k j = if j < l ∧ j ≠ a ∧ j ≠ b then btN m (φ j) else 0
theorem crB_s {m a b l k : Nat} {φ : Nat → Nat} (h : crB m a b l φ k) : (l ≠ a → l ≠ b → crB m a b (l + 1) φ (k + btN m (φ l) * 2 ^ l)) ∧ ((l = a ∨ l = b) → crB m a b (l + 1) φ k) := by
  obtain ⟨h1, h2⟩ := h
  have pw : (2 : Nat) ^ (l + 1) = 2 ^ l + 2 ^ l := by
    rw [Nat.pow_succ]
    omega
  have old : ∀ j, j ≠ l → (if j < l ∧ j ≠ a ∧ j ≠ b then btN m (φ j) else 0) = (if j < l + 1 ∧ j ≠ a ∧ j ≠ b then btN m (φ j) else 0) := fun j hj => by
    by_cases c : j < l ∧ j ≠ a ∧ j ≠ b
    · rw [if_pos c, if_pos ⟨by omega, c.2⟩]
    · rw [if_neg c, if_neg (fun h9 => c ⟨by omega, h9.2⟩)]
  constructor
  · intro ha hb
    rcases bt_01 m (φ l) with e | e
    · rw [e, Nat.zero_mul]
      show crB m a b (l + 1) φ k
      refine ⟨by omega, fun j => ?_⟩
      by_cases c : j = l
      · rw [c, if_pos ⟨by omega, ha, hb⟩, e]
        exact bt_lt h1 (Nat.le_refl l)
      · rw [h2 j, old j c]
    · rw [e, Nat.one_mul]
      refine ⟨by omega, fun j => ?_⟩
      rw [bt_add h1]
      by_cases c : j = l
      · rw [if_pos c, c, if_pos ⟨by omega, ha, hb⟩, e]
      · rw [if_neg c, h2 j, old j c]
  · intro hab
    refine ⟨by omega, fun j => ?_⟩
    by_cases c : j = l
    · rw [c, if_neg (fun h9 => hab.elim h9.2.1 h9.2.2)]
      exact bt_lt h1 (Nat.le_refl l)
    · rw [h2 j, old j c]
theorem nb_k : ∀ s : Fin 256, ∀ x : Fin 8, (((ow_bc (nI s.val &&& (((1 : Int32) <<< (nI x.val &&& 31)) - 1))) &&& 1 = 0) ↔ par9 (tb s.val) x.val = 1) ∧ (par9 (tb s.val) x.val = 1 ∨ par9 (tb s.val) x.val = -1) := by decide +kernel
section XCJ2
variable {vl : Nat → Nat} {y : ow_MS} {S : ow_NP} {G : Nat → Int32} {c ci : Nat} {Ls : Nat → Nat → Nat} {ns : Nat → Nat}
theorem wk_cg {z : ow_MS} {p w : Nat} {v v' : vc9} (h : wk9 z p w v) (e : zq9 p w v v') : wk9 z p w v' := fun j hj => by
  obtain ⟨a, a1, a2, a3⟩ := h j hj
  refine ⟨a, a1, a2, ?_⟩
  have := Int.dvd_add a3 (e j hj)
  rw [show (a : Int) - v j + (v j - v' j) = a - v' j by omega] at this
  exact this
theorem te_carry {s t m a b : Nat} (hc : c ≤ 8) (hL : LpY y S G c Ls ns) (hs : s < 2 ^ c) (ht : t < 2 ^ c) (hm : m < 1024) (ha : a < 10) (hb : b < 10) : Te (fun K => ce_X1_carry vl K 43000 (nI s) (nI m) (nI t) (nI a) (nI b) y) (fun r => r.2 = y ∧ ∃ (k : Nat) (ga : Nat → Nat), (∀ l, l < ns t → ga l < 2 * c ∧ Ls t (ga l) = l) ∧ r.1 = nI k ∧ crB m a b (ns t) (fun l => Ls s (ga l)) k) := by
  obtain ⟨⟨h1, h2, h3, h4, h5⟩, h6⟩ := hL s hs
  obtain ⟨⟨t1, t2, t3, t4, t5⟩, t6⟩ := hL t ht
  have h256 : 2 ^ c ≤ 256 := two_mono (b := 8) hc
  obtain ⟨ga, hga⟩ : ∃ ga : Nat → Nat, ∀ l, l < ns t → ga l < 2 * c ∧ y.2.1 43004 (10 * t + l) = nI (ga l) ∧ Ls t (ga l) = l := by
    refine ⟨fun l => if h : l < ns t then Classical.choose (t3 l h) else 0, fun l hl => ?_⟩
    dsimp only
    rw [dif_pos hl]
    exact Classical.choose_spec (t3 l hl)
  let Q : Int32 × ow_MS → Prop := fun r => r.2 = y ∧ ∃ (k : Nat) (ga : Nat → Nat), (∀ l, l < ns t → ga l < 2 * c ∧ Ls t (ga l) = l) ∧ r.1 = nI k ∧ crB m a b (ns t) (fun l => Ls s (ga l)) k
  have c1 : ∀ (d l k : Nat), l + d = ns t → crB m a b l (fun l => Ls s (ga l)) k → Tt (fun K i => c_X1_carry vl K i 1 (nI s) (nI m) (nI t) (nI a) (nI b) (nI k) (nI l) 43000 y) Q := by
    intro d
    induction d with
    | zero =>
      intro l k hl hk
      have hl : l = ns t := by omega
      subst hl
      refine u_X1_carry_1 ?_; unfold cm_X1_carry_1
      exact w_crI ch_43003 rfl (by omega) t2 (w_leT (by omega) (by omega) (w_some ⟨rfl, k, ga, fun l hl => ⟨(hga l hl).1, (hga l hl).2.2⟩, rfl, hk⟩))
    | succ d ih =>
      intro l k hl hk
      obtain ⟨g1, g2, g3⟩ := hga l (by omega)
      obtain ⟨o1, o2⟩ := h1 _ g1
      have c2 : ∀ k', crB m a b (l + 1) (fun l => Ls s (ga l)) k' → Tt (fun K i => c_X1_carry vl K i 2 (nI s) (nI m) (nI t) (nI a) (nI b) (nI k') (nI l) 43000 y) Q := by
        intro k' hk'
        refine u_X1_carry_2 ?_; unfold cm_X1_carry_2
        rw [nI_1]
        exact ih (l + 1) k' (by omega) hk'
      obtain ⟨f1, f2⟩ := crB_s hk
      refine u_X1_carry_1 ?_; unfold cm_X1_carry_1
      refine w_crI ch_43003 rfl (by omega) t2 (w_leF (by omega) (by omega) (w_eqN (by omega) (by omega) (fun e => c2 k (f2 (Or.inl e))) (fun e1 => w_eqN (by omega) (by omega) (fun e => c2 k (f2 (Or.inr e))) (fun e2 => ?_))))
      rw [i10]
      refine w_crI ch_43004 rfl (by omega) g2 ?_
      rw [i16]
      refine w_crI ch_43002 rfl (by omega) o1 ?_
      rw [crS hm (by omega), crO hk.1 (by omega) (by unfold btN; omega)]
      exact c2 _ (f1 e1 e2)
  refine e_X1_carry ?_
  refine u_X1_carry_0 ?_; unfold cm_X1_carry_0
  refine c1 (ns t) 0 0 (by omega) ⟨by decide, fun j => ?_⟩
  rw [if_neg (fun h9 => Nat.not_lt_zero _ h9.1)]
  unfold btN
  rw [Nat.zero_div]
theorem te_addTo {t m bg W w p nb : Nat} {v : vc9} (ht : t < 256) (hm : m < 1024) (hp : tbP y) (hbg : y.2.1 43008 t = nI bg) (hW : vl 43011 = W) (hW2 : W < 2 ^ 31) (hwW : w ≤ W) (hix : bg + cpN (pc m) m < w) (h10 : y.1 43010 = nI p) (hp1 : 2 ≤ p) (hp2 : p ≤ 997) (hnb : nb < p) (hk : wk9 y p w v) : Te (fun K => ce_X1_addTo vl K 43000 (nI t) (nI m) (nI nb) y) (fun y1 => fr (fun g => g = 43011) y y1 ∧ wk9 y1 p w (fun j => v j + if j = bg + cpN (pc m) m then (nb : Int) else 0)) := by
  have hnz : nI p ≠ 0 := fun h9 => by
    have := (nI_eq (a := p) (b := 0) (by omega) (by omega)).mp h9
    omega
  obtain ⟨a, a1, a2, a3⟩ := hk _ hix
  refine e_X1_addTo ?_; unfold cm_X1_addTo_0
  refine w_crI ch_43008 rfl ht hbg (w_crI ch_43005 rfl hm (hp m hm) ?_)
  rw [nI_add]
  refine w_crI (ch_43011.trans hW) rfl (by omega) a1 (w_rdF h10 (w_nzI hnz ?_))
  rw [nI_add, pk_rem (show a + nb < 2 ^ 31 by omega) (by omega) (by omega)]
  refine w_ctI (ch_43011.trans hW) rfl (by omega) (w_some ⟨fr_I rfl, fun j hj => ?_⟩)
  by_cases e : j = bg + cpN (pc m) m
  · refine ⟨(a + nb) % p, ?_, Nat.mod_lt _ (by omega), ?_⟩
    · rw [e]
      exact po_usI_at
    · dsimp only
      rw [if_pos e]
      have h1 : (p : Int) ∣ (((a + nb) % p : Nat) : Int) - ((a + nb : Nat) : Int) := dv_md (Nat.mod_mod _ _)
      rw [e]
      have := Int.dvd_add h1 a3
      rw [show (((a + nb) % p : Nat) : Int) - ((a + nb : Nat) : Int) + ((a : Int) - v (bg + cpN (pc m) m)) = (((a + nb) % p : Nat) : Int) - (v (bg + cpN (pc m) m) + (nb : Int)) by omega] at this
      exact this
  · obtain ⟨a', b1, b2, b3⟩ := hk j hj
    refine ⟨a', ?_, b2, ?_⟩
    · exact (po_usI_ne e).trans b1
    · dsimp only
      rw [if_neg e, Int.add_zero]
      exact b3
end XCJ2
section XCJ3
variable {vl : Nat → Nat} {y : ow_MS} {S : ow_NP} {G : Nat → Int32} {c ci : Nat} {Ls : Nat → Nat → Nat} {ns : Nat → Nat}
theorem te_writeImage {s m W p : Nat} {dg : Int} {w : Nat → Bool} (hy : cAt y 44000 (c, ci, S, G)) (hv : vn c S) (hc : c ≤ 8) (hw : gaO c S w) (hL : LpY y S G c Ls ns) (hly : LyY y c ns dg) (htb : tbP y) (hs : s < 2 ^ c) (hm : m < 2 ^ ns s) (hk : kpF (ns s) (pc s) dg = some (pc m)) (hW : vl 43011 = W) (hW2 : W < 2 ^ 31) (hsz : smH (bkF ns dg) (pc s + 1) 0 (2 ^ c) ≤ W) (h10 : y.1 43010 = nI p) (hp1 : 2 ≤ p) (hp2 : p ≤ 997) {rel : (Nat → Bool) → Nat → Nat → Prop} (hC : cu9 c 2000 (fun g => g < 2 * c) (fun x => 2 * x) (fun x => S.2 (2 * x)) (fun x => S.2 (2 * x)) rel) (hLT : LT9 c (fun g => g < 2 * c) rel Ls ns) (hw0 : wk9 y p (sz9 c ns dg (pc s + 1)) (fun _ => 0)) : Te (fun K => ce_X1_writeImage vl K 43000 (nI s) (nI m) y) (fun y1 => fr (fun g => g = 43011) y y1 ∧ wk9 y1 p (sz9 c ns dg (pc s + 1)) (row9 (fun g => g < 2 * c) Ls ns (fun x => 2 * x) (fun x => S.2 (2 * x)) dg s m c)) := by
  let Qx : Nat → ow_MS → Prop := fun n y1 => fr (fun g => g = 43011) y y1 ∧ wk9 y1 p (sz9 c ns dg (pc s + 1)) (row9 (fun g => g < 2 * c) Ls ns (fun x => 2 * x) (fun x => S.2 (2 * x)) dg s m n)
  let Q : ow_MS → Prop := Qx c
  have h256 : 2 ^ c ≤ 256 := two_mono (b := 8) hc
  have hns := (hL s hs).2
  have hm10 : m < 1024 := Nat.lt_of_lt_of_le hm (two_mono (b := 10) (by omega))
  have c1 : ∀ (d x : Nat) (z : ow_MS), x + d = c → Qx x z → Tt (fun K k => c_X1_writeImage vl K k 1 (nI s) (nI m) (nI x) 0 0 0 0 0 0 0 0 0 43000 0 0 z) Q := by
    intro d
    induction d with
    | zero =>
      intro x z hx hz
      have hz4 : cAt z 44000 (c, ci, S, G) := cAt_fr hz.1 (fun g hg h9 => by unfold cP at hg; omega) hy
      refine u_X1_writeImage_1 ?_; unfold cm_X1_writeImage_1
      exact w_rdF hz4.1 (w_leT (by show x < 2 ^ 31; omega) (show c ≤ x by omega) (w_some (by rw [show x = c by omega] at hz; exact hz)))
    | succ d ih =>
      intro x z hx hz
      have hz4 : cAt z 44000 (c, ci, S, G) := cAt_fr hz.1 (fun g hg h9 => by unfold cP at hg; omega) hy
      have hLz : LpY z S G c Ls ns := LpY_fr hz.1 (by decide) hL
      have c8 : ∀ z1, Qx (x + 1) z1 → Tt (fun K k => c_X1_writeImage vl K k 8 (nI s) (nI m) (nI x) 0 0 0 0 0 0 0 0 0 43000 0 0 z1) Q := by
        intro z1 hz1
        refine u_X1_writeImage_8 ?_; unfold cm_X1_writeImage_8
        rw [nI_1]
        exact ih (x + 1) z1 (by omega) hz1
      have hxc : x < c := by omega
      by_cases hb : btN s x = 0
      · have ht : s + 2 ^ x < 2 ^ c := st_lt hs hxc hb
        generalize hte : s + 2 ^ x = t at ht
        have hpt : pc t = pc s + 1 := by rw [← hte]; exact pc_add (by omega) hb
        have l1 := (hv (2 * x) (by omega)).2.1
        obtain ⟨⟨s1, s2, s3, s4, s5⟩, s6⟩ := hLz s hs
        obtain ⟨⟨t1, t2, t3, t4, t5⟩, t6⟩ := hLz t ht
        have hbs : tb s x = false := by
          unfold tb
          unfold btN at hb
          rw [hb]
          rfl
        have eT : uPx S G (tb t) c = uPx S G (seB (tb s) x true) c := by
          rw [← hte]
          exact (uPx_c c (fun k _ => tb_flip hb k)).1
        have kind := st_kind (G := G) hv hw hxc hbs
        rw [← eT] at kind
        have ab : Ls s (2 * x) ≠ Ls s (S.2 (2 * x)) ∧ ns t + 1 = ns s ∨ Ls s (2 * x) = Ls s (S.2 (2 * x)) ∧ ns t = ns s + 1 := by
          rcases kind with k | k
          · refine Or.inl ⟨fun h9 => k.1 ((s4 _ _ (by omega) l1).mp h9), ?_⟩
            have := k.2.2
            omega
          · refine Or.inr ⟨(s4 _ _ (by omega) l1).mpr ((k.2.1 _ _ (by omega) l1).mpr (Or.inr ⟨Or.inl rfl, Or.inr rfl⟩)), ?_⟩
            have := k.2.2
            omega
        have la := (s1 (2 * x) (by omega)).2
        have lb' := (s1 _ l1).2
        have lc := (t1 (2 * x) (by omega)).2
        have le := (t1 _ l1).2
        -- adding at a set of the right size
        have hxn : ∀ j, row9 (fun g => g < 2 * c) Ls ns (fun x => 2 * x) (fun x => S.2 (2 * x)) dg s m (x + 1) j = row9 (fun g => g < 2 * c) Ls ns (fun x => 2 * x) (fun x => S.2 (2 * x)) dg s m x j + rwX (fun g => g < 2 * c) Ls ns (fun x => 2 * x) (fun x => S.2 (2 * x)) dg s m x j := fun _ => rfl
        have hrw : ∀ j, rwX (fun g => g < 2 * c) Ls ns (fun x => 2 * x) (fun x => S.2 (2 * x)) dg s m x j = par9 (tb s) x * cnI (ix9 ns dg t) j (di9 (fun g => g < 2 * c) Ls ns (fun x => 2 * x) (fun x => S.2 (2 * x)) s m x) := fun j => by
          unfold rwX
          rw [if_neg (by omega), hte]
        have ad : ∀ (z1 : ow_MS) (m' nb : Nat) (v : vc9), fr (fun g => g = 43011) y z1 → wk9 z1 p (sz9 c ns dg (pc s + 1)) v → m' < 2 ^ ns t → kpF (ns t) (pc t) dg = some (pc m') → nb < p → Te (fun K => ce_X1_addTo vl K 43000 (nI t) (nI m') (nI nb) z1) (fun z2 => fr (fun g => g = 43011) y z2 ∧ wk9 z2 p (sz9 c ns dg (pc s + 1)) (fun j => v j + if j = ix9 ns dg t m' then (nb : Int) else 0)) := by
          intro z1 m' nb v hz1 hk1 hm' hk' hnb
          have hm10' : m' < 1024 := Nat.lt_of_lt_of_le hm' (two_mono (b := 10) (by omega))
          have hix := ix_lt ht t6 hm' hk'
          rw [hpt] at hix
          have hsz2 : sz9 c ns dg (pc s + 1) ≤ W := hsz
          refine w_monoE (te_addTo (bg := smH (bkF ns dg) (pc t) 0 t) (W := W) (w := sz9 c ns dg (pc s + 1)) (p := p) (by omega) hm10' (tbP_fr hz1 (by decide) htb) ?_ hW hW2 hsz2 (by rw [hpt]; exact hix) ?_ hp1 hp2 hnb hk1) (fun r hr => ⟨fr_tr hz1 hr.1, hr.2⟩)
          · rw [(hz1 43008 (by decide)).2.1]
            exact (hly.1 t ht).2
          · rw [(hz1 43010 (by decide)).1]
            exact h10
        have main : ∀ (kp : Nat) (ga : Nat → Nat) (nb : Nat), nb < p → (p : Int) ∣ (nb : Int) - par9 (tb s) x → (∀ l, l < ns t → ga l < 2 * c ∧ Ls t (ga l) = l) → crB m (Ls t (2 * x)) (Ls t (S.2 (2 * x))) (ns t) (fun l => Ls s (ga l)) kp → Tt (fun K k => c_X1_writeImage vl K k 2 (nI s) (nI m) (nI x) (nI t) (nI (Ls s (2 * x))) (nI (Ls s (S.2 (2 * x)))) (nI (Ls t (2 * x))) (nI (Ls t (S.2 (2 * x)))) (nI kp) 0 0 0 43000 (nI nb) 0 z) Q := by
          intro kp ga nb hnb hpar hga hkp
          -- the number of the loops that stay
          have eK : kp = K9 (fun g => g < 2 * c) Ls ns (fun x => 2 * x) (fun x => S.2 (2 * x)) s m x := by
            have sp := (K_sp (G := fun g => g < 2 * c) (Ls := Ls) (ns := ns) (P1 := fun x => 2 * x) (P2 := fun x => S.2 (2 * x)) (s := s) (m := m) (x := x)).1
            rw [hte] at sp
            refine tb_in (ns t) hkp.1 sp (fun l hl => ?_)
            obtain ⟨g1, g2⟩ := hga l hl
            have kb := K_bt (m := m) hC hLT hs hxc hb (g := ga l) g1
            rw [hte, g2] at kb
            have h2 := hkp.2 l
            rw [tb_b, tb_b]
            by_cases q : l = Ls t (2 * x) ∨ l = Ls t (S.2 (2 * x))
            · rw [kb.1 q, h2, if_neg (fun h9 => q.elim h9.2.1 h9.2.2)]
            · rw [kb.2 q, h2, if_pos ⟨hl, fun h9 => q (Or.inl h9), fun h9 => q (Or.inr h9)⟩]
          have k1 := hkp.1
          have k3 : btN kp (Ls t (2 * x)) = 0 := (hkp.2 _).trans (if_neg (fun h9 => h9.2.1 rfl))
          have k4 : btN kp (Ls t (S.2 (2 * x))) = 0 := (hkp.2 _).trans (if_neg (fun h9 => h9.2.2 rfl))
          have vd : ∀ m', m' ∈ di9 (fun g => g < 2 * c) Ls ns (fun x => 2 * x) (fun x => S.2 (2 * x)) s m x → m' < 2 ^ ns t ∧ kpF (ns t) (pc t) dg = some (pc m') := fun m' hm' => by
            have := va_di hC hLT (by omega) (show va9 c ns dg (pc s) s m from ⟨hs, rfl, hm, hk⟩) hxc hb hm'
            rw [hte] at this
            exact ⟨this.2.2.1, this.2.2.2⟩
          have di : di9 (fun g => g < 2 * c) Ls ns (fun x => 2 * x) (fun x => S.2 (2 * x)) s m x = if Ls s (2 * x) = Ls s (S.2 (2 * x)) then (if btN m (Ls s (2 * x)) = 0 then [kp] else [kp + 2 ^ Ls t (S.2 (2 * x)), kp + 2 ^ Ls t (2 * x)]) else (if btN m (Ls s (2 * x)) = 0 ∧ btN m (Ls s (S.2 (2 * x))) = 0 then [] else if btN m (Ls s (2 * x)) = 0 ∨ btN m (Ls s (S.2 (2 * x))) = 0 then [kp] else [kp + 2 ^ Ls t (2 * x)]) := by
            unfold di9
            rw [← eK, hte]
          have one : ∀ (z2 : ow_MS) (m1 : Nat), di9 (fun g => g < 2 * c) Ls ns (fun x => 2 * x) (fun x => S.2 (2 * x)) s m x = [m1] → fr (fun g => g = 43011) y z2 → wk9 z2 p (sz9 c ns dg (pc s + 1)) (fun j => row9 (fun g => g < 2 * c) Ls ns (fun x => 2 * x) (fun x => S.2 (2 * x)) dg s m x j + if j = ix9 ns dg t m1 then (nb : Int) else 0) → Qx (x + 1) z2 := fun z2 m1 e h1 h2 => ⟨h1, wk_cg h2 (fun j _ => by
            rw [hxn j, hrw j, e]
            show (p : Int) ∣ _ - (_ + par9 (tb s) x * ((if ix9 ns dg t m1 = j then 1 else 0) + 0))
            by_cases q : j = ix9 ns dg t m1
            · rw [if_pos q, if_pos q.symm]
              have e9 : ∀ a b : Int, a + (nb : Int) - (a + b * (1 + 0)) = nb - b := fun a b => by omega
              rw [e9]
              exact hpar
            · rw [if_neg q, if_neg (fun h9 => q h9.symm)]
              have e9 : ∀ a b : Int, a + 0 - (a + b * (0 + 0)) = 0 := fun a b => by omega
              rw [e9]
              exact Int.dvd_zero _)⟩
          have two : ∀ (z2 : ow_MS) (m1 m2 : Nat), di9 (fun g => g < 2 * c) Ls ns (fun x => 2 * x) (fun x => S.2 (2 * x)) s m x = [m2, m1] → fr (fun g => g = 43011) y z2 → wk9 z2 p (sz9 c ns dg (pc s + 1)) (fun j => (row9 (fun g => g < 2 * c) Ls ns (fun x => 2 * x) (fun x => S.2 (2 * x)) dg s m x j + if j = ix9 ns dg t m1 then (nb : Int) else 0) + if j = ix9 ns dg t m2 then (nb : Int) else 0) → Qx (x + 1) z2 := fun z2 m1 m2 e h1 h2 => ⟨h1, wk_cg h2 (fun j _ => by
            rw [hxn j, hrw j, e]
            show (p : Int) ∣ _ - (_ + par9 (tb s) x * ((if ix9 ns dg t m2 = j then 1 else 0) + ((if ix9 ns dg t m1 = j then 1 else 0) + 0)))
            have sy : ∀ a : Nat, (if a = j then (1 : Int) else 0) = if j = a then 1 else 0 := fun a => by
              by_cases q : j = a
              · rw [if_pos q, if_pos q.symm]
              · rw [if_neg q, if_neg (fun h9 => q h9.symm)]
            rw [sy, sy]
            generalize row9 (fun g => g < 2 * c) Ls ns (fun x => 2 * x) (fun x => S.2 (2 * x)) dg s m x j = R9
            generalize par9 (tb s) x = P9 at hpar ⊢
            by_cases q1 : j = ix9 ns dg t m1
            · rw [if_pos q1, if_pos q1]
              by_cases q2 : j = ix9 ns dg t m2
              · rw [if_pos q2, if_pos q2, show R9 + (nb : Int) + nb - (R9 + P9 * (1 + (1 + 0))) = 2 * ((nb : Int) - P9) by omega]
                exact dvr9 2 hpar
              · rw [if_neg q2, if_neg q2, show R9 + (nb : Int) + 0 - (R9 + P9 * (0 + (1 + 0))) = (nb : Int) - P9 by omega]
                exact hpar
            · rw [if_neg q1, if_neg q1]
              by_cases q2 : j = ix9 ns dg t m2
              · rw [if_pos q2, if_pos q2, show R9 + 0 + (nb : Int) - (R9 + P9 * (1 + (0 + 0))) = (nb : Int) - P9 by omega]
                exact hpar
              · rw [if_neg q2, if_neg q2, show R9 + 0 + (0 : Int) - (R9 + P9 * (0 + (0 + 0))) = 0 by omega]
                exact Int.dvd_zero _)⟩
          have non : di9 (fun g => g < 2 * c) Ls ns (fun x => 2 * x) (fun x => S.2 (2 * x)) s m x = [] → Qx (x + 1) z := fun e => ⟨hz.1, wk_cg hz.2 (fun j _ => by
            rw [hxn j, hrw j, e]
            show (p : Int) ∣ _ - (_ + par9 (tb s) x * 0)
            rw [Int.mul_zero, Int.add_zero, Int.sub_self]
            exact Int.dvd_zero _)⟩
          have ba : btN m (Ls s (2 * x)) = 0 ∨ btN m (Ls s (2 * x)) = 1 := by unfold btN; omega
          have bb : btN m (Ls s (S.2 (2 * x))) = 0 ∨ btN m (Ls s (S.2 (2 * x))) = 1 := by unfold btN; omega
          have or1 : ∀ l, l < ns t → btN kp l = 0 → nI kp ||| ((1 : Int32) <<< (nI l &&& 31)) = nI (kp + 2 ^ l) := by
            intro l hl hbl
            have h9 : 2 ^ l ≤ 2 ^ 9 := two_mono (by omega)
            have h9' : kp < 2 ^ 9 := Nat.lt_of_lt_of_le k1 (two_mono t6)
            rw [shl1 (by omega), ow_or (by omega) (by omega), or_add hbl]
          have c7 : ∀ (m' : Nat) (x5 x6 x7 x8 x9 x11 x12 : Int32), di9 (fun g => g < 2 * c) Ls ns (fun x => 2 * x) (fun x => S.2 (2 * x)) s m x = [m'] → Tt (fun K k => c_X1_writeImage vl K k 7 (nI s) (nI m) (nI x) (nI t) x5 x6 x7 x8 x9 (nI nb) x11 x12 43000 (nI m') (nI t) z) Q := by
            intro m' x5 x6 x7 x8 x9 x11 x12 e
            have v := vd m' (by rw [e]; exact List.mem_cons_self)
            refine u_X1_writeImage_7 ?_; unfold cm_X1_writeImage_7
            exact w_cs0 (ad z m' nb _ hz.1 hz.2 v.1 v.2 hnb) (fun z1 h1 => c8 z1 (one z1 m' e h1.1 h1.2))
          -- both bits known
          have c4 : ∀ (fa fb : Nat), fa = btN m (Ls s (2 * x)) → fb = btN m (Ls s (S.2 (2 * x))) → Tt (fun K k => c_X1_writeImage vl K k 4 (nI s) (nI m) (nI x) (nI t) (nI (Ls s (2 * x))) (nI (Ls s (S.2 (2 * x)))) (nI (Ls t (2 * x))) (nI (Ls t (S.2 (2 * x)))) (nI kp) (nI nb) (nI fa) 0 43000 (nI fb) 0 z) Q := by
            intro fa fb hfa hfb
            have fa01 : fa = 0 ∨ fa = 1 := by omega
            have fb01 : fb = 0 ∨ fb = 1 := by omega
            rw [← hfa, ← hfb] at di
            rcases ab with ⟨hne, hn1⟩ | ⟨heq, hn1⟩
            · -- two loops become one
              rw [if_neg hne] at di
              have c5 : 1 ≤ fa + fb → Tt (fun K k => c_X1_writeImage vl K k 5 (nI s) (nI m) (nI x) (nI t) (nI (Ls s (2 * x))) (nI (Ls s (S.2 (2 * x)))) (nI (Ls t (2 * x))) (nI (Ls t (S.2 (2 * x)))) (nI kp) (nI nb) (nI fa) (nI fb) 43000 0 0 z) Q := by
                intro hab
                rw [if_neg (by omega)] at di
                have c6 : fa + fb = 1 → Tt (fun K k => c_X1_writeImage vl K k 6 (nI s) (nI m) (nI x) (nI t) (nI (Ls s (2 * x))) (nI (Ls s (S.2 (2 * x)))) (nI (Ls t (2 * x))) (nI (Ls t (S.2 (2 * x)))) (nI kp) (nI nb) (nI fa) (nI fb) 43000 (nI t) 0 z) Q := by
                  intro h1
                  rw [if_pos (by omega)] at di
                  refine u_X1_writeImage_6 ?_; unfold cm_X1_writeImage_6
                  exact c7 kp _ _ _ _ _ _ _ di
                refine u_X1_writeImage_5 ?_; unfold cm_X1_writeImage_5
                rcases fa01 with h9 | h9
                · exact w_ifT (by rw [h9]; rfl) (c6 (by omega))
                · refine w_ifF (by rw [h9]; decide) ?_
                  rcases fb01 with h8 | h8
                  · exact w_ifT (by rw [h8]; rfl) (c6 (by omega))
                  · refine w_ifF (by rw [h8]; decide) ?_
                    rw [or1 _ lc k3]
                    rw [if_neg (by omega)] at di
                    exact c7 _ _ _ _ _ _ _ _ di
              refine u_X1_writeImage_4 ?_; unfold cm_X1_writeImage_4
              refine w_ifF (fun h9 => hne (nI_inj9 (by omega) (by omega) h9)) ?_
              rcases fa01 with h9 | h9
              · refine w_ifT (by rw [h9]; rfl) ?_
                rcases fb01 with h8 | h8
                · refine w_ifT (by rw [h8]; rfl) (c8 z (non ?_))
                  rw [if_pos ⟨h9, h8⟩] at di
                  exact di
                · exact w_ifF (by rw [h8]; decide) (c5 (by omega))
              · exact w_ifF (by rw [h9]; decide) (c5 (by omega))
            · -- one loop becomes two
              rw [if_pos heq] at di
              refine u_X1_writeImage_4 ?_; unfold cm_X1_writeImage_4
              refine w_ifT (by rw [heq]) ?_
              rcases fa01 with h9 | h9
              · rw [if_pos h9] at di
                have v := vd kp (by rw [di]; exact List.mem_cons_self)
                exact w_ifT (by rw [h9]; rfl) (w_cs0 (ad z kp nb _ hz.1 hz.2 v.1 v.2 hnb) (fun z1 h1 => c8 z1 (one z1 kp di h1.1 h1.2)))
              · rw [if_neg (by omega)] at di
                refine w_ifF (by rw [h9]; decide) ?_
                rw [or1 _ lc k3, or1 _ le k4]
                have v1 := vd (kp + 2 ^ Ls t (S.2 (2 * x))) (by rw [di]; exact List.mem_cons_self)
                have v2 := vd (kp + 2 ^ Ls t (2 * x)) (by rw [di]; exact List.mem_cons_of_mem _ List.mem_cons_self)
                exact w_cs0 (ad z _ nb _ hz.1 hz.2 v2.1 v2.2 hnb) (fun z1 h1 => w_cs0 (ad z1 _ nb _ h1.1 h1.2 v1.1 v1.2 hnb) (fun z2 h2 => c8 z2 (two z2 _ _ di h2.1 h2.2)))
          have c3 : ∀ fa : Nat, fa = btN m (Ls s (2 * x)) → Tt (fun K k => c_X1_writeImage vl K k 3 (nI s) (nI m) (nI x) (nI t) (nI (Ls s (2 * x))) (nI (Ls s (S.2 (2 * x)))) (nI (Ls t (2 * x))) (nI (Ls t (S.2 (2 * x)))) (nI kp) (nI nb) 0 0 43000 (nI fa) 0 z) Q := by
            intro fa hfa
            refine u_X1_writeImage_3 ?_; unfold cm_X1_writeImage_3
            rw [crS hm10 (by omega)]
            rcases bb with h9 | h9
            · exact w_ifT (by rw [h9]; rfl) (c4 fa 0 hfa h9.symm)
            · exact w_ifF (by rw [h9]; decide) (c4 fa 1 hfa h9.symm)
          refine u_X1_writeImage_2 ?_; unfold cm_X1_writeImage_2
          rw [crS hm10 (by omega)]
          rcases ba with h9 | h9
          · exact w_ifT (by rw [h9]; rfl) (c3 0 h9.symm)
          · exact w_ifF (by rw [h9]; decide) (c3 1 h9.symm)
        have eor : nI s ||| ((1 : Int32) <<< (nI x &&& 31)) = nI t := by
          rw [← hte]
          exact st_or (by omega) (by omega) hb
        refine u_X1_writeImage_1 ?_; unfold cm_X1_writeImage_1
        rw [bit_nI (by omega) (by omega), hb, eor, rn_mul2, i16, i16]
        refine w_rdF hz4.1 (w_leF (show c < 2 ^ 31 by omega) (show x < c by omega) (w_ifT rfl (w_crI ch_43002 rfl (by omega) (s1 (2 * x) (by omega)).1 (w_cs1 (tc_otherLoop hz4 hv hc hLz hs hxc) ?_))))
        rintro v1 z1 e1
        cases e1
        refine w_crI ch_43002 rfl (by omega) (t1 (2 * x) (by omega)).1 (w_cs1 (tc_otherLoop hz4 hv hc hLz ht hxc) ?_)
        rintro v2 z2 e2
        cases e2
        refine w_cs1 (te_carry hc hLz hs ht hm10 (show Ls t (2 * x) < 10 by omega) (show Ls t (S.2 (2 * x)) < 10 by omega)) ?_
        rintro v3 z3 ⟨e3, kp, ga, q1, q2, q3⟩
        dsimp only at e3 q2
        rw [e3, q2]
        have nk := nb_k ⟨s, by omega⟩ ⟨x, by omega⟩
        have ez : z.1 43010 = nI p := by
          rw [(hz.1 43010 (by decide)).1]
          exact h10
        refine w_if (fun h9 => ?_) (fun h9 => w_rdF ez ?_)
        · have e1 : par9 (tb s) x = 1 := nk.1.mp h9
          exact main kp ga 1 (by omega) (by rw [e1]; exact Int.dvd_zero _) q1 q3
        · have e1 : par9 (tb s) x = -1 := nk.2.elim (fun h8 => absurd (nk.1.mpr h8) h9) id
          rw [show nI p - 1 = nI (p - 1) from pk_sub (b := 1) (by omega)]
          refine main kp ga (p - 1) (by omega) ?_ q1 q3
          rw [e1]
          exact ⟨1, by omega⟩
      · have hb1 : btN s x = 1 := by unfold btN at hb ⊢; omega
        refine u_X1_writeImage_1 ?_; unfold cm_X1_writeImage_1
        rw [bit_nI (by omega) (by omega), hb1]
        refine w_rdF hz4.1 (w_leF (show c < 2 ^ 31 by omega) (show x < c by omega) (w_ifF (by decide) (c8 z ⟨hz.1, wk_cg hz.2 (fun j _ => ?_)⟩)))
        have e0 : rwX (fun g => g < 2 * c) Ls ns (fun x => 2 * x) (fun x => S.2 (2 * x)) dg s m x j = 0 := by
          unfold rwX
          exact if_pos hb1
        show (p : Int) ∣ row9 (fun g => g < 2 * c) Ls ns (fun x => 2 * x) (fun x => S.2 (2 * x)) dg s m x j - (row9 (fun g => g < 2 * c) Ls ns (fun x => 2 * x) (fun x => S.2 (2 * x)) dg s m x j + rwX (fun g => g < 2 * c) Ls ns (fun x => 2 * x) (fun x => S.2 (2 * x)) dg s m x j)
        rw [e0, Int.add_zero, Int.sub_self]
        exact Int.dvd_zero _
  refine e_X1_writeImage ?_
  refine u_X1_writeImage_0 ?_; unfold cm_X1_writeImage_0
  exact c1 c 0 y (by omega) ⟨fr_rf, hw0⟩
end XCJ3
end
section
/-! 99zzzzzzzzzzzzzzzzyzh.xchw -/
-- CHAIN: the class's kept rows, exactly
def rs9 (cl vv : Nat → Nat) (a n j : Nat) : Int := sN9 (fun i => if cl (a + i) = j then (vv (a + i) : Int) else 0) n
def kx9 (z : ow_MS) (p w u : Nat) (cl vv : Nat → Nat) (d : Nat → vc9) : Prop := (∀ i, i < u → z.2.1 43015 i = nI (cl i) ∧ cl i < w ∧ z.2.1 43016 i = nI (vv i) ∧ vv i < p) ∧ ∀ c, c < w → (z.2.1 43012 c = -1 ∧ ∀ j, j < w → (p : Int) ∣ d c j) ∨ ∃ a b, z.2.1 43012 c = nI a ∧ a < 2 ^ 31 ∧ z.2.1 43013 c = nI b ∧ a ≤ b ∧ b ≤ u ∧ (∀ j, j < w → (p : Int) ∣ rs9 cl vv a (b - a) j - d c j) ∧ (p : Int) ∣ d c c - 1
section XCJ4
variable {vl : Nat → Nat} {y : ow_MS} {W C : Nat}
theorem rs_cg {cl vv cl' vv' : Nat → Nat} {a j : Nat} : ∀ {n : Nat}, (∀ i, i < a + n → cl' i = cl i ∧ vv' i = vv i) → rs9 cl' vv' a n j = rs9 cl vv a n j
  | 0, _ => rfl
  | n + 1, h => by
    have ih := rs_cg (a := a) (j := j) (n := n) (fun i hi => h i (by omega))
    show rs9 cl' vv' a n j + (if cl' (a + n) = j then (vv' (a + n) : Int) else 0) = rs9 cl vv a n j + (if cl (a + n) = j then (vv (a + n) : Int) else 0)
    rw [ih, (h (a + n) (by omega)).1, (h (a + n) (by omega)).2]
theorem rs_s {cl vv : Nat → Nat} {a j n : Nat} : rs9 cl vv a (n + 1) j = rs9 cl vv a n j + (if cl (a + n) = j then (vv (a + n) : Int) else 0) := rfl
theorem kx_fr {P : Nat → Prop} {z z1 : ow_MS} {p w u : Nat} {cl vv : Nat → Nat} {d : Nat → vc9} (hf : fr P z z1) (hP : ¬ P 43012 ∧ ¬ P 43013 ∧ ¬ P 43015 ∧ ¬ P 43016) (h : kx9 z p w u cl vv d) : kx9 z1 p w u cl vv d := by
  unfold kx9
  rw [(hf _ hP.1).2.1, (hf _ hP.2.1).2.1, (hf _ hP.2.2.1).2.1, (hf _ hP.2.2.2).2.1]
  exact h
theorem te_keepRow {f w u p a : Nat} {cl vv : Nat → Nat} {d9 : Nat → vc9} {v : vc9} (hv : vI vl W C) (hw : w ≤ 1140) (hwW : w ≤ W) (hf : f < w) (hI : rI y w u C) (hnf : y.2.1 43012 f = -1) (h10 : y.1 43010 = nI p) (hp : prT p) (hp2 : p ≤ 997) (hx : kx9 y p w u cl vv d9) (hk : wk9 y p w v) (hz0 : ∀ j, j < f → y.2.1 43011 j = 0) (ha : y.2.1 43011 f = nI a) (ha1 : 1 ≤ a) (ha2 : a < p) : Te (fun K => de_X1_keepRow K 43000 (nI f) (nI w) vl y) (gQ vl (fun r => fr kpG y r.2.2 ∧ ∃ C' u' cl' vv' t, vI r.2.1 W C' ∧ rI r.2.2 w u' C' ∧ a * t % p = 1 ∧ kx9 r.2.2 p w u' cl' vv' (fun j => if j = f then (fun i => (t : Int) * v i) else d9 j) ∧ ∀ j, j < w → r.2.2.2.1 43011 j = 0)) := by
  have hp1 := hp.1
  let Q : Unit × (Nat → Nat) × ow_MS → Prop := fun r => fr kpG y r.2.2 ∧ ∃ C' u' cl' vv' t, vI r.2.1 W C' ∧ rI r.2.2 w u' C' ∧ a * t % p = 1 ∧ kx9 r.2.2 p w u' cl' vv' (fun j => if j = f then (fun i => (t : Int) * v i) else d9 j) ∧ ∀ j, j < w → r.2.2.2.1 43011 j = 0
  obtain ⟨i1, i2, i3, i4, i5⟩ := hI
  obtain ⟨x1, x2⟩ := hx
  have hnz : nI p ≠ 0 := fun h9 => by
    have := (nI_eq (a := p) (b := 0) (by omega) (by omega)).mp h9
    omega
  have hsu := suR_le (y.2.1 43012) w w (Nat.le_refl _)
  have hww : w * (w + 1) ≤ 1300740 := Nat.mul_le_mul hw (show w + 1 ≤ 1141 by omega)
  have hu : u ≤ 650370 := by omega
  have v0 : ∀ j, j < f → (p : Int) ∣ v j := fun j hj => by
    obtain ⟨b, b1, b2, b3⟩ := hk j (by omega)
    rw [hz0 j hj] at b1
    have : 0 = b := (nI_eq (a := 0) (b := b) (by omega) (by omega)).mp b1
    rw [← this] at b3
    have := Int.dvd_neg.mpr b3
    rw [show -(((0 : Nat) : Int) - v j) = v j by omega] at this
    exact this
  have vf : ∀ t, a * t % p = 1 → (p : Int) ∣ (t : Int) * v f - 1 := fun t ht => by
    obtain ⟨b, b1, b2, b3⟩ := hk f hf
    rw [ha] at b1
    have e : a = b := (nI_eq (a := a) (b := b) (by omega) (by omega)).mp b1
    rw [← e] at b3
    have h1 := dvr9 (t : Int) b3
    have h2 : (p : Int) ∣ ((a * t : Nat) : Int) - ((1 : Nat) : Int) := dv_md (by rw [ht, Nat.mod_eq_of_lt (by omega)])
    have := Int.dvd_sub h2 h1
    rw [Int.natCast_mul, Int.mul_sub, Int.mul_comm (t : Int) a, show (a : Int) * t - ((1 : Nat) : Int) - ((a : Int) * t - (t : Int) * v f) = (t : Int) * v f - 1 by omega] at this
    exact this
  -- from the second label on
  have tl0 : ∀ (lv : Nat → Nat) (z : ow_MS) (C' : Nat), dPhi vl ≤ dPhi lv → vI lv W C' → u + w - f ≤ C' → fr kpG y z → z.1 43017 = nI u → (z.2.1 43012 = y.2.1 43012) → (z.2.1 43013 = y.2.1 43013) → (∀ i, i < u → z.2.1 43015 i = y.2.1 43015 i) → (∀ i, i < u → z.2.1 43016 i = y.2.1 43016 i) → z.2.1 43011 = y.2.1 43011 → Tt (fun K k => d_X1_keepRow K k 1 (nI f) (nI w) 0 0 43000 lv z) (gQ lv Q) := by
    intro lv z C' hphi hv' hroom hz g17a e12 e13 e15 e16 e11
    obtain ⟨h1, h2, h3, h4, h5, h6, h7, h8, h9, h0⟩ := hv'
    have lp0 : ∀ (t : Nat), t < p → a * t % p = 1 → ∀ (d c u' : Nat) (cl' vv' : Nat → Nat) (z1 : ow_MS), c + d = w → f ≤ c → u' ≤ u + (c - f) → u ≤ u' → fr kpG y z1 → z1.1 43017 = nI u' → (z1.2.1 43012 f = nI u ∧ ∀ j, j ≠ f → z1.2.1 43012 j = y.2.1 43012 j) → (z1.2.1 43013 = y.2.1 43013) → (∀ i, i < u' → z1.2.1 43015 i = nI (cl' i) ∧ cl' i < w ∧ z1.2.1 43016 i = nI (vv' i) ∧ vv' i < p) → (∀ i, i < u → cl' i = cl i ∧ vv' i = vv i) → (∀ j, j < w → (p : Int) ∣ rs9 cl' vv' u (u' - u) j - (if f ≤ j ∧ j < c then (t : Int) * v j else 0)) → (∀ j, j < c → z1.2.1 43011 j = 0) → (∀ j, c ≤ j → j < w → z1.2.1 43011 j = y.2.1 43011 j) → Tt (fun K k => d_X1_keepRow K k 2 (nI f) (nI w) (nI t) (nI c) 43000 lv z1) (gQ lv Q) := by
      intro t ht hat d
      induction d with
      | zero =>
        intro c u' cl' vv' z1 hc hfc hu1 hu2 hz1 g17 g12 g13 g15 gold grs gz gw
        refine u_X1_keepRow_2 ?_; unfold dm_X1_keepRow_2
        refine w_leT (a := w) (b := c) (by omega) (by omega) (w_rdF g17 (w_ctI (ch_43013.trans h3) rfl (by omega) (w_some ⟨Nat.le_refl _, fr_I2 hz1 (Or.inr (Or.inr (Or.inl rfl))), C', u', cl', vv', t, ⟨h1, h2, h3, h4, h5, h6, h7, h8, h9, h0⟩, ⟨g17, ?_, by omega, ?_, ?_⟩, hat, ⟨?_, ?_⟩, ?_⟩)))
        · show u' ≤ suR ((usI z1 43013 f (nI u')).2.1 43012) w w
          rw [po_usI_ot (show 43012 ≠ 43013 by omega), suR_set (f := y.2.1 43012) (k := f) hnf (by rw [g12.1]; exact rn_neg1 (by omega)) g12.2, if_pos hf]
          omega
        · intro c1 hc1
          show (usI z1 43013 f (nI u')).2.1 43012 c1 = -1 ∨ ∃ a b, (usI z1 43013 f (nI u')).2.1 43012 c1 = nI a ∧ a < 2 ^ 31 ∧ (usI z1 43013 f (nI u')).2.1 43013 c1 = nI b ∧ b ≤ u'
          rw [po_usI_ot (show 43012 ≠ 43013 by omega)]
          by_cases e : c1 = f
          · subst e
            exact Or.inr ⟨u, u', g12.1, by omega, po_usI_at, Nat.le_refl _⟩
          · rw [g12.2 c1 e, po_usI_ne e, g13]
            rcases i4 c1 hc1 with h | ⟨a, b, q1, q2, q3, q4⟩
            · exact Or.inl h
            · exact Or.inr ⟨a, b, q1, q2, q3, by omega⟩
        · intro i hi
          exact ⟨cl' i, rd_ot (by omega) (g15 i hi).1, (g15 i hi).2.1⟩
        · intro i hi
          exact ⟨rd_ot (by omega) (g15 i hi).1, (g15 i hi).2.1, rd_ot (by omega) (g15 i hi).2.2.1, (g15 i hi).2.2.2⟩
        · intro c1 hc1
          show ((usI z1 43013 f (nI u')).2.1 43012 c1 = -1 ∧ ∀ j, j < w → (p : Int) ∣ (if c1 = f then (fun i => (t : Int) * v i) else d9 c1) j) ∨ ∃ a b, (usI z1 43013 f (nI u')).2.1 43012 c1 = nI a ∧ a < 2 ^ 31 ∧ (usI z1 43013 f (nI u')).2.1 43013 c1 = nI b ∧ a ≤ b ∧ b ≤ u' ∧ (∀ j, j < w → (p : Int) ∣ rs9 cl' vv' a (b - a) j - (if c1 = f then (fun i => (t : Int) * v i) else d9 c1) j) ∧ (p : Int) ∣ (if c1 = f then (fun i => (t : Int) * v i) else d9 c1) c1 - 1
          rw [po_usI_ot (show 43012 ≠ 43013 by omega)]
          by_cases e : c1 = f
          · subst e
            rw [if_pos rfl]
            refine Or.inr ⟨u, u', g12.1, by omega, po_usI_at, hu2, Nat.le_refl _, fun j hj => ?_, vf t hat⟩
            have := grs j hj
            by_cases q : c1 ≤ j ∧ j < c
            · rw [if_pos q] at this
              exact this
            · rw [if_neg q, Int.sub_zero] at this
              exact Int.dvd_sub this (dvr9 (t : Int) (v0 j (by omega)))
          · rw [if_neg e, g12.2 c1 e, po_usI_ne e, g13]
            rcases x2 c1 hc1 with h | ⟨a, b, q1, q2, q3, q4, q5, q6, q7⟩
            · exact Or.inl h
            · refine Or.inr ⟨a, b, q1, q2, q3, q4, by omega, fun j hj => ?_, q7⟩
              rw [rs_cg (fun i hi => gold i (by omega))]
              exact q6 j hj
        · intro j hj
          exact rd_ot (by omega) (gz j (by omega))
      | succ d ih =>
        intro c u' cl' vv' z1 hc hfc hu1 hu2 hz1 g17 g12 g13 g15 gold grs gz gw
        obtain ⟨ac, ac1, ac2, ac3⟩ := hk c (by omega)
        have ewc : z1.2.1 43011 c = nI ac := (gw c (Nat.le_refl c) (by omega)).trans ac1
        have nc := grs c (by omega)
        rw [if_neg (by omega), Int.sub_zero] at nc
        refine u_X1_keepRow_2 ?_; unfold dm_X1_keepRow_2
        refine w_leF (a := w) (b := c) (by omega) (by omega) (w_crI (ch_43011.trans h1) rfl (by omega) ewc (w_if (fun hz9 => ?_) (fun hz9 => ?_)))
        · -- nothing there
          have e0 : ac = 0 := (nI_eq (a := ac) (b := 0) (by omega) (by omega)).mp hz9
          refine u_X1_keepRow_3 ?_; unfold dm_X1_keepRow_3
          rw [nI_1]
          refine ih (c + 1) u' cl' vv' z1 (by omega) (by omega) (by omega) hu2 hz1 g17 g12 g13 g15 gold (fun j hj => ?_) (fun j hj => ?_) (fun j h5 h6 => gw j (by omega) h6)
          · by_cases q : j = c
            · rw [q, if_pos ⟨hfc, by omega⟩]
              rw [e0] at ac3
              have := dvr9 (t : Int) ac3
              have := Int.dvd_add nc this
              rw [show rs9 cl' vv' u (u' - u) c + (t : Int) * (((0 : Nat) : Int) - v c) = rs9 cl' vv' u (u' - u) c - (t : Int) * v c by rw [Int.mul_sub, show ((0 : Nat) : Int) = 0 from rfl, Int.mul_zero]; omega] at this
              exact this
            · have := grs j hj
              by_cases q2 : f ≤ j ∧ j < c
              · rw [if_pos q2] at this
                rw [if_pos ⟨q2.1, by omega⟩]
                exact this
              · rw [if_neg q2] at this
                rw [if_neg (fun h9 => q2 ⟨h9.1, by omega⟩)]
                exact this
          · by_cases q : j = c
            · rw [q, ewc, e0]
              rfl
            · exact gz j (by omega)
        · have e0 : ac ≠ 0 := fun h9 => hz9 (by rw [h9]; rfl)
          have hmu : ac * t < 2 ^ 31 := by
            have := Nat.mul_le_mul (show ac ≤ 997 by omega) (show t ≤ 997 by omega)
            omega
          have hmd : ac * t % p < p := Nat.mod_lt _ (by omega)
          refine w_rdF g17 (w_ctI (ch_43015.trans h5) rfl (show u' < C' by omega) (w_rdF g17 (w_crI (ch_43011.trans h1) rfl (show c < W by omega) (rd_ot (by omega) ewc) (w_rdF (show _ = nI p from ((hz1 43010 (by unfold kpG; omega)).1).trans h10) (w_nzI hnz ?_)))))
          rw [pk_mul, pk_rem hmu (by omega) (by omega)]
          refine w_ctI (ch_43016.trans h6) rfl (show u' < C' by omega) (w_rdF g17 (w_wrF (w_ctI (ch_43011.trans h1) rfl (show c < W by omega) ?_)))
          refine u_X1_keepRow_3 ?_; unfold dm_X1_keepRow_3
          rw [nI_1, nI_1]
          refine ih (c + 1) (u' + 1) (fun i => if i = u' then c else cl' i) (fun i => if i = u' then ac * t % p else vv' i) _ (by omega) (by omega) (by omega) (by omega) (fr_I2 (fr_F2 (fr_I2 (fr_I2 hz1 (by unfold kpG; omega)) (by unfold kpG; omega)) (by unfold kpG; omega)) (by unfold kpG; omega)) ?_ ⟨?_, fun j hj => ?_⟩ ?_ (fun i hi => ?_) (fun i hi => ?_) (fun j hj => ?_) (fun j hj => ?_) (fun j h5 h6 => ?_)
          · rw [po_usI1]
            exact po_usF_at
          · exact rd_ot (by omega) (rd_ot (z := usI z1 43015 u' (nI c)) (by omega) (rd_ot (by omega) g12.1))
          · exact rd_ot (by omega) (rd_ot (z := usI z1 43015 u' (nI c)) (by omega) (rd_ot (by omega) (g12.2 j hj)))
          · rw [← g13]
            funext j
            exact rd_ot (by omega) (rd_ot (z := usI z1 43015 u' (nI c)) (by omega) (rd_ot (by omega) rfl))
          · by_cases e : i = u'
            · rw [if_pos e, if_pos e, e]
              exact ⟨rd_ot (by omega) (rd_ot (z := usI z1 43015 u' (nI c)) (by omega) po_usI_at), by omega, rd_ot (by omega) po_usI_at, hmd⟩
            · rw [if_neg e, if_neg e]
              obtain ⟨j1, j2, j3, j4⟩ := g15 i (by omega)
              exact ⟨rd_ot (by omega) (rd_ot (z := usI z1 43015 u' (nI c)) (by omega) ((po_usI_ne e).trans j1)), j2, rd_ot (by omega) ((po_usI_ne e).trans (rd_ot (by omega) j3)), j4⟩
          · rw [if_neg (by omega), if_neg (by omega)]
            exact gold i hi
          · have e9 : u' + 1 - u = (u' - u) + 1 := by omega
            rw [e9, rs_s, rs_cg (cl := cl') (vv := vv') (fun i hi => ⟨if_neg (by omega), if_neg (by omega)⟩)]
            show (p : Int) ∣ rs9 cl' vv' u (u' - u) j + (if (if u + (u' - u) = u' then c else cl' (u + (u' - u))) = j then ((if u + (u' - u) = u' then ac * t % p else vv' (u + (u' - u)) : Nat) : Int) else 0) - _
            rw [if_pos (show u + (u' - u) = u' by omega), if_pos (show u + (u' - u) = u' by omega)]
            have hj9 := grs j hj
            by_cases q : c = j
            · subst q
              rw [if_pos rfl, if_pos ⟨hfc, by omega⟩]
              have m1 : (p : Int) ∣ ((ac * t % p : Nat) : Int) - ((ac * t : Nat) : Int) := dv_md (Nat.mod_mod _ _)
              have m2 := dvr9 (t : Int) ac3
              have := Int.dvd_add (Int.dvd_add nc m1) m2
              rw [Int.natCast_mul, Int.mul_sub, Int.mul_comm (t : Int) ac, show rs9 cl' vv' u (u' - u) c + (((ac * t % p : Nat) : Int) - (ac : Int) * t) + ((ac : Int) * t - (t : Int) * v c) = rs9 cl' vv' u (u' - u) c + ((ac * t % p : Nat) : Int) - (t : Int) * v c by omega] at this
              exact this
            · rw [if_neg q, Int.add_zero]
              by_cases q2 : f ≤ j ∧ j < c
              · rw [if_pos q2] at hj9
                rw [if_pos ⟨q2.1, by omega⟩]
                exact hj9
              · rw [if_neg q2] at hj9
                rw [if_neg (fun h9 => q2 ⟨h9.1, by omega⟩)]
                exact hj9
          · by_cases q : j = c
            · rw [q]
              exact po_usI_at
            · exact (po_usI_ne q).trans (rd_ot (z := usI z1 43015 u' (nI c)) (by omega) (rd_ot (by omega) (gz j (by omega))))
          · exact (po_usI_ne (by omega)).trans (rd_ot (z := usI z1 43015 u' (nI c)) (by omega) (rd_ot (by omega) (gw j (by omega) h6)))
    refine u_X1_keepRow_1 ?_; unfold dm_X1_keepRow_1
    refine w_crI (ch_43011.trans h1) rfl (show f < W by omega) ((congrFun e11 f).trans ha) (w_cs1 (te_reciprocal (p := p) (((hz 43010 (by unfold kpG; omega)).1).trans h10) hp hp2 ha1 ha2) ?_)
    rintro x9 z1 ⟨e1, t, e2, e3, e4⟩
    dsimp only at e1 e2
    rw [e1, e2]
    refine w_rdF g17a (w_ctI (ch_43012.trans h2) rfl (show f < W by omega) (lp0 t e3 e4 (w - f) f u cl vv _ (by omega) (Nat.le_refl _) (by omega) (Nat.le_refl _) (fr_I2 hz (by unfold kpG; omega)) g17a ⟨po_usI_at, fun j hj => ?_⟩ ?_ (fun i hi => ?_) (fun i hi => ⟨rfl, rfl⟩) (fun j hj => ?_) (fun j hj => ?_) (fun j h5 h6 => ?_)))
    · rw [po_usI_ne hj, e12]
    · rw [po_usI_ot (by omega), e13]
    · obtain ⟨j1, j2, j3, j4⟩ := x1 i hi
      exact ⟨rd_ot (by omega) ((e15 i hi).trans j1), j2, rd_ot (by omega) ((e16 i hi).trans j3), j4⟩
    · rw [if_neg (by omega), Nat.sub_self]
      exact Int.dvd_zero _
    · exact rd_ot (by omega) ((congrFun e11 j).trans (hz0 j hj))
    · exact rd_ot (by omega) (congrFun e11 j)
  obtain ⟨h1, h2, h3, h4, h5, h6, h7, h8, h9, h0⟩ := hv
  refine e_X1_keepRow ?_
  refine u_X1_keepRow_0 ?_; unfold dm_X1_keepRow_0
  refine w_rdF i1 ?_
  rw [nI_add, pk_sub (show f ≤ u + w by omega), show uw_len (cX vl) y (43000 + 15) = C from ch_43015.trans h5]
  refine w_le (a := u + w - f) (b := C) (by omega) (by omega) (fun hle => tl0 vl y C (Nat.le_refl _) ⟨h1, h2, h3, h4, h5, h6, h7, h8, h9, h0⟩ hle fr_rf i1 rfl rfl (fun _ _ => rfl) (fun _ _ => rfl) rfl) (fun hlt => ?_)
  have p1 : dPhi vl ≤ dPhi (usV vl 43015 (2 * (u + w))) := dPhi_u2 (by decide) (by omega)
  have p2 : dPhi (usV vl 43015 (2 * (u + w))) ≤ dPhi (usV (usV vl 43015 (2 * (u + w))) 43016 (2 * (u + w))) := dPhi_u2 (by decide) (by show vl 43016 ≤ _; omega)
  refine w_rdF i1 ?_
  rw [nI_add, rn_mul2]
  refine w_cpR (h := 43015) (by omega) (by omega) (by omega) (w_chV p1 (w_rdF i1 ?_))
  rw [nI_add, rn_mul2]
  refine w_cpR (h := 43016) (by omega) (by show 2 * vl 43016 ≤ _; omega) (by show vl 43016 + 640 ≤ _; omega) (w_chV p2 ?_)
  refine tl0 _ _ (2 * (u + w)) (Nat.le_trans p1 p2) ⟨h1, h2, h3, h4, rfl, rfl, h7, h8, by omega, by omega⟩ (by omega) (fr_R2 (fr_R2 fr_rf (by unfold kpG; omega)) (by unfold kpG; omega)) i1 rfl rfl (fun i hi => ?_) (fun i hi => ?_) rfl
  · show va_cpy (y.2.1 43015) (fun _ => 0) 0 0 (vl 43015) i = y.2.1 43015 i
    rw [pk_cpy_in (Nat.zero_le i) (by omega), Nat.zero_add, Nat.sub_zero]
  · show va_cpy (y.2.1 43016) (fun _ => 0) 0 0 (vl 43016) i = y.2.1 43016 i
    rw [pk_cpy_in (Nat.zero_le i) (by omega), Nat.zero_add, Nat.sub_zero]
theorem te_reduce {w u p n : Nat} {cl vv : Nat → Nat} {d9 M : Nat → vc9} (hv : vI vl W C) (hw : w ≤ 1140) (hwW : w ≤ W) (hI : rI y w u C) (h10 : y.1 43010 = nI p) (hp : prT p) (hp2 : p ≤ 997) (hx : kx9 y p w u cl vv d9) (hE : El9 p w M n d9) (hk : wk9 y p w (M n)) : Te (fun K => de_X1_reduce K 43000 (nI w) vl y) (gQ vl (fun r => fr kpG y r.2.2 ∧ ∃ C' u' cl' vv' d' ρ, vI r.2.1 W C' ∧ rI r.2.2 w u' C' ∧ kx9 r.2.2 p w u' cl' vv' d' ∧ El9 p w M (n + 1) d' ∧ r.1 = nI ρ ∧ rk9 p w (rwl9 M (n + 1)) = rk9 p w (rwl9 M n) + ρ ∧ ∀ j, j < w → r.2.2.2.1 43011 j = 0)) := by
  have hp1 := hp.1
  have hpr := prp_of hp
  let Q : Int32 × (Nat → Nat) × ow_MS → Prop := fun r => fr kpG y r.2.2 ∧ ∃ C' u' cl' vv' d' ρ, vI r.2.1 W C' ∧ rI r.2.2 w u' C' ∧ kx9 r.2.2 p w u' cl' vv' d' ∧ El9 p w M (n + 1) d' ∧ r.1 = nI ρ ∧ rk9 p w (rwl9 M (n + 1)) = rk9 p w (rwl9 M n) + ρ ∧ ∀ j, j < w → r.2.2.2.1 43011 j = 0
  have hnz : nI p ≠ 0 := fun h9 => by
    have := (nI_eq (a := p) (b := 0) (by omega) (by omega)).mp h9
    omega
  have hv0 := hv
  obtain ⟨h1, h2, h3, h4, h5, h6, h7, h8, h9, h0⟩ := hv
  have huC : u ≤ C := hI.2.2.1
  have k11 : ∀ g, g = 43011 → kpG g := fun g hg => Or.inl hg
  -- a number below p that p divides
  have zero : ∀ (z : ow_MS) (cur : vc9) (j : Nat), j < w → wk9 z p w cur → (p : Int) ∣ cur j → z.2.1 43011 j = 0 := fun z cur j hj hz h9 => by
    obtain ⟨a, a1, a2, a3⟩ := hz j hj
    have := Int.dvd_add a3 h9
    rw [show (a : Int) - cur j + cur j = a by omega] at this
    have h8 : p ∣ a := Int.natCast_dvd_natCast.mp this
    rcases Nat.eq_zero_or_pos a with e | e
    · rw [a1, e]
      rfl
    · have := Nat.le_of_dvd e h8
      omega
  have cz : ∀ (z : ow_MS) (cur : vc9) (j : Nat), j < w → wk9 z p w cur → z.2.1 43011 j = 0 → (p : Int) ∣ cur j := fun z cur j hj hz h9 => by
    obtain ⟨a, a1, a2, a3⟩ := hz j hj
    rw [h9] at a1
    have : 0 = a := (nI_eq (a := 0) (b := a) (by omega) (by omega)).mp a1
    rw [← this] at a3
    have := Int.dvd_neg.mpr a3
    rw [show -(((0 : Nat) : Int) - cur j) = cur j by omega] at this
    exact this
  have c1 : ∀ (d c : Nat) (z : ow_MS) (cur : vc9), c + d = w → fr (fun g => g = 43011) y z → wk9 z p w cur → (∀ j, j < c → z.2.1 43011 j = 0) → sp9 p w (rwl9 d9 w) (fun j => M n j - cur j) → Tt (fun K k => d_X1_reduce K k 1 (nI w) (nI c) 0 0 43000 vl z) (gQ vl Q) := by
    intro d
    induction d with
    | zero =>
      intro c z cur hc hz hwk hz0 hsp
      refine u_X1_reduce_1 ?_; unfold dm_X1_reduce_1
      refine w_leT (a := w) (b := c) (by omega) (by omega) (w_some ⟨Nat.le_refl _, fr_mono k11 hz, C, u, cl, vv, d9, 0, hv0, rI_fr hz (by omega) hI, kx_fr hz (by omega) hx, ?_⟩)
      have hin : sp9 p w (rwl9 d9 w) (M n) := sp_q (fun j hj => by
        rw [show M n j - (M n j - cur j) = cur j by omega]
        exact cz z cur j hj hwk (hz0 j (by omega))) hsp
      obtain ⟨e1, e2⟩ := El_n hE hin
      exact ⟨e1, rfl, e2, fun j hj => hz0 j (by omega)⟩
    | succ d ih =>
      intro c z cur hc hz hwk hz0 hsp
      have hcw : c < w := by omega
      have c3 : ∀ (x3 : Int32) (z1 : ow_MS) (cur1 : vc9), fr (fun g => g = 43011) y z1 → wk9 z1 p w cur1 → (∀ j, j < c + 1 → z1.2.1 43011 j = 0) → sp9 p w (rwl9 d9 w) (fun j => M n j - cur1 j) → Tt (fun K k => d_X1_reduce K k 3 (nI w) (nI c) x3 0 43000 vl z1) (gQ vl Q) := by
        intro x3 z1 cur1 a1 a2 a3 a4
        refine u_X1_reduce_3 ?_; unfold dm_X1_reduce_3
        rw [nI_1]
        exact ih (c + 1) z1 cur1 (by omega) a1 a2 a3 a4
      have hIz := rI_fr hz (by omega) hI
      have hxz := kx_fr hz (by omega) hx
      obtain ⟨a, a1, a2, a3⟩ := hwk c hcw
      refine u_X1_reduce_1 ?_; unfold dm_X1_reduce_1
      refine w_leF (a := w) (b := c) (by omega) (by omega) (w_crI (ch_43011.trans h1) rfl (by omega) a1 (w_if (fun hz9 => c3 _ z cur hz hwk (fun j hj => ?_) hsp) (fun hz9 => ?_)))
      · by_cases q : j = c
        · rw [q, a1]
          exact hz9
        · exact hz0 j (by omega)
      have ha0 : 1 ≤ a := by
        rcases Nat.eq_zero_or_pos a with e | e
        · exact absurd (by rw [e]; rfl) hz9
        · exact e
      have can : ¬ (p : Int) ∣ cur c := fun h9 => by
        have := zero z cur c hcw hwk h9
        rw [a1] at this
        exact hz9 this
      rcases hxz.2 c hcw with ⟨hn, hzr⟩ | ⟨ra, rb, q1, q2, q3, q4, q5, q6, q7⟩
      · refine w_crI (ch_43012.trans h2) rfl (by omega) hn (w_ifT rfl ?_)
        refine w_dc1 (te_keepRow (f := c) hv0 hw hwW hcw hIz hn (((hz 43010 (by omega)).1).trans h10) hp hp2 hxz hwk hz0 a1 ha0 a2) ?_
        rintro x lv z1 ⟨r1, r2, C', u', cl', vv', t, r3, r4, r5, r6, r7⟩
        refine w_chV r1 (w_some ⟨Nat.le_refl _, fr_tr (fr_mono k11 hz) r2, C', u', cl', vv', _, 1, r3, r4, r6, ?_⟩)
        have tt : (p : Int) ∣ (t : Int) * (a : Int) - 1 := by
          have := dv_md (p := p) (x := a * t) (y := 1) (by rw [r5, Nat.mod_eq_of_lt (by omega)])
          rw [Int.natCast_mul, Int.mul_comm] at this
          exact this
        obtain ⟨e1, e2⟩ := El_y (u := fun i => (t : Int) * cur i) hpr hE hcw hzr hsp (fun j hj => cz z cur j (by omega) hwk (hz0 j hj)) can tt zq_r
        exact ⟨e1, rfl, e2, r7⟩
      · have ech := hE.1 c hcw
        have c2 : ∀ (d2 i : Nat) (z1 : ow_MS), rb ≤ i + d2 → ra ≤ i → i ≤ rb → fr (fun g => g = 43011) y z1 → wk9 z1 p w (fun j => cur j - (a : Int) * rs9 cl vv ra (i - ra) j) → Tt (fun K k => d_X1_reduce K k 2 (nI w) (nI c) (nI a) (nI i) 43000 vl z1) (gQ vl Q) := by
          have fin : ∀ (z1 : ow_MS), fr (fun g => g = 43011) y z1 → wk9 z1 p w (fun j => cur j - (a : Int) * rs9 cl vv ra (rb - ra) j) → Tt (fun K k => d_X1_reduce K k 3 (nI w) (nI c) (nI a) 0 43000 vl z1) (gQ vl Q) := by
            intro z1 hz1 hk1
            refine c3 _ z1 (fun j => cur j - (a : Int) * d9 c j) hz1 (wk_cg hk1 (fun j hj => ?_)) (fun j hj => ?_) ?_
            · have := Int.dvd_neg.mpr (dvr9 (a : Int) (q6 j hj))
              rw [show -((a : Int) * (rs9 cl vv ra (rb - ra) j - d9 c j)) = cur j - (a : Int) * rs9 cl vv ra (rb - ra) j - (cur j - (a : Int) * d9 c j) by rw [Int.mul_sub]; omega] at this
              exact this
            · have hk2 : wk9 z1 p w (fun j => cur j - (a : Int) * d9 c j) := wk_cg hk1 (fun j hj => by
                have := Int.dvd_neg.mpr (dvr9 (a : Int) (q6 j hj))
                rw [show -((a : Int) * (rs9 cl vv ra (rb - ra) j - d9 c j)) = cur j - (a : Int) * rs9 cl vv ra (rb - ra) j - (cur j - (a : Int) * d9 c j) by rw [Int.mul_sub]; omega] at this
                exact this)
              refine zero z1 _ j (by omega) hk2 ?_
              by_cases q : j = c
              · rw [q]
                have := Int.dvd_neg.mpr (Int.dvd_add a3 (dvr9 (a : Int) q7))
                rw [show -((a : Int) - cur c + (a : Int) * (d9 c c - 1)) = cur c - (a : Int) * d9 c c by rw [Int.mul_sub, Int.mul_one]; omega] at this
                exact this
              · exact Int.dvd_sub (cz z cur j (by omega) hwk (hz0 j (by omega))) (dvr9 (a : Int) (ech.1 j (by omega)))
            · refine sp_q (fun j _ => ?_) (sp_a hsp (sp_m (a : Int) (sp_in (rwl_in hcw))))
              rw [show M n j - (cur j - (a : Int) * d9 c j) - (M n j - cur j + (a : Int) * d9 c j) = 0 by omega]
              exact Int.dvd_zero _
          intro d2
          induction d2 with
          | zero =>
            intro i z1 hi hi1 hi2 hz1 hk1
            have e13 : z1.2.1 43013 c = nI rb := by
              rw [(hz1 43013 (by omega)).2.1, ← (hz 43013 (by omega)).2.1]
              exact q3
            rw [show i = rb by omega] at hk1 ⊢
            refine u_X1_reduce_2 ?_; unfold dm_X1_reduce_2
            exact w_crI (ch_43013.trans h3) rfl (by omega) e13 (w_leT (a := rb) (b := rb) (by omega) (by omega) (fin z1 hz1 hk1))
          | succ d2 ih2 =>
            intro i z1 hi hi1 hi2 hz1 hk1
            have e13 : z1.2.1 43013 c = nI rb := by
              rw [(hz1 43013 (by omega)).2.1, ← (hz 43013 (by omega)).2.1]
              exact q3
            refine u_X1_reduce_2 ?_; unfold dm_X1_reduce_2
            refine w_crI (ch_43013.trans h3) rfl (by omega) e13 (w_le (a := rb) (b := i) (by omega) (by omega) (fun hle => ?_) (fun hlt => ?_))
            · rw [show i = rb by omega] at hk1
              exact fin z1 hz1 hk1
            obtain ⟨j1, j2, j3, j4⟩ := (kx_fr hz1 (by omega) hx).1 i (by omega)
            have ep : z1.1 43010 = nI p := ((hz1 43010 (by omega)).1).trans h10
            obtain ⟨b, b1, b2, b3⟩ := hk1 (cl i) j2
            have hmu : b + (p - a) * vv i < 2 ^ 31 := by
              have := Nat.mul_le_mul (show p - a ≤ 997 by omega) (show vv i ≤ 997 by omega)
              omega
            refine w_crI (ch_43015.trans h5) rfl (by omega) j1 (w_crI (ch_43015.trans h5) rfl (by omega) j1 (w_crI (ch_43011.trans h1) rfl (by omega) b1 (w_rdF ep (w_crI (ch_43016.trans h6) rfl (by omega) j3 (w_rdF ep (w_nzI hnz ?_))))))
            rw [pk_sub (show a ≤ p by omega), pk_mul, nI_add, pk_rem hmu (by omega) (by omega), nI_1]
            refine w_ctI (ch_43011.trans h1) rfl (by omega) (ih2 (i + 1) _ (by omega) (by omega) (by omega) (fr_I2 hz1 rfl) (fun j hj => ?_))
            dsimp only at b3 ⊢
            rw [show i + 1 - ra = (i - ra) + 1 by omega, rs_s, show ra + (i - ra) = i by omega]
            by_cases q : j = cl i
            · refine ⟨(b + (p - a) * vv i) % p, by rw [q]; exact po_usI_at, Nat.mod_lt _ (by omega), ?_⟩
              rw [if_pos q.symm, q]
              have m1 : (p : Int) ∣ (((b + (p - a) * vv i) % p : Nat) : Int) - ((b + (p - a) * vv i : Nat) : Int) := dv_md (Nat.mod_mod _ _)
              have m2 : (p : Int) ∣ (p : Int) * (vv i : Int) := Int.dvd_mul_right _ _
              have e9 : ((b + (p - a) * vv i : Nat) : Int) = (b : Int) + ((p : Int) * vv i - (a : Int) * vv i) := by
                rw [Int.natCast_add, Int.natCast_mul, Int.ofNat_sub (show a ≤ p by omega), Int.sub_mul]
              rw [e9] at m1
              have := Int.dvd_add (Int.dvd_add m1 m2) b3
              rw [show (((b + (p - a) * vv i) % p : Nat) : Int) - ((b : Int) + ((p : Int) * vv i - (a : Int) * vv i)) + (p : Int) * vv i + ((b : Int) - (cur (cl i) - (a : Int) * rs9 cl vv ra (i - ra) (cl i))) = (((b + (p - a) * vv i) % p : Nat) : Int) - (cur (cl i) - (a : Int) * (rs9 cl vv ra (i - ra) (cl i) + (vv i : Int))) by rw [Int.mul_add]; omega] at this
              exact this
            · obtain ⟨b', d1, d2, d3⟩ := hk1 j hj
              refine ⟨b', (po_usI_ne q).trans d1, d2, ?_⟩
              rw [if_neg (fun h9 => q h9.symm), Int.add_zero]
              exact d3
        refine w_crI (ch_43012.trans h2) rfl (by omega) q1 (w_ifF (rn_neg1 q2) (w_crI (ch_43012.trans h2) rfl (by omega) q1 (c2 rb ra z (by omega) (Nat.le_refl _) q4 hz (wk_cg hwk (fun j hj => ?_)))))
        rw [Nat.sub_self, show cur j - (cur j - (a : Int) * rs9 cl vv ra 0 j) = (a : Int) * 0 by show cur j - (cur j - (a : Int) * 0) = _; omega, Int.mul_zero]
        exact Int.dvd_zero _
  refine e_X1_reduce ?_
  refine u_X1_reduce_0 ?_; unfold dm_X1_reduce_0
  refine c1 w 0 y (M n) (by omega) fr_rf hk (fun j hj => absurd hj (Nat.not_lt_zero _)) (sp_q (fun j _ => ?_) sp_0)
  rw [show M n j - M n j - 0 = 0 by omega]
  exact Int.dvd_zero _
end XCJ4
end
section
/-! 99zzzzzzzzzzzzzzzzyzi.xchx -/
-- CHAIN: the class's eliminate, exactly
section XCJ5
variable {vl : Nat → Nat} {y : ow_MS} {W C : Nat}
theorem te_eliminate {o p c ci : Nat} {S : ow_NP} {G : Nat → Int32} {Ls : Nat → Nat → Nat} {ns : Nat → Nat} {dg : Int} {wf : Nat → Bool} (hv : vI vl W C) (hy : cAt y 44000 (c, ci, S, G)) (hvn : vn c S) (hc : c ≤ 8) (hwf : gaO c S wf) (hL : LpY y S G c Ls ns) (hly : LyY y c ns dg) (htb : tbP y) (ho : o < c + 1) (h10 : y.1 43010 = nI p) (hp : prT p) (hp2 : p ≤ 997) (hsz : ∀ h, smH (bkF ns dg) h 0 (2 ^ c) ≤ 1140 ∧ (h < 10 → smH (bkF ns dg) h 0 (2 ^ c) ≤ W)) {rel : (Nat → Bool) → Nat → Nat → Prop} (hC : cu9 c 2000 (fun g => g < 2 * c) (fun x => 2 * x) (fun x => S.2 (2 * x)) (fun x => S.2 (2 * x)) rel) (hLT : LT9 c (fun g => g < 2 * c) rel Ls ns) : Te (fun K => de_X1_eliminate K 43000 (nI o) vl y) (gQ vl (fun r => fr kpG y r.2.2 ∧ (∃ C', vI r.2.1 W C') ∧ r.1 = nI (rk9 p (sz9 c ns dg (o + 1)) (rwl9 (fun i => if y.2.1 43014 i = 0 then MT9 c (fun g => g < 2 * c) rel (fun x => 2 * x) (fun x => S.2 (2 * x)) Ls ns dg o i else fun _ => 0) (sz9 c ns dg o))) ∧ ∃ u cl vv d9, kx9 r.2.2 p (sz9 c ns dg (o + 1)) u cl vv d9 ∧ El9 p (sz9 c ns dg (o + 1)) (fun i => if y.2.1 43014 i = 0 then MT9 c (fun g => g < 2 * c) rel (fun x => 2 * x) (fun x => S.2 (2 * x)) Ls ns dg o i else fun _ => 0) (sz9 c ns dg o) d9)) := by
  have hp1 := hp.1
  generalize hM : (fun i => if y.2.1 43014 i = 0 then MT9 c (fun g => g < 2 * c) rel (fun x => 2 * x) (fun x => S.2 (2 * x)) Ls ns dg o i else fun _ => 0) = M
  have hM0 : ∀ i, y.2.1 43014 i = 0 → M i = MT9 c (fun g => g < 2 * c) rel (fun x => 2 * x) (fun x => S.2 (2 * x)) Ls ns dg o i := fun i hi => by
    rw [← hM]
    exact if_pos hi
  have hM1 : ∀ i, ¬ y.2.1 43014 i = 0 → M i = fun _ => 0 := fun i hi => by
    rw [← hM]
    exact if_neg hi
  generalize hw : sz9 c ns dg (o + 1) = w
  have hw' : smH (bkF ns dg) (o + 1) 0 (2 ^ c) = w := hw
  let Q : Int32 × (Nat → Nat) × ow_MS → Prop := fun r => fr kpG y r.2.2 ∧ (∃ C', vI r.2.1 W C') ∧ r.1 = nI (rk9 p w (rwl9 M (sz9 c ns dg o))) ∧ ∃ u cl vv d9, kx9 r.2.2 p w u cl vv d9 ∧ El9 p w M (sz9 c ns dg o) d9
  let ST : Nat → (Nat → Nat) → ow_MS → Prop := fun n v z => ∃ C' u cl vv d9, vI v W C' ∧ fr kpG y z ∧ rI z w u C' ∧ kx9 z p w u cl vv d9 ∧ El9 p w M n d9 ∧ ∀ j, j < w → z.2.1 43011 j = 0
  have hw1 : w ≤ 1140 := by rw [← hw']; exact (hsz _).1
  have hwW : w ≤ W := by rw [← hw']; exact (hsz _).2 (by omega)
  have h256 : 2 ^ c ≤ 256 := two_mono (b := 8) hc
  have c1 : ∀ (d s : Nat) (v : Nat → Nat) (z : ow_MS), s + d = 2 ^ c → ST (smH (bkF ns dg) o 0 s) v z → Tt (fun K k => d_X1_eliminate K k 1 (nI o) (nI w) (nI (rk9 p w (rwl9 M (smH (bkF ns dg) o 0 s)))) (nI s) 0 43000 v z) (gQ v Q) := by
    intro d
    induction d with
    | zero =>
      intro s v z hs hst
      obtain ⟨C', u, cl, vv, d9, hv', hz, hI, hx, hE, hz0⟩ := hst
      have hz4 : cAt z 44000 (c, ci, S, G) := cAt_fr hz (fun g hg h9 => by unfold cP at hg; unfold kpG at h9; omega) hy
      refine u_X1_eliminate_1 ?_; unfold dm_X1_eliminate_1
      refine w_rdF hz4.1 ?_
      rw [shl1 (by omega)]
      rw [show s = 2 ^ c by omega] at hE ⊢
      exact w_leT (a := 2 ^ c) (b := 2 ^ c) (by omega) (by omega) (w_some ⟨Nat.le_refl _, hz, ⟨C', hv'⟩, rfl, u, cl, vv, d9, hx, hE⟩)
    | succ d ih =>
      intro s v z hs hst
      have hst0 := hst
      obtain ⟨C', u, cl, vv, d9, hv', hz, hI, hx, hE, hz0⟩ := hst
      have hz4 : cAt z 44000 (c, ci, S, G) := cAt_fr hz (fun g hg h9 => by unfold cP at hg; unfold kpG at h9; omega) hy
      have hsc : s < 2 ^ c := by omega
      have hns := (hL s hsc).2
      have two9 : 2 ^ ns s ≤ 512 := two_mono (b := 9) hns
      have c4 : ∀ (n : Nat) (v : Nat → Nat) (z : ow_MS), n = smH (bkF ns dg) o 0 (s + 1) → ST n v z → Tt (fun K k => d_X1_eliminate K k 4 (nI o) (nI w) (nI (rk9 p w (rwl9 M n))) (nI s) 0 43000 v z) (gQ v Q) := by
        intro n v z hn hst
        refine u_X1_eliminate_4 ?_; unfold dm_X1_eliminate_4
        rw [nI_1]
        rw [hn] at hst ⊢
        exact ih (s + 1) v z (by omega) hst
      have fits : ∀ kp, kpF (ns s) (pc s) dg = some kp → pc s = o → ∀ (d2 m : Nat) (v : Nat → Nat) (z : ow_MS), m + d2 = 2 ^ ns s → ST (smH (bkF ns dg) o 0 s + cpN kp m) v z → Tt (fun K k => d_X1_eliminate K k 2 (nI o) (nI w) (nI (rk9 p w (rwl9 M (smH (bkF ns dg) o 0 s + cpN kp m)))) (nI s) (nI m) 43000 v z) (gQ v Q) := by
        intro kp hkp hpo d2
        induction d2 with
        | zero =>
          intro m v z hm hst
          have hst0 := hst
          obtain ⟨C', u, cl, vv, d9, hv', hz, hI, hx, hE, hz0⟩ := hst
          have e3 : z.2.1 43003 s = nI (ns s) := by
            rw [(hz 43003 (by unfold kpG; omega)).2.1]
            exact (hL s hsc).1.2.1
          refine u_X1_eliminate_2 ?_; unfold dm_X1_eliminate_2
          refine w_crI ch_43003 rfl (by omega) e3 ?_
          rw [shl1 (by omega)]
          refine w_leT (a := 2 ^ ns s) (b := m) (by omega) (by omega) (c4 _ v z ?_ hst0)
          rw [smH_s, if_pos hpo, show m = 2 ^ ns s by omega, cpN_bi _ _ (by omega)]
          unfold bkF
          rw [hkp]
        | succ d2 ih2 =>
          intro m v z hm hst
          have hst0 := hst
          obtain ⟨C', u, cl, vv, d9, hv', hz, hI, hx, hE, hz0⟩ := hst
          have e3 : z.2.1 43003 s = nI (ns s) := by
            rw [(hz 43003 (by unfold kpG; omega)).2.1]
            exact (hL s hsc).1.2.1
          have e7 : z.2.1 43007 s = nI kp := by
            rw [(hz 43007 (by unfold kpG; omega)).2.1, (hly.1 s hsc).1, hkp]
            rfl
          have e8 : z.2.1 43008 s = nI (smH (bkF ns dg) (pc s) 0 s) := by
            rw [(hz 43008 (by unfold kpG; omega)).2.1]
            exact (hly.1 s hsc).2
          have e5 : z.2.1 43005 m = nI (cpN (pc m) m) := by
            rw [(hz 43005 (by unfold kpG; omega)).2.1]
            exact htb m (by omega)
          have c3 : ∀ (n : Nat) (v : Nat → Nat) (z : ow_MS), n = smH (bkF ns dg) o 0 s + cpN kp (m + 1) → ST n v z → Tt (fun K k => d_X1_eliminate K k 3 (nI o) (nI w) (nI (rk9 p w (rwl9 M n))) (nI s) (nI m) 43000 v z) (gQ v Q) := by
            intro n v z hn hst
            refine u_X1_eliminate_3 ?_; unfold dm_X1_eliminate_3
            rw [nI_1]
            rw [hn] at hst ⊢
            exact ih2 (m + 1) v z (by omega) hst
          have cps : cpN kp (m + 1) = cpN kp m + if pc m = kp then 1 else 0 := rfl
          have hkp9 : kp ≤ ns s := kpF_le hkp
          have hpm : pc m ≤ ns s := pc_le (by omega)
          refine u_X1_eliminate_2 ?_; unfold dm_X1_eliminate_2
          refine w_crI ch_43003 rfl (by omega) e3 ?_
          rw [shl1 (by omega), bc_pc (show m < 4096 by omega)]
          refine w_leF (a := 2 ^ ns s) (b := m) (by omega) (by omega) (w_crI ch_43007 rfl (by omega) e7 (w_eqN (by omega) (by omega) (fun hpc => ?_) (fun hpc => c3 _ v z (by rw [cps, if_neg hpc]; rfl) hst0)))
          rw [if_pos hpc] at cps
          have hk2 : kpF (ns s) (pc s) dg = some (pc m) := by rw [hkp, hpc]
          have hix := ix_lt hsc hns (show m < 2 ^ ns s by omega) hk2
          rw [hpo] at hix
          have hoW := (hsz o).2 (by omega)
          have ho1 := (hsz o).1
          have hv2 := hv'
          obtain ⟨h1, h2, h3, h4, h5, h6, h7, h8, h9, h0⟩ := hv'
          refine w_crI ch_43008 rfl (by omega) e8 (w_crI ch_43005 rfl (by omega) e5 ?_)
          rw [nI_add]
          have e14 : z.2.1 43014 (smH (bkF ns dg) (pc s) 0 s + cpN (pc m) m) = y.2.1 43014 (smH (bkF ns dg) o 0 s + cpN kp m) := by
            rw [(hz 43014 (by unfold kpG; omega)).2.1, hpo, hpc]
          have hva : va9 c ns dg o s m := ⟨hsc, hpo, by omega, hk2⟩
          have hin : ix9 ns dg s m = smH (bkF ns dg) o 0 s + cpN kp m := by
            unfold ix9
            rw [hpo, hpc]
          refine w_crI (ch_43014.trans h4) rfl (show smH (bkF ns dg) (pc s) 0 s + cpN (pc m) m < W by rw [hpo]; omega) e14 (w_if (fun hcl => ?_) (fun hcl => ?_))
          · have ep : z.1 43010 = nI p := ((hz 43010 (by unfold kpG; omega)).1).trans h10
            have hz4 : cAt z 44000 (c, ci, S, G) := cAt_fr hz (fun g hg h9 => by unfold cP at hg; unfold kpG at h9; omega) hy
            have w0 : wk9 z p (sz9 c ns dg (pc s + 1)) (fun _ => 0) := fun j hj => by
              rw [hpo, hw] at hj
              exact ⟨0, hz0 j hj, by omega, Int.dvd_zero _⟩
            refine w_cs0 (te_writeImage (vl := v) (W := W) (p := p) (dg := dg) hz4 hvn hc hwf (LpY_fr hz (by unfold kpG; omega) hL) (LyY_fr hz (by unfold kpG; omega) hly) (tbP_fr hz (by unfold kpG; omega) htb) hsc (show m < 2 ^ ns s by omega) hk2 h1 (by omega) (by rw [hpo, hw']; exact hwW) ep hp1 hp2 hC hLT w0) ?_
            rintro z1 ⟨hz1, hk1⟩
            have hf1 : fr kpG y z1 := fr_tr hz (fr_mono (fun g hg => Or.inl hg) hz1)
            rw [hpo, hw] at hk1
            have hk3 : wk9 z1 p w (M (smH (bkF ns dg) o 0 s + cpN kp m)) := wk_cg hk1 (fun j hj => by
              rw [hM0 _ hcl, ← hin, MT_row hC hLT (by omega) hva (by rw [hw]; exact hj), Int.sub_self]
              exact Int.dvd_zero _)
            refine w_dc1 (te_reduce hv2 hw1 hwW (rI_fr hz1 (by omega) hI) (((hf1 43010 (by unfold kpG; omega)).1).trans h10) hp hp2 (kx_fr hz1 (by omega) hx) hE hk3) ?_
            rintro x v2 z2 ⟨r1, r2, C2, u2, cl2, vv2, d2', ρ, r3, r4, r5, r6, r7, r8, r9⟩
            dsimp only at r7
            rw [r7, nI_add, ← r8]
            exact w_chV r1 (c3 _ v2 z2 (by rw [cps]; rfl) ⟨C2, u2, cl2, vv2, d2', r3, fr_tr hf1 r2, r4, r5, r6, r9⟩)
          · have hz9 : sp9 p w (rwl9 d9 w) (M (smH (bkF ns dg) o 0 s + cpN kp m)) := by
              rw [hM1 _ hcl]
              exact sp_0
            obtain ⟨e1, e2⟩ := El_n hE hz9
            rw [← e2]
            exact c3 _ v z (by rw [cps]; rfl) ⟨C', u, cl, vv, d9, hv2, hz, hI, hx, e1, hz0⟩
      have e7 : z.2.1 43007 s = oM (kpF (ns s) (pc s) dg) := by
        rw [(hz 43007 (by unfold kpG; omega)).2.1]
        exact (hly.1 s hsc).1
      have hps := pc_le (c := c) hsc
      refine u_X1_eliminate_1 ?_; unfold dm_X1_eliminate_1
      refine w_rdF hz4.1 ?_
      rw [shl1 (by omega), bc_pc (show s < 4096 by omega)]
      refine w_leF (a := 2 ^ c) (b := s) (by omega) (by omega) (w_eqN (by omega) (by omega) (fun hpo => w_crI ch_43007 rfl (by omega) e7 ?_) (fun hpo => c4 _ v z (by rw [smH_s, if_neg hpo]; rfl) hst0))
      cases hkp : kpF (ns s) (pc s) dg with
      | none =>
        refine w_ifT rfl (c4 _ v z ?_ hst0)
        rw [smH_s, if_pos hpo]
        unfold bkF
        rw [hkp]
        rfl
      | some kp =>
        have hkp9 : kp ≤ ns s := kpF_le hkp
        exact w_ifF (rn_neg1 (by omega)) (fits kp hkp hpo (2 ^ ns s) 0 v z (by omega) hst0)
  have hv0 := hv
  obtain ⟨h1, h2, h3, h4, h5, h6, h7, h8, h9, h0⟩ := hv
  refine e_X1_eliminate ?_
  refine u_X1_eliminate_0 ?_; unfold dm_X1_eliminate_0
  rw [nI_1]
  refine w_crI ch_43009 rfl (by omega) ((hly.2 (o + 1) (by omega)).trans (by rw [hw'])) (w_wrF ?_)
  refine w_cs0 (tc_fill (a := 0) (b := w) (ch_43012.trans h2) (by omega) hwW (by omega)) ?_
  rintro z1 ⟨f1, f2⟩
  refine w_cs0 (tc_fill (a := 0) (b := w) (ch_43011.trans h1) (by omega) hwW (by omega)) ?_
  rintro z2 ⟨f3, f4⟩
  have g12 : ∀ k, k < w → z2.2.1 43012 k = -1 := fun k hk => by
    rw [(f4 43012 (by omega)).2.1, f1 k, if_pos (by omega)]
  refine c1 (2 ^ c) 0 vl z2 (by omega) ⟨C, 0, fun _ => 0, fun _ => 0, fun _ _ => 0, hv0, fr_tr (fr_tr (fr_F (by unfold kpG; omega)) (fr_mono (fun g hg => by unfold kpG; omega) f2)) (fr_mono (fun g hg => by unfold kpG; omega) f4), ⟨?_, Nat.zero_le _, Nat.zero_le _, fun k hk => Or.inl (g12 k hk), fun i hi => absurd hi (Nat.not_lt_zero _)⟩, ⟨fun i hi => absurd hi (Nat.not_lt_zero _), fun k hk => Or.inl ⟨g12 k hk, fun j _ => Int.dvd_zero _⟩⟩, El_0, fun j hj => ?_⟩
  · rw [(f4 43017 (by omega)).1, (f2 43017 (by omega)).1]
    exact po_usF_at
  · rw [f3 j, if_pos (by omega)]
end XCJ5
end
section
/-! 99zzzzzzzzzzzzzzzzyzj.xchy -/
-- CHAIN: the ranks of one degree (made by tools/mkchy.py out of clay)
def bf9 (R : Nat → Nat) : Nat → Nat
  | 0 => 0
  | o + 1 => R o
section XCJ6
variable {vl : Nat → Nat} {y : ow_MS} {W C : Nat}
theorem te_lay6 {d c : Nat} {ns : Nat → Nat} (hsz : ∀ h, smH (bkF ns (dgI d)) h 0 (2 ^ c) ≤ 1140) : ∀ (e i : Nat) (v : Nat → Nat) (z : ow_MS) (W' : Nat), i + e = 10 → vI v W' C → (∀ h, h < i → smH (bkF ns (dgI d)) h 0 (2 ^ c) ≤ W') → fr lyG y z → LyY z c ns (dgI d) → Tt (fun K k => d_X1_layOut K k 6 (nI d - 10) (nI i) 0 0 0 43000 0 0 0 v z) (gQ v (fun r => fr lyG y r.2.2 ∧ LyY r.2.2 c ns (dgI d) ∧ ∃ W', vI r.2.1 W' C ∧ (∀ h, h < 10 → smH (bkF ns (dgI d)) h 0 (2 ^ c) ≤ W') ∧ ∀ i, i < W' → r.2.2.2.1 43014 i = 0)) := by
  intro e
  induction e with
  | zero =>
    intro i v z W' hi hv' hle hz hly
    have hv2 := hv'
    obtain ⟨h1, h2, h3, h4, h5, h6, h7, h8, h9, h0⟩ := hv'
    refine u_X1_layOut_6 ?_; unfold dm_X1_layOut_6
    rw [show uw_len (cX v) z (43000 + 9) = 10 from rfl]
    refine w_leT (a := 10) (b := i) (by omega) (by omega) (w_cs0 (tc_fillA (ch_43014.trans h4) (by omega)) ?_)
    rintro z1 ⟨f1, f2⟩
    exact w_some ⟨Nat.le_refl _, fr_tr hz (fr_mono (fun g hg => by unfold lyG; omega) f2), LyY_fr f2 (by omega) hly, W', hv2, fun h hh => hle h (by omega), fun i hi => f1 i hi⟩
  | succ e ih =>
    intro i v z W' hi hv' hle hz hly
    refine u_X1_layOut_6 ?_; unfold dm_X1_layOut_6
    rw [show uw_len (cX v) z (43000 + 9) = 10 from rfl]
    refine w_leF (a := 10) (b := i) (by omega) (by omega) (w_crI ch_43009 rfl (by omega) (hly.2 i (by omega)) (w_dc1 (tc_makeRoom hv' (hsz i)) ?_))
    rintro x v1 z1 ⟨r1, r2, W2, r3, r4, r5⟩
    refine w_chV r1 ?_
    rw [nI_1]
    refine ih (i + 1) v1 z1 W2 (by omega) r3 (fun h hh => ?_) (fr_tr hz (fr_mono (fun g hg => by unfold lyG; omega) r2)) (LyY_fr r2 (by omega) hly)
    rcases Nat.lt_or_ge h i with h9 | h9
    · exact Nat.le_trans (hle h h9) r4
    · rw [show h = i by omega]
      exact r5
theorem te_layOut {d c ci : Nat} {S : ow_NP} {G : Nat → Int32} {Ls : Nat → Nat → Nat} {ns : Nat → Nat} (hv : vI vl W C) (hy : cAt y 44000 (c, ci, S, G)) (hc : c ≤ 8) (hd : d < 29) (hL : LpY y S G c Ls ns) (hch : chP y) (hsz : ∀ h, smH (bkF ns (dgI d)) h 0 (2 ^ c) ≤ 1140) : Te (fun K => de_X1_layOut K 43000 (nI d - 10) vl y) (gQ vl (fun r => fr lyG y r.2.2 ∧ LyY r.2.2 c ns (dgI d) ∧ ∃ W', vI r.2.1 W' C ∧ (∀ h, h < 10 → smH (bkF ns (dgI d)) h 0 (2 ^ c) ≤ W') ∧ ∀ i, i < W' → r.2.2.2.1 43014 i = 0)) := by
  let Q : Unit × (Nat → Nat) × ow_MS → Prop := fun r => fr lyG y r.2.2 ∧ LyY r.2.2 c ns (dgI d) ∧ ∃ W', vI r.2.1 W' C ∧ (∀ h, h < 10 → smH (bkF ns (dgI d)) h 0 (2 ^ c) ≤ W') ∧ ∀ i, i < W' → r.2.2.2.1 43014 i = 0
  have h256 : 2 ^ c ≤ 256 := two_mono (b := 8) hc
  have c6 := te_lay6 (y := y) (C := C) hsz
  have c1 : ∀ (e s : Nat) (z : ow_MS), s + e = 2 ^ c → fr lyG y z → lyA z ns (dgI d) s → Tt (fun K k => d_X1_layOut K k 1 (nI d - 10) (nI s) 0 0 0 43000 0 0 0 vl z) (gQ vl Q) := by
    intro e
    induction e with
    | zero =>
      intro s z hs hz hA
      have hz4 : cAt z 44000 (c, ci, S, G) := cAt_fr hz (fun g hg h9 => by unfold cP at hg; unfold lyG at h9; omega) hy
      refine u_X1_layOut_1 ?_; unfold dm_X1_layOut_1
      refine w_rdF hz4.1 ?_
      rw [shl1 (by omega)]
      refine w_leT (a := 2 ^ c) (b := s) (by omega) (by omega) (c6 10 0 vl z W rfl hv (fun h hh => absurd hh (Nat.not_lt_zero _)) hz ?_)
      rw [show s = 2 ^ c by omega] at hA
      exact hA
    | succ e ih =>
      intro s z hs hz hA
      have hz4 : cAt z 44000 (c, ci, S, G) := cAt_fr hz (fun g hg h9 => by unfold cP at hg; unfold lyG at h9; omega) hy
      have hsc : s < 2 ^ c := by omega
      have hns := (hL s hsc).2
      have hps := pc_le (c := c) hsc
      have e3 : ∀ z1, fr lyG y z1 → z1.2.1 43003 s = nI (ns s) := fun z1 h1 => by
        rw [(h1 43003 (by unfold lyG; omega)).2.1]
        exact (hL s hsc).1.2.1
      generalize ht : nI (ns s) + (nI d - 10) - nI (pc s) = t
      -- the end of a state
      have c5 : ∀ (x5 : Int32) (b : Nat) (z1 : ow_MS), fr lyG y z1 → b = bkF ns (dgI d) s → (∀ t, t < s + 1 → z1.2.1 43007 t = oM (kpF (ns t) (pc t) (dgI d)) ∧ z1.2.1 43008 t = nI (smH (bkF ns (dgI d)) (pc t) 0 t)) → (∀ h, h < 10 → z1.2.1 43009 h = nI (smH (bkF ns (dgI d)) h 0 s)) → Tt (fun K k => d_X1_layOut K k 5 (nI d - 10) (nI s) (nI (pc s)) t x5 43000 (nI b) (nI (smH (bkF ns (dgI d)) (pc s) 0 s)) (nI (pc s)) vl z1) (gQ vl Q) := by
        intro x5 b z1 hz1 hb g1 g2
        refine u_X1_layOut_5 ?_; unfold dm_X1_layOut_5
        rw [nI_add, nI_1]
        exact w_ctI ch_43009 rfl (by omega) (ih (s + 1) _ (by omega) (fr_I2 hz1 lyG9) (lyA_st hb g1 g2))
      have c4 : ∀ (x5 t0 : Int32), t0 = oM (kpF (ns s) (pc s) (dgI d)) → (kpF (ns s) (pc s) (dgI d) = none ∧ x5 = 0 ∨ ∃ k, kpF (ns s) (pc s) (dgI d) = some k ∧ x5 = 1 ∧ t / 2 = nI k) → Tt (fun K k => d_X1_layOut K k 4 (nI d - 10) (nI s) (nI (pc s)) t x5 43000 t0 (nI s) 0 vl z) (gQ vl Q) := by
        intro x5 t0 h0 hk
        refine u_X1_layOut_4 ?_; unfold dm_X1_layOut_4
        have g9 : z.2.1 43009 (pc s) = nI (smH (bkF ns (dgI d)) (pc s) 0 s) := hA.2 _ (by omega)
        refine w_ctI ch_43007 rfl (by omega) (w_crI ch_43009 rfl (show pc s < 10 by omega) (rd_ot (by omega) g9) (w_ctI ch_43008 rfl (by omega) (w_crI ch_43009 rfl (show pc s < 10 by omega) (rd_ot (by omega) (rd_ot (by omega) g9)) ?_)))
        have hf : fr lyG y (usI (usI z (43000 + 7) s t0) (43000 + 8) s (nI (smH (bkF ns (dgI d)) (pc s) 0 s))) := fr_I2 (fr_I2 hz lyG7) lyG8
        obtain ⟨k1, k2⟩ := lyA_pr h0 hA
        rcases hk with ⟨hn, rfl⟩ | ⟨k, hk, rfl, hk2⟩
        · refine w_ifT rfl (c5 0 0 _ hf ?_ k1 k2)
          unfold bkF
          rw [hn]
        · have hkn := kpF_le hk
          refine w_ifF (by decide) (w_crI ch_43003 rfl (by omega) (e3 _ hf) (w_crX rfl (show ns s < 11 by omega) (w_nzI (by decide) ?_)))
          rw [hk2]
          refine w_crI (ch_450 (show ns s < 11 by omega)) rfl (show k < 11 by omega) ?_ (c5 1 (biN (ns s) k) _ hf ?_ k1 k2)
          · show (usI (usI z (43000 + 7) s t0) (43000 + 8) s (nI (smH (bkF ns (dgI d)) (pc s) 0 s))).2.1 (45001 + ns s) k = _
            rw [(hf (45001 + ns s) (by unfold lyG; omega)).2.1]
            exact hch (ns s) k (by omega) hkn
          · unfold bkF
            rw [hk]
      have c3a : kpF (ns s) (pc s) (dgI d) = none → Tt (fun K k => d_X1_layOut K k 3 (nI d - 10) (nI s) (nI (pc s)) t 0 43000 0 0 0 vl z) (gQ vl Q) := by
        intro hn
        refine u_X1_layOut_3 ?_; unfold dm_X1_layOut_3
        exact w_ifT rfl (c4 0 (-1) (by rw [hn]; rfl) (Or.inl ⟨hn, rfl⟩))
      have c2 : kpF (ns s) (pc s) (dgI d) = none → Tt (fun K k => d_X1_layOut K k 2 (nI d - 10) (nI s) (nI (pc s)) t 0 43000 0 0 0 vl z) (gQ vl Q) := by
        intro hn
        refine u_X1_layOut_2 ?_; unfold dm_X1_layOut_2
        exact c3a hn
      refine u_X1_layOut_1 ?_; unfold dm_X1_layOut_1
      refine w_rdF hz4.1 ?_
      rw [shl1 (by omega), bc_pc (show s < 4096 by omega)]
      refine w_leF (a := 2 ^ c) (b := s) (by omega) (by omega) (w_crI ch_43003 rfl (by omega) (e3 z hz) ?_)
      rw [ht]
      cases hk : kpF (ns s) (pc s) (dgI d) with
      | none =>
        have h9 := lk_A ⟨ns s, by omega⟩ ⟨pc s, by omega⟩ ⟨d, hd⟩ hk
        dsimp only at h9
        rw [ht] at h9
        refine w_if (fun a1 => w_if (fun _ => c2 hk) (fun a2 => w_crI ch_43003 rfl (by omega) (e3 z hz) (w_ifT ?_ (c2 hk)))) (fun _ => c2 hk)
        rcases h9 with h9 | h9 | h9
        · exact absurd a1 h9
        · exact absurd h9 a2
        · exact h9
      | some k =>
        have hkn := kpF_le hk
        obtain ⟨b1, b2, b3, b4⟩ := lk_B ⟨ns s, by omega⟩ ⟨pc s, by omega⟩ ⟨d, hd⟩ ⟨k, by omega⟩ hk
        dsimp only at b1 b2 b3 b4
        rw [ht] at b1 b2 b3 b4
        refine w_ifT b1 (w_ifF b2 (w_crI ch_43003 rfl (by omega) (e3 z hz) (w_ifF b3 ?_)))
        refine u_X1_layOut_3 ?_; unfold dm_X1_layOut_3
        refine w_ifF (by decide) (w_nzI (by decide) (c4 1 (t / 2) ?_ (Or.inr ⟨k, hk, rfl, b4⟩)))
        rw [hk, b4]
        rfl
  refine e_X1_layOut ?_
  refine u_X1_layOut_0 ?_; unfold dm_X1_layOut_0
  refine w_cs0 (tc_fillA (l := 10) rfl (by omega)) ?_
  rintro z1 ⟨f1, f2⟩
  exact c1 (2 ^ c) 0 z1 (by omega) (fr_mono (fun g hg => by unfold lyG; omega) f2) ⟨fun t ht => absurd ht (Nat.not_lt_zero _), fun h hh => f1 h hh⟩
theorem rk_w0 {p : Int} (d : Nat → vc9) : ∀ n, rk9 p 0 (rwl9 d n) = 0
  | 0 => rfl
  | n + 1 => (rk_y (sp_q (fun i hi => absurd hi (Nat.not_lt_zero _)) sp_0)).trans (rk_w0 d n)
theorem te_rankDegree {d p c ci : Nat} {S : ow_NP} {G : Nat → Int32} {Ls : Nat → Nat → Nat} {ns : Nat → Nat} {wf : Nat → Bool} (hv : vI vl W C) (hy : cAt y 44000 (c, ci, S, G)) (hvn : vn c S) (hc : c ≤ 8) (hd : d < 29) (hwf : gaO c S wf) (hL : LpY y S G c Ls ns) (htb : tbP y) (hch : chP y) (h10 : y.1 43010 = nI p) (hp : prT p) (hp2 : p ≤ 997) (hsz : ∀ h, smH (bkF ns (dgI d)) h 0 (2 ^ c) ≤ 1140) {rel : (Nat → Bool) → Nat → Nat → Prop} (hC : cu9 c 2000 (fun g => g < 2 * c) (fun x => 2 * x) (fun x => S.2 (2 * x)) (fun x => S.2 (2 * x)) rel) (hLT : LT9 c (fun g => g < 2 * c) rel Ls ns) {RK : Nat → Nat} (hRK : ∀ h, RK h = RK9 p c (fun g => g < 2 * c) rel (fun x => 2 * x) (fun x => S.2 (2 * x)) Ls ns (dgI d) h) : Te (fun K => de_X1_rankDegree K 43000 (nI d - 10) vl y) (gQ vl (fun r => fr rkG y r.2.2 ∧ (∃ W' C', vI r.2.1 W' C') ∧ (∀ o, o ≤ c → r.2.2.2.1 43018 (56 * o + d + 10) = nI (sz9 c ns (dgI d) o) - nI (RK o) - nI (bf9 RK o)) ∧ ∀ i, (∀ o, o ≤ c → i ≠ 56 * o + d + 10) → r.2.2.2.1 43018 i = y.2.1 43018 i)) := by
  have hp1 := hp.1
  have hpr := prp_of hp
  have hiv := iv_of hp
  let Q : Unit × (Nat → Nat) × ow_MS → Prop := fun r => fr rkG y r.2.2 ∧ (∃ W' C', vI r.2.1 W' C') ∧ (∀ o, o ≤ c → r.2.2.2.1 43018 (56 * o + d + 10) = nI (sz9 c ns (dgI d) o) - nI (RK o) - nI (bf9 RK o)) ∧ ∀ i, (∀ o, o ≤ c → i ≠ 56 * o + d + 10) → r.2.2.2.1 43018 i = y.2.1 43018 i
  generalize hMT : MT9 c (fun g => g < 2 * c) rel (fun x => 2 * x) (fun x => S.2 (2 * x)) Ls ns (dgI d) = MT
  have hRK2 : ∀ h, RK h = rk9 p (sz9 c ns (dgI d) (h + 1)) (rwl9 (MT h) (sz9 c ns (dgI d) h)) := fun h => by
    rw [hRK h, ← hMT]
    rfl
  -- what a row that is left out is made of
  let GD : Nat → Nat → Prop := fun o i => ∃ a : vc9, zq9 p (sz9 c ns (dgI d) (o + 1)) (MT o i) (fun j => sN9 (fun k => if i < k then a k * MT o k j else 0) (sz9 c ns (dgI d) o))
  let TB : Nat → ow_MS → Prop := fun o z => (∀ o', o' < o → z.2.1 43018 (56 * o' + d + 10) = nI (sz9 c ns (dgI d) o') - nI (RK o') - nI (bf9 RK o')) ∧ ∀ i, (∀ o, o ≤ c → i ≠ 56 * o + d + 10) → z.2.1 43018 i = y.2.1 43018 i
  have TB_ot : ∀ o z z1 (P : Nat → Prop), fr P z z1 → ¬ P 43018 → TB o z → TB o z1 := fun o z z1 P hf hP h => by
    have e : z1.2.1 43018 = z.2.1 43018 := (hf 43018 hP).2.1
    exact ⟨fun o' ho' => by rw [e]; exact h.1 o' ho', fun i hi => by rw [e]; exact h.2 i hi⟩
  have c1 : ∀ (W' : Nat), (∀ h, h < 10 → smH (bkF ns (dgI d)) h 0 (2 ^ c) ≤ W') → ∀ (e o : Nat) (v : Nat → Nat) (z : ow_MS) (C' : Nat), o + e = c + 1 → vI v W' C' → fr rkG y z → LyY z c ns (dgI d) → TB o z → (∀ i, i < sz9 c ns (dgI d) o → ¬ z.2.1 43014 i = 0 → GD o i) → Tt (fun K k => d_X1_rankDegree K k 1 (nI d - 10) (nI (bf9 RK o)) (nI o) 0 0 43000 0 0 v z) (gQ v Q) := by
    intro W' hle e
    induction e with
    | zero =>
      intro o v z C' ho hv' hz hly htb9 hcl
      have hz4 : cAt z 44000 (c, ci, S, G) := cAt_fr hz (fun g hg h9 => by unfold cP at hg; unfold rkG lyG kpG at h9; omega) hy
      refine u_X1_rankDegree_1 ?_; unfold dm_X1_rankDegree_1
      exact w_rdF hz4.1 (w_ltT (a := c) (b := o) (by omega) (by omega) (w_some ⟨Nat.le_refl _, hz, ⟨W', C', hv'⟩, fun o' ho' => htb9.1 o' (by omega), htb9.2⟩))
    | succ e ih =>
      intro o v z C' ho hv' hz hly htb9 hcl
      have hz4 : cAt z 44000 (c, ci, S, G) := cAt_fr hz (fun g hg h9 => by unfold cP at hg; unfold rkG lyG kpG at h9; omega) hy
      generalize hw : sz9 c ns (dgI d) (o + 1) = w
      have hw' : smH (bkF ns (dgI d)) (o + 1) 0 (2 ^ c) = w := hw
      have hw1 : w ≤ 1140 := by rw [← hw']; exact hsz _
      have hwW : w ≤ W' := by rw [← hw']; exact hle _ (by omega)
      have c3 : ∀ (e2 i : Nat) (v : Nat → Nat) (z : ow_MS) (C' : Nat), i + e2 = w → vI v W' C' → fr rkG y z → LyY z c ns (dgI d) → TB (o + 1) z → (∀ j, j < w → RK o ≠ 0 → ¬ z.2.1 43012 j = -1 → GD (o + 1) j) → (∀ j, j < i → ¬ z.2.1 43014 j = 0 → GD (o + 1) j) → Tt (fun K k => d_X1_rankDegree K k 3 (nI d - 10) (nI (RK o)) (nI o) (nI (RK o)) (nI i) 43000 0 0 v z) (gQ v Q) := by
        intro e2
        induction e2 with
        | zero =>
          intro i v z C' hi hv' hz hly ht9 hkx hdn
          refine u_X1_rankDegree_3 ?_; unfold dm_X1_rankDegree_3
          rw [nI_1]
          exact w_crI ch_43009 rfl (by omega) ((hly.2 (o + 1) (by omega)).trans (by rw [hw'])) (w_leT (a := w) (b := i) (by omega) (by omega) (ih (o + 1) v z C' (by omega) hv' hz hly ht9 (fun j hj h9 => hdn j (by rw [hw] at hj; omega) h9)))
        | succ e2 ih2 =>
          intro i v z C' hi hv' hz hly ht9 hkx hdn
          have hv2 := hv'
          obtain ⟨h1, h2, h3, h4, h5, h6, h7, h8, h9, h0⟩ := hv'
          have c5 : ∀ t0 : Int32, (¬ t0 = 0 → GD (o + 1) i) → Tt (fun K k => d_X1_rankDegree K k 5 (nI d - 10) (nI (RK o)) (nI o) (nI (RK o)) (nI i) 43000 t0 (nI i) v z) (gQ v Q) := by
            intro t0 hgd
            refine u_X1_rankDegree_5 ?_; unfold dm_X1_rankDegree_5
            rw [nI_1]
            refine w_ctI (ch_43014.trans h4) rfl (by omega) (ih2 (i + 1) v _ C' (by omega) hv2 (fr_I2 hz (by unfold rkG lyG; omega)) (LyY_fr (fr_I (P := fun g => g = 43014) rfl) (by omega) hly) (TB_ot _ _ _ _ (fr_I (P := fun g => g = 43014) rfl) (by omega) ht9) (fun j hj h8 h9 => hkx j hj h8 (fun h7 => h9 (rd_ot (by omega) h7))) (fun j hj h9 => ?_))
            by_cases q : j = i
            · rw [q]
              refine hgd (fun h8 => h9 ?_)
              rw [q, h8]
              exact po_usI_at
            · exact hdn j (by omega) (fun h8 => h9 ((po_usI_ne q).trans h8))
          have c4 : Tt (fun K k => d_X1_rankDegree K k 4 (nI d - 10) (nI (RK o)) (nI o) (nI (RK o)) (nI i) 43000 (nI i) 0 v z) (gQ v Q) := by
            refine u_X1_rankDegree_4 ?_; unfold dm_X1_rankDegree_4
            exact c5 0 (fun h9 => absurd rfl h9)
          have r31 : RK o < 2 ^ 31 := by
            rw [hRK2 o]
            have : ∀ n, rk9 (p : Int) (sz9 c ns (dgI d) (o + 1)) (rwl9 (MT o) n) ≤ n := by
              intro n
              induction n with
              | zero => exact Nat.le_refl 0
              | succ n ihn =>
                show rk9 (p : Int) (sz9 c ns (dgI d) (o + 1)) (rwl9 (MT o) n) + _ ≤ n + 1
                by_cases q : sp9 p (sz9 c ns (dgI d) (o + 1)) (rwl9 (MT o) n) (MT o n)
                · rw [if_pos q]
                  omega
                · rw [if_neg q]
                  omega
            have h9 := this (sz9 c ns (dgI d) o)
            have h8 : sz9 c ns (dgI d) o ≤ 1140 := hsz o
            omega
          refine u_X1_rankDegree_3 ?_; unfold dm_X1_rankDegree_3
          rw [nI_1]
          refine w_crI ch_43009 rfl (by omega) ((hly.2 (o + 1) (by omega)).trans (by rw [hw'])) (w_leF (a := w) (b := i) (by omega) (by omega) (w_le (a := RK o) (b := 0) r31 (by omega) (fun _ => c4) (fun hr0 => w_crI (ch_43012.trans h2) rfl (by omega) rfl (w_if (fun _ => c4) (fun h12 => c5 1 (fun _ => hkx i (by omega) (by omega) h12))))))
      have c2 : ∀ (v : Nat → Nat) (z : ow_MS) (C' : Nat), vI v W' C' → fr rkG y z → LyY z c ns (dgI d) → TB o z → (∀ j, j < w → RK o ≠ 0 → ¬ z.2.1 43012 j = -1 → GD (o + 1) j) → Tt (fun K k => d_X1_rankDegree K k 2 (nI d - 10) (nI (bf9 RK o)) (nI o) (nI (RK o)) 0 43000 0 0 v z) (gQ v Q) := by
        intro v z C' hv' hz hly ht9 hkx
        refine u_X1_rankDegree_2 ?_; unfold dm_X1_rankDegree_2
        rw [ix_56 ⟨o, by omega⟩ ⟨d, hd⟩]
        refine w_crI ch_43009 rfl (by omega) (hly.2 o (by omega)) (w_ctI ch_43018 rfl (by dsimp only; omega) (c3 w 0 v _ C' (by omega) hv' (fr_I2 hz (by unfold rkG; omega)) (LyY_fr (fr_I (P := fun g => g = 43018) rfl) (by omega) hly) ⟨fun o' ho' => ?_, fun i hi => ?_⟩ (fun j hj h8 h9 => hkx j hj h8 (fun h7 => h9 (rd_ot (by omega) h7))) (fun j hj => absurd hj (Nat.not_lt_zero _))))
        · by_cases q : o' = o
          · rw [q]
            exact po_usI_at
          · exact (po_usI_ne (by dsimp only; omega)).trans (ht9.1 o' (by omega))
        · exact (po_usI_ne (hi o (by omega))).trans (ht9.2 i hi)
      have ep : z.1 43010 = nI p := ((hz 43010 (by unfold rkG lyG kpG; omega)).1).trans h10
      have so : sz9 c ns (dgI d) o ≤ 1140 := hsz o
      have triv : RK o = 0 → Tt (fun K k => d_X1_rankDegree K k 2 (nI d - 10) (nI (bf9 RK o)) (nI o) 0 0 43000 0 0 v z) (gQ v Q) := fun h9 => by
        have q := c2 v z C' hv' hz hly htb9 (fun j _ h8 => absurd h9 h8)
        rw [h9] at q
        exact q
      refine u_X1_rankDegree_1 ?_; unfold dm_X1_rankDegree_1
      rw [nI_1]
      refine w_rdF hz4.1 (w_ltF (a := c) (b := o) (by omega) (by omega) (w_crI ch_43009 rfl (by omega) (hly.2 o (by omega)) (w_le (a := sz9 c ns (dgI d) o) (b := 0) (by omega) (by omega) (fun h9 => triv ?_) (fun _ => w_crI ch_43009 rfl (by omega) (hly.2 (o + 1) (by omega)) (w_le (a := sz9 c ns (dgI d) (o + 1)) (b := 0) (by rw [hw]; omega) (by omega) (fun h9 => triv ?_) (fun _ => ?_))))))
      · rw [hRK2 o, show sz9 c ns (dgI d) o = 0 by omega]
        rfl
      · rw [hRK2 o, show sz9 c ns (dgI d) (o + 1) = 0 by omega]
        exact rk_w0 _ _
      refine w_dc1 (te_eliminate hv' hz4 hvn hc hwf (LpY_fr hz (by unfold rkG lyG kpG; omega) hL) hly (tbP_fr hz (by unfold rkG lyG kpG; omega) htb) (by omega) ep hp hp2 (fun h => ⟨hsz h, hle h⟩) hC hLT) ?_
      rintro x v1 z1 ⟨r1, r2, ⟨C2, r3⟩, r4, u, cl, vv, d9, r5, r6⟩
      dsimp only at r4
      rw [hMT, hw] at r4 r6
      rw [hw] at r5
      have er : rk9 (p : Int) w (rwl9 (fun i => if z.2.1 43014 i = 0 then MT o i else fun _ => 0) (sz9 c ns (dgI d) o)) = RK o := by
        rw [hRK2 o, hw]
        refine rk_cl hpr hiv (fun i => ¬ z.2.1 43014 i = 0) (fun i _ hi => if_pos (Classical.not_not.mp hi)) (fun i _ hi => if_neg hi) (fun i hi h9 => ?_)
        have := hcl i hi h9
        rw [← hw]
        exact this
      rw [r4, er]
      refine w_chV r1 (c2 v1 z1 C2 r3 (fr_tr hz (fr_mono (fun g hg => Or.inr (Or.inl hg)) r2)) (LyY_fr r2 (by unfold kpG; omega) hly) (TB_ot _ _ _ _ r2 (by unfold kpG; omega) htb9) (fun j hj _ h12 => ?_))
      rcases r5.2 j hj with ⟨q1, -⟩ | ⟨ra, rb, q1, q2, q3, q4, q5, q6, q7⟩
      · exact absurd q1 h12
      · have sp1 : sp9 p w (rwl9 (MT o) (sz9 c ns (dgI d) o)) (d9 j) := by
          have s1 : sp9 p w (rwl9 (fun i => if z.2.1 43014 i = 0 then MT o i else fun _ => 0) (sz9 c ns (dgI d) o)) (d9 j) := (r6.2 _).mpr (sp_in (rwl_in hj))
          refine sp_tr s1 (fun q hq => ?_)
          obtain ⟨k, k1, k2⟩ := rwl_mem hq
          rw [k2]
          by_cases cq : z.2.1 43014 k = 0
          · rw [if_pos cq]
            exact sp_in (rwl_in k1)
          · rw [if_neg cq]
            exact sp_0
        have nd : ¬ (p : Int) ∣ d9 j j := fun h9 => by
          have := Int.dvd_sub h9 q7
          rw [show d9 j j - (d9 j j - 1) = 1 by omega] at this
          have := Int.le_of_dvd (by omega) this
          omega
        have := MT_cl (h := o) (dg := dgI d) hpr hiv hC hLT (by omega) (w := d9 j) (g := j) (by rw [hw]; exact hj) (by rw [hw, hMT]; exact sp1) (r6.1 j hj).1 nd
        rw [hMT] at this
        exact this
  refine e_X1_rankDegree ?_
  refine u_X1_rankDegree_0 ?_; unfold dm_X1_rankDegree_0
  refine w_dc1 (te_layOut hv hy hc hd hL hch hsz) ?_
  rintro x v1 z1 ⟨r1, r2, r3, W2, r4, r5, r6⟩
  have e18 : z1.2.1 43018 = y.2.1 43018 := (r2 43018 (by unfold lyG; omega)).2.1
  refine w_chV r1 (c1 W2 r5 (c + 1) 0 v1 z1 C (by omega) r4 (fr_mono (fun g hg => Or.inl hg) r2) r3 ⟨fun o' ho' => absurd ho' (Nat.not_lt_zero _), fun i _ => by rw [e18]⟩ (fun i hi h9 => absurd (r6 i (Nat.lt_of_lt_of_le hi (r5 0 (by omega)))) h9))
end XCJ6
end
