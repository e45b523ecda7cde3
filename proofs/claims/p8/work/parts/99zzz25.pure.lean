section
/-! 99zzzzzzzzzzzzzzzzyzf.xchu -/
-- CHAIN: primes; the class's reciprocal
def pdN9 : List Nat → Nat
  | [] => 1
  | a :: l => a * pdN9 l
section XCI9
variable {p a : Nat}
theorem pd_pm {l l' : List Nat} (h : l.Perm l') : pdN9 l = pdN9 l' := by
  induction h with
  | nil => rfl
  | cons x _ ih => exact congrArg (fun t => x * t) ih
  | swap x y l =>
    show y * (x * pdN9 l) = x * (y * pdN9 l)
    exact Nat.mul_left_comm y x _
  | trans _ _ h1 h2 => exact h1.trans h2
theorem eu9 (hp : prT p) {x y : Nat} (h : p ∣ x * y) : p ∣ x ∨ p ∣ y := by
  have hp2 := hp.1
  by_cases c : p ∣ y
  · exact Or.inr c
  · left
    have h1 : 1 ≤ y % p := by
      rcases Nat.eq_zero_or_pos (y % p) with e | e
      · exact absurd (Nat.dvd_of_mod_eq_zero e) c
      · exact e
    have h2 : y % p < p := Nat.mod_lt _ (by omega)
    have hc : Nat.Coprime p (y % p) := pr_cop hp h1 h2
    refine Nat.Coprime.dvd_of_dvd_mul_right hc ?_
    have e : x * y % p = 0 := Nat.mod_eq_zero_of_dvd h
    refine Nat.dvd_of_mod_eq_zero ?_
    rw [Nat.mul_mod, Nat.mod_mod, ← Nat.mul_mod]
    exact e
theorem pd_md (a : Nat) : ∀ l : List Nat, pdN9 (l.map (fun i => i * a % p)) % p = pdN9 l * a ^ l.length % p
  | [] => rfl
  | i :: l => by
    show (i * a % p) * pdN9 (l.map (fun i => i * a % p)) % p = i * pdN9 l * a ^ (l.length + 1) % p
    rw [Nat.mul_mod, pd_md a l, Nat.mod_mod, ← Nat.mul_mod]
    congr 1
    rw [Nat.pow_succ]
    simp only [Nat.mul_assoc, Nat.mul_comm, Nat.mul_left_comm]
/-- Fermat -/
theorem fer9 (hp : prT p) (h1 : 1 ≤ a) (h2 : a < p) : a ^ (p - 1) % p = 1 := by
  have hp2 := hp.1
  have hpa : ¬ p ∣ a := fun h9 => by
    have := Nat.le_of_dvd h1 h9
    omega
  have inj : ∀ i j, i < p → j < p → i * a % p = j * a % p → i = j := by
    have key : ∀ i j, i ≤ j → j < p → i * a % p = j * a % p → i = j := by
      intro i j hij hj e
      have hd : p ∣ (j - i) * a := by
        rw [Nat.sub_mul]
        exact Nat.dvd_of_mod_eq_zero (Nat.sub_mod_eq_zero_of_mod_eq e.symm)
      rcases eu9 hp hd with h9 | h9
      · rcases Nat.eq_zero_or_pos (j - i) with h8 | h8
        · omega
        · have := Nat.le_of_dvd h8 h9
          omega
      · exact absurd h9 hpa
    intro i j hi hj e
    rcases Nat.le_total i j with h9 | h9
    · exact key i j h9 hj e
    · exact (key j i h9 hi e.symm).symm
  have nd : ((List.range' 1 (p - 1)).map (fun i => i * a % p)).Nodup := nodup_map List.nodup_range' (fun i j hi hj e => inj i j (by
    have := List.mem_range'_1.mp hi
    omega) (by
    have := List.mem_range'_1.mp hj
    omega) e)
  have sub : ∀ x, x ∈ (List.range' 1 (p - 1)).map (fun i => i * a % p) → x ∈ List.range' 1 (p - 1) := fun x hx => by
    obtain ⟨i, i1, e⟩ := List.mem_map.mp hx
    have i2 := List.mem_range'_1.mp i1
    have h3 : x < p := by
      rw [← e]
      exact Nat.mod_lt _ (by omega)
    have h4 : x ≠ 0 := fun h9 => by
      rw [h9] at e
      rcases eu9 hp (Nat.dvd_of_mod_eq_zero e) with h8 | h8
      · have := Nat.le_of_dvd (by omega) h8
        omega
      · exact hpa h8
    exact List.mem_range'_1.mpr (by omega)
  have sup : ∀ x, x ∈ List.range' 1 (p - 1) → x ∈ (List.range' 1 (p - 1)).map (fun i => i * a % p) := fun x hx => by
    refine Classical.byContradiction (fun hno => ?_)
    have := nodup_le (x :: (List.range' 1 (p - 1)).map (fun i => i * a % p)) (List.range' 1 (p - 1)) (List.nodup_cons.mpr ⟨hno, nd⟩) (fun y hy => by
      rcases List.mem_cons.mp hy with h9 | h9
      · rw [h9]
        exact hx
      · exact sub y h9)
    rw [List.length_cons, List.length_map] at this
    omega
  have pm : ((List.range' 1 (p - 1)).map (fun i => i * a % p)).Perm (List.range' 1 (p - 1)) := (List.perm_ext_iff_of_nodup nd List.nodup_range').mpr (fun x => ⟨sub x, sup x⟩)
  have e := pd_md (p := p) a (List.range' 1 (p - 1))
  rw [pd_pm pm, List.length_range'] at e
  have np : ∀ l : List Nat, (∀ x, x ∈ l → 1 ≤ x ∧ x < p) → ¬ p ∣ pdN9 l := by
    intro l
    induction l with
    | nil =>
      intro _ h9
      have : p ≤ 1 := Nat.le_of_dvd (by decide) h9
      omega
    | cons x l ih =>
      intro hl h9
      rcases eu9 hp h9 with h8 | h8
      · have := hl x List.mem_cons_self
        have := Nat.le_of_dvd (by omega) h8
        omega
      · exact ih (fun y hy => hl y (List.mem_cons_of_mem _ hy)) h8
  have n1 := np (List.range' 1 (p - 1)) (fun x hx => by
    have := List.mem_range'_1.mp hx
    omega)
  have ge : 1 ≤ a ^ (p - 1) := Nat.pos_of_ne_zero (fun h9 => by
    have := Nat.pow_le_pow_left h1 (p - 1)
    rw [h9, Nat.one_pow] at this
    omega)
  have hd : p ∣ pdN9 (List.range' 1 (p - 1)) * (a ^ (p - 1) - 1) := by
    rw [Nat.mul_sub, Nat.mul_one]
    exact Nat.dvd_of_mod_eq_zero (Nat.sub_mod_eq_zero_of_mod_eq e.symm)
  rcases eu9 hp hd with h9 | h9
  · exact absurd h9 n1
  · obtain ⟨q, hq⟩ := h9
    have : a ^ (p - 1) = p * q + 1 := by omega
    rw [this, Nat.mul_add_mod, Nat.mod_eq_of_lt (by omega)]
theorem prp_of (hp : prT p) : pr9 (p : Int) := by
  refine ⟨by have := hp.1; omega, fun x y h => ?_⟩
  have h9 : (p : Int).natAbs ∣ (x * y).natAbs := Int.natAbs_dvd_natAbs.mpr h
  rw [Int.natAbs_mul] at h9
  rcases eu9 hp h9 with h8 | h8
  · exact Or.inl (Int.natAbs_dvd_natAbs.mp h8)
  · exact Or.inr (Int.natAbs_dvd_natAbs.mp h8)
theorem dv_md {x y : Nat} (h : x % p = y % p) : (p : Int) ∣ (x : Int) - y := by
  have a := Nat.div_add_mod x p
  have b := Nat.div_add_mod y p
  refine ⟨(x / p : Int) - (y / p : Int), ?_⟩
  rw [Int.mul_sub]
  have a' : (x : Int) = p * (x / p : Nat) + (x % p : Nat) := by
    rw [← Int.natCast_mul, ← Int.natCast_add, a]
  have b' : (y : Int) = p * (y / p : Nat) + (y % p : Nat) := by
    rw [← Int.natCast_mul, ← Int.natCast_add, b]
  rw [h] at a'
  rw [Int.natCast_ediv] at a' b'
  omega
theorem iv_of (hp : prT p) : iv9 (p : Int) := fun x hx => by
  have hp2 := hp.1
  have r0 := Int.emod_nonneg x (show (p : Int) ≠ 0 by omega)
  have r1 := Int.emod_lt_of_pos x (show (0 : Int) < p by omega)
  have r2 : x % p ≠ 0 := fun h9 => hx (Int.dvd_of_emod_eq_zero h9)
  obtain ⟨a, ha⟩ := Int.eq_ofNat_of_zero_le r0
  obtain ⟨k, k1, k2, k3⟩ := pr_inv (a := a) hp (by omega) (by omega)
  refine ⟨(k : Int), ?_⟩
  have e1 : (p : Int) ∣ ((k * a : Nat) : Int) - (1 : Nat) := dv_md (by
    rw [k3, Nat.mod_eq_of_lt (by omega)])
  have e2 : (p : Int) ∣ x - a := by
    rw [← ha]
    exact Int.dvd_self_sub_of_emod_eq rfl
  have := Int.dvd_add (dvl9 (k : Int) e2) e1
  rw [Int.natCast_mul] at this
  have e3 : (x - (a : Int)) * k + ((k : Int) * a - ((1 : Nat) : Int)) = x * k - 1 := by
    rw [Int.sub_mul, Int.mul_comm (k : Int) a]
    omega
  rw [e3] at this
  exact this
end XCI9
section XCJ1
variable {vl : Nat → Nat} {y : ow_MS}
theorem and_1 : ∀ l : Fin 1024, (nI l.val &&& 1 = (1 : Int32)) ↔ l.val % 2 = 1 := by decide +kernel
theorem te_reciprocal {p a : Nat} (h10 : y.1 43010 = nI p) (hp : prT p) (hp2 : p ≤ 997) (h1 : 1 ≤ a) (h2 : a < p) : Te (fun K => ce_X1_reciprocal vl K 43000 (nI a) y) (fun r => r.2 = y ∧ ∃ t, r.1 = nI t ∧ t < p ∧ a * t % p = 1) := by
  have hp1 := hp.1
  let Q : Int32 × ow_MS → Prop := fun r => r.2 = y ∧ ∃ t, r.1 = nI t ∧ t < p ∧ a * t % p = 1
  have hnz : nI p ≠ 0 := fun h9 => by
    have := (nI_eq (a := p) (b := 0) (by omega) (by omega)).mp h9
    omega
  have hsh : ∀ l : Fin 1024, nI l.val >>> ((1 : Int32) &&& 31) = nI (l.val / 2) := by decide +kernel
  have rem : ∀ u v, u < p → v < p → nI u * nI v - nI u * nI v / nI p * nI p = nI (u * v % p) := fun u v hu hv => by
    have : u * v < 2 ^ 31 := by
      have := Nat.mul_le_mul (show u ≤ 997 by omega) (show v ≤ 997 by omega)
      omega
    rw [pk_mul, pk_rem this (by omega) (by omega)]
  have c1 : ∀ (d l u v : Nat), l ≤ d → l < 1024 → u < p → v < p → u * v ^ l % p = a ^ (p - 2) % p → Tt (fun K k => c_X1_reciprocal vl K k 1 (nI a) (nI u) (nI v) (nI l) 43000 0 y) Q := by
    have fin : ∀ u v, u < p → u * v ^ 0 % p = a ^ (p - 2) % p → Q (nI u, y) := fun u v hu e => by
      refine ⟨rfl, u, rfl, hu, ?_⟩
      rw [Nat.pow_zero, Nat.mul_one] at e
      rw [Nat.mul_mod, e, ← Nat.mul_mod, ← Nat.pow_succ']
      rw [Nat.succ_eq_add_one, show p - 2 + 1 = p - 1 by omega]
      exact fer9 hp h1 h2
    intro d
    induction d with
    | zero =>
      intro l u v hl _ hu hv e
      refine u_X1_reciprocal_1 ?_; unfold cm_X1_reciprocal_1
      refine w_leT (b := 0) (by omega) hl (w_some (fin u v hu ?_))
      rw [show l = 0 by omega] at e
      exact e
    | succ d ih =>
      intro l u v hl hl1 hu hv e
      refine u_X1_reciprocal_1 ?_; unfold cm_X1_reciprocal_1
      refine w_le (b := 0) (by omega) (by omega) (fun h0 => w_some (fin u v hu (by rw [show l = 0 by omega] at e; exact e))) (fun hlt => ?_)
      have hv2 : v * v % p < p := Nat.mod_lt _ (by omega)
      have c2 : ∀ t0 : Nat, t0 < p → t0 * (v * v % p) ^ (l / 2) % p = a ^ (p - 2) % p → Tt (fun K k => c_X1_reciprocal vl K k 2 (nI a) (nI u) (nI v) (nI l) 43000 (nI t0) y) Q := by
        intro t0 ht e2
        refine u_X1_reciprocal_2 ?_; unfold cm_X1_reciprocal_2
        refine w_rdF h10 (w_nzI hnz ?_)
        rw [hsh ⟨l, hl1⟩, rem v v hv hv]
        exact (ih (l / 2) _ _ (by omega) (by omega) ht hv2 e2)
      have pw : ∀ t, (t * (v * v % p) ^ (l / 2)) % p = (t * v ^ (2 * (l / 2))) % p := fun t => by
        rw [Nat.mul_mod, ← Nat.pow_mod, ← Nat.mul_mod, Nat.pow_mul, Nat.pow_two]
      refine w_if (fun ho => w_rdF h10 (w_nzI hnz ?_)) (fun ho => c2 u hu ?_)
      · have lo : l % 2 = 1 := (and_1 ⟨l, hl1⟩).mp ho
        rw [rem u v hu hv]
        refine c2 _ (Nat.mod_lt _ (by omega)) ?_
        rw [pw, Nat.mul_mod, Nat.mod_mod, ← Nat.mul_mod, ← e]
        congr 1
        rw [Nat.mul_assoc, ← Nat.pow_succ', Nat.succ_eq_add_one, show 2 * (l / 2) + 1 = l by omega]
      · have lo : ¬ l % 2 = 1 := fun h9 => ho ((and_1 ⟨l, hl1⟩).mpr h9)
        rw [pw, ← e, show 2 * (l / 2) = l by omega]
  refine e_X1_reciprocal ?_
  refine u_X1_reciprocal_0 ?_; unfold cm_X1_reciprocal_0
  refine w_rdF h10 ?_
  rw [show nI p - 2 = nI (p - 2) from pk_sub (b := 2) hp1]
  refine c1 _ _ 1 a (Nat.le_refl _) (by omega) (by omega) h2 ?_
  rw [Nat.one_mul]
end XCJ1
end
section
/-! 99zzzzzzzzzzzzzzzzyzg.xchv -/
-- CHAIN: the class's work row holds D of the generator (made by tools/mkchv.py out of cimg, cimg2)
def wk9 (z : ow_MS) (p w : Nat) (v : vc9) : Prop := ∀ j, j < w → ∃ a, z.2.1 43011 j = nI a ∧ a < p ∧ (p : Int) ∣ (a : Int) - v j
def crB (m a b l : Nat) (φ : Nat → Nat) (k : Nat) : Prop := k < 2 ^ l ∧ ∀ j, btN k j = if j < l ∧ j ≠ a ∧ j ≠ b then btN m (φ j) else 0
theorem crB_s {m a b l k : Nat} {φ : Nat → Nat} (h : crB m a b l φ k) : (l ≠ a → l ≠ b → crB m a b (l + 1) φ (k + btN m (φ l) * 2 ^ l)) ∧ ((l = a ∨ l = b) → crB m a b (l + 1) φ k) := by
  obtain ⟨h1, h2⟩ := h
  have pw : (2 : Nat) ^ (l + 1) = 2 ^ l + 2 ^ l := by
    rw [Nat.pow_succ]
    omega
  have old : ∀ j, j ≠ l → (if j < l ∧ j ≠ a ∧ j ≠ b then btN m (φ j) else 0) = (if j < l + 1 ∧ j ≠ a ∧ j ≠ b then btN m (φ j) else 0) := fun j hj => by
    by_cases c : j < l ∧ j ≠ a ∧ j ≠ b
    · rw [if_pos c, if_pos ⟨by omega, c.2⟩]
    · rw [if_neg c, if_neg (fun h9 => c ⟨by omega, h9.2⟩)]
  constructor
  · intro ha hb
    rcases bt_01 m (φ l) with e | e
    · rw [e, Nat.zero_mul]
      show crB m a b (l + 1) φ k
      refine ⟨by omega, fun j => ?_⟩
      by_cases c : j = l
      · rw [c, if_pos ⟨by omega, ha, hb⟩, e]
        exact bt_lt h1 (Nat.le_refl l)
      · rw [h2 j, old j c]
    · rw [e, Nat.one_mul]
      refine ⟨by omega, fun j => ?_⟩
      rw [bt_add h1]
      by_cases c : j = l
      · rw [if_pos c, c, if_pos ⟨by omega, ha, hb⟩, e]
      · rw [if_neg c, h2 j, old j c]
  · intro hab
    refine ⟨by omega, fun j => ?_⟩
    by_cases c : j = l
    · rw [c, if_neg (fun h9 => hab.elim h9.2.1 h9.2.2)]
      exact bt_lt h1 (Nat.le_refl l)
    · rw [h2 j, old j c]
theorem nb_k : ∀ s : Fin 256, ∀ x : Fin 8, (((ow_bc (nI s.val &&& (((1 : Int32) <<< (nI x.val &&& 31)) - 1))) &&& 1 = 0) ↔ par9 (tb s.val) x.val = 1) ∧ (par9 (tb s.val) x.val = 1 ∨ par9 (tb s.val) x.val = -1) := by decide +kernel
section XCJ2
variable {vl : Nat → Nat} {y : ow_MS} {S : ow_NP} {G : Nat → Int32} {c ci : Nat} {Ls : Nat → Nat → Nat} {ns : Nat → Nat}
theorem wk_cg {z : ow_MS} {p w : Nat} {v v' : vc9} (h : wk9 z p w v) (e : zq9 p w v v') : wk9 z p w v' := fun j hj => by
  obtain ⟨a, a1, a2, a3⟩ := h j hj
  refine ⟨a, a1, a2, ?_⟩
  have := Int.dvd_add a3 (e j hj)
  rw [show (a : Int) - v j + (v j - v' j) = a - v' j by omega] at this
  exact this
theorem te_carry {s t m a b : Nat} (hc : c ≤ 8) (hL : LpY y S G c Ls ns) (hs : s < 2 ^ c) (ht : t < 2 ^ c) (hm : m < 1024) (ha : a < 10) (hb : b < 10) : Te (fun K => ce_X1_carry vl K 43000 (nI s) (nI m) (nI t) (nI a) (nI b) y) (fun r => r.2 = y ∧ ∃ (k : Nat) (ga : Nat → Nat), (∀ l, l < ns t → ga l < 2 * c ∧ Ls t (ga l) = l) ∧ r.1 = nI k ∧ crB m a b (ns t) (fun l => Ls s (ga l)) k) := by
  obtain ⟨⟨h1, h2, h3, h4, h5⟩, h6⟩ := hL s hs
  obtain ⟨⟨t1, t2, t3, t4, t5⟩, t6⟩ := hL t ht
  have h256 : 2 ^ c ≤ 256 := two_mono (b := 8) hc
  obtain ⟨ga, hga⟩ : ∃ ga : Nat → Nat, ∀ l, l < ns t → ga l < 2 * c ∧ y.2.1 43004 (10 * t + l) = nI (ga l) ∧ Ls t (ga l) = l := by
    refine ⟨fun l => if h : l < ns t then Classical.choose (t3 l h) else 0, fun l hl => ?_⟩
    dsimp only
    rw [dif_pos hl]
    exact Classical.choose_spec (t3 l hl)
  let Q : Int32 × ow_MS → Prop := fun r => r.2 = y ∧ ∃ (k : Nat) (ga : Nat → Nat), (∀ l, l < ns t → ga l < 2 * c ∧ Ls t (ga l) = l) ∧ r.1 = nI k ∧ crB m a b (ns t) (fun l => Ls s (ga l)) k
  have c1 : ∀ (d l k : Nat), l + d = ns t → crB m a b l (fun l => Ls s (ga l)) k → Tt (fun K i => c_X1_carry vl K i 1 (nI s) (nI m) (nI t) (nI a) (nI b) (nI k) (nI l) 43000 y) Q := by
    intro d
    induction d with
    | zero =>
      intro l k hl hk
      have hl : l = ns t := by omega
      subst hl
      refine u_X1_carry_1 ?_; unfold cm_X1_carry_1
      exact w_crI ch_43003 rfl (by omega) t2 (w_leT (by omega) (by omega) (w_some ⟨rfl, k, ga, fun l hl => ⟨(hga l hl).1, (hga l hl).2.2⟩, rfl, hk⟩))
    | succ d ih =>
      intro l k hl hk
      obtain ⟨g1, g2, g3⟩ := hga l (by omega)
      obtain ⟨o1, o2⟩ := h1 _ g1
      have c2 : ∀ k', crB m a b (l + 1) (fun l => Ls s (ga l)) k' → Tt (fun K i => c_X1_carry vl K i 2 (nI s) (nI m) (nI t) (nI a) (nI b) (nI k') (nI l) 43000 y) Q := by
        intro k' hk'
        refine u_X1_carry_2 ?_; unfold cm_X1_carry_2
        rw [nI_1]
        exact ih (l + 1) k' (by omega) hk'
      obtain ⟨f1, f2⟩ := crB_s hk
      refine u_X1_carry_1 ?_; unfold cm_X1_carry_1
      refine w_crI ch_43003 rfl (by omega) t2 (w_leF (by omega) (by omega) (w_eqN (by omega) (by omega) (fun e => c2 k (f2 (Or.inl e))) (fun e1 => w_eqN (by omega) (by omega) (fun e => c2 k (f2 (Or.inr e))) (fun e2 => ?_))))
      rw [i10]
      refine w_crI ch_43004 rfl (by omega) g2 ?_
      rw [i16]
      refine w_crI ch_43002 rfl (by omega) o1 ?_
      rw [crS hm (by omega), crO hk.1 (by omega) (by unfold btN; omega)]
      exact c2 _ (f1 e1 e2)
  refine e_X1_carry ?_
  refine u_X1_carry_0 ?_; unfold cm_X1_carry_0
  refine c1 (ns t) 0 0 (by omega) ⟨by decide, fun j => ?_⟩
  rw [if_neg (fun h9 => Nat.not_lt_zero _ h9.1)]
  unfold btN
  rw [Nat.zero_div]
theorem te_addTo {t m bg W w p nb : Nat} {v : vc9} (ht : t < 256) (hm : m < 1024) (hp : tbP y) (hbg : y.2.1 43008 t = nI bg) (hW : vl 43011 = W) (hW2 : W < 2 ^ 31) (hwW : w ≤ W) (hix : bg + cpN (pc m) m < w) (h10 : y.1 43010 = nI p) (hp1 : 2 ≤ p) (hp2 : p ≤ 997) (hnb : nb < p) (hk : wk9 y p w v) : Te (fun K => ce_X1_addTo vl K 43000 (nI t) (nI m) (nI nb) y) (fun y1 => fr (fun g => g = 43011) y y1 ∧ wk9 y1 p w (fun j => v j + if j = bg + cpN (pc m) m then (nb : Int) else 0)) := by
  have hnz : nI p ≠ 0 := fun h9 => by
    have := (nI_eq (a := p) (b := 0) (by omega) (by omega)).mp h9
    omega
  obtain ⟨a, a1, a2, a3⟩ := hk _ hix
  refine e_X1_addTo ?_; unfold cm_X1_addTo_0
  refine w_crI ch_43008 rfl ht hbg (w_crI ch_43005 rfl hm (hp m hm) ?_)
  rw [nI_add]
  refine w_crI (ch_43011.trans hW) rfl (by omega) a1 (w_rdF h10 (w_nzI hnz ?_))
  rw [nI_add, pk_rem (show a + nb < 2 ^ 31 by omega) (by omega) (by omega)]
  refine w_ctI (ch_43011.trans hW) rfl (by omega) (w_some ⟨fr_I rfl, fun j hj => ?_⟩)
  by_cases e : j = bg + cpN (pc m) m
  · refine ⟨(a + nb) % p, ?_, Nat.mod_lt _ (by omega), ?_⟩
    · rw [e]
      exact po_usI_at
    · dsimp only
      rw [if_pos e]
      have h1 : (p : Int) ∣ (((a + nb) % p : Nat) : Int) - ((a + nb : Nat) : Int) := dv_md (Nat.mod_mod _ _)
      rw [e]
      have := Int.dvd_add h1 a3
      rw [show (((a + nb) % p : Nat) : Int) - ((a + nb : Nat) : Int) + ((a : Int) - v (bg + cpN (pc m) m)) = (((a + nb) % p : Nat) : Int) - (v (bg + cpN (pc m) m) + (nb : Int)) by omega] at this
      exact this
  · obtain ⟨a', b1, b2, b3⟩ := hk j hj
    refine ⟨a', ?_, b2, ?_⟩
    · exact (po_usI_ne e).trans b1
    · dsimp only
      rw [if_neg e, Int.add_zero]
      exact b3
end XCJ2
section XCJ3
variable {vl : Nat → Nat} {y : ow_MS} {S : ow_NP} {G : Nat → Int32} {c ci : Nat} {Ls : Nat → Nat → Nat} {ns : Nat → Nat}
theorem te_writeImage {s m W p : Nat} {dg : Int} {w : Nat → Bool} (hy : cAt y 44000 (c, ci, S, G)) (hv : vn c S) (hc : c ≤ 8) (hw : gaO c S w) (hL : LpY y S G c Ls ns) (hly : LyY y c ns dg) (htb : tbP y) (hs : s < 2 ^ c) (hm : m < 2 ^ ns s) (hk : kpF (ns s) (pc s) dg = some (pc m)) (hW : vl 43011 = W) (hW2 : W < 2 ^ 31) (hsz : smH (bkF ns dg) (pc s + 1) 0 (2 ^ c) ≤ W) (h10 : y.1 43010 = nI p) (hp1 : 2 ≤ p) (hp2 : p ≤ 997) {rel : (Nat → Bool) → Nat → Nat → Prop} (hC : cu9 c 2000 (fun g => g < 2 * c) (fun x => 2 * x) (fun x => S.2 (2 * x)) (fun x => S.2 (2 * x)) rel) (hLT : LT9 c (fun g => g < 2 * c) rel Ls ns) (hw0 : wk9 y p (sz9 c ns dg (pc s + 1)) (fun _ => 0)) : Te (fun K => ce_X1_writeImage vl K 43000 (nI s) (nI m) y) (fun y1 => fr (fun g => g = 43011) y y1 ∧ wk9 y1 p (sz9 c ns dg (pc s + 1)) (row9 (fun g => g < 2 * c) Ls ns (fun x => 2 * x) (fun x => S.2 (2 * x)) dg s m c)) := by
  let Qx : Nat → ow_MS → Prop := fun n y1 => fr (fun g => g = 43011) y y1 ∧ wk9 y1 p (sz9 c ns dg (pc s + 1)) (row9 (fun g => g < 2 * c) Ls ns (fun x => 2 * x) (fun x => S.2 (2 * x)) dg s m n)
  let Q : ow_MS → Prop := Qx c
  have h256 : 2 ^ c ≤ 256 := two_mono (b := 8) hc
  have hns := (hL s hs).2
  have hm10 : m < 1024 := Nat.lt_of_lt_of_le hm (two_mono (b := 10) (by omega))
  have c1 : ∀ (d x : Nat) (z : ow_MS), x + d = c → Qx x z → Tt (fun K k => c_X1_writeImage vl K k 1 (nI s) (nI m) (nI x) 0 0 0 0 0 0 0 0 0 43000 0 0 z) Q := by
    intro d
    induction d with
    | zero =>
      intro x z hx hz
      have hz4 : cAt z 44000 (c, ci, S, G) := cAt_fr hz.1 (fun g hg h9 => by unfold cP at hg; omega) hy
      refine u_X1_writeImage_1 ?_; unfold cm_X1_writeImage_1
      exact w_rdF hz4.1 (w_leT (by show x < 2 ^ 31; omega) (show c ≤ x by omega) (w_some (by rw [show x = c by omega] at hz; exact hz)))
    | succ d ih =>
      intro x z hx hz
      have hz4 : cAt z 44000 (c, ci, S, G) := cAt_fr hz.1 (fun g hg h9 => by unfold cP at hg; omega) hy
      have hLz : LpY z S G c Ls ns := LpY_fr hz.1 (by decide) hL
      have c8 : ∀ z1, Qx (x + 1) z1 → Tt (fun K k => c_X1_writeImage vl K k 8 (nI s) (nI m) (nI x) 0 0 0 0 0 0 0 0 0 43000 0 0 z1) Q := by
        intro z1 hz1
        refine u_X1_writeImage_8 ?_; unfold cm_X1_writeImage_8
        rw [nI_1]
        exact ih (x + 1) z1 (by omega) hz1
      have hxc : x < c := by omega
      by_cases hb : btN s x = 0
      · have ht : s + 2 ^ x < 2 ^ c := st_lt hs hxc hb
        generalize hte : s + 2 ^ x = t at ht
        have hpt : pc t = pc s + 1 := by rw [← hte]; exact pc_add (by omega) hb
        have l1 := (hv (2 * x) (by omega)).2.1
        obtain ⟨⟨s1, s2, s3, s4, s5⟩, s6⟩ := hLz s hs
        obtain ⟨⟨t1, t2, t3, t4, t5⟩, t6⟩ := hLz t ht
        have hbs : tb s x = false := by
          unfold tb
          unfold btN at hb
          rw [hb]
          rfl
        have eT : uPx S G (tb t) c = uPx S G (seB (tb s) x true) c := by
          rw [← hte]
          exact (uPx_c c (fun k _ => tb_flip hb k)).1
        have kind := st_kind (G := G) hv hw hxc hbs
        rw [← eT] at kind
        have ab : Ls s (2 * x) ≠ Ls s (S.2 (2 * x)) ∧ ns t + 1 = ns s ∨ Ls s (2 * x) = Ls s (S.2 (2 * x)) ∧ ns t = ns s + 1 := by
          rcases kind with k | k
          · refine Or.inl ⟨fun h9 => k.1 ((s4 _ _ (by omega) l1).mp h9), ?_⟩
            have := k.2.2
            omega
          · refine Or.inr ⟨(s4 _ _ (by omega) l1).mpr ((k.2.1 _ _ (by omega) l1).mpr (Or.inr ⟨Or.inl rfl, Or.inr rfl⟩)), ?_⟩
            have := k.2.2
            omega
        have la := (s1 (2 * x) (by omega)).2
        have lb' := (s1 _ l1).2
        have lc := (t1 (2 * x) (by omega)).2
        have le := (t1 _ l1).2
        -- adding at a set of the right size
        have hxn : ∀ j, row9 (fun g => g < 2 * c) Ls ns (fun x => 2 * x) (fun x => S.2 (2 * x)) dg s m (x + 1) j = row9 (fun g => g < 2 * c) Ls ns (fun x => 2 * x) (fun x => S.2 (2 * x)) dg s m x j + rwX (fun g => g < 2 * c) Ls ns (fun x => 2 * x) (fun x => S.2 (2 * x)) dg s m x j := fun _ => rfl
        have hrw : ∀ j, rwX (fun g => g < 2 * c) Ls ns (fun x => 2 * x) (fun x => S.2 (2 * x)) dg s m x j = par9 (tb s) x * cnI (ix9 ns dg t) j (di9 (fun g => g < 2 * c) Ls ns (fun x => 2 * x) (fun x => S.2 (2 * x)) s m x) := fun j => by
          unfold rwX
          rw [if_neg (by omega), hte]
        have ad : ∀ (z1 : ow_MS) (m' nb : Nat) (v : vc9), fr (fun g => g = 43011) y z1 → wk9 z1 p (sz9 c ns dg (pc s + 1)) v → m' < 2 ^ ns t → kpF (ns t) (pc t) dg = some (pc m') → nb < p → Te (fun K => ce_X1_addTo vl K 43000 (nI t) (nI m') (nI nb) z1) (fun z2 => fr (fun g => g = 43011) y z2 ∧ wk9 z2 p (sz9 c ns dg (pc s + 1)) (fun j => v j + if j = ix9 ns dg t m' then (nb : Int) else 0)) := by
          intro z1 m' nb v hz1 hk1 hm' hk' hnb
          have hm10' : m' < 1024 := Nat.lt_of_lt_of_le hm' (two_mono (b := 10) (by omega))
          have hix := ix_lt ht t6 hm' hk'
          rw [hpt] at hix
          have hsz2 : sz9 c ns dg (pc s + 1) ≤ W := hsz
          refine w_monoE (te_addTo (bg := smH (bkF ns dg) (pc t) 0 t) (W := W) (w := sz9 c ns dg (pc s + 1)) (p := p) (by omega) hm10' (tbP_fr hz1 (by decide) htb) ?_ hW hW2 hsz2 (by rw [hpt]; exact hix) ?_ hp1 hp2 hnb hk1) (fun r hr => ⟨fr_tr hz1 hr.1, hr.2⟩)
          · rw [(hz1 43008 (by decide)).2.1]
            exact (hly.1 t ht).2
          · rw [(hz1 43010 (by decide)).1]
            exact h10
        have main : ∀ (kp : Nat) (ga : Nat → Nat) (nb : Nat), nb < p → (p : Int) ∣ (nb : Int) - par9 (tb s) x → (∀ l, l < ns t → ga l < 2 * c ∧ Ls t (ga l) = l) → crB m (Ls t (2 * x)) (Ls t (S.2 (2 * x))) (ns t) (fun l => Ls s (ga l)) kp → Tt (fun K k => c_X1_writeImage vl K k 2 (nI s) (nI m) (nI x) (nI t) (nI (Ls s (2 * x))) (nI (Ls s (S.2 (2 * x)))) (nI (Ls t (2 * x))) (nI (Ls t (S.2 (2 * x)))) (nI kp) 0 0 0 43000 (nI nb) 0 z) Q := by
          intro kp ga nb hnb hpar hga hkp
          -- the number of the loops that stay
          have eK : kp = K9 (fun g => g < 2 * c) Ls ns (fun x => 2 * x) (fun x => S.2 (2 * x)) s m x := by
            have sp := (K_sp (G := fun g => g < 2 * c) (Ls := Ls) (ns := ns) (P1 := fun x => 2 * x) (P2 := fun x => S.2 (2 * x)) (s := s) (m := m) (x := x)).1
            rw [hte] at sp
            refine tb_in (ns t) hkp.1 sp (fun l hl => ?_)
            obtain ⟨g1, g2⟩ := hga l hl
            have kb := K_bt (m := m) hC hLT hs hxc hb (g := ga l) g1
            rw [hte, g2] at kb
            have h2 := hkp.2 l
            rw [tb_b, tb_b]
            by_cases q : l = Ls t (2 * x) ∨ l = Ls t (S.2 (2 * x))
            · rw [kb.1 q, h2, if_neg (fun h9 => q.elim h9.2.1 h9.2.2)]
            · rw [kb.2 q, h2, if_pos ⟨hl, fun h9 => q (Or.inl h9), fun h9 => q (Or.inr h9)⟩]
          have k1 := hkp.1
          have k3 : btN kp (Ls t (2 * x)) = 0 := (hkp.2 _).trans (if_neg (fun h9 => h9.2.1 rfl))
          have k4 : btN kp (Ls t (S.2 (2 * x))) = 0 := (hkp.2 _).trans (if_neg (fun h9 => h9.2.2 rfl))
          have vd : ∀ m', m' ∈ di9 (fun g => g < 2 * c) Ls ns (fun x => 2 * x) (fun x => S.2 (2 * x)) s m x → m' < 2 ^ ns t ∧ kpF (ns t) (pc t) dg = some (pc m') := fun m' hm' => by
            have := va_di hC hLT (by omega) (show va9 c ns dg (pc s) s m from ⟨hs, rfl, hm, hk⟩) hxc hb hm'
            rw [hte] at this
            exact ⟨this.2.2.1, this.2.2.2⟩
          have di : di9 (fun g => g < 2 * c) Ls ns (fun x => 2 * x) (fun x => S.2 (2 * x)) s m x = if Ls s (2 * x) = Ls s (S.2 (2 * x)) then (if btN m (Ls s (2 * x)) = 0 then [kp] else [kp + 2 ^ Ls t (S.2 (2 * x)), kp + 2 ^ Ls t (2 * x)]) else (if btN m (Ls s (2 * x)) = 0 ∧ btN m (Ls s (S.2 (2 * x))) = 0 then [] else if btN m (Ls s (2 * x)) = 0 ∨ btN m (Ls s (S.2 (2 * x))) = 0 then [kp] else [kp + 2 ^ Ls t (2 * x)]) := by
            unfold di9
            rw [← eK, hte]
          have one : ∀ (z2 : ow_MS) (m1 : Nat), di9 (fun g => g < 2 * c) Ls ns (fun x => 2 * x) (fun x => S.2 (2 * x)) s m x = [m1] → fr (fun g => g = 43011) y z2 → wk9 z2 p (sz9 c ns dg (pc s + 1)) (fun j => row9 (fun g => g < 2 * c) Ls ns (fun x => 2 * x) (fun x => S.2 (2 * x)) dg s m x j + if j = ix9 ns dg t m1 then (nb : Int) else 0) → Qx (x + 1) z2 := fun z2 m1 e h1 h2 => ⟨h1, wk_cg h2 (fun j _ => by
            rw [hxn j, hrw j, e]
            show (p : Int) ∣ _ - (_ + par9 (tb s) x * ((if ix9 ns dg t m1 = j then 1 else 0) + 0))
            by_cases q : j = ix9 ns dg t m1
            · rw [if_pos q, if_pos q.symm]
              have e9 : ∀ a b : Int, a + (nb : Int) - (a + b * (1 + 0)) = nb - b := fun a b => by omega
              rw [e9]
              exact hpar
            · rw [if_neg q, if_neg (fun h9 => q h9.symm)]
              have e9 : ∀ a b : Int, a + 0 - (a + b * (0 + 0)) = 0 := fun a b => by omega
              rw [e9]
              exact Int.dvd_zero _)⟩
          have two : ∀ (z2 : ow_MS) (m1 m2 : Nat), di9 (fun g => g < 2 * c) Ls ns (fun x => 2 * x) (fun x => S.2 (2 * x)) s m x = [m2, m1] → fr (fun g => g = 43011) y z2 → wk9 z2 p (sz9 c ns dg (pc s + 1)) (fun j => (row9 (fun g => g < 2 * c) Ls ns (fun x => 2 * x) (fun x => S.2 (2 * x)) dg s m x j + if j = ix9 ns dg t m1 then (nb : Int) else 0) + if j = ix9 ns dg t m2 then (nb : Int) else 0) → Qx (x + 1) z2 := fun z2 m1 m2 e h1 h2 => ⟨h1, wk_cg h2 (fun j _ => by
            rw [hxn j, hrw j, e]
            show (p : Int) ∣ _ - (_ + par9 (tb s) x * ((if ix9 ns dg t m2 = j then 1 else 0) + ((if ix9 ns dg t m1 = j then 1 else 0) + 0)))
            have sy : ∀ a : Nat, (if a = j then (1 : Int) else 0) = if j = a then 1 else 0 := fun a => by
              by_cases q : j = a
              · rw [if_pos q, if_pos q.symm]
              · rw [if_neg q, if_neg (fun h9 => q h9.symm)]
            rw [sy, sy]
            generalize row9 (fun g => g < 2 * c) Ls ns (fun x => 2 * x) (fun x => S.2 (2 * x)) dg s m x j = R9
            generalize par9 (tb s) x = P9 at hpar ⊢
            by_cases q1 : j = ix9 ns dg t m1
            · rw [if_pos q1, if_pos q1]
              by_cases q2 : j = ix9 ns dg t m2
              · rw [if_pos q2, if_pos q2, show R9 + (nb : Int) + nb - (R9 + P9 * (1 + (1 + 0))) = 2 * ((nb : Int) - P9) by omega]
                exact dvr9 2 hpar
              · rw [if_neg q2, if_neg q2, show R9 + (nb : Int) + 0 - (R9 + P9 * (0 + (1 + 0))) = (nb : Int) - P9 by omega]
                exact hpar
            · rw [if_neg q1, if_neg q1]
              by_cases q2 : j = ix9 ns dg t m2
              · rw [if_pos q2, if_pos q2, show R9 + 0 + (nb : Int) - (R9 + P9 * (1 + (0 + 0))) = (nb : Int) - P9 by omega]
                exact hpar
              · rw [if_neg q2, if_neg q2, show R9 + 0 + (0 : Int) - (R9 + P9 * (0 + (0 + 0))) = 0 by omega]
                exact Int.dvd_zero _)⟩
          have non : di9 (fun g => g < 2 * c) Ls ns (fun x => 2 * x) (fun x => S.2 (2 * x)) s m x = [] → Qx (x + 1) z := fun e => ⟨hz.1, wk_cg hz.2 (fun j _ => by
            rw [hxn j, hrw j, e]
            show (p : Int) ∣ _ - (_ + par9 (tb s) x * 0)
            rw [Int.mul_zero, Int.add_zero, Int.sub_self]
            exact Int.dvd_zero _)⟩
          have ba : btN m (Ls s (2 * x)) = 0 ∨ btN m (Ls s (2 * x)) = 1 := by unfold btN; omega
          have bb : btN m (Ls s (S.2 (2 * x))) = 0 ∨ btN m (Ls s (S.2 (2 * x))) = 1 := by unfold btN; omega
          have or1 : ∀ l, l < ns t → btN kp l = 0 → nI kp ||| ((1 : Int32) <<< (nI l &&& 31)) = nI (kp + 2 ^ l) := by
            intro l hl hbl
            have h9 : 2 ^ l ≤ 2 ^ 9 := two_mono (by omega)
            have h9' : kp < 2 ^ 9 := Nat.lt_of_lt_of_le k1 (two_mono t6)
            rw [shl1 (by omega), ow_or (by omega) (by omega), or_add hbl]
          have c7 : ∀ (m' : Nat) (x5 x6 x7 x8 x9 x11 x12 : Int32), di9 (fun g => g < 2 * c) Ls ns (fun x => 2 * x) (fun x => S.2 (2 * x)) s m x = [m'] → Tt (fun K k => c_X1_writeImage vl K k 7 (nI s) (nI m) (nI x) (nI t) x5 x6 x7 x8 x9 (nI nb) x11 x12 43000 (nI m') (nI t) z) Q := by
            intro m' x5 x6 x7 x8 x9 x11 x12 e
            have v := vd m' (by rw [e]; exact List.mem_cons_self)
            refine u_X1_writeImage_7 ?_; unfold cm_X1_writeImage_7
            exact w_cs0 (ad z m' nb _ hz.1 hz.2 v.1 v.2 hnb) (fun z1 h1 => c8 z1 (one z1 m' e h1.1 h1.2))
          -- both bits known
          have c4 : ∀ (fa fb : Nat), fa = btN m (Ls s (2 * x)) → fb = btN m (Ls s (S.2 (2 * x))) → Tt (fun K k => c_X1_writeImage vl K k 4 (nI s) (nI m) (nI x) (nI t) (nI (Ls s (2 * x))) (nI (Ls s (S.2 (2 * x)))) (nI (Ls t (2 * x))) (nI (Ls t (S.2 (2 * x)))) (nI kp) (nI nb) (nI fa) 0 43000 (nI fb) 0 z) Q := by
            intro fa fb hfa hfb
            have fa01 : fa = 0 ∨ fa = 1 := by omega
            have fb01 : fb = 0 ∨ fb = 1 := by omega
            rw [← hfa, ← hfb] at di
            rcases ab with ⟨hne, hn1⟩ | ⟨heq, hn1⟩
            · -- two loops become one
              rw [if_neg hne] at di
              have c5 : 1 ≤ fa + fb → Tt (fun K k => c_X1_writeImage vl K k 5 (nI s) (nI m) (nI x) (nI t) (nI (Ls s (2 * x))) (nI (Ls s (S.2 (2 * x)))) (nI (Ls t (2 * x))) (nI (Ls t (S.2 (2 * x)))) (nI kp) (nI nb) (nI fa) (nI fb) 43000 0 0 z) Q := by
                intro hab
                rw [if_neg (by omega)] at di
                have c6 : fa + fb = 1 → Tt (fun K k => c_X1_writeImage vl K k 6 (nI s) (nI m) (nI x) (nI t) (nI (Ls s (2 * x))) (nI (Ls s (S.2 (2 * x)))) (nI (Ls t (2 * x))) (nI (Ls t (S.2 (2 * x)))) (nI kp) (nI nb) (nI fa) (nI fb) 43000 (nI t) 0 z) Q := by
                  intro h1
                  rw [if_pos (by omega)] at di
                  refine u_X1_writeImage_6 ?_; unfold cm_X1_writeImage_6
                  exact c7 kp _ _ _ _ _ _ _ di
                refine u_X1_writeImage_5 ?_; unfold cm_X1_writeImage_5
                rcases fa01 with h9 | h9
                · exact w_ifT (by rw [h9]; rfl) (c6 (by omega))
                · refine w_ifF (by rw [h9]; decide) ?_
                  rcases fb01 with h8 | h8
                  · exact w_ifT (by rw [h8]; rfl) (c6 (by omega))
                  · refine w_ifF (by rw [h8]; decide) ?_
                    rw [or1 _ lc k3]
                    rw [if_neg (by omega)] at di
                    exact c7 _ _ _ _ _ _ _ _ di
              refine u_X1_writeImage_4 ?_; unfold cm_X1_writeImage_4
              refine w_ifF (fun h9 => hne (nI_inj9 (by omega) (by omega) h9)) ?_
              rcases fa01 with h9 | h9
              · refine w_ifT (by rw [h9]; rfl) ?_
                rcases fb01 with h8 | h8
                · refine w_ifT (by rw [h8]; rfl) (c8 z (non ?_))
                  rw [if_pos ⟨h9, h8⟩] at di
                  exact di
                · exact w_ifF (by rw [h8]; decide) (c5 (by omega))
              · exact w_ifF (by rw [h9]; decide) (c5 (by omega))
            · -- one loop becomes two
              rw [if_pos heq] at di
              refine u_X1_writeImage_4 ?_; unfold cm_X1_writeImage_4
              refine w_ifT (by rw [heq]) ?_
              rcases fa01 with h9 | h9
              · rw [if_pos h9] at di
                have v := vd kp (by rw [di]; exact List.mem_cons_self)
                exact w_ifT (by rw [h9]; rfl) (w_cs0 (ad z kp nb _ hz.1 hz.2 v.1 v.2 hnb) (fun z1 h1 => c8 z1 (one z1 kp di h1.1 h1.2)))
              · rw [if_neg (by omega)] at di
                refine w_ifF (by rw [h9]; decide) ?_
                rw [or1 _ lc k3, or1 _ le k4]
                have v1 := vd (kp + 2 ^ Ls t (S.2 (2 * x))) (by rw [di]; exact List.mem_cons_self)
                have v2 := vd (kp + 2 ^ Ls t (2 * x)) (by rw [di]; exact List.mem_cons_of_mem _ List.mem_cons_self)
                exact w_cs0 (ad z _ nb _ hz.1 hz.2 v2.1 v2.2 hnb) (fun z1 h1 => w_cs0 (ad z1 _ nb _ h1.1 h1.2 v1.1 v1.2 hnb) (fun z2 h2 => c8 z2 (two z2 _ _ di h2.1 h2.2)))
          have c3 : ∀ fa : Nat, fa = btN m (Ls s (2 * x)) → Tt (fun K k => c_X1_writeImage vl K k 3 (nI s) (nI m) (nI x) (nI t) (nI (Ls s (2 * x))) (nI (Ls s (S.2 (2 * x)))) (nI (Ls t (2 * x))) (nI (Ls t (S.2 (2 * x)))) (nI kp) (nI nb) 0 0 43000 (nI fa) 0 z) Q := by
            intro fa hfa
            refine u_X1_writeImage_3 ?_; unfold cm_X1_writeImage_3
            rw [crS hm10 (by omega)]
            rcases bb with h9 | h9
            · exact w_ifT (by rw [h9]; rfl) (c4 fa 0 hfa h9.symm)
            · exact w_ifF (by rw [h9]; decide) (c4 fa 1 hfa h9.symm)
          refine u_X1_writeImage_2 ?_; unfold cm_X1_writeImage_2
          rw [crS hm10 (by omega)]
          rcases ba with h9 | h9
          · exact w_ifT (by rw [h9]; rfl) (c3 0 h9.symm)
          · exact w_ifF (by rw [h9]; decide) (c3 1 h9.symm)
        have eor : nI s ||| ((1 : Int32) <<< (nI x &&& 31)) = nI t := by
          rw [← hte]
          exact st_or (by omega) (by omega) hb
        refine u_X1_writeImage_1 ?_; unfold cm_X1_writeImage_1
        rw [bit_nI (by omega) (by omega), hb, eor, rn_mul2, i16, i16]
        refine w_rdF hz4.1 (w_leF (show c < 2 ^ 31 by omega) (show x < c by omega) (w_ifT rfl (w_crI ch_43002 rfl (by omega) (s1 (2 * x) (by omega)).1 (w_cs1 (tc_otherLoop hz4 hv hc hLz hs hxc) ?_))))
        rintro v1 z1 e1
        cases e1
        refine w_crI ch_43002 rfl (by omega) (t1 (2 * x) (by omega)).1 (w_cs1 (tc_otherLoop hz4 hv hc hLz ht hxc) ?_)
        rintro v2 z2 e2
        cases e2
        refine w_cs1 (te_carry hc hLz hs ht hm10 (show Ls t (2 * x) < 10 by omega) (show Ls t (S.2 (2 * x)) < 10 by omega)) ?_
        rintro v3 z3 ⟨e3, kp, ga, q1, q2, q3⟩
        dsimp only at e3 q2
        rw [e3, q2]
        have nk := nb_k ⟨s, by omega⟩ ⟨x, by omega⟩
        have ez : z.1 43010 = nI p := by
          rw [(hz.1 43010 (by decide)).1]
          exact h10
        refine w_if (fun h9 => ?_) (fun h9 => w_rdF ez ?_)
        · have e1 : par9 (tb s) x = 1 := nk.1.mp h9
          exact main kp ga 1 (by omega) (by rw [e1]; exact Int.dvd_zero _) q1 q3
        · have e1 : par9 (tb s) x = -1 := nk.2.elim (fun h8 => absurd (nk.1.mpr h8) h9) id
          rw [show nI p - 1 = nI (p - 1) from pk_sub (b := 1) (by omega)]
          refine main kp ga (p - 1) (by omega) ?_ q1 q3
          rw [e1]
          exact ⟨1, by omega⟩
      · have hb1 : btN s x = 1 := by unfold btN at hb ⊢; omega
        refine u_X1_writeImage_1 ?_; unfold cm_X1_writeImage_1
        rw [bit_nI (by omega) (by omega), hb1]
        refine w_rdF hz4.1 (w_leF (show c < 2 ^ 31 by omega) (show x < c by omega) (w_ifF (by decide) (c8 z ⟨hz.1, wk_cg hz.2 (fun j _ => ?_)⟩)))
        have e0 : rwX (fun g => g < 2 * c) Ls ns (fun x => 2 * x) (fun x => S.2 (2 * x)) dg s m x j = 0 := by
          unfold rwX
          exact if_pos hb1
        show (p : Int) ∣ row9 (fun g => g < 2 * c) Ls ns (fun x => 2 * x) (fun x => S.2 (2 * x)) dg s m x j - (row9 (fun g => g < 2 * c) Ls ns (fun x => 2 * x) (fun x => S.2 (2 * x)) dg s m x j + rwX (fun g => g < 2 * c) Ls ns (fun x => 2 * x) (fun x => S.2 (2 * x)) dg s m x j)
        rw [e0, Int.add_zero, Int.sub_self]
        exact Int.dvd_zero _
  refine e_X1_writeImage ?_
  refine u_X1_writeImage_0 ?_; unfold cm_X1_writeImage_0
  exact c1 c 0 y (by omega) ⟨fr_rf, hw0⟩
end XCJ3
end
section
/-! 99zzzzzzzzzzzzzzzzyzh.xchw -/
-- CHAIN: the class's kept rows, exactly
def rs9 (cl vv : Nat → Nat) (a n j : Nat) : Int := sN9 (fun i => if cl (a + i) = j then (vv (a + i) : Int) else 0) n
def kx9 (z : ow_MS) (p w u : Nat) (cl vv : Nat → Nat) (d : Nat → vc9) : Prop := (∀ i, i < u → z.2.1 43015 i = nI (cl i) ∧ cl i < w ∧ z.2.1 43016 i = nI (vv i) ∧ vv i < p) ∧ ∀ c, c < w → (z.2.1 43012 c = -1 ∧ ∀ j, j < w → (p : Int) ∣ d c j) ∨ ∃ a b, z.2.1 43012 c = nI a ∧ a < 2 ^ 31 ∧ z.2.1 43013 c = nI b ∧ a ≤ b ∧ b ≤ u ∧ (∀ j, j < w → (p : Int) ∣ rs9 cl vv a (b - a) j - d c j) ∧ (p : Int) ∣ d c c - 1
section XCJ4
variable {vl : Nat → Nat} {y : ow_MS} {W C : Nat}
theorem rs_cg {cl vv cl' vv' : Nat → Nat} {a j : Nat} : ∀ {n : Nat}, (∀ i, i < a + n → cl' i = cl i ∧ vv' i = vv i) → rs9 cl' vv' a n j = rs9 cl vv a n j
  | 0, _ => rfl
  | n + 1, h => by
    have ih := rs_cg (a := a) (j := j) (n := n) (fun i hi => h i (by omega))
    show rs9 cl' vv' a n j + (if cl' (a + n) = j then (vv' (a + n) : Int) else 0) = rs9 cl vv a n j + (if cl (a + n) = j then (vv (a + n) : Int) else 0)
    rw [ih, (h (a + n) (by omega)).1, (h (a + n) (by omega)).2]
theorem rs_s {cl vv : Nat → Nat} {a j n : Nat} : rs9 cl vv a (n + 1) j = rs9 cl vv a n j + (if cl (a + n) = j then (vv (a + n) : Int) else 0) := rfl
theorem kx_fr {P : Nat → Prop} {z z1 : ow_MS} {p w u : Nat} {cl vv : Nat → Nat} {d : Nat → vc9} (hf : fr P z z1) (hP : ¬ P 43012 ∧ ¬ P 43013 ∧ ¬ P 43015 ∧ ¬ P 43016) (h : kx9 z p w u cl vv d) : kx9 z1 p w u cl vv d := by
  unfold kx9
  rw [(hf _ hP.1).2.1, (hf _ hP.2.1).2.1, (hf _ hP.2.2.1).2.1, (hf _ hP.2.2.2).2.1]
  exact h
theorem te_keepRow {f w u p a : Nat} {cl vv : Nat → Nat} {d9 : Nat → vc9} {v : vc9} (hv : vI vl W C) (hw : w ≤ 1140) (hwW : w ≤ W) (hf : f < w) (hI : rI y w u C) (hnf : y.2.1 43012 f = -1) (h10 : y.1 43010 = nI p) (hp : prT p) (hp2 : p ≤ 997) (hx : kx9 y p w u cl vv d9) (hk : wk9 y p w v) (hz0 : ∀ j, j < f → y.2.1 43011 j = 0) (ha : y.2.1 43011 f = nI a) (ha1 : 1 ≤ a) (ha2 : a < p) : Te (fun K => de_X1_keepRow K 43000 (nI f) (nI w) vl y) (gQ vl (fun r => fr kpG y r.2.2 ∧ ∃ C' u' cl' vv' t, vI r.2.1 W C' ∧ rI r.2.2 w u' C' ∧ a * t % p = 1 ∧ kx9 r.2.2 p w u' cl' vv' (fun j => if j = f then (fun i => (t : Int) * v i) else d9 j) ∧ ∀ j, j < w → r.2.2.2.1 43011 j = 0)) := by
  have hp1 := hp.1
  let Q : Unit × (Nat → Nat) × ow_MS → Prop := fun r => fr kpG y r.2.2 ∧ ∃ C' u' cl' vv' t, vI r.2.1 W C' ∧ rI r.2.2 w u' C' ∧ a * t % p = 1 ∧ kx9 r.2.2 p w u' cl' vv' (fun j => if j = f then (fun i => (t : Int) * v i) else d9 j) ∧ ∀ j, j < w → r.2.2.2.1 43011 j = 0
  obtain ⟨i1, i2, i3, i4, i5⟩ := hI
  obtain ⟨x1, x2⟩ := hx
  have hnz : nI p ≠ 0 := fun h9 => by
    have := (nI_eq (a := p) (b := 0) (by omega) (by omega)).mp h9
    omega
  have hsu := suR_le (y.2.1 43012) w w (Nat.le_refl _)
  have hww : w * (w + 1) ≤ 1300740 := Nat.mul_le_mul hw (show w + 1 ≤ 1141 by omega)
  have hu : u ≤ 650370 := by omega
  have v0 : ∀ j, j < f → (p : Int) ∣ v j := fun j hj => by
    obtain ⟨b, b1, b2, b3⟩ := hk j (by omega)
    rw [hz0 j hj] at b1
    have : 0 = b := (nI_eq (a := 0) (b := b) (by omega) (by omega)).mp b1
    rw [← this] at b3
    have := Int.dvd_neg.mpr b3
    rw [show -(((0 : Nat) : Int) - v j) = v j by omega] at this
    exact this
  have vf : ∀ t, a * t % p = 1 → (p : Int) ∣ (t : Int) * v f - 1 := fun t ht => by
    obtain ⟨b, b1, b2, b3⟩ := hk f hf
    rw [ha] at b1
    have e : a = b := (nI_eq (a := a) (b := b) (by omega) (by omega)).mp b1
    rw [← e] at b3
    have h1 := dvr9 (t : Int) b3
    have h2 : (p : Int) ∣ ((a * t : Nat) : Int) - ((1 : Nat) : Int) := dv_md (by rw [ht, Nat.mod_eq_of_lt (by omega)])
    have := Int.dvd_sub h2 h1
    rw [Int.natCast_mul, Int.mul_sub, Int.mul_comm (t : Int) a, show (a : Int) * t - ((1 : Nat) : Int) - ((a : Int) * t - (t : Int) * v f) = (t : Int) * v f - 1 by omega] at this
    exact this
  -- from the second label on
  have tl0 : ∀ (lv : Nat → Nat) (z : ow_MS) (C' : Nat), dPhi vl ≤ dPhi lv → vI lv W C' → u + w - f ≤ C' → fr kpG y z → z.1 43017 = nI u → (z.2.1 43012 = y.2.1 43012) → (z.2.1 43013 = y.2.1 43013) → (∀ i, i < u → z.2.1 43015 i = y.2.1 43015 i) → (∀ i, i < u → z.2.1 43016 i = y.2.1 43016 i) → z.2.1 43011 = y.2.1 43011 → Tt (fun K k => d_X1_keepRow K k 1 (nI f) (nI w) 0 0 43000 lv z) (gQ lv Q) := by
    intro lv z C' hphi hv' hroom hz g17a e12 e13 e15 e16 e11
    obtain ⟨h1, h2, h3, h4, h5, h6, h7, h8, h9, h0⟩ := hv'
    have lp0 : ∀ (t : Nat), t < p → a * t % p = 1 → ∀ (d c u' : Nat) (cl' vv' : Nat → Nat) (z1 : ow_MS), c + d = w → f ≤ c → u' ≤ u + (c - f) → u ≤ u' → fr kpG y z1 → z1.1 43017 = nI u' → (z1.2.1 43012 f = nI u ∧ ∀ j, j ≠ f → z1.2.1 43012 j = y.2.1 43012 j) → (z1.2.1 43013 = y.2.1 43013) → (∀ i, i < u' → z1.2.1 43015 i = nI (cl' i) ∧ cl' i < w ∧ z1.2.1 43016 i = nI (vv' i) ∧ vv' i < p) → (∀ i, i < u → cl' i = cl i ∧ vv' i = vv i) → (∀ j, j < w → (p : Int) ∣ rs9 cl' vv' u (u' - u) j - (if f ≤ j ∧ j < c then (t : Int) * v j else 0)) → (∀ j, j < c → z1.2.1 43011 j = 0) → (∀ j, c ≤ j → j < w → z1.2.1 43011 j = y.2.1 43011 j) → Tt (fun K k => d_X1_keepRow K k 2 (nI f) (nI w) (nI t) (nI c) 43000 lv z1) (gQ lv Q) := by
      intro t ht hat d
      induction d with
      | zero =>
        intro c u' cl' vv' z1 hc hfc hu1 hu2 hz1 g17 g12 g13 g15 gold grs gz gw
        refine u_X1_keepRow_2 ?_; unfold dm_X1_keepRow_2
        refine w_leT (a := w) (b := c) (by omega) (by omega) (w_rdF g17 (w_ctI (ch_43013.trans h3) rfl (by omega) (w_some ⟨Nat.le_refl _, fr_I2 hz1 (Or.inr (Or.inr (Or.inl rfl))), C', u', cl', vv', t, ⟨h1, h2, h3, h4, h5, h6, h7, h8, h9, h0⟩, ⟨g17, ?_, by omega, ?_, ?_⟩, hat, ⟨?_, ?_⟩, ?_⟩)))
        · show u' ≤ suR ((usI z1 43013 f (nI u')).2.1 43012) w w
          rw [po_usI_ot (show 43012 ≠ 43013 by omega), suR_set (f := y.2.1 43012) (k := f) hnf (by rw [g12.1]; exact rn_neg1 (by omega)) g12.2, if_pos hf]
          omega
        · intro c1 hc1
          show (usI z1 43013 f (nI u')).2.1 43012 c1 = -1 ∨ ∃ a b, (usI z1 43013 f (nI u')).2.1 43012 c1 = nI a ∧ a < 2 ^ 31 ∧ (usI z1 43013 f (nI u')).2.1 43013 c1 = nI b ∧ b ≤ u'
          rw [po_usI_ot (show 43012 ≠ 43013 by omega)]
          by_cases e : c1 = f
          · subst e
            exact Or.inr ⟨u, u', g12.1, by omega, po_usI_at, Nat.le_refl _⟩
          · rw [g12.2 c1 e, po_usI_ne e, g13]
            rcases i4 c1 hc1 with h | ⟨a, b, q1, q2, q3, q4⟩
            · exact Or.inl h
            · exact Or.inr ⟨a, b, q1, q2, q3, by omega⟩
        · intro i hi
          exact ⟨cl' i, rd_ot (by omega) (g15 i hi).1, (g15 i hi).2.1⟩
        · intro i hi
          exact ⟨rd_ot (by omega) (g15 i hi).1, (g15 i hi).2.1, rd_ot (by omega) (g15 i hi).2.2.1, (g15 i hi).2.2.2⟩
        · intro c1 hc1
          show ((usI z1 43013 f (nI u')).2.1 43012 c1 = -1 ∧ ∀ j, j < w → (p : Int) ∣ (if c1 = f then (fun i => (t : Int) * v i) else d9 c1) j) ∨ ∃ a b, (usI z1 43013 f (nI u')).2.1 43012 c1 = nI a ∧ a < 2 ^ 31 ∧ (usI z1 43013 f (nI u')).2.1 43013 c1 = nI b ∧ a ≤ b ∧ b ≤ u' ∧ (∀ j, j < w → (p : Int) ∣ rs9 cl' vv' a (b - a) j - (if c1 = f then (fun i => (t : Int) * v i) else d9 c1) j) ∧ (p : Int) ∣ (if c1 = f then (fun i => (t : Int) * v i) else d9 c1) c1 - 1
          rw [po_usI_ot (show 43012 ≠ 43013 by omega)]
          by_cases e : c1 = f
          · subst e
            rw [if_pos rfl]
            refine Or.inr ⟨u, u', g12.1, by omega, po_usI_at, hu2, Nat.le_refl _, fun j hj => ?_, vf t hat⟩
            have := grs j hj
            by_cases q : c1 ≤ j ∧ j < c
            · rw [if_pos q] at this
              exact this
            · rw [if_neg q, Int.sub_zero] at this
              exact Int.dvd_sub this (dvr9 (t : Int) (v0 j (by omega)))
          · rw [if_neg e, g12.2 c1 e, po_usI_ne e, g13]
            rcases x2 c1 hc1 with h | ⟨a, b, q1, q2, q3, q4, q5, q6, q7⟩
            · exact Or.inl h
            · refine Or.inr ⟨a, b, q1, q2, q3, q4, by omega, fun j hj => ?_, q7⟩
              rw [rs_cg (fun i hi => gold i (by omega))]
              exact q6 j hj
        · intro j hj
          exact rd_ot (by omega) (gz j (by omega))
      | succ d ih =>
        intro c u' cl' vv' z1 hc hfc hu1 hu2 hz1 g17 g12 g13 g15 gold grs gz gw
        obtain ⟨ac, ac1, ac2, ac3⟩ := hk c (by omega)
        have ewc : z1.2.1 43011 c = nI ac := (gw c (Nat.le_refl c) (by omega)).trans ac1
        have nc := grs c (by omega)
        rw [if_neg (by omega), Int.sub_zero] at nc
        refine u_X1_keepRow_2 ?_; unfold dm_X1_keepRow_2
        refine w_leF (a := w) (b := c) (by omega) (by omega) (w_crI (ch_43011.trans h1) rfl (by omega) ewc (w_if (fun hz9 => ?_) (fun hz9 => ?_)))
        · -- nothing there
          have e0 : ac = 0 := (nI_eq (a := ac) (b := 0) (by omega) (by omega)).mp hz9
          refine u_X1_keepRow_3 ?_; unfold dm_X1_keepRow_3
          rw [nI_1]
          refine ih (c + 1) u' cl' vv' z1 (by omega) (by omega) (by omega) hu2 hz1 g17 g12 g13 g15 gold (fun j hj => ?_) (fun j hj => ?_) (fun j h5 h6 => gw j (by omega) h6)
          · by_cases q : j = c
            · rw [q, if_pos ⟨hfc, by omega⟩]
              rw [e0] at ac3
              have := dvr9 (t : Int) ac3
              have := Int.dvd_add nc this
              rw [show rs9 cl' vv' u (u' - u) c + (t : Int) * (((0 : Nat) : Int) - v c) = rs9 cl' vv' u (u' - u) c - (t : Int) * v c by rw [Int.mul_sub, show ((0 : Nat) : Int) = 0 from rfl, Int.mul_zero]; omega] at this
              exact this
            · have := grs j hj
              by_cases q2 : f ≤ j ∧ j < c
              · rw [if_pos q2] at this
                rw [if_pos ⟨q2.1, by omega⟩]
                exact this
              · rw [if_neg q2] at this
                rw [if_neg (fun h9 => q2 ⟨h9.1, by omega⟩)]
                exact this
          · by_cases q : j = c
            · rw [q, ewc, e0]
              rfl
            · exact gz j (by omega)
        · have e0 : ac ≠ 0 := fun h9 => hz9 (by rw [h9]; rfl)
          have hmu : ac * t < 2 ^ 31 := by
            have := Nat.mul_le_mul (show ac ≤ 997 by omega) (show t ≤ 997 by omega)
            omega
          have hmd : ac * t % p < p := Nat.mod_lt _ (by omega)
          refine w_rdF g17 (w_ctI (ch_43015.trans h5) rfl (show u' < C' by omega) (w_rdF g17 (w_crI (ch_43011.trans h1) rfl (show c < W by omega) (rd_ot (by omega) ewc) (w_rdF (show _ = nI p from ((hz1 43010 (by unfold kpG; omega)).1).trans h10) (w_nzI hnz ?_)))))
          rw [pk_mul, pk_rem hmu (by omega) (by omega)]
          refine w_ctI (ch_43016.trans h6) rfl (show u' < C' by omega) (w_rdF g17 (w_wrF (w_ctI (ch_43011.trans h1) rfl (show c < W by omega) ?_)))
          refine u_X1_keepRow_3 ?_; unfold dm_X1_keepRow_3
          rw [nI_1, nI_1]
          refine ih (c + 1) (u' + 1) (fun i => if i = u' then c else cl' i) (fun i => if i = u' then ac * t % p else vv' i) _ (by omega) (by omega) (by omega) (by omega) (fr_I2 (fr_F2 (fr_I2 (fr_I2 hz1 (by unfold kpG; omega)) (by unfold kpG; omega)) (by unfold kpG; omega)) (by unfold kpG; omega)) ?_ ⟨?_, fun j hj => ?_⟩ ?_ (fun i hi => ?_) (fun i hi => ?_) (fun j hj => ?_) (fun j hj => ?_) (fun j h5 h6 => ?_)
          · rw [po_usI1]
            exact po_usF_at
          · exact rd_ot (by omega) (rd_ot (z := usI z1 43015 u' (nI c)) (by omega) (rd_ot (by omega) g12.1))
          · exact rd_ot (by omega) (rd_ot (z := usI z1 43015 u' (nI c)) (by omega) (rd_ot (by omega) (g12.2 j hj)))
          · rw [← g13]
            funext j
            exact rd_ot (by omega) (rd_ot (z := usI z1 43015 u' (nI c)) (by omega) (rd_ot (by omega) rfl))
          · by_cases e : i = u'
            · rw [if_pos e, if_pos e, e]
              exact ⟨rd_ot (by omega) (rd_ot (z := usI z1 43015 u' (nI c)) (by omega) po_usI_at), by omega, rd_ot (by omega) po_usI_at, hmd⟩
            · rw [if_neg e, if_neg e]
              obtain ⟨j1, j2, j3, j4⟩ := g15 i (by omega)
              exact ⟨rd_ot (by omega) (rd_ot (z := usI z1 43015 u' (nI c)) (by omega) ((po_usI_ne e).trans j1)), j2, rd_ot (by omega) ((po_usI_ne e).trans (rd_ot (by omega) j3)), j4⟩
          · rw [if_neg (by omega), if_neg (by omega)]
            exact gold i hi
          · have e9 : u' + 1 - u = (u' - u) + 1 := by omega
            rw [e9, rs_s, rs_cg (cl := cl') (vv := vv') (fun i hi => ⟨if_neg (by omega), if_neg (by omega)⟩)]
            show (p : Int) ∣ rs9 cl' vv' u (u' - u) j + (if (if u + (u' - u) = u' then c else cl' (u + (u' - u))) = j then ((if u + (u' - u) = u' then ac * t % p else vv' (u + (u' - u)) : Nat) : Int) else 0) - _
            rw [if_pos (show u + (u' - u) = u' by omega), if_pos (show u + (u' - u) = u' by omega)]
            have hj9 := grs j hj
            by_cases q : c = j
            · subst q
              rw [if_pos rfl, if_pos ⟨hfc, by omega⟩]
              have m1 : (p : Int) ∣ ((ac * t % p : Nat) : Int) - ((ac * t : Nat) : Int) := dv_md (Nat.mod_mod _ _)
              have m2 := dvr9 (t : Int) ac3
              have := Int.dvd_add (Int.dvd_add nc m1) m2
              rw [Int.natCast_mul, Int.mul_sub, Int.mul_comm (t : Int) ac, show rs9 cl' vv' u (u' - u) c + (((ac * t % p : Nat) : Int) - (ac : Int) * t) + ((ac : Int) * t - (t : Int) * v c) = rs9 cl' vv' u (u' - u) c + ((ac * t % p : Nat) : Int) - (t : Int) * v c by omega] at this
              exact this
            · rw [if_neg q, Int.add_zero]
              by_cases q2 : f ≤ j ∧ j < c
              · rw [if_pos q2] at hj9
                rw [if_pos ⟨q2.1, by omega⟩]
                exact hj9
              · rw [if_neg q2] at hj9
                rw [if_neg (fun h9 => q2 ⟨h9.1, by omega⟩)]
                exact hj9
          · by_cases q : j = c
            · rw [q]
              exact po_usI_at
            · exact (po_usI_ne q).trans (rd_ot (z := usI z1 43015 u' (nI c)) (by omega) (rd_ot (by omega) (gz j (by omega))))
          · exact (po_usI_ne (by omega)).trans (rd_ot (z := usI z1 43015 u' (nI c)) (by omega) (rd_ot (by omega) (gw j (by omega) h6)))
    refine u_X1_keepRow_1 ?_; unfold dm_X1_keepRow_1
    refine w_crI (ch_43011.trans h1) rfl (show f < W by omega) ((congrFun e11 f).trans ha) (w_cs1 (te_reciprocal (p := p) (((hz 43010 (by unfold kpG; omega)).1).trans h10) hp hp2 ha1 ha2) ?_)
    rintro x9 z1 ⟨e1, t, e2, e3, e4⟩
    dsimp only at e1 e2
    rw [e1, e2]
    refine w_rdF g17a (w_ctI (ch_43012.trans h2) rfl (show f < W by omega) (lp0 t e3 e4 (w - f) f u cl vv _ (by omega) (Nat.le_refl _) (by omega) (Nat.le_refl _) (fr_I2 hz (by unfold kpG; omega)) g17a ⟨po_usI_at, fun j hj => ?_⟩ ?_ (fun i hi => ?_) (fun i hi => ⟨rfl, rfl⟩) (fun j hj => ?_) (fun j hj => ?_) (fun j h5 h6 => ?_)))
    · rw [po_usI_ne hj, e12]
    · rw [po_usI_ot (by omega), e13]
    · obtain ⟨j1, j2, j3, j4⟩ := x1 i hi
      exact ⟨rd_ot (by omega) ((e15 i hi).trans j1), j2, rd_ot (by omega) ((e16 i hi).trans j3), j4⟩
    · rw [if_neg (by omega), Nat.sub_self]
      exact Int.dvd_zero _
    · exact rd_ot (by omega) ((congrFun e11 j).trans (hz0 j hj))
    · exact rd_ot (by omega) (congrFun e11 j)
  obtain ⟨h1, h2, h3, h4, h5, h6, h7, h8, h9, h0⟩ := hv
  refine e_X1_keepRow ?_
  refine u_X1_keepRow_0 ?_; unfold dm_X1_keepRow_0
  refine w_rdF i1 ?_
  rw [nI_add, pk_sub (show f ≤ u + w by omega), show uw_len (cX vl) y (43000 + 15) = C from ch_43015.trans h5]
  refine w_le (a := u + w - f) (b := C) (by omega) (by omega) (fun hle => tl0 vl y C (Nat.le_refl _) ⟨h1, h2, h3, h4, h5, h6, h7, h8, h9, h0⟩ hle fr_rf i1 rfl rfl (fun _ _ => rfl) (fun _ _ => rfl) rfl) (fun hlt => ?_)
  have p1 : dPhi vl ≤ dPhi (usV vl 43015 (2 * (u + w))) := dPhi_u2 (by decide) (by omega)
  have p2 : dPhi (usV vl 43015 (2 * (u + w))) ≤ dPhi (usV (usV vl 43015 (2 * (u + w))) 43016 (2 * (u + w))) := dPhi_u2 (by decide) (by show vl 43016 ≤ _; omega)
  refine w_rdF i1 ?_
  rw [nI_add, rn_mul2]
  refine w_cpR (h := 43015) (by omega) (by omega) (by omega) (w_chV p1 (w_rdF i1 ?_))
  rw [nI_add, rn_mul2]
  refine w_cpR (h := 43016) (by omega) (by show 2 * vl 43016 ≤ _; omega) (by show vl 43016 + 640 ≤ _; omega) (w_chV p2 ?_)
  refine tl0 _ _ (2 * (u + w)) (Nat.le_trans p1 p2) ⟨h1, h2, h3, h4, rfl, rfl, h7, h8, by omega, by omega⟩ (by omega) (fr_R2 (fr_R2 fr_rf (by unfold kpG; omega)) (by unfold kpG; omega)) i1 rfl rfl (fun i hi => ?_) (fun i hi => ?_) rfl
  · show va_cpy (y.2.1 43015) (fun _ => 0) 0 0 (vl 43015) i = y.2.1 43015 i
    rw [pk_cpy_in (Nat.zero_le i) (by omega), Nat.zero_add, Nat.sub_zero]
  · show va_cpy (y.2.1 43016) (fun _ => 0) 0 0 (vl 43016) i = y.2.1 43016 i
    rw [pk_cpy_in (Nat.zero_le i) (by omega), Nat.zero_add, Nat.sub_zero]
theorem te_reduce {w u p n : Nat} {cl vv : Nat → Nat} {d9 M : Nat → vc9} (hv : vI vl W C) (hw : w ≤ 1140) (hwW : w ≤ W) (hI : rI y w u C) (h10 : y.1 43010 = nI p) (hp : prT p) (hp2 : p ≤ 997) (hx : kx9 y p w u cl vv d9) (hE : El9 p w M n d9) (hk : wk9 y p w (M n)) : Te (fun K => de_X1_reduce K 43000 (nI w) vl y) (gQ vl (fun r => fr kpG y r.2.2 ∧ ∃ C' u' cl' vv' d' ρ, vI r.2.1 W C' ∧ rI r.2.2 w u' C' ∧ kx9 r.2.2 p w u' cl' vv' d' ∧ El9 p w M (n + 1) d' ∧ r.1 = nI ρ ∧ rk9 p w (rwl9 M (n + 1)) = rk9 p w (rwl9 M n) + ρ ∧ ∀ j, j < w → r.2.2.2.1 43011 j = 0)) := by
  have hp1 := hp.1
  have hpr := prp_of hp
  let Q : Int32 × (Nat → Nat) × ow_MS → Prop := fun r => fr kpG y r.2.2 ∧ ∃ C' u' cl' vv' d' ρ, vI r.2.1 W C' ∧ rI r.2.2 w u' C' ∧ kx9 r.2.2 p w u' cl' vv' d' ∧ El9 p w M (n + 1) d' ∧ r.1 = nI ρ ∧ rk9 p w (rwl9 M (n + 1)) = rk9 p w (rwl9 M n) + ρ ∧ ∀ j, j < w → r.2.2.2.1 43011 j = 0
  have hnz : nI p ≠ 0 := fun h9 => by
    have := (nI_eq (a := p) (b := 0) (by omega) (by omega)).mp h9
    omega
  have hv0 := hv
  obtain ⟨h1, h2, h3, h4, h5, h6, h7, h8, h9, h0⟩ := hv
  have huC : u ≤ C := hI.2.2.1
  have k11 : ∀ g, g = 43011 → kpG g := fun g hg => Or.inl hg
  -- a number below p that p divides
  have zero : ∀ (z : ow_MS) (cur : vc9) (j : Nat), j < w → wk9 z p w cur → (p : Int) ∣ cur j → z.2.1 43011 j = 0 := fun z cur j hj hz h9 => by
    obtain ⟨a, a1, a2, a3⟩ := hz j hj
    have := Int.dvd_add a3 h9
    rw [show (a : Int) - cur j + cur j = a by omega] at this
    have h8 : p ∣ a := Int.natCast_dvd_natCast.mp this
    rcases Nat.eq_zero_or_pos a with e | e
    · rw [a1, e]
      rfl
    · have := Nat.le_of_dvd e h8
      omega
  have cz : ∀ (z : ow_MS) (cur : vc9) (j : Nat), j < w → wk9 z p w cur → z.2.1 43011 j = 0 → (p : Int) ∣ cur j := fun z cur j hj hz h9 => by
    obtain ⟨a, a1, a2, a3⟩ := hz j hj
    rw [h9] at a1
    have : 0 = a := (nI_eq (a := 0) (b := a) (by omega) (by omega)).mp a1
    rw [← this] at a3
    have := Int.dvd_neg.mpr a3
    rw [show -(((0 : Nat) : Int) - cur j) = cur j by omega] at this
    exact this
  have c1 : ∀ (d c : Nat) (z : ow_MS) (cur : vc9), c + d = w → fr (fun g => g = 43011) y z → wk9 z p w cur → (∀ j, j < c → z.2.1 43011 j = 0) → sp9 p w (rwl9 d9 w) (fun j => M n j - cur j) → Tt (fun K k => d_X1_reduce K k 1 (nI w) (nI c) 0 0 43000 vl z) (gQ vl Q) := by
    intro d
    induction d with
    | zero =>
      intro c z cur hc hz hwk hz0 hsp
      refine u_X1_reduce_1 ?_; unfold dm_X1_reduce_1
      refine w_leT (a := w) (b := c) (by omega) (by omega) (w_some ⟨Nat.le_refl _, fr_mono k11 hz, C, u, cl, vv, d9, 0, hv0, rI_fr hz (by omega) hI, kx_fr hz (by omega) hx, ?_⟩)
      have hin : sp9 p w (rwl9 d9 w) (M n) := sp_q (fun j hj => by
        rw [show M n j - (M n j - cur j) = cur j by omega]
        exact cz z cur j hj hwk (hz0 j (by omega))) hsp
      obtain ⟨e1, e2⟩ := El_n hE hin
      exact ⟨e1, rfl, e2, fun j hj => hz0 j (by omega)⟩
    | succ d ih =>
      intro c z cur hc hz hwk hz0 hsp
      have hcw : c < w := by omega
      have c3 : ∀ (x3 : Int32) (z1 : ow_MS) (cur1 : vc9), fr (fun g => g = 43011) y z1 → wk9 z1 p w cur1 → (∀ j, j < c + 1 → z1.2.1 43011 j = 0) → sp9 p w (rwl9 d9 w) (fun j => M n j - cur1 j) → Tt (fun K k => d_X1_reduce K k 3 (nI w) (nI c) x3 0 43000 vl z1) (gQ vl Q) := by
        intro x3 z1 cur1 a1 a2 a3 a4
        refine u_X1_reduce_3 ?_; unfold dm_X1_reduce_3
        rw [nI_1]
        exact ih (c + 1) z1 cur1 (by omega) a1 a2 a3 a4
      have hIz := rI_fr hz (by omega) hI
      have hxz := kx_fr hz (by omega) hx
      obtain ⟨a, a1, a2, a3⟩ := hwk c hcw
      refine u_X1_reduce_1 ?_; unfold dm_X1_reduce_1
      refine w_leF (a := w) (b := c) (by omega) (by omega) (w_crI (ch_43011.trans h1) rfl (by omega) a1 (w_if (fun hz9 => c3 _ z cur hz hwk (fun j hj => ?_) hsp) (fun hz9 => ?_)))
      · by_cases q : j = c
        · rw [q, a1]
          exact hz9
        · exact hz0 j (by omega)
      have ha0 : 1 ≤ a := by
        rcases Nat.eq_zero_or_pos a with e | e
        · exact absurd (by rw [e]; rfl) hz9
        · exact e
      have can : ¬ (p : Int) ∣ cur c := fun h9 => by
        have := zero z cur c hcw hwk h9
        rw [a1] at this
        exact hz9 this
      rcases hxz.2 c hcw with ⟨hn, hzr⟩ | ⟨ra, rb, q1, q2, q3, q4, q5, q6, q7⟩
      · refine w_crI (ch_43012.trans h2) rfl (by omega) hn (w_ifT rfl ?_)
        refine w_dc1 (te_keepRow (f := c) hv0 hw hwW hcw hIz hn (((hz 43010 (by omega)).1).trans h10) hp hp2 hxz hwk hz0 a1 ha0 a2) ?_
        rintro x lv z1 ⟨r1, r2, C', u', cl', vv', t, r3, r4, r5, r6, r7⟩
        refine w_chV r1 (w_some ⟨Nat.le_refl _, fr_tr (fr_mono k11 hz) r2, C', u', cl', vv', _, 1, r3, r4, r6, ?_⟩)
        have tt : (p : Int) ∣ (t : Int) * (a : Int) - 1 := by
          have := dv_md (p := p) (x := a * t) (y := 1) (by rw [r5, Nat.mod_eq_of_lt (by omega)])
          rw [Int.natCast_mul, Int.mul_comm] at this
          exact this
        obtain ⟨e1, e2⟩ := El_y (u := fun i => (t : Int) * cur i) hpr hE hcw hzr hsp (fun j hj => cz z cur j (by omega) hwk (hz0 j hj)) can tt zq_r
        exact ⟨e1, rfl, e2, r7⟩
      · have ech := hE.1 c hcw
        have c2 : ∀ (d2 i : Nat) (z1 : ow_MS), rb ≤ i + d2 → ra ≤ i → i ≤ rb → fr (fun g => g = 43011) y z1 → wk9 z1 p w (fun j => cur j - (a : Int) * rs9 cl vv ra (i - ra) j) → Tt (fun K k => d_X1_reduce K k 2 (nI w) (nI c) (nI a) (nI i) 43000 vl z1) (gQ vl Q) := by
          have fin : ∀ (z1 : ow_MS), fr (fun g => g = 43011) y z1 → wk9 z1 p w (fun j => cur j - (a : Int) * rs9 cl vv ra (rb - ra) j) → Tt (fun K k => d_X1_reduce K k 3 (nI w) (nI c) (nI a) 0 43000 vl z1) (gQ vl Q) := by
            intro z1 hz1 hk1
            refine c3 _ z1 (fun j => cur j - (a : Int) * d9 c j) hz1 (wk_cg hk1 (fun j hj => ?_)) (fun j hj => ?_) ?_
            · have := Int.dvd_neg.mpr (dvr9 (a : Int) (q6 j hj))
              rw [show -((a : Int) * (rs9 cl vv ra (rb - ra) j - d9 c j)) = cur j - (a : Int) * rs9 cl vv ra (rb - ra) j - (cur j - (a : Int) * d9 c j) by rw [Int.mul_sub]; omega] at this
              exact this
            · have hk2 : wk9 z1 p w (fun j => cur j - (a : Int) * d9 c j) := wk_cg hk1 (fun j hj => by
                have := Int.dvd_neg.mpr (dvr9 (a : Int) (q6 j hj))
                rw [show -((a : Int) * (rs9 cl vv ra (rb - ra) j - d9 c j)) = cur j - (a : Int) * rs9 cl vv ra (rb - ra) j - (cur j - (a : Int) * d9 c j) by rw [Int.mul_sub]; omega] at this
                exact this)
              refine zero z1 _ j (by omega) hk2 ?_
              by_cases q : j = c
              · rw [q]
                have := Int.dvd_neg.mpr (Int.dvd_add a3 (dvr9 (a : Int) q7))
                rw [show -((a : Int) - cur c + (a : Int) * (d9 c c - 1)) = cur c - (a : Int) * d9 c c by rw [Int.mul_sub, Int.mul_one]; omega] at this
                exact this
              · exact Int.dvd_sub (cz z cur j (by omega) hwk (hz0 j (by omega))) (dvr9 (a : Int) (ech.1 j (by omega)))
            · refine sp_q (fun j _ => ?_) (sp_a hsp (sp_m (a : Int) (sp_in (rwl_in hcw))))
              rw [show M n j - (cur j - (a : Int) * d9 c j) - (M n j - cur j + (a : Int) * d9 c j) = 0 by omega]
              exact Int.dvd_zero _
          intro d2
          induction d2 with
          | zero =>
            intro i z1 hi hi1 hi2 hz1 hk1
            have e13 : z1.2.1 43013 c = nI rb := by
              rw [(hz1 43013 (by omega)).2.1, ← (hz 43013 (by omega)).2.1]
              exact q3
            rw [show i = rb by omega] at hk1 ⊢
            refine u_X1_reduce_2 ?_; unfold dm_X1_reduce_2
            exact w_crI (ch_43013.trans h3) rfl (by omega) e13 (w_leT (a := rb) (b := rb) (by omega) (by omega) (fin z1 hz1 hk1))
          | succ d2 ih2 =>
            intro i z1 hi hi1 hi2 hz1 hk1
            have e13 : z1.2.1 43013 c = nI rb := by
              rw [(hz1 43013 (by omega)).2.1, ← (hz 43013 (by omega)).2.1]
              exact q3
            refine u_X1_reduce_2 ?_; unfold dm_X1_reduce_2
            refine w_crI (ch_43013.trans h3) rfl (by omega) e13 (w_le (a := rb) (b := i) (by omega) (by omega) (fun hle => ?_) (fun hlt => ?_))
            · rw [show i = rb by omega] at hk1
              exact fin z1 hz1 hk1
            obtain ⟨j1, j2, j3, j4⟩ := (kx_fr hz1 (by omega) hx).1 i (by omega)
            have ep : z1.1 43010 = nI p := ((hz1 43010 (by omega)).1).trans h10
            obtain ⟨b, b1, b2, b3⟩ := hk1 (cl i) j2
            have hmu : b + (p - a) * vv i < 2 ^ 31 := by
              have := Nat.mul_le_mul (show p - a ≤ 997 by omega) (show vv i ≤ 997 by omega)
              omega
            refine w_crI (ch_43015.trans h5) rfl (by omega) j1 (w_crI (ch_43015.trans h5) rfl (by omega) j1 (w_crI (ch_43011.trans h1) rfl (by omega) b1 (w_rdF ep (w_crI (ch_43016.trans h6) rfl (by omega) j3 (w_rdF ep (w_nzI hnz ?_))))))
            rw [pk_sub (show a ≤ p by omega), pk_mul, nI_add, pk_rem hmu (by omega) (by omega), nI_1]
            refine w_ctI (ch_43011.trans h1) rfl (by omega) (ih2 (i + 1) _ (by omega) (by omega) (by omega) (fr_I2 hz1 rfl) (fun j hj => ?_))
            dsimp only at b3 ⊢
            rw [show i + 1 - ra = (i - ra) + 1 by omega, rs_s, show ra + (i - ra) = i by omega]
            by_cases q : j = cl i
            · refine ⟨(b + (p - a) * vv i) % p, by rw [q]; exact po_usI_at, Nat.mod_lt _ (by omega), ?_⟩
              rw [if_pos q.symm, q]
              have m1 : (p : Int) ∣ (((b + (p - a) * vv i) % p : Nat) : Int) - ((b + (p - a) * vv i : Nat) : Int) := dv_md (Nat.mod_mod _ _)
              have m2 : (p : Int) ∣ (p : Int) * (vv i : Int) := Int.dvd_mul_right _ _
              have e9 : ((b + (p - a) * vv i : Nat) : Int) = (b : Int) + ((p : Int) * vv i - (a : Int) * vv i) := by
                rw [Int.natCast_add, Int.natCast_mul, Int.ofNat_sub (show a ≤ p by omega), Int.sub_mul]
              rw [e9] at m1
              have := Int.dvd_add (Int.dvd_add m1 m2) b3
              rw [show (((b + (p - a) * vv i) % p : Nat) : Int) - ((b : Int) + ((p : Int) * vv i - (a : Int) * vv i)) + (p : Int) * vv i + ((b : Int) - (cur (cl i) - (a : Int) * rs9 cl vv ra (i - ra) (cl i))) = (((b + (p - a) * vv i) % p : Nat) : Int) - (cur (cl i) - (a : Int) * (rs9 cl vv ra (i - ra) (cl i) + (vv i : Int))) by rw [Int.mul_add]; omega] at this
              exact this
            · obtain ⟨b', d1, d2, d3⟩ := hk1 j hj
              refine ⟨b', (po_usI_ne q).trans d1, d2, ?_⟩
              rw [if_neg (fun h9 => q h9.symm), Int.add_zero]
              exact d3
        refine w_crI (ch_43012.trans h2) rfl (by omega) q1 (w_ifF (rn_neg1 q2) (w_crI (ch_43012.trans h2) rfl (by omega) q1 (c2 rb ra z (by omega) (Nat.le_refl _) q4 hz (wk_cg hwk (fun j hj => ?_)))))
        rw [Nat.sub_self, show cur j - (cur j - (a : Int) * rs9 cl vv ra 0 j) = (a : Int) * 0 by show cur j - (cur j - (a : Int) * 0) = _; omega, Int.mul_zero]
        exact Int.dvd_zero _
  refine e_X1_reduce ?_
  refine u_X1_reduce_0 ?_; unfold dm_X1_reduce_0
  refine c1 w 0 y (M n) (by omega) fr_rf hk (fun j hj => absurd hj (Nat.not_lt_zero _)) (sp_q (fun j _ => ?_) sp_0)
  rw [show M n j - M n j - 0 = 0 by omega]
  exact Int.dvd_zero _
end XCJ4
end
section
/-! 99zzzzzzzzzzzzzzzzyzi.xchx -/
-- CHAIN: the class's eliminate, exactly
section XCJ5
variable {vl : Nat → Nat} {y : ow_MS} {W C : Nat}
theorem te_eliminate {o p c ci : Nat} {S : ow_NP} {G : Nat → Int32} {Ls : Nat → Nat → Nat} {ns : Nat → Nat} {dg : Int} {wf : Nat → Bool} (hv : vI vl W C) (hy : cAt y 44000 (c, ci, S, G)) (hvn : vn c S) (hc : c ≤ 8) (hwf : gaO c S wf) (hL : LpY y S G c Ls ns) (hly : LyY y c ns dg) (htb : tbP y) (ho : o < c + 1) (h10 : y.1 43010 = nI p) (hp : prT p) (hp2 : p ≤ 997) (hsz : ∀ h, smH (bkF ns dg) h 0 (2 ^ c) ≤ 1140 ∧ (h < 10 → smH (bkF ns dg) h 0 (2 ^ c) ≤ W)) {rel : (Nat → Bool) → Nat → Nat → Prop} (hC : cu9 c 2000 (fun g => g < 2 * c) (fun x => 2 * x) (fun x => S.2 (2 * x)) (fun x => S.2 (2 * x)) rel) (hLT : LT9 c (fun g => g < 2 * c) rel Ls ns) : Te (fun K => de_X1_eliminate K 43000 (nI o) vl y) (gQ vl (fun r => fr kpG y r.2.2 ∧ (∃ C', vI r.2.1 W C') ∧ r.1 = nI (rk9 p (sz9 c ns dg (o + 1)) (rwl9 (fun i => if y.2.1 43014 i = 0 then MT9 c (fun g => g < 2 * c) rel (fun x => 2 * x) (fun x => S.2 (2 * x)) Ls ns dg o i else fun _ => 0) (sz9 c ns dg o))) ∧ ∃ u cl vv d9, kx9 r.2.2 p (sz9 c ns dg (o + 1)) u cl vv d9 ∧ El9 p (sz9 c ns dg (o + 1)) (fun i => if y.2.1 43014 i = 0 then MT9 c (fun g => g < 2 * c) rel (fun x => 2 * x) (fun x => S.2 (2 * x)) Ls ns dg o i else fun _ => 0) (sz9 c ns dg o) d9)) := by
  have hp1 := hp.1
  generalize hM : (fun i => if y.2.1 43014 i = 0 then MT9 c (fun g => g < 2 * c) rel (fun x => 2 * x) (fun x => S.2 (2 * x)) Ls ns dg o i else fun _ => 0) = M
  have hM0 : ∀ i, y.2.1 43014 i = 0 → M i = MT9 c (fun g => g < 2 * c) rel (fun x => 2 * x) (fun x => S.2 (2 * x)) Ls ns dg o i := fun i hi => by
    rw [← hM]
    exact if_pos hi
  have hM1 : ∀ i, ¬ y.2.1 43014 i = 0 → M i = fun _ => 0 := fun i hi => by
    rw [← hM]
    exact if_neg hi
  generalize hw : sz9 c ns dg (o + 1) = w
  have hw' : smH (bkF ns dg) (o + 1) 0 (2 ^ c) = w := hw
  let Q : Int32 × (Nat → Nat) × ow_MS → Prop := fun r => fr kpG y r.2.2 ∧ (∃ C', vI r.2.1 W C') ∧ r.1 = nI (rk9 p w (rwl9 M (sz9 c ns dg o))) ∧ ∃ u cl vv d9, kx9 r.2.2 p w u cl vv d9 ∧ El9 p w M (sz9 c ns dg o) d9
  let ST : Nat → (Nat → Nat) → ow_MS → Prop := fun n v z => ∃ C' u cl vv d9, vI v W C' ∧ fr kpG y z ∧ rI z w u C' ∧ kx9 z p w u cl vv d9 ∧ El9 p w M n d9 ∧ ∀ j, j < w → z.2.1 43011 j = 0
  have hw1 : w ≤ 1140 := by rw [← hw']; exact (hsz _).1
  have hwW : w ≤ W := by rw [← hw']; exact (hsz _).2 (by omega)
  have h256 : 2 ^ c ≤ 256 := two_mono (b := 8) hc
  have c1 : ∀ (d s : Nat) (v : Nat → Nat) (z : ow_MS), s + d = 2 ^ c → ST (smH (bkF ns dg) o 0 s) v z → Tt (fun K k => d_X1_eliminate K k 1 (nI o) (nI w) (nI (rk9 p w (rwl9 M (smH (bkF ns dg) o 0 s)))) (nI s) 0 43000 v z) (gQ v Q) := by
    intro d
    induction d with
    | zero =>
      intro s v z hs hst
      obtain ⟨C', u, cl, vv, d9, hv', hz, hI, hx, hE, hz0⟩ := hst
      have hz4 : cAt z 44000 (c, ci, S, G) := cAt_fr hz (fun g hg h9 => by unfold cP at hg; unfold kpG at h9; omega) hy
      refine u_X1_eliminate_1 ?_; unfold dm_X1_eliminate_1
      refine w_rdF hz4.1 ?_
      rw [shl1 (by omega)]
      rw [show s = 2 ^ c by omega] at hE ⊢
      exact w_leT (a := 2 ^ c) (b := 2 ^ c) (by omega) (by omega) (w_some ⟨Nat.le_refl _, hz, ⟨C', hv'⟩, rfl, u, cl, vv, d9, hx, hE⟩)
    | succ d ih =>
      intro s v z hs hst
      have hst0 := hst
      obtain ⟨C', u, cl, vv, d9, hv', hz, hI, hx, hE, hz0⟩ := hst
      have hz4 : cAt z 44000 (c, ci, S, G) := cAt_fr hz (fun g hg h9 => by unfold cP at hg; unfold kpG at h9; omega) hy
      have hsc : s < 2 ^ c := by omega
      have hns := (hL s hsc).2
      have two9 : 2 ^ ns s ≤ 512 := two_mono (b := 9) hns
      have c4 : ∀ (n : Nat) (v : Nat → Nat) (z : ow_MS), n = smH (bkF ns dg) o 0 (s + 1) → ST n v z → Tt (fun K k => d_X1_eliminate K k 4 (nI o) (nI w) (nI (rk9 p w (rwl9 M n))) (nI s) 0 43000 v z) (gQ v Q) := by
        intro n v z hn hst
        refine u_X1_eliminate_4 ?_; unfold dm_X1_eliminate_4
        rw [nI_1]
        rw [hn] at hst ⊢
        exact ih (s + 1) v z (by omega) hst
      have fits : ∀ kp, kpF (ns s) (pc s) dg = some kp → pc s = o → ∀ (d2 m : Nat) (v : Nat → Nat) (z : ow_MS), m + d2 = 2 ^ ns s → ST (smH (bkF ns dg) o 0 s + cpN kp m) v z → Tt (fun K k => d_X1_eliminate K k 2 (nI o) (nI w) (nI (rk9 p w (rwl9 M (smH (bkF ns dg) o 0 s + cpN kp m)))) (nI s) (nI m) 43000 v z) (gQ v Q) := by
        intro kp hkp hpo d2
        induction d2 with
        | zero =>
          intro m v z hm hst
          have hst0 := hst
          obtain ⟨C', u, cl, vv, d9, hv', hz, hI, hx, hE, hz0⟩ := hst
          have e3 : z.2.1 43003 s = nI (ns s) := by
            rw [(hz 43003 (by unfold kpG; omega)).2.1]
            exact (hL s hsc).1.2.1
          refine u_X1_eliminate_2 ?_; unfold dm_X1_eliminate_2
          refine w_crI ch_43003 rfl (by omega) e3 ?_
          rw [shl1 (by omega)]
          refine w_leT (a := 2 ^ ns s) (b := m) (by omega) (by omega) (c4 _ v z ?_ hst0)
          rw [smH_s, if_pos hpo, show m = 2 ^ ns s by omega, cpN_bi _ _ (by omega)]
          unfold bkF
          rw [hkp]
        | succ d2 ih2 =>
          intro m v z hm hst
          have hst0 := hst
          obtain ⟨C', u, cl, vv, d9, hv', hz, hI, hx, hE, hz0⟩ := hst
          have e3 : z.2.1 43003 s = nI (ns s) := by
            rw [(hz 43003 (by unfold kpG; omega)).2.1]
            exact (hL s hsc).1.2.1
          have e7 : z.2.1 43007 s = nI kp := by
            rw [(hz 43007 (by unfold kpG; omega)).2.1, (hly.1 s hsc).1, hkp]
            rfl
          have e8 : z.2.1 43008 s = nI (smH (bkF ns dg) (pc s) 0 s) := by
            rw [(hz 43008 (by unfold kpG; omega)).2.1]
            exact (hly.1 s hsc).2
          have e5 : z.2.1 43005 m = nI (cpN (pc m) m) := by
            rw [(hz 43005 (by unfold kpG; omega)).2.1]
            exact htb m (by omega)
          have c3 : ∀ (n : Nat) (v : Nat → Nat) (z : ow_MS), n = smH (bkF ns dg) o 0 s + cpN kp (m + 1) → ST n v z → Tt (fun K k => d_X1_eliminate K k 3 (nI o) (nI w) (nI (rk9 p w (rwl9 M n))) (nI s) (nI m) 43000 v z) (gQ v Q) := by
            intro n v z hn hst
            refine u_X1_eliminate_3 ?_; unfold dm_X1_eliminate_3
            rw [nI_1]
            rw [hn] at hst ⊢
            exact ih2 (m + 1) v z (by omega) hst
          have cps : cpN kp (m + 1) = cpN kp m + if pc m = kp then 1 else 0 := rfl
          have hkp9 : kp ≤ ns s := kpF_le hkp
          have hpm : pc m ≤ ns s := pc_le (by omega)
          refine u_X1_eliminate_2 ?_; unfold dm_X1_eliminate_2
          refine w_crI ch_43003 rfl (by omega) e3 ?_
          rw [shl1 (by omega), bc_pc (show m < 4096 by omega)]
          refine w_leF (a := 2 ^ ns s) (b := m) (by omega) (by omega) (w_crI ch_43007 rfl (by omega) e7 (w_eqN (by omega) (by omega) (fun hpc => ?_) (fun hpc => c3 _ v z (by rw [cps, if_neg hpc]; rfl) hst0)))
          rw [if_pos hpc] at cps
          have hk2 : kpF (ns s) (pc s) dg = some (pc m) := by rw [hkp, hpc]
          have hix := ix_lt hsc hns (show m < 2 ^ ns s by omega) hk2
          rw [hpo] at hix
          have hoW := (hsz o).2 (by omega)
          have ho1 := (hsz o).1
          have hv2 := hv'
          obtain ⟨h1, h2, h3, h4, h5, h6, h7, h8, h9, h0⟩ := hv'
          refine w_crI ch_43008 rfl (by omega) e8 (w_crI ch_43005 rfl (by omega) e5 ?_)
          rw [nI_add]
          have e14 : z.2.1 43014 (smH (bkF ns dg) (pc s) 0 s + cpN (pc m) m) = y.2.1 43014 (smH (bkF ns dg) o 0 s + cpN kp m) := by
            rw [(hz 43014 (by unfold kpG; omega)).2.1, hpo, hpc]
          have hva : va9 c ns dg o s m := ⟨hsc, hpo, by omega, hk2⟩
          have hin : ix9 ns dg s m = smH (bkF ns dg) o 0 s + cpN kp m := by
            unfold ix9
            rw [hpo, hpc]
          refine w_crI (ch_43014.trans h4) rfl (show smH (bkF ns dg) (pc s) 0 s + cpN (pc m) m < W by rw [hpo]; omega) e14 (w_if (fun hcl => ?_) (fun hcl => ?_))
          · have ep : z.1 43010 = nI p := ((hz 43010 (by unfold kpG; omega)).1).trans h10
            have hz4 : cAt z 44000 (c, ci, S, G) := cAt_fr hz (fun g hg h9 => by unfold cP at hg; unfold kpG at h9; omega) hy
            have w0 : wk9 z p (sz9 c ns dg (pc s + 1)) (fun _ => 0) := fun j hj => by
              rw [hpo, hw] at hj
              exact ⟨0, hz0 j hj, by omega, Int.dvd_zero _⟩
            refine w_cs0 (te_writeImage (vl := v) (W := W) (p := p) (dg := dg) hz4 hvn hc hwf (LpY_fr hz (by unfold kpG; omega) hL) (LyY_fr hz (by unfold kpG; omega) hly) (tbP_fr hz (by unfold kpG; omega) htb) hsc (show m < 2 ^ ns s by omega) hk2 h1 (by omega) (by rw [hpo, hw']; exact hwW) ep hp1 hp2 hC hLT w0) ?_
            rintro z1 ⟨hz1, hk1⟩
            have hf1 : fr kpG y z1 := fr_tr hz (fr_mono (fun g hg => Or.inl hg) hz1)
            rw [hpo, hw] at hk1
            have hk3 : wk9 z1 p w (M (smH (bkF ns dg) o 0 s + cpN kp m)) := wk_cg hk1 (fun j hj => by
              rw [hM0 _ hcl, ← hin, MT_row hC hLT (by omega) hva (by rw [hw]; exact hj), Int.sub_self]
              exact Int.dvd_zero _)
            refine w_dc1 (te_reduce hv2 hw1 hwW (rI_fr hz1 (by omega) hI) (((hf1 43010 (by unfold kpG; omega)).1).trans h10) hp hp2 (kx_fr hz1 (by omega) hx) hE hk3) ?_
            rintro x v2 z2 ⟨r1, r2, C2, u2, cl2, vv2, d2', ρ, r3, r4, r5, r6, r7, r8, r9⟩
            dsimp only at r7
            rw [r7, nI_add, ← r8]
            exact w_chV r1 (c3 _ v2 z2 (by rw [cps]; rfl) ⟨C2, u2, cl2, vv2, d2', r3, fr_tr hf1 r2, r4, r5, r6, r9⟩)
          · have hz9 : sp9 p w (rwl9 d9 w) (M (smH (bkF ns dg) o 0 s + cpN kp m)) := by
              rw [hM1 _ hcl]
              exact sp_0
            obtain ⟨e1, e2⟩ := El_n hE hz9
            rw [← e2]
            exact c3 _ v z (by rw [cps]; rfl) ⟨C', u, cl, vv, d9, hv2, hz, hI, hx, e1, hz0⟩
      have e7 : z.2.1 43007 s = oM (kpF (ns s) (pc s) dg) := by
        rw [(hz 43007 (by unfold kpG; omega)).2.1]
        exact (hly.1 s hsc).1
      have hps := pc_le (c := c) hsc
      refine u_X1_eliminate_1 ?_; unfold dm_X1_eliminate_1
      refine w_rdF hz4.1 ?_
      rw [shl1 (by omega), bc_pc (show s < 4096 by omega)]
      refine w_leF (a := 2 ^ c) (b := s) (by omega) (by omega) (w_eqN (by omega) (by omega) (fun hpo => w_crI ch_43007 rfl (by omega) e7 ?_) (fun hpo => c4 _ v z (by rw [smH_s, if_neg hpo]; rfl) hst0))
      cases hkp : kpF (ns s) (pc s) dg with
      | none =>
        refine w_ifT rfl (c4 _ v z ?_ hst0)
        rw [smH_s, if_pos hpo]
        unfold bkF
        rw [hkp]
        rfl
      | some kp =>
        have hkp9 : kp ≤ ns s := kpF_le hkp
        exact w_ifF (rn_neg1 (by omega)) (fits kp hkp hpo (2 ^ ns s) 0 v z (by omega) hst0)
  have hv0 := hv
  obtain ⟨h1, h2, h3, h4, h5, h6, h7, h8, h9, h0⟩ := hv
  refine e_X1_eliminate ?_
  refine u_X1_eliminate_0 ?_; unfold dm_X1_eliminate_0
  rw [nI_1]
  refine w_crI ch_43009 rfl (by omega) ((hly.2 (o + 1) (by omega)).trans (by rw [hw'])) (w_wrF ?_)
  refine w_cs0 (tc_fill (a := 0) (b := w) (ch_43012.trans h2) (by omega) hwW (by omega)) ?_
  rintro z1 ⟨f1, f2⟩
  refine w_cs0 (tc_fill (a := 0) (b := w) (ch_43011.trans h1) (by omega) hwW (by omega)) ?_
  rintro z2 ⟨f3, f4⟩
  have g12 : ∀ k, k < w → z2.2.1 43012 k = -1 := fun k hk => by
    rw [(f4 43012 (by omega)).2.1, f1 k, if_pos (by omega)]
  refine c1 (2 ^ c) 0 vl z2 (by omega) ⟨C, 0, fun _ => 0, fun _ => 0, fun _ _ => 0, hv0, fr_tr (fr_tr (fr_F (by unfold kpG; omega)) (fr_mono (fun g hg => by unfold kpG; omega) f2)) (fr_mono (fun g hg => by unfold kpG; omega) f4), ⟨?_, Nat.zero_le _, Nat.zero_le _, fun k hk => Or.inl (g12 k hk), fun i hi => absurd hi (Nat.not_lt_zero _)⟩, ⟨fun i hi => absurd hi (Nat.not_lt_zero _), fun k hk => Or.inl ⟨g12 k hk, fun j _ => Int.dvd_zero _⟩⟩, El_0, fun j hj => ?_⟩
  · rw [(f4 43017 (by omega)).1, (f2 43017 (by omega)).1]
    exact po_usF_at
  · rw [f3 j, if_pos (by omega)]
end XCJ5
end
section
/-! 99zzzzzzzzzzzzzzzzyzj.xchy -/
-- CHAIN: the ranks of one degree (made by tools/mkchy.py out of clay)
def bf9 (R : Nat → Nat) : Nat → Nat
  | 0 => 0
  | o + 1 => R o
section XCJ6
variable {vl : Nat → Nat} {y : ow_MS} {W C : Nat}
theorem te_lay6 {d c : Nat} {ns : Nat → Nat} (hsz : ∀ h, smH (bkF ns (dgI d)) h 0 (2 ^ c) ≤ 1140) : ∀ (e i : Nat) (v : Nat → Nat) (z : ow_MS) (W' : Nat), i + e = 10 → vI v W' C → (∀ h, h < i → smH (bkF ns (dgI d)) h 0 (2 ^ c) ≤ W') → fr lyG y z → LyY z c ns (dgI d) → Tt (fun K k => d_X1_layOut K k 6 (nI d - 10) (nI i) 0 0 0 43000 0 0 0 v z) (gQ v (fun r => fr lyG y r.2.2 ∧ LyY r.2.2 c ns (dgI d) ∧ ∃ W', vI r.2.1 W' C ∧ (∀ h, h < 10 → smH (bkF ns (dgI d)) h 0 (2 ^ c) ≤ W') ∧ ∀ i, i < W' → r.2.2.2.1 43014 i = 0)) := by
  intro e
  induction e with
  | zero =>
    intro i v z W' hi hv' hle hz hly
    have hv2 := hv'
    obtain ⟨h1, h2, h3, h4, h5, h6, h7, h8, h9, h0⟩ := hv'
    refine u_X1_layOut_6 ?_; unfold dm_X1_layOut_6
    rw [show uw_len (cX v) z (43000 + 9) = 10 from rfl]
    refine w_leT (a := 10) (b := i) (by omega) (by omega) (w_cs0 (tc_fillA (ch_43014.trans h4) (by omega)) ?_)
    rintro z1 ⟨f1, f2⟩
    exact w_some ⟨Nat.le_refl _, fr_tr hz (fr_mono (fun g hg => by unfold lyG; omega) f2), LyY_fr f2 (by omega) hly, W', hv2, fun h hh => hle h (by omega), fun i hi => f1 i hi⟩
  | succ e ih =>
    intro i v z W' hi hv' hle hz hly
    refine u_X1_layOut_6 ?_; unfold dm_X1_layOut_6
    rw [show uw_len (cX v) z (43000 + 9) = 10 from rfl]
    refine w_leF (a := 10) (b := i) (by omega) (by omega) (w_crI ch_43009 rfl (by omega) (hly.2 i (by omega)) (w_dc1 (tc_makeRoom hv' (hsz i)) ?_))
    rintro x v1 z1 ⟨r1, r2, W2, r3, r4, r5⟩
    refine w_chV r1 ?_
    rw [nI_1]
    refine ih (i + 1) v1 z1 W2 (by omega) r3 (fun h hh => ?_) (fr_tr hz (fr_mono (fun g hg => by unfold lyG; omega) r2)) (LyY_fr r2 (by omega) hly)
    rcases Nat.lt_or_ge h i with h9 | h9
    · exact Nat.le_trans (hle h h9) r4
    · rw [show h = i by omega]
      exact r5
theorem te_layOut {d c ci : Nat} {S : ow_NP} {G : Nat → Int32} {Ls : Nat → Nat → Nat} {ns : Nat → Nat} (hv : vI vl W C) (hy : cAt y 44000 (c, ci, S, G)) (hc : c ≤ 8) (hd : d < 29) (hL : LpY y S G c Ls ns) (hch : chP y) (hsz : ∀ h, smH (bkF ns (dgI d)) h 0 (2 ^ c) ≤ 1140) : Te (fun K => de_X1_layOut K 43000 (nI d - 10) vl y) (gQ vl (fun r => fr lyG y r.2.2 ∧ LyY r.2.2 c ns (dgI d) ∧ ∃ W', vI r.2.1 W' C ∧ (∀ h, h < 10 → smH (bkF ns (dgI d)) h 0 (2 ^ c) ≤ W') ∧ ∀ i, i < W' → r.2.2.2.1 43014 i = 0)) := by
  let Q : Unit × (Nat → Nat) × ow_MS → Prop := fun r => fr lyG y r.2.2 ∧ LyY r.2.2 c ns (dgI d) ∧ ∃ W', vI r.2.1 W' C ∧ (∀ h, h < 10 → smH (bkF ns (dgI d)) h 0 (2 ^ c) ≤ W') ∧ ∀ i, i < W' → r.2.2.2.1 43014 i = 0
  have h256 : 2 ^ c ≤ 256 := two_mono (b := 8) hc
  have c6 := te_lay6 (y := y) (C := C) hsz
  have c1 : ∀ (e s : Nat) (z : ow_MS), s + e = 2 ^ c → fr lyG y z → lyA z ns (dgI d) s → Tt (fun K k => d_X1_layOut K k 1 (nI d - 10) (nI s) 0 0 0 43000 0 0 0 vl z) (gQ vl Q) := by
    intro e
    induction e with
    | zero =>
      intro s z hs hz hA
      have hz4 : cAt z 44000 (c, ci, S, G) := cAt_fr hz (fun g hg h9 => by unfold cP at hg; unfold lyG at h9; omega) hy
      refine u_X1_layOut_1 ?_; unfold dm_X1_layOut_1
      refine w_rdF hz4.1 ?_
      rw [shl1 (by omega)]
      refine w_leT (a := 2 ^ c) (b := s) (by omega) (by omega) (c6 10 0 vl z W rfl hv (fun h hh => absurd hh (Nat.not_lt_zero _)) hz ?_)
      rw [show s = 2 ^ c by omega] at hA
      exact hA
    | succ e ih =>
      intro s z hs hz hA
      have hz4 : cAt z 44000 (c, ci, S, G) := cAt_fr hz (fun g hg h9 => by unfold cP at hg; unfold lyG at h9; omega) hy
      have hsc : s < 2 ^ c := by omega
      have hns := (hL s hsc).2
      have hps := pc_le (c := c) hsc
      have e3 : ∀ z1, fr lyG y z1 → z1.2.1 43003 s = nI (ns s) := fun z1 h1 => by
        rw [(h1 43003 (by unfold lyG; omega)).2.1]
        exact (hL s hsc).1.2.1
      generalize ht : nI (ns s) + (nI d - 10) - nI (pc s) = t
      -- the end of a state
      have c5 : ∀ (x5 : Int32) (b : Nat) (z1 : ow_MS), fr lyG y z1 → b = bkF ns (dgI d) s → (∀ t, t < s + 1 → z1.2.1 43007 t = oM (kpF (ns t) (pc t) (dgI d)) ∧ z1.2.1 43008 t = nI (smH (bkF ns (dgI d)) (pc t) 0 t)) → (∀ h, h < 10 → z1.2.1 43009 h = nI (smH (bkF ns (dgI d)) h 0 s)) → Tt (fun K k => d_X1_layOut K k 5 (nI d - 10) (nI s) (nI (pc s)) t x5 43000 (nI b) (nI (smH (bkF ns (dgI d)) (pc s) 0 s)) (nI (pc s)) vl z1) (gQ vl Q) := by
        intro x5 b z1 hz1 hb g1 g2
        refine u_X1_layOut_5 ?_; unfold dm_X1_layOut_5
        rw [nI_add, nI_1]
        exact w_ctI ch_43009 rfl (by omega) (ih (s + 1) _ (by omega) (fr_I2 hz1 lyG9) (lyA_st hb g1 g2))
      have c4 : ∀ (x5 t0 : Int32), t0 = oM (kpF (ns s) (pc s) (dgI d)) → (kpF (ns s) (pc s) (dgI d) = none ∧ x5 = 0 ∨ ∃ k, kpF (ns s) (pc s) (dgI d) = some k ∧ x5 = 1 ∧ t / 2 = nI k) → Tt (fun K k => d_X1_layOut K k 4 (nI d - 10) (nI s) (nI (pc s)) t x5 43000 t0 (nI s) 0 vl z) (gQ vl Q) := by
        intro x5 t0 h0 hk
        refine u_X1_layOut_4 ?_; unfold dm_X1_layOut_4
        have g9 : z.2.1 43009 (pc s) = nI (smH (bkF ns (dgI d)) (pc s) 0 s) := hA.2 _ (by omega)
        refine w_ctI ch_43007 rfl (by omega) (w_crI ch_43009 rfl (show pc s < 10 by omega) (rd_ot (by omega) g9) (w_ctI ch_43008 rfl (by omega) (w_crI ch_43009 rfl (show pc s < 10 by omega) (rd_ot (by omega) (rd_ot (by omega) g9)) ?_)))
        have hf : fr lyG y (usI (usI z (43000 + 7) s t0) (43000 + 8) s (nI (smH (bkF ns (dgI d)) (pc s) 0 s))) := fr_I2 (fr_I2 hz lyG7) lyG8
        obtain ⟨k1, k2⟩ := lyA_pr h0 hA
        rcases hk with ⟨hn, rfl⟩ | ⟨k, hk, rfl, hk2⟩
        · refine w_ifT rfl (c5 0 0 _ hf ?_ k1 k2)
          unfold bkF
          rw [hn]
        · have hkn := kpF_le hk
          refine w_ifF (by decide) (w_crI ch_43003 rfl (by omega) (e3 _ hf) (w_crX rfl (show ns s < 11 by omega) (w_nzI (by decide) ?_)))
          rw [hk2]
          refine w_crI (ch_450 (show ns s < 11 by omega)) rfl (show k < 11 by omega) ?_ (c5 1 (biN (ns s) k) _ hf ?_ k1 k2)
          · show (usI (usI z (43000 + 7) s t0) (43000 + 8) s (nI (smH (bkF ns (dgI d)) (pc s) 0 s))).2.1 (45001 + ns s) k = _
            rw [(hf (45001 + ns s) (by unfold lyG; omega)).2.1]
            exact hch (ns s) k (by omega) hkn
          · unfold bkF
            rw [hk]
      have c3a : kpF (ns s) (pc s) (dgI d) = none → Tt (fun K k => d_X1_layOut K k 3 (nI d - 10) (nI s) (nI (pc s)) t 0 43000 0 0 0 vl z) (gQ vl Q) := by
        intro hn
        refine u_X1_layOut_3 ?_; unfold dm_X1_layOut_3
        exact w_ifT rfl (c4 0 (-1) (by rw [hn]; rfl) (Or.inl ⟨hn, rfl⟩))
      have c2 : kpF (ns s) (pc s) (dgI d) = none → Tt (fun K k => d_X1_layOut K k 2 (nI d - 10) (nI s) (nI (pc s)) t 0 43000 0 0 0 vl z) (gQ vl Q) := by
        intro hn
        refine u_X1_layOut_2 ?_; unfold dm_X1_layOut_2
        exact c3a hn
      refine u_X1_layOut_1 ?_; unfold dm_X1_layOut_1
      refine w_rdF hz4.1 ?_
      rw [shl1 (by omega), bc_pc (show s < 4096 by omega)]
      refine w_leF (a := 2 ^ c) (b := s) (by omega) (by omega) (w_crI ch_43003 rfl (by omega) (e3 z hz) ?_)
      rw [ht]
      cases hk : kpF (ns s) (pc s) (dgI d) with
      | none =>
        have h9 := lk_A ⟨ns s, by omega⟩ ⟨pc s, by omega⟩ ⟨d, hd⟩ hk
        dsimp only at h9
        rw [ht] at h9
        refine w_if (fun a1 => w_if (fun _ => c2 hk) (fun a2 => w_crI ch_43003 rfl (by omega) (e3 z hz) (w_ifT ?_ (c2 hk)))) (fun _ => c2 hk)
        rcases h9 with h9 | h9 | h9
        · exact absurd a1 h9
        · exact absurd h9 a2
        · exact h9
      | some k =>
        have hkn := kpF_le hk
        obtain ⟨b1, b2, b3, b4⟩ := lk_B ⟨ns s, by omega⟩ ⟨pc s, by omega⟩ ⟨d, hd⟩ ⟨k, by omega⟩ hk
        dsimp only at b1 b2 b3 b4
        rw [ht] at b1 b2 b3 b4
        refine w_ifT b1 (w_ifF b2 (w_crI ch_43003 rfl (by omega) (e3 z hz) (w_ifF b3 ?_)))
        refine u_X1_layOut_3 ?_; unfold dm_X1_layOut_3
        refine w_ifF (by decide) (w_nzI (by decide) (c4 1 (t / 2) ?_ (Or.inr ⟨k, hk, rfl, b4⟩)))
        rw [hk, b4]
        rfl
  refine e_X1_layOut ?_
  refine u_X1_layOut_0 ?_; unfold dm_X1_layOut_0
  refine w_cs0 (tc_fillA (l := 10) rfl (by omega)) ?_
  rintro z1 ⟨f1, f2⟩
  exact c1 (2 ^ c) 0 z1 (by omega) (fr_mono (fun g hg => by unfold lyG; omega) f2) ⟨fun t ht => absurd ht (Nat.not_lt_zero _), fun h hh => f1 h hh⟩
theorem rk_w0 {p : Int} (d : Nat → vc9) : ∀ n, rk9 p 0 (rwl9 d n) = 0
  | 0 => rfl
  | n + 1 => (rk_y (sp_q (fun i hi => absurd hi (Nat.not_lt_zero _)) sp_0)).trans (rk_w0 d n)
theorem te_rankDegree {d p c ci : Nat} {S : ow_NP} {G : Nat → Int32} {Ls : Nat → Nat → Nat} {ns : Nat → Nat} {wf : Nat → Bool} (hv : vI vl W C) (hy : cAt y 44000 (c, ci, S, G)) (hvn : vn c S) (hc : c ≤ 8) (hd : d < 29) (hwf : gaO c S wf) (hL : LpY y S G c Ls ns) (htb : tbP y) (hch : chP y) (h10 : y.1 43010 = nI p) (hp : prT p) (hp2 : p ≤ 997) (hsz : ∀ h, smH (bkF ns (dgI d)) h 0 (2 ^ c) ≤ 1140) {rel : (Nat → Bool) → Nat → Nat → Prop} (hC : cu9 c 2000 (fun g => g < 2 * c) (fun x => 2 * x) (fun x => S.2 (2 * x)) (fun x => S.2 (2 * x)) rel) (hLT : LT9 c (fun g => g < 2 * c) rel Ls ns) {RK : Nat → Nat} (hRK : ∀ h, RK h = RK9 p c (fun g => g < 2 * c) rel (fun x => 2 * x) (fun x => S.2 (2 * x)) Ls ns (dgI d) h) : Te (fun K => de_X1_rankDegree K 43000 (nI d - 10) vl y) (gQ vl (fun r => fr rkG y r.2.2 ∧ (∃ W' C', vI r.2.1 W' C') ∧ (∀ o, o ≤ c → r.2.2.2.1 43018 (56 * o + d + 10) = nI (sz9 c ns (dgI d) o) - nI (RK o) - nI (bf9 RK o)) ∧ ∀ i, (∀ o, o ≤ c → i ≠ 56 * o + d + 10) → r.2.2.2.1 43018 i = y.2.1 43018 i)) := by
  have hp1 := hp.1
  have hpr := prp_of hp
  have hiv := iv_of hp
  let Q : Unit × (Nat → Nat) × ow_MS → Prop := fun r => fr rkG y r.2.2 ∧ (∃ W' C', vI r.2.1 W' C') ∧ (∀ o, o ≤ c → r.2.2.2.1 43018 (56 * o + d + 10) = nI (sz9 c ns (dgI d) o) - nI (RK o) - nI (bf9 RK o)) ∧ ∀ i, (∀ o, o ≤ c → i ≠ 56 * o + d + 10) → r.2.2.2.1 43018 i = y.2.1 43018 i
  generalize hMT : MT9 c (fun g => g < 2 * c) rel (fun x => 2 * x) (fun x => S.2 (2 * x)) Ls ns (dgI d) = MT
  have hRK2 : ∀ h, RK h = rk9 p (sz9 c ns (dgI d) (h + 1)) (rwl9 (MT h) (sz9 c ns (dgI d) h)) := fun h => by
    rw [hRK h, ← hMT]
    rfl
  -- what a row that is left out is made of
  let GD : Nat → Nat → Prop := fun o i => ∃ a : vc9, zq9 p (sz9 c ns (dgI d) (o + 1)) (MT o i) (fun j => sN9 (fun k => if i < k then a k * MT o k j else 0) (sz9 c ns (dgI d) o))
  let TB : Nat → ow_MS → Prop := fun o z => (∀ o', o' < o → z.2.1 43018 (56 * o' + d + 10) = nI (sz9 c ns (dgI d) o') - nI (RK o') - nI (bf9 RK o')) ∧ ∀ i, (∀ o, o ≤ c → i ≠ 56 * o + d + 10) → z.2.1 43018 i = y.2.1 43018 i
  have TB_ot : ∀ o z z1 (P : Nat → Prop), fr P z z1 → ¬ P 43018 → TB o z → TB o z1 := fun o z z1 P hf hP h => by
    have e : z1.2.1 43018 = z.2.1 43018 := (hf 43018 hP).2.1
    exact ⟨fun o' ho' => by rw [e]; exact h.1 o' ho', fun i hi => by rw [e]; exact h.2 i hi⟩
  have c1 : ∀ (W' : Nat), (∀ h, h < 10 → smH (bkF ns (dgI d)) h 0 (2 ^ c) ≤ W') → ∀ (e o : Nat) (v : Nat → Nat) (z : ow_MS) (C' : Nat), o + e = c + 1 → vI v W' C' → fr rkG y z → LyY z c ns (dgI d) → TB o z → (∀ i, i < sz9 c ns (dgI d) o → ¬ z.2.1 43014 i = 0 → GD o i) → Tt (fun K k => d_X1_rankDegree K k 1 (nI d - 10) (nI (bf9 RK o)) (nI o) 0 0 43000 0 0 v z) (gQ v Q) := by
    intro W' hle e
    induction e with
    | zero =>
      intro o v z C' ho hv' hz hly htb9 hcl
      have hz4 : cAt z 44000 (c, ci, S, G) := cAt_fr hz (fun g hg h9 => by unfold cP at hg; unfold rkG lyG kpG at h9; omega) hy
      refine u_X1_rankDegree_1 ?_; unfold dm_X1_rankDegree_1
      exact w_rdF hz4.1 (w_ltT (a := c) (b := o) (by omega) (by omega) (w_some ⟨Nat.le_refl _, hz, ⟨W', C', hv'⟩, fun o' ho' => htb9.1 o' (by omega), htb9.2⟩))
    | succ e ih =>
      intro o v z C' ho hv' hz hly htb9 hcl
      have hz4 : cAt z 44000 (c, ci, S, G) := cAt_fr hz (fun g hg h9 => by unfold cP at hg; unfold rkG lyG kpG at h9; omega) hy
      generalize hw : sz9 c ns (dgI d) (o + 1) = w
      have hw' : smH (bkF ns (dgI d)) (o + 1) 0 (2 ^ c) = w := hw
      have hw1 : w ≤ 1140 := by rw [← hw']; exact hsz _
      have hwW : w ≤ W' := by rw [← hw']; exact hle _ (by omega)
      have c3 : ∀ (e2 i : Nat) (v : Nat → Nat) (z : ow_MS) (C' : Nat), i + e2 = w → vI v W' C' → fr rkG y z → LyY z c ns (dgI d) → TB (o + 1) z → (∀ j, j < w → RK o ≠ 0 → ¬ z.2.1 43012 j = -1 → GD (o + 1) j) → (∀ j, j < i → ¬ z.2.1 43014 j = 0 → GD (o + 1) j) → Tt (fun K k => d_X1_rankDegree K k 3 (nI d - 10) (nI (RK o)) (nI o) (nI (RK o)) (nI i) 43000 0 0 v z) (gQ v Q) := by
        intro e2
        induction e2 with
        | zero =>
          intro i v z C' hi hv' hz hly ht9 hkx hdn
          refine u_X1_rankDegree_3 ?_; unfold dm_X1_rankDegree_3
          rw [nI_1]
          exact w_crI ch_43009 rfl (by omega) ((hly.2 (o + 1) (by omega)).trans (by rw [hw'])) (w_leT (a := w) (b := i) (by omega) (by omega) (ih (o + 1) v z C' (by omega) hv' hz hly ht9 (fun j hj h9 => hdn j (by rw [hw] at hj; omega) h9)))
        | succ e2 ih2 =>
          intro i v z C' hi hv' hz hly ht9 hkx hdn
          have hv2 := hv'
          obtain ⟨h1, h2, h3, h4, h5, h6, h7, h8, h9, h0⟩ := hv'
          have c5 : ∀ t0 : Int32, (¬ t0 = 0 → GD (o + 1) i) → Tt (fun K k => d_X1_rankDegree K k 5 (nI d - 10) (nI (RK o)) (nI o) (nI (RK o)) (nI i) 43000 t0 (nI i) v z) (gQ v Q) := by
            intro t0 hgd
            refine u_X1_rankDegree_5 ?_; unfold dm_X1_rankDegree_5
            rw [nI_1]
            refine w_ctI (ch_43014.trans h4) rfl (by omega) (ih2 (i + 1) v _ C' (by omega) hv2 (fr_I2 hz (by unfold rkG lyG; omega)) (LyY_fr (fr_I (P := fun g => g = 43014) rfl) (by omega) hly) (TB_ot _ _ _ _ (fr_I (P := fun g => g = 43014) rfl) (by omega) ht9) (fun j hj h8 h9 => hkx j hj h8 (fun h7 => h9 (rd_ot (by omega) h7))) (fun j hj h9 => ?_))
            by_cases q : j = i
            · rw [q]
              refine hgd (fun h8 => h9 ?_)
              rw [q, h8]
              exact po_usI_at
            · exact hdn j (by omega) (fun h8 => h9 ((po_usI_ne q).trans h8))
          have c4 : Tt (fun K k => d_X1_rankDegree K k 4 (nI d - 10) (nI (RK o)) (nI o) (nI (RK o)) (nI i) 43000 (nI i) 0 v z) (gQ v Q) := by
            refine u_X1_rankDegree_4 ?_; unfold dm_X1_rankDegree_4
            exact c5 0 (fun h9 => absurd rfl h9)
          have r31 : RK o < 2 ^ 31 := by
            rw [hRK2 o]
            have : ∀ n, rk9 (p : Int) (sz9 c ns (dgI d) (o + 1)) (rwl9 (MT o) n) ≤ n := by
              intro n
              induction n with
              | zero => exact Nat.le_refl 0
              | succ n ihn =>
                show rk9 (p : Int) (sz9 c ns (dgI d) (o + 1)) (rwl9 (MT o) n) + _ ≤ n + 1
                by_cases q : sp9 p (sz9 c ns (dgI d) (o + 1)) (rwl9 (MT o) n) (MT o n)
                · rw [if_pos q]
                  omega
                · rw [if_neg q]
                  omega
            have h9 := this (sz9 c ns (dgI d) o)
            have h8 : sz9 c ns (dgI d) o ≤ 1140 := hsz o
            omega
          refine u_X1_rankDegree_3 ?_; unfold dm_X1_rankDegree_3
          rw [nI_1]
          refine w_crI ch_43009 rfl (by omega) ((hly.2 (o + 1) (by omega)).trans (by rw [hw'])) (w_leF (a := w) (b := i) (by omega) (by omega) (w_le (a := RK o) (b := 0) r31 (by omega) (fun _ => c4) (fun hr0 => w_crI (ch_43012.trans h2) rfl (by omega) rfl (w_if (fun _ => c4) (fun h12 => c5 1 (fun _ => hkx i (by omega) (by omega) h12))))))
      have c2 : ∀ (v : Nat → Nat) (z : ow_MS) (C' : Nat), vI v W' C' → fr rkG y z → LyY z c ns (dgI d) → TB o z → (∀ j, j < w → RK o ≠ 0 → ¬ z.2.1 43012 j = -1 → GD (o + 1) j) → Tt (fun K k => d_X1_rankDegree K k 2 (nI d - 10) (nI (bf9 RK o)) (nI o) (nI (RK o)) 0 43000 0 0 v z) (gQ v Q) := by
        intro v z C' hv' hz hly ht9 hkx
        refine u_X1_rankDegree_2 ?_; unfold dm_X1_rankDegree_2
        rw [ix_56 ⟨o, by omega⟩ ⟨d, hd⟩]
        refine w_crI ch_43009 rfl (by omega) (hly.2 o (by omega)) (w_ctI ch_43018 rfl (by dsimp only; omega) (c3 w 0 v _ C' (by omega) hv' (fr_I2 hz (by unfold rkG; omega)) (LyY_fr (fr_I (P := fun g => g = 43018) rfl) (by omega) hly) ⟨fun o' ho' => ?_, fun i hi => ?_⟩ (fun j hj h8 h9 => hkx j hj h8 (fun h7 => h9 (rd_ot (by omega) h7))) (fun j hj => absurd hj (Nat.not_lt_zero _))))
        · by_cases q : o' = o
          · rw [q]
            exact po_usI_at
          · exact (po_usI_ne (by dsimp only; omega)).trans (ht9.1 o' (by omega))
        · exact (po_usI_ne (hi o (by omega))).trans (ht9.2 i hi)
      have ep : z.1 43010 = nI p := ((hz 43010 (by unfold rkG lyG kpG; omega)).1).trans h10
      have so : sz9 c ns (dgI d) o ≤ 1140 := hsz o
      have triv : RK o = 0 → Tt (fun K k => d_X1_rankDegree K k 2 (nI d - 10) (nI (bf9 RK o)) (nI o) 0 0 43000 0 0 v z) (gQ v Q) := fun h9 => by
        have q := c2 v z C' hv' hz hly htb9 (fun j _ h8 => absurd h9 h8)
        rw [h9] at q
        exact q
      refine u_X1_rankDegree_1 ?_; unfold dm_X1_rankDegree_1
      rw [nI_1]
      refine w_rdF hz4.1 (w_ltF (a := c) (b := o) (by omega) (by omega) (w_crI ch_43009 rfl (by omega) (hly.2 o (by omega)) (w_le (a := sz9 c ns (dgI d) o) (b := 0) (by omega) (by omega) (fun h9 => triv ?_) (fun _ => w_crI ch_43009 rfl (by omega) (hly.2 (o + 1) (by omega)) (w_le (a := sz9 c ns (dgI d) (o + 1)) (b := 0) (by rw [hw]; omega) (by omega) (fun h9 => triv ?_) (fun _ => ?_))))))
      · rw [hRK2 o, show sz9 c ns (dgI d) o = 0 by omega]
        rfl
      · rw [hRK2 o, show sz9 c ns (dgI d) (o + 1) = 0 by omega]
        exact rk_w0 _ _
      refine w_dc1 (te_eliminate hv' hz4 hvn hc hwf (LpY_fr hz (by unfold rkG lyG kpG; omega) hL) hly (tbP_fr hz (by unfold rkG lyG kpG; omega) htb) (by omega) ep hp hp2 (fun h => ⟨hsz h, hle h⟩) hC hLT) ?_
      rintro x v1 z1 ⟨r1, r2, ⟨C2, r3⟩, r4, u, cl, vv, d9, r5, r6⟩
      dsimp only at r4
      rw [hMT, hw] at r4 r6
      rw [hw] at r5
      have er : rk9 (p : Int) w (rwl9 (fun i => if z.2.1 43014 i = 0 then MT o i else fun _ => 0) (sz9 c ns (dgI d) o)) = RK o := by
        rw [hRK2 o, hw]
        refine rk_cl hpr hiv (fun i => ¬ z.2.1 43014 i = 0) (fun i _ hi => if_pos (Classical.not_not.mp hi)) (fun i _ hi => if_neg hi) (fun i hi h9 => ?_)
        have := hcl i hi h9
        rw [← hw]
        exact this
      rw [r4, er]
      refine w_chV r1 (c2 v1 z1 C2 r3 (fr_tr hz (fr_mono (fun g hg => Or.inr (Or.inl hg)) r2)) (LyY_fr r2 (by unfold kpG; omega) hly) (TB_ot _ _ _ _ r2 (by unfold kpG; omega) htb9) (fun j hj _ h12 => ?_))
      rcases r5.2 j hj with ⟨q1, -⟩ | ⟨ra, rb, q1, q2, q3, q4, q5, q6, q7⟩
      · exact absurd q1 h12
      · have sp1 : sp9 p w (rwl9 (MT o) (sz9 c ns (dgI d) o)) (d9 j) := by
          have s1 : sp9 p w (rwl9 (fun i => if z.2.1 43014 i = 0 then MT o i else fun _ => 0) (sz9 c ns (dgI d) o)) (d9 j) := (r6.2 _).mpr (sp_in (rwl_in hj))
          refine sp_tr s1 (fun q hq => ?_)
          obtain ⟨k, k1, k2⟩ := rwl_mem hq
          rw [k2]
          by_cases cq : z.2.1 43014 k = 0
          · rw [if_pos cq]
            exact sp_in (rwl_in k1)
          · rw [if_neg cq]
            exact sp_0
        have nd : ¬ (p : Int) ∣ d9 j j := fun h9 => by
          have := Int.dvd_sub h9 q7
          rw [show d9 j j - (d9 j j - 1) = 1 by omega] at this
          have := Int.le_of_dvd (by omega) this
          omega
        have := MT_cl (h := o) (dg := dgI d) hpr hiv hC hLT (by omega) (w := d9 j) (g := j) (by rw [hw]; exact hj) (by rw [hw, hMT]; exact sp1) (r6.1 j hj).1 nd
        rw [hMT] at this
        exact this
  refine e_X1_rankDegree ?_
  refine u_X1_rankDegree_0 ?_; unfold dm_X1_rankDegree_0
  refine w_dc1 (te_layOut hv hy hc hd hL hch hsz) ?_
  rintro x v1 z1 ⟨r1, r2, r3, W2, r4, r5, r6⟩
  have e18 : z1.2.1 43018 = y.2.1 43018 := (r2 43018 (by unfold lyG; omega)).2.1
  refine w_chV r1 (c1 W2 r5 (c + 1) 0 v1 z1 C (by omega) r4 (fr_mono (fun g hg => Or.inl hg) r2) r3 ⟨fun o' ho' => absurd ho' (Nat.not_lt_zero _), fun i _ => by rw [e18]⟩ (fun i hi h9 => absurd (r6 i (Nat.lt_of_lt_of_le hi (r5 0 (by omega)))) h9))
end XCJ6
end
section
/-! 99zzzzzzzzzzzzzzzzyzk.xchz -/
-- CHAIN: circles, and the class's own labels
def cirF : Nat → (Int → Int) → Int → Int
  | 0, F, d => F d
  | j + 1, F, d => cirF j F (d - 1) + cirF j F (d + 1)
def gS9 (A : rn_L) (i g : Nat) : Prop := (∃ p, p ∈ A.flatten ∧ g = gV9 p) ∨ ∃ j, j < i ∧ A[j]? = some [] ∧ g = 1000 + j
noncomputable def cb9 (A : rn_L) : Nat → Nat
  | 0 => 0
  | i + 1 => cb9 A i + @ite _ (A[i]? = some []) (Classical.propDecidable _) 1 0
section XCJ7
variable {A : rn_L} {sg : Nat → Bool} {nm f : Nat → Nat} {c k r : Nat} {p b : Int} {T : ow_NT} {w : vT → Bool}
theorem gS_all (g : Nat) : gS9 A A.length g ↔ gG9 A g := by
  constructor
  · rintro (h | ⟨j, a, e, h⟩)
    · exact Or.inl h
    · exact Or.inr ⟨j, a, e, h⟩
  · rintro (h | ⟨j, a, e, h⟩)
    · exact Or.inl h
    · exact Or.inr ⟨j, a, e, h⟩
theorem cb_all : cb9 A A.length = cirs A := by
  have key : ∀ i, i ≤ A.length → cb9 A i = cirs (A.take i) := by
    intro i
    induction i with
    | zero => exact fun _ => rfl
    | succ i ih =>
      intro hi
      show cb9 A i + @ite _ (A[i]? = some []) (Classical.propDecidable _) 1 0 = _
      rw [ih (by omega)]
      unfold cirs
      rw [List.take_succ, List.countP_append]
      cases e : A[i]? with
      | none =>
        have := List.getElem?_eq_none_iff.mp e
        omega
      | some x =>
        cases x with
        | nil =>
          rw [if_pos rfl]
          rfl
        | cons a l =>
          rw [if_neg (fun h => by cases h)]
          rfl
  have := key A.length (Nat.le_refl _)
  rw [List.take_length] at this
  exact this
theorem cu_S (hb : bdA A) (hO : nmO A nm c) (hC : cuL9 A sg nm c) (i : Nat) (hi : i ≤ A.length) : cu9 c 2000 (gS9 A i) (fun y => gV9 (nm y, 0)) (fun y => gV9 (prA9 A (nm y, 0))) (fun y => gV9 (prA9 A (nm y, 0))) (relL9 A sg nm c) := by
  refine ⟨hC.1, fun s _ g h h9 hne => ?_, fun g hg => ?_, fun x hx => ?_⟩
  · rcases relL_out hb.1 hO h9 with e | ⟨a, b⟩
    · exact absurd e hne
    · exact ⟨Or.inl a, Or.inl b⟩
  · rcases hg with ⟨q, q1, q2⟩ | ⟨j, j1, j2, j3⟩
    · have := gV_lt hb q1
      omega
    · have := hb.2.2
      omega
  · have m := (hO.1 x hx).1
    exact ⟨Or.inl ⟨_, m, rfl⟩, Or.inl ⟨_, prA_in hb.1 m, rfl⟩, Or.inl ⟨_, prA_in hb.1 m, rfl⟩⟩
theorem be_S (hp : pr9 p) (hi : iv9 p) (hb : bdA A) (hO : nmO A nm c) (hC : cuL9 A sg nm c) {F : Int → Int} (h0 : ∀ d, be9 p (Sg9 c 2000 (gS9 A 0) (relL9 A sg nm c) k d) (D9 (fun y => gV9 (nm y, 0)) (fun y => gV9 (prA9 A (nm y, 0))) (fun y => gV9 (prA9 A (nm y, 0))) (relL9 A sg nm c) c) r (F d)) : ∀ i, i ≤ A.length → ∀ d, be9 p (Sg9 c 2000 (gS9 A i) (relL9 A sg nm c) k d) (D9 (fun y => gV9 (nm y, 0)) (fun y => gV9 (prA9 A (nm y, 0))) (fun y => gV9 (prA9 A (nm y, 0))) (relL9 A sg nm c) c) r (cirF (cb9 A i) F d) := by
  intro i
  induction i with
  | zero => exact fun _ d => h0 d
  | succ i ih =>
    intro hl d
    have ih := ih (by omega)
    by_cases e : A[i]? = some []
    · have e1 : cb9 A (i + 1) = cb9 A i + 1 := by
        show cb9 A i + @ite _ (A[i]? = some []) (Classical.propDecidable _) 1 0 = _
        rw [if_pos e]
      rw [e1]
      have eG : (fun g => gS9 A (i + 1) g ∧ g ≠ 1000 + i) = gS9 A i := funext (fun g => propext ⟨fun h => ?_, fun h => ?_⟩)
      · have R := be_cir (o := 1000 + i) (b1 := cirF (cb9 A i) F (d - 1)) (b2 := cirF (cb9 A i) F (d + 1)) (k := k) (r := r) (d := d) hp hi (cu_S hb hO hC (i + 1) hl) (Or.inr ⟨i, by omega, e, rfl⟩) (fun s _ g h9 => ?_) (fun x hx => ?_) ?_ ?_
        · exact R.2
        · rcases relL_out hb.1 hO h9 with h8 | ⟨⟨q, q1, q2⟩, -⟩
          · exact h8.symm
          · have := gV_lt hb q1
            omega
        · have m := (hO.1 x hx).1
          have a := gV_lt hb m
          have b := gV_lt hb (prA_in hb.1 m)
          exact ⟨by omega, by omega, by omega⟩
        · rw [eG]
          exact ih (d - 1)
        · rw [eG]
          exact ih (d + 1)
      · rcases h with ⟨h | ⟨j, j1, j2, j3⟩, hne⟩
        · exact Or.inl h
        · exact Or.inr ⟨j, by omega, j2, j3⟩
      · refine ⟨?_, ?_⟩
        · rcases h with h | ⟨j, j1, j2, j3⟩
          · exact Or.inl h
          · exact Or.inr ⟨j, by omega, j2, j3⟩
        · rcases h with ⟨q, q1, q2⟩ | ⟨j, j1, j2, j3⟩
          · have := gV_lt hb q1
            omega
          · omega
    · have e1 : cb9 A (i + 1) = cb9 A i := by
        show cb9 A i + @ite _ (A[i]? = some []) (Classical.propDecidable _) 1 0 = _
        rw [if_neg e, Nat.add_zero]
      have eG : gS9 A (i + 1) = gS9 A i := funext (fun g => propext ⟨fun h => ?_, fun h => ?_⟩)
      · rw [e1, eG]
        exact ih d
      · rcases h with h | ⟨j, j1, j2, j3⟩
        · exact Or.inl h
        · refine Or.inr ⟨j, ?_, j2, j3⟩
          rcases Nat.lt_or_ge j i with q | q
          · exact q
          · rw [show j = i by omega] at j2
            exact absurd j2 e
      · rcases h with h | ⟨j, j1, j2, j3⟩
        · exact Or.inl h
        · exact Or.inr ⟨j, by omega, j2, j3⟩
/-- other names of the labels -/
theorem cu_pb {n V V' : Nat} {G G' : Nat → Prop} {P1 P2 P3 P1' P2' P3' : Nat → Nat} {rel rel' : (Nat → Bool) → Nat → Nat → Prop} {φ : Nat → Nat} (hC : cu9 n V G P1 P2 P3 rel) (hV : ∀ g, G' g → g < V') (hE : ∀ s, eqv9 (rel' s)) (hr : ∀ s g h, G' g → G' h → (rel' s g h ↔ rel s (φ g) (φ h))) (ho : ∀ s g h, rel' s g h → g ≠ h → G' g ∧ G' h) (hP : ∀ x, x < n → (G' (P1' x) ∧ G' (P2' x) ∧ G' (P3' x)) ∧ φ (P1' x) = P1 x ∧ φ (P2' x) = P2 x ∧ φ (P3' x) = P3 x) : cu9 n V' G' P1' P2' P3' rel' := by
  have key : ∀ s t a b, G' a → G' b → (∀ g h, rel s g h ↔ adr (rel t) (φ a) (φ b) g h) → ∀ g h, rel' s g h ↔ adr (rel' t) a b g h := fun s t a b ha hb hq g h => by
    by_cases cg : G' g
    · by_cases ch : G' h
      · rw [hr s g h cg ch, hq]
        unfold adr
        rw [hr t g h cg ch, hr t g a cg ha, hr t h b ch hb, hr t g b cg hb, hr t h a ch ha]
      · constructor
        · intro h9
          by_cases e : g = h
          · rw [e]
            exact Or.inl ((hE t).1 h)
          · exact absurd (ho s g h h9 e).2 ch
        · rintro (h9 | ⟨-, h9⟩ | ⟨-, h9⟩)
          · by_cases e : g = h
            · rw [e]
              exact (hE s).1 h
            · exact absurd (ho t g h h9 e).2 ch
          · by_cases e : h = b
            · exact absurd (e ▸ hb) ch
            · exact absurd (ho t h b h9 e).1 ch
          · by_cases e : h = a
            · exact absurd (e ▸ ha) ch
            · exact absurd (ho t h a h9 e).1 ch
    · constructor
      · intro h9
        by_cases e : g = h
        · rw [e]
          exact Or.inl ((hE t).1 h)
        · exact absurd (ho s g h h9 e).1 cg
      · rintro (h9 | ⟨h9, -⟩ | ⟨h9, -⟩)
        · by_cases e : g = h
          · rw [e]
            exact (hE s).1 h
          · exact absurd (ho t g h h9 e).1 cg
        · by_cases e : g = a
          · exact absurd (e ▸ ha) cg
          · exact absurd (ho t g a h9 e).1 cg
        · by_cases e : g = b
          · exact absurd (e ▸ hb) cg
          · exact absurd (ho t g b h9 e).1 cg
  refine ⟨⟨hE, fun s x hx hs => ?_⟩, fun s _ => ho s, hV, fun x hx => (hP x hx).1⟩
  obtain ⟨⟨g1, g2, g3⟩, e1, e2, e3⟩ := hP x hx
  rcases hC.1.2 s x hx hs with ⟨a, b⟩ | ⟨a, b, d⟩
  · left
    rw [← e1, ← e3] at a b
    exact ⟨fun h9 => a ((hr s _ _ g1 g3).mp h9), key _ _ _ _ g1 g3 b⟩
  · right
    rw [← e1] at a b d
    rw [← e3] at a
    rw [← e2] at b d
    exact ⟨(hr s _ _ g1 g3).mpr a, fun h9 => b ((hr _ _ _ g1 g2).mp h9), key _ _ _ _ g1 g2 d⟩
/-- the class's own labels: gaps by number -/
def relC9 (S : ow_NP) (G : Nat → Int32) (c : Nat) (s : Nat → Bool) (g h : Nat) : Prop := g = h ∨ (g < 2 * c ∧ h < 2 * c ∧ rt (uPx S G s c) g = rt (uPx S G s c) h)
theorem relC_e (S : ow_NP) (G : Nat → Int32) (c : Nat) (s : Nat → Bool) : eqv9 (relC9 S G c s) := by
  refine ⟨fun g => Or.inl rfl, fun g h h9 => ?_, fun g h l h9 h8 => ?_⟩
  · rcases h9 with e | ⟨a, b, e⟩
    · exact Or.inl e.symm
    · exact Or.inr ⟨b, a, e.symm⟩
  · rcases h9 with e | ⟨a, b, e⟩
    · rw [e]
      exact h8
    · rcases h8 with e2 | ⟨a2, b2, e2⟩
      · rw [← e2]
        exact Or.inr ⟨a, b, e⟩
      · exact Or.inr ⟨a, b2, e.trans e2⟩
theorem cls_ph9 (hb : bdA A) (h : isoV A sg f T) (hz : ∀ x, x < T.1 → T.2.2.2 x ≠ 0) (hm : nmT A f nm T.1) (hC : cuL9 A sg nm T.1) : cu9 T.1 2000 (fun g => g < 2 * T.1) (fun x => 2 * x) (fun x => T.2.2.1.2 (2 * x)) (fun x => T.2.2.1.2 (2 * x)) (relC9 T.2.2.1 T.2.2.2 T.1) ∧ phi9 T.1 (gS9 A 0) (fun g => g < 2 * T.1) (fun y => gV9 (nm y, 0)) (fun y => gV9 (prA9 A (nm y, 0))) (fun y => gV9 (prA9 A (nm y, 0))) (fun x => 2 * x) (fun x => T.2.2.1.2 (2 * x)) (fun x => T.2.2.1.2 (2 * x)) (relL9 A sg nm T.1) (relC9 T.2.2.1 T.2.2.2 T.1) (fun g => gV9 (nm (g / 2), g % 2)) := by
  have hO := nm_O h hm
  have u2 : ∀ p, p ∈ A.flatten → p.2 < 2 := fun p hp => (h.1.1.2 p hp).2.1
  have h12 : T.1 ≤ 12 := h.1.2.2.1
  have inA : ∀ g, g < 2 * T.1 → (nm (g / 2), g % 2) ∈ A.flatten := fun g hg => by
    have q := hO.1 (g / 2) (by omega)
    rcases (show g % 2 = 0 ∨ g % 2 = 1 by omega) with e | e <;> rw [e]
    · exact q.1
    · exact q.2
  have glg : ∀ g, g < 2 * T.1 → gl f (nm (g / 2), g % 2) = g := fun g hg => by
    unfold gl
    rw [(hm (g / 2) (by omega)).1]
    simp only []
    omega
  have bk : ∀ q, q ∈ A.flatten → gl f q < 2 * T.1 ∧ gV9 (nm (gl f q / 2), gl f q % 2) = gV9 q := fun q hq => by
    have e := nm_f h hm hq
    have e2 := u2 q hq
    refine ⟨gl_lt h hq, ?_⟩
    have e3 : gl f q / 2 = f q.1 := by
      unfold gl
      omega
    have e4 : gl f q % 2 = q.2 := by
      unfold gl
      omega
    rw [e3, e4, e]
  have hr : ∀ s g k, g < 2 * T.1 → k < 2 * T.1 → (relC9 T.2.2.1 T.2.2.2 T.1 s g k ↔ relL9 A sg nm T.1 s (gV9 (nm (g / 2), g % 2)) (gV9 (nm (k / 2), k % 2))) := fun s g k hg hk => by
    rw [relL_T h hz hm (inA g hg) (inA k hk), glg g hg, glg k hk]
    exact ⟨fun h9 => h9.elim (fun e => by rw [e]) (fun e => e.2.2), fun h9 => Or.inr ⟨hg, hk, h9⟩⟩
  have hP : ∀ x, x < T.1 → ((2 * x < 2 * T.1) ∧ T.2.2.1.2 (2 * x) < 2 * T.1 ∧ T.2.2.1.2 (2 * x) < 2 * T.1) ∧ gV9 (nm (2 * x / 2), 2 * x % 2) = gV9 (nm x, 0) ∧ gV9 (nm (T.2.2.1.2 (2 * x) / 2), T.2.2.1.2 (2 * x) % 2) = gV9 (prA9 A (nm x, 0)) ∧ gV9 (nm (T.2.2.1.2 (2 * x) / 2), T.2.2.1.2 (2 * x) % 2) = gV9 (prA9 A (nm x, 0)) := fun x hx => by
    have m := (hO.1 x hx).1
    have e0 : gl f (nm x, 0) = 2 * x := by
      unfold gl
      rw [(hm x hx).1]
      rfl
    have e1 := pv_gl h m
    rw [e0] at e1
    obtain ⟨b1, b2⟩ := bk _ (prA_in hb.1 m)
    rw [e1]
    exact ⟨⟨by omega, b1, b1⟩, by rw [show 2 * x / 2 = x by omega, show 2 * x % 2 = 0 by omega], b2, b2⟩
  refine ⟨cu_pb hC (fun g hg => by omega) (relC_e _ _ _) hr (fun s g k h9 hne => ?_) hP, fun g hg => Or.inl ⟨_, inA g hg, rfl⟩, fun s _ => ⟨fun g k hg hk => hr s g k hg hk, fun g hg => ?_, fun x hx => ?_⟩⟩
  · rcases h9 with e | ⟨a, b, -⟩
    · exact absurd e hne
    · exact ⟨a, b⟩
  · rcases hg with ⟨q, q1, q2⟩ | ⟨j, j1, -⟩
    · refine ⟨gl f q, (bk q q1).1, ?_⟩
      dsimp only
      rw [(bk q q1).2, q2]
      exact (hC.1.1 s).1 _
    · exact absurd j1 (Nat.not_lt_zero _)
  · obtain ⟨-, e1, e2, e3⟩ := hP x hx
    dsimp only
    rw [e1, e2]
    exact ⟨(hC.1.1 s).1 _, (hC.1.1 s).1 _, (hC.1.1 s).1 _⟩
theorem LT_C {y : ow_MS} {S : ow_NP} {G : Nat → Int32} {Ls : Nat → Nat → Nat} {ns : Nat → Nat} (hL : LpY y S G c Ls ns) : LT9 c (fun g => g < 2 * c) (relC9 S G c) Ls ns := fun s hs => by
  obtain ⟨⟨h1, h2, h3, h4, h5⟩, h6⟩ := hL s hs
  refine ⟨fun g hg => (h1 g hg).2, fun l hl => ?_, fun g g' hg hg' => ?_, by omega⟩
  · obtain ⟨g, a, -, e⟩ := h3 l hl
    exact ⟨g, a, e⟩
  · rw [h4 g g' hg hg']
    exact ⟨fun e => Or.inr ⟨hg, hg', e⟩, fun e => e.elim (fun e => by rw [e]) (fun e => e.2.2)⟩
/-- the number of a group by the class's table -/
noncomputable def bq9 (p : Int) (c : Nat) (S : ow_NP) (G : Nat → Int32) (Ls : Nat → Nat → Nat) (ns : Nat → Nat) (h : Nat) (dg : Int) : Int := (sz9 c ns dg h : Int) - (RK9 p c (fun g => g < 2 * c) (relC9 S G c) (fun x => 2 * x) (fun x => S.2 (2 * x)) Ls ns dg h : Int) - (bf9 (fun o => RK9 p c (fun g => g < 2 * c) (relC9 S G c) (fun x => 2 * x) (fun x => S.2 (2 * x)) Ls ns dg o) h : Int)
theorem be_bq {y : ow_MS} {S : ow_NP} {G : Nat → Int32} {Ls : Nat → Nat → Nat} {ns : Nat → Nat} {d : Int} (hp : pr9 p) (hi : iv9 p) (hc : c ≤ 12) (hC : cu9 c 2000 (fun g => g < 2 * c) (fun x => 2 * x) (fun x => S.2 (2 * x)) (fun x => S.2 (2 * x)) (relC9 S G c)) (hL : LpY y S G c Ls ns) (hb : be9 p (Sg9 c 2000 (fun g => g < 2 * c) (relC9 S G c) k d) (D9 (fun x => 2 * x) (fun x => S.2 (2 * x)) (fun x => S.2 (2 * x)) (relC9 S G c) c) r b) : b = if r + 1 < k then 0 else bq9 p c S G Ls ns (r + 1 - k) d := by
  obtain ⟨e1, e2, e3⟩ := be_MT hp hi hC (LT_C hL) (by omega) hb
  by_cases q : r + 1 < k
  · rw [if_pos q]
    exact e1 q
  · rw [if_neg q]
    unfold bq9
    by_cases q2 : r + 1 = k
    · have := e2 q2
      rw [show r + 1 - k = 0 by omega]
      show b = _ - _ - ((0 : Nat) : Int)
      omega
    · have := e3 (r - k) (by omega)
      rw [show r + 1 - k = (r - k) + 1 by omega]
      show b = _ - _ - ((RK9 p c (fun g => g < 2 * c) (relC9 S G c) (fun x => 2 * x) (fun x => S.2 (2 * x)) Ls ns d (r - k) : Nat) : Int)
      omega
/-- the number of the list by the class's table -/
theorem bL_cl {y : ow_MS} {Ls : Nat → Nat → Nat} {ns : Nat → Nat} {d : Int} (hp : pr9 p) (hi : iv9 p) (h : isoV A sg f T) (hT : pm1 T) (hw : gaA A w) (hb : bdA A) (hO : nmO A nm T.1) (hL : LpY y T.2.2.1 T.2.2.2 T.1 Ls ns) (hB : bL9 p A sg nm T.1 k d r b) : b = cirF (cirs A) (fun d => if r + 1 < k then 0 else bq9 p T.1 T.2.2.1 T.2.2.2 Ls ns (r + 1 - k) d) d := by
  have hz : ∀ x, x < T.1 → T.2.2.2 x ≠ 0 := fun x hx => by
    rcases hT x hx with e | e <;> rw [e] <;> decide
  obtain ⟨n1, hn⟩ := nmT_ex h
  have o1 := nm_O h hn
  have C0 := cuA hp hi h hT hw hb hO
  obtain ⟨C1, B1⟩ := bL_any hp hi hO o1 C0 hB
  obtain ⟨k1, k2⟩ := cls_ph9 hb h hz hn C1
  have CS := cu_S hb o1 C1 0 (Nat.zero_le _)
  have h0 : ∀ d, be9 p (Sg9 T.1 2000 (gS9 A 0) (relL9 A sg n1 T.1) k d) (D9 (fun y => gV9 (n1 y, 0)) (fun y => gV9 (prA9 A (n1 y, 0))) (fun y => gV9 (prA9 A (n1 y, 0))) (relL9 A sg n1 T.1) T.1) r (if r + 1 < k then 0 else bq9 p T.1 T.2.2.1 T.2.2.2 Ls ns (r + 1 - k) d) := fun d => by
    obtain ⟨E, N, he⟩ := fi_en (Sg_en (k := k) (d := d) CS)
    have hb0 : be9 p (Sg9 T.1 2000 (gS9 A 0) (relL9 A sg n1 T.1) k d) (D9 (fun y => gV9 (n1 y, 0)) (fun y => gV9 (prA9 A (n1 y, 0))) (fun y => gV9 (prA9 A (n1 y, 0))) (relL9 A sg n1 T.1) T.1) r ((N (r + 1) : Int) - rn9 p E N (D9 (fun y => gV9 (n1 y, 0)) (fun y => gV9 (prA9 A (n1 y, 0))) (fun y => gV9 (prA9 A (n1 y, 0))) (relL9 A sg n1 T.1) T.1) (r + 1) - rn9 p E N (D9 (fun y => gV9 (n1 y, 0)) (fun y => gV9 (prA9 A (n1 y, 0))) (fun y => gV9 (prA9 A (n1 y, 0))) (relL9 A sg n1 T.1) T.1) r) := ⟨E, N, he, by omega⟩
    have e := be_bq (r := r) hp hi h.1.2.2.1 k1 hL (be_ph hp hi CS k1 k2 hb0)
    rw [← e]
    exact hb0
  have R := be_S hp hi hb o1 C1 h0 A.length (Nat.le_refl _) d
  rw [cb_all, show gS9 A A.length = gG9 A from funext (fun g => propext (gS_all g))] at R
  exact be_un hp hi (cu_cg (k := k) (d := d) C1) r B1 R
end XCJ7
end
section
/-! 99zzzzzzzzzzzzzzzzyzl.xcia -/
-- CHAIN: the class's table, exactly
def tabT (z : ow_MS) (F : Nat → Int → Int) : Prop := ∀ i, i < 504 → z.2.1 43018 i = iI (F (i / 56) (((i % 56 : Nat) : Int) - 20))
section XCJ8
variable {vl : Nat → Nat} {y : ow_MS}
theorem te_addCircle {F : Nat → Int → Int} (hF : tabT y F) (h1 : ∀ o, F o (-21) = 0) (h2 : ∀ o, F o 36 = 0) : Te (fun K => ce_X1_addCircle vl K 43000 y) (fun y1 => fr (fun g => g = 43018) y y1 ∧ tabT y1 (fun o d => F o (d - 1) + F o (d + 1))) := by
  let N : Nat → Int32 := fun i => iI (F (i / 56) (((i % 56 : Nat) : Int) - 20 - 1) + F (i / 56) (((i % 56 : Nat) : Int) - 20 + 1))
  let Q : ow_MS → Prop := fun y1 => fr (fun g => g = 43018) y y1 ∧ tabT y1 (fun o d => F o (d - 1) + F o (d + 1))
  let J : Nat → ow_MS → Prop := fun i z => fr (fun g => g = 43018) y z ∧ (∀ j, j < i → j < 504 → z.2.1 43018 j = N j) ∧ ∀ j, i ≤ j → z.2.1 43018 j = y.2.1 43018 j
  have dm : ∀ o q, q < 56 → (56 * o + q) / 56 = o ∧ (56 * o + q) % 56 = q := fun o q hq => by omega
  have c2 : ∀ (o : Nat), o ≤ 8 → (∀ z, J (56 * (o + 1)) z → Tt (fun K k => c_X1_addCircle vl K k 1 (nI (o + 1)) 0 0 0 0 43000 0 z) Q) → ∀ (d q : Nat) (z : ow_MS), q + d = 56 → J (56 * o + q) z → Tt (fun K k => c_X1_addCircle vl K k 2 (nI o) (nI (56 * o)) (iI (F o ((q : Int) - 21))) (nI q) 0 43000 0 z) Q := by
    intro o ho hnext d
    induction d with
    | zero =>
      intro q z hq hz
      refine u_X1_addCircle_2 ?_; unfold cm_X1_addCircle_2
      refine w_leT (a := 56) (b := q) (by omega) (by omega) ?_
      rw [nI_1]
      refine hnext z ?_
      rw [show 56 * (o + 1) = 56 * o + q by omega]
      exact hz
    | succ d ih =>
      intro q z hq hz
      obtain ⟨z1, z2, z3⟩ := hz
      obtain ⟨d1, d2⟩ := dm o q (by omega)
      have eh : z.2.1 43018 (56 * o + q) = iI (F o ((q : Int) - 20)) := by
        rw [z3 _ (Nat.le_refl _), hF _ (by omega), d1, d2]
      have c3 : ∀ t0 : Int32, t0 = iI (F o ((q : Int) - 19)) → Tt (fun K k => c_X1_addCircle vl K k 3 (nI o) (nI (56 * o)) (iI (F o ((q : Int) - 21))) (nI q) (iI (F o ((q : Int) - 20))) 43000 t0 z) Q := by
        intro t0 ht
        refine u_X1_addCircle_3 ?_; unfold cm_X1_addCircle_3
        rw [nI_add, nI_1, ht, iI_add]
        have e9 : ((q + 1 : Nat) : Int) - 21 = (q : Int) - 20 := by omega
        have nx := ih (q + 1) (usI z (43000 + 18) (56 * o + q) (iI (F o ((q : Int) - 21) + F o ((q : Int) - 19)))) (by omega) ⟨fr_I2 z1 rfl, fun j hj hj5 => ?_, fun j hj => ?_⟩
        · rw [e9] at nx
          exact w_ctI ch_43018 rfl (by omega) nx
        · by_cases e : j = 56 * o + q
          · rw [e]
            refine po_usI_at.trans ?_
            show _ = iI (F ((56 * o + q) / 56) ((((56 * o + q) % 56 : Nat) : Int) - 20 - 1) + F ((56 * o + q) / 56) ((((56 * o + q) % 56 : Nat) : Int) - 20 + 1))
            rw [d1, d2, show (q : Int) - 20 - 1 = (q : Int) - 21 by omega, show (q : Int) - 20 + 1 = (q : Int) - 19 by omega]
          · exact (po_usI_ne e).trans (z2 j (by omega) hj5)
        · exact (po_usI_ne (by omega)).trans (z3 j (by omega))
      refine u_X1_addCircle_2 ?_; unfold cm_X1_addCircle_2
      rw [nI_add, nI_1 q]
      refine w_leF (a := 56) (b := q) (by omega) (by omega) (w_crI ch_43018 rfl (by omega) eh (w_le (a := 56) (b := q + 1) (by omega) (by omega) (fun h9 => c3 0 ?_) (fun h9 => w_crI ch_43018 (nI_1 _) (by omega) rfl (c3 _ ?_))))
      · rw [show (q : Int) - 19 = 36 by omega, h2 o]
        rfl
      · obtain ⟨d3, d4⟩ := dm o (q + 1) (by omega)
        rw [show 56 * o + q + 1 = 56 * o + (q + 1) by omega, z3 _ (by omega), hF _ (by omega), d3, d4, show ((q + 1 : Nat) : Int) - 20 = (q : Int) - 19 by omega]
  have c1 : ∀ (d o : Nat) (z : ow_MS), o + d = 9 → J (56 * o) z → Tt (fun K k => c_X1_addCircle vl K k 1 (nI o) 0 0 0 0 43000 0 z) Q := by
    intro d
    induction d with
    | zero =>
      intro o z ho hz
      refine u_X1_addCircle_1 ?_; unfold cm_X1_addCircle_1
      exact w_ltT (a := 8) (b := o) (by omega) (by omega) (w_some ⟨hz.1, fun i hi => hz.2.1 i (by omega) hi⟩)
    | succ d ih =>
      intro o z ho hz
      refine u_X1_addCircle_1 ?_; unfold cm_X1_addCircle_1
      refine w_ltF (a := 8) (b := o) (by omega) (by omega) ?_
      rw [show nI o * 56 = nI (56 * o) from (Int32.mul_comm _ _).trans (pk_mul 56 o)]
      have := c2 o (by omega) (fun z1 h1 => ih (o + 1) z1 (by omega) h1) 56 0 z (by omega) hz
      rw [show ((0 : Nat) : Int) - 21 = -21 by omega, h1 o] at this
      exact this
  refine e_X1_addCircle ?_
  refine u_X1_addCircle_0 ?_; unfold cm_X1_addCircle_0
  exact c1 9 0 y (by omega) ⟨fr_rf, fun j hj => absurd hj (Nat.not_lt_zero _), fun j _ => rfl⟩
end XCJ8
section XCJ9
variable {vl : Nat → Nat} {c ci p : Nat} {S : ow_NP} {G : Nat → Int32} {Ls : Nat → Nat → Nat} {ns : Nat → Nat} {wf : Nat → Bool} {W C : Nat}
/-- nothing outside -/
theorem sz9_0 {h : Nat} {dg : Int} (hn : ∀ s, s < 2 ^ c → ns s ≤ 9) (hc : c ≤ 8) (h0 : c < h ∨ dg < -10 ∨ 18 < dg) : sz9 c ns dg h = 0 := by
  rcases Nat.eq_zero_or_pos (sz9 c ns dg h) with e | e
  · exact e
  · obtain ⟨s, m, a, -⟩ := ix_on (fun s hs => by have := hn s hs; omega) e
    have a1 := pc_le a.1
    have a2 := pc_le a.2.2.1
    have a3 := (kp_iff a2).mp a.2.2.2
    have a4 := hn s a.1
    have a5 := a.2.1
    omega
theorem bq_0 {h : Nat} {dg q : Int} (hn : ∀ s, s < 2 ^ c → ns s ≤ 9) (hc : c ≤ 8) (h0 : c < h ∨ dg < -10 ∨ 18 < dg) : bq9 q c S G Ls ns h dg = 0 := by
  have e := sz9_0 hn hc h0
  unfold bq9
  have e1 : RK9 q c (fun g => g < 2 * c) (relC9 S G c) (fun x => 2 * x) (fun x => S.2 (2 * x)) Ls ns dg h = 0 := by
    unfold RK9
    rw [e]
    rfl
  have e2 : bf9 (fun o => RK9 q c (fun g => g < 2 * c) (relC9 S G c) (fun x => 2 * x) (fun x => S.2 (2 * x)) Ls ns dg o) h = 0 := by
    cases h with
    | zero => rfl
    | succ h =>
      show RK9 q c (fun g => g < 2 * c) (relC9 S G c) (fun x => 2 * x) (fun x => S.2 (2 * x)) Ls ns dg h = 0
      unfold RK9
      rw [e]
      exact rk_w0 _ _
  rw [e, e1, e2]
  rfl
theorem cir_0 {F : Int → Int} (hF : ∀ d, d < -10 ∨ 18 < d → F d = 0) : ∀ (j : Nat) (d : Int), d < -10 - (j : Int) ∨ 18 + (j : Int) < d → cirF j F d = 0
  | 0, d, h => hF d (by omega)
  | j + 1, d, h => by
    show cirF j F (d - 1) + cirF j F (d + 1) = 0
    rw [cir_0 hF j (d - 1) (by omega), cir_0 hF j (d + 1) (by omega)]
    rfl
theorem te_cmp3 {z7 : ow_MS} {F : Nat → Int → Int} : ∀ (e i : Nat) (v : Nat → Nat) (z : ow_MS) (W' C' : Nat), i + e = 504 → fr rkG z7 z → vI v W' C' → tabT z F → Tt (fun K k => d_X1_compute K k 3 (nI p) (iI (sN9 (fun i => F (i / 56) (((i % 56 : Nat) : Int) - 20)) i)) (nI i) 43000 4000 v z) (gQ v (fun r => fr rkG z7 r.2.2 ∧ (∃ W' C', vI r.2.1 W' C') ∧ tabT r.2.2 F ∧ r.1 = iI (sN9 (fun i => F (i / 56) (((i % 56 : Nat) : Int) - 20)) 504))) := by
  intro e
  induction e with
  | zero =>
    intro i v z W' C' hi hz hv' ht
    refine u_X1_compute_3 ?_; unfold dm_X1_compute_3
    rw [show uw_len (cX v) z (43000 + 18) = 504 from ch_43018]
    refine w_leT (a := 504) (b := i) (by omega) (by omega) (w_some ⟨Nat.le_refl _, hz, ⟨W', C', hv'⟩, ht, ?_⟩)
    rw [show i = 504 by omega]
  | succ e ih =>
    intro i v z W' C' hi hz hv' ht
    have nx := ih (i + 1) v z W' C' (by omega) hz hv' ht
    refine u_X1_compute_3 ?_; unfold dm_X1_compute_3
    rw [show uw_len (cX v) z (43000 + 18) = 504 from ch_43018, nI_1]
    refine w_leF (a := 504) (b := i) (by omega) (by omega) (w_crI ch_43018 rfl (by omega) (ht i (by omega)) ?_)
    rw [iI_add]
    exact nx
theorem te_cmp2 {z7 : ow_MS} {F : Nat → Int → Int} (hF : ∀ o d, d < -10 ∨ 18 < d → F o d = 0) (c7 : cAt z7 44000 (c, ci, S, G)) (hci : ci ≤ 6) : ∀ (e i : Nat) (v : Nat → Nat) (z : ow_MS) (W' C' : Nat), i + e = ci → fr rkG z7 z → vI v W' C' → tabT z (fun o => cirF i (F o)) → Tt (fun K k => d_X1_compute K k 2 (nI p) (nI i) 0 43000 4000 v z) (gQ v (fun r => fr rkG z7 r.2.2 ∧ (∃ W' C', vI r.2.1 W' C') ∧ tabT r.2.2 (fun o => cirF ci (F o)) ∧ r.1 = iI (sN9 (fun i => cirF ci (F (i / 56)) (((i % 56 : Nat) : Int) - 20)) 504))) := by
  intro e
  induction e with
  | zero =>
    intro i v z W' C' hi hz hv' ht
    have ei : i = ci := by omega
    rw [ei] at ht
    refine u_X1_compute_2 ?_; unfold dm_X1_compute_2
    exact w_rdF (at44 c7 hz).2.1 (w_leT (a := ci) (b := i) (by omega) (by omega) (te_cmp3 504 0 v z W' C' (by omega) hz hv' ht))
  | succ e ih =>
    intro i v z W' C' hi hz hv' ht
    refine u_X1_compute_2 ?_; unfold dm_X1_compute_2
    refine w_rdF (at44 c7 hz).2.1 (w_leF (a := ci) (b := i) (by omega) (by omega) (w_cs0 (te_addCircle ht (fun o => cir_0 (hF o) i _ (by omega)) (fun o => cir_0 (hF o) i _ (by omega))) ?_))
    rintro z1 ⟨h1, h2⟩
    rw [nI_1]
    exact ih (i + 1) v z1 W' C' (by omega) (fr_tr hz (fr_mono (fun g hg => Or.inr (Or.inr hg)) h1)) hv' h2
theorem te_cmp1 {z7 : ow_MS} (c7 : cAt z7 44000 (c, ci, S, G)) (hvn : vn c S) (hc8 : c ≤ 8) (hci : ci ≤ 6) (hwf : gaO c S wf) (hL7 : LpY z7 S G c Ls ns) (hsz : ∀ h, smH (fun s => mbt (ns s)) h 0 (2 ^ c) ≤ 1140) (htb7 : tbP z7) (hch7 : chP z7) (p7 : z7.1 43010 = nI p) (hp : prT p) (hp2 : p ≤ 997) (hC : cu9 c 2000 (fun g => g < 2 * c) (fun x => 2 * x) (fun x => S.2 (2 * x)) (fun x => S.2 (2 * x)) (relC9 S G c)) : ∀ (e d : Nat) (v : Nat → Nat) (z : ow_MS) (W' C' : Nat), d + e = 29 → fr rkG z7 z → vI v W' C' → (∀ o d', o ≤ c → d' < d → z.2.1 43018 (56 * o + d' + 10) = iI (bq9 p c S G Ls ns o (dgI d'))) → (∀ i, (∀ o d', o ≤ c → d' < d → i ≠ 56 * o + d' + 10) → i < 504 → z.2.1 43018 i = 0) → Tt (fun K k => d_X1_compute K k 1 (nI p) (nI d - 10) 0 43000 4000 v z) (gQ v (fun r => fr rkG z7 r.2.2 ∧ (∃ W' C', vI r.2.1 W' C') ∧ tabT r.2.2 (fun o => cirF ci (fun d => bq9 p c S G Ls ns o d)) ∧ r.1 = iI (sN9 (fun i => cirF ci (fun d => bq9 p c S G Ls ns (i / 56) d) (((i % 56 : Nat) : Int) - 20)) 504))) := by
  have n10 : ¬ rkG 43010 := fun h9 => (rk_lt h9).2.2 rfl
  have n5 : ¬ rkG 43005 := fun h9 => by have := rk_lt h9; omega
  have n234 : ¬ rkG 43002 ∧ ¬ rkG 43003 ∧ ¬ rkG 43004 := ⟨fun h9 => by have := rk_lt h9; omega, fun h9 => by have := rk_lt h9; omega, fun h9 => by have := rk_lt h9; omega⟩
  have hn9 : ∀ s, s < 2 ^ c → ns s ≤ 9 := fun s hs => (hL7 s hs).2
  intro e
  induction e with
  | zero =>
    intro d v z W' C' hd hz hv' t1 t2
    have hd29 : d = 29 := by omega
    refine u_X1_compute_1 ?_; unfold dm_X1_compute_1
    refine w_ifT ((dg_c ⟨d, by omega⟩).1.mpr (by dsimp only; omega)) (te_cmp2 (F := fun o d => bq9 p c S G Ls ns o d) (fun o d h => bq_0 hn9 hc8 (Or.inr h)) c7 hci ci 0 v z W' C' (by omega) hz hv' (fun i hi => ?_))
    show z.2.1 43018 i = iI (bq9 p c S G Ls ns (i / 56) (((i % 56 : Nat) : Int) - 20))
    by_cases q : i / 56 ≤ c ∧ 10 ≤ i % 56 ∧ i % 56 < 39
    · have := t1 (i / 56) (i % 56 - 10) q.1 (by omega)
      rw [show 56 * (i / 56) + (i % 56 - 10) + 10 = i by omega] at this
      rw [this]
      unfold dgI
      rw [show ((i % 56 - 10 : Nat) : Int) - 10 = ((i % 56 : Nat) : Int) - 20 by omega]
    · rw [bq_0 hn9 hc8 (by omega), t2 i (fun o d' ho hd' => by omega) hi]
      rfl
  | succ e ih =>
    intro d v z W' C' hd hz hv' t1 t2
    have hrk := te_rankDegree (d := d) hv' (at44 c7 hz) hvn hc8 (by omega) hwf (LpY_fr hz n234 hL7) (tbP_fr hz n5 htb7) (chP_fr hz (fun g hg => by have := rk_lt hg; omega) hch7) (((hz 43010 n10).1).trans p7) hp hp2 (fun h => bkF_sz (fun s hs => (hL7 s hs).2) (hsz h)) hC (LT_C hL7) (RK := fun h => RK9 p c (fun g => g < 2 * c) (relC9 S G c) (fun x => 2 * x) (fun x => S.2 (2 * x)) Ls ns (dgI d) h) (fun h => rfl)
    refine u_X1_compute_1 ?_; unfold dm_X1_compute_1
    refine w_ifF (fun h9 => by have := (dg_c ⟨d, by omega⟩).1.mp h9; dsimp only at this; omega) (w_dc1 hrk ?_)
    rintro x v1 z8 ⟨r1, r2, ⟨W2, C2, r3⟩, r4, r5⟩
    refine w_chV r1 ?_
    rw [(dg_c ⟨d, by omega⟩).2]
    refine ih (d + 1) v1 z8 W2 C2 (by omega) (fr_tr hz r2) r3 (fun o d' ho hd' => ?_) (fun i hi hi5 => ?_)
    · by_cases q : d' = d
      · rw [q]
        refine (r4 o ho).trans ?_
        rw [nI_iI, nI_iI, nI_iI, iI_sub, iI_sub]
        rfl
      · rw [← t1 o d' ho (by omega)]
        exact r5 _ (fun o' ho' h9 => by omega)
    · rw [← t2 i (fun o d' ho hd' => hi o d' ho (by omega)) hi5]
      exact r5 i (fun o ho => hi o d ho (by omega))
theorem te_cmp0 {z5 : ow_MS} (hT : tyI (c, ci, S, G)) (c5 : cAt z5 44000 (c, ci, S, G)) (htb : tbP z5) (hch : chP z5) (p5 : z5.1 43010 = nI p) (hp : prT p) (hp2 : p ≤ 997) (hv : vI vl W C) (hC : cu9 c 2000 (fun g => g < 2 * c) (fun x => 2 * x) (fun x => S.2 (2 * x)) (fun x => S.2 (2 * x)) (relC9 S G c)) : Tt (fun K k => cs0 (ce_X1_markLoops vl K 43000 z5) fun z10 => cs0 (ce_J7_fill_53178 vl K (43000 + 18) 0 z10) fun z11 => d_X1_compute K k 1 (nI p) (-10) 0 43000 4000 vl z11) (gQ vl (fun r => fr cmH z5 r.2.2 ∧ (∃ W' C', vI r.2.1 W' C') ∧ ∃ z6 Ls ns, LpY z6 S G c Ls ns ∧ tabT r.2.2 (fun o => cirF ci (fun d => bq9 p c S G Ls ns o d)) ∧ r.1 = iI (sN9 (fun i => cirF ci (fun d => bq9 p c S G Ls ns (i / 56) d) (((i % 56 : Nat) : Int) - 20)) 504))) := by
  obtain ⟨hc8, ⟨wf, hwf⟩, hn9, hsz⟩ := tyI_sz hT
  have hci : ci ≤ 6 := by
    have h9 : np_rg c S + ci ≤ 6 := hT.1.2.2.2
    omega
  refine w_cs0 (tc_markLoops c5 hT.1.1 hc8 hn9) ?_
  rintro z6 ⟨l1, l2⟩
  refine w_cs0 (tc_fillA (l := 504) ch_43018 (by omega)) ?_
  rintro z7 ⟨l0, l3⟩
  have hL6 : ∃ Ls : Nat → Nat → Nat, LpY z6 S G c Ls (fun s => rtsN (uPx S G (tb s) c) (2 * c)) := by
    have hex : ∀ s, ∃ L : Nat → Nat, s < 2 ^ c → LpS z6 S G c s L (rtsN (uPx S G (tb s) c) (2 * c)) := by
      intro s
      by_cases hs : s < 2 ^ c
      · obtain ⟨L, n, hL⟩ := l1 s hs
        have e := hL.2.2.2.2
        rw [e] at hL
        exact ⟨L, fun _ => hL⟩
      · exact ⟨fun _ => 0, fun h9 => absurd h9 hs⟩
    exact ⟨fun s => Classical.choose (hex s), fun s hs => ⟨Classical.choose_spec (hex s) hs, hn9 s hs⟩⟩
  obtain ⟨Ls, hL6⟩ := hL6
  have f7 : fr (fun g => 43002 ≤ g ∧ g ≤ 43004 ∨ g = 43018) z5 z7 := fr_tr (fr_mono (fun g hg => by omega) l2) (fr_mono (fun g hg => by omega) l3)
  have c7 : cAt z7 44000 (c, ci, S, G) := cAt_fr f7 (fun g hg h9 => by unfold cP at hg; omega) c5
  rw [show (-10 : Int32) = nI 0 - 10 by decide]
  refine w_mono (te_cmp1 c7 hT.1.1 hc8 hci hwf (LpY_fr l3 (by omega) hL6) hsz (tbP_fr f7 (by omega) htb) (chP_fr f7 (fun g hg => by omega) hch) ((f7 43010 (by omega)).1.trans p5) hp hp2 hC 29 0 vl z7 W C (by omega) fr_rf hv (fun o d' _ hd' => absurd hd' (Nat.not_lt_zero _)) (fun i _ hi => l0 i hi)) ?_
  rintro r ⟨r1, r2, r3, r4, r5⟩
  exact ⟨r1, fr_tr (fr_mono (fun g hg => by unfold cmH; omega) f7) (fr_mono (fun g hg => by have := rk_lt hg; unfold cmH; omega) r2), r3, z6, Ls, _, hL6, r4, r5⟩
end XCJ9
end
section
/-! 99zzzzzzzzzzzzzzzzyzm.xcib -/
-- CHAIN: the class's compute, exactly; its numbers told by the list
def clT (p : Nat) (sg : Nat → Bool) (A0 : rn_L) (c0 : Nat) (z : ow_MS) (ans : Int32) : Prop := ∃ (T : ow_NT) (z6 : ow_MS) (Ls : Nat → Nat → Nat) (ns : Nat → Nat), tyI T ∧ tdJ p sg A0 c0 T ∧ LpY z6 T.2.2.1 T.2.2.2 T.1 Ls ns ∧ tabT z (fun o => cirF T.2.1 (fun d => bq9 p T.1 T.2.2.1 T.2.2.2 Ls ns o d)) ∧ ans = iI (sN9 (fun i => cirF T.2.1 (fun d => bq9 p T.1 T.2.2.1 T.2.2.2 Ls ns (i / 56) d) (((i % 56 : Nat) : Int) - 20)) 504) ∧ z.1 43019 = np_sum T.2.2.2 T.1 ∧ z.1 43020 = (nI T.1 - np_sum T.2.2.2 T.1) / 2
section XCJA
variable {vl : Nat → Nat} {y : ow_MS} {W C : Nat} {sg : Nat → Bool} {A0 : rn_L} {c0 : Nat}
theorem tdJ_cp {T Q : ow_NT} {q : Int} (h : tdJ q sg A0 c0 T) : tdJ q sg A0 c0 (nt_copy Q T) := by
  obtain ⟨h1, A, f, w, h3, h4⟩ := h
  have key : ∀ {β : Type} (f g : Nat → β) (n k : Nat), k < n → va_cpy f g 0 0 n k = f k := fun f g n k hk => by
    rw [pk_cpy_in (Nat.zero_le k) (by omega), Nat.zero_add, Nat.sub_zero]
  have g1 : ∀ x, x < T.1 → (nt_copy Q T).2.2.2 x = T.2.2.2 x := fun x hx => key _ _ _ _ hx
  exact ⟨fun x hx => by rw [g1 x hx]; exact h1 x hx, A, f, w, isoV_cg h3 rfl rfl (fun k hk => ⟨key _ _ _ _ hk, key _ _ _ _ hk⟩) g1, h4⟩
theorem td_cu {T : ow_NT} {q : Int} (hp : pr9 q) (hi : iv9 q) (h : tdJ q sg A0 c0 T) : cu9 T.1 2000 (fun g => g < 2 * T.1) (fun x => 2 * x) (fun x => T.2.2.1.2 (2 * x)) (fun x => T.2.2.1.2 (2 * x)) (relC9 T.2.2.1 T.2.2.2 T.1) := by
  obtain ⟨h1, A, f, w, h3, h4, h5, -⟩ := h
  obtain ⟨n1, hn⟩ := nmT_ex h3
  refine (cls_ph9 h5 h3 (fun x hx => ?_) hn (cuA hp hi h3 h1 h4 h5 (nm_O h3 hn))).1
  rcases h1 x hx with e | e <;> rw [e] <;> decide
theorem te_compute {p : Nat} {R : ow_NT} (hv : vI vl W C) (h4 : cAt y 4000 R) (h44 : ∃ T, cAt y 44000 T ∧ ow_b24 T.2.2.1) (hR : tyI R) (hJ : tdJ p sg A0 c0 R) (htb : tbP y) (hch : chP y) (hp : prT p) (hp2 : p ≤ 997) : Te (fun K => de_X1_compute K 43000 4000 (nI p) vl y) (gQ vl (fun r => (∃ T, cAt r.2.2 44000 T ∧ ow_b24 T.2.2.1) ∧ fr cmG y r.2.2 ∧ (∃ W' C', vI r.2.1 W' C') ∧ clT p sg A0 c0 r.2.2 r.1)) := by
  obtain ⟨T0, t1, t2⟩ := h44
  have hpr := prp_of hp
  have hiv := iv_of hp
  have hcp := tc_copy (vl := vl) nH44 nH4 (Or.inr (by omega)) t1 h4 hR.1.2.1
  refine e_X1_compute ?_
  refine u_X1_compute_0 ?_; unfold dm_X1_compute_0
  refine w_cs0 hcp ?_
  rintro z1 ⟨a1, a2⟩
  refine w_cs0 (te_tidy (J := tdJ p sg A0 c0) (fun T x h _ hx e => tdJ_1 hpr hiv h hx e) (fun T x u h _ hx hu e => tdJ_2 hpr hiv h hx hu e) a1 (tyI_cp hR t2) (tdJ_cp hJ)) ?_
  rintro z2 ⟨⟨⟨c, ci, S, G⟩, b1, b2, b4⟩, b3⟩
  have hC := td_cu hpr hiv b4
  have hb24 : ow_b24 S := b2.1.2.2.1
  have hc12 : c ≤ 12 := b2.1.2.1
  have f2 : fr cmG y z2 := fr_tr (fr_mono (fun g hg => cmG_c hg) a2) (fr_mono (fun g hg => cmG_c hg) b3)
  refine w_wrF ?_
  have c3 : cAt (usF z2 (43000 + 10) (nI p)) 44000 (c, ci, S, G) := cAt_fr (fr_F (P := fun g => g = 43010) rfl) (fun g hg h9 => by unfold cP at hg; omega) b1
  refine w_cs1 (tc_writhe nH44 c3 hc12) ?_
  rintro wr z3 ⟨g2, g3⟩
  dsimp only at g2 g3
  subst g3
  refine w_wrF ?_
  have c4 : cAt (usF (usF z2 (43000 + 10) (nI p)) (43000 + 19) wr) 44000 (c, ci, S, G) := cAt_fr (fr_F (P := fun g => g = 43019) rfl) (fun g hg h9 => by unfold cP at hg; omega) c3
  refine w_rdF c4.1 (w_rdF po_usF_at (w_nzI (by decide) (w_wrF ?_)))
  have f5 : ∀ x, fr (fun g => g = 43010 ∨ g = 43019 ∨ g = 43020) z2 (usF (usF (usF z2 (43000 + 10) (nI p)) (43000 + 19) wr) (43000 + 20) x) := fun x => fr_F2 (fr_F2 (fr_F (Or.inl rfl)) (Or.inr (Or.inl rfl))) (Or.inr (Or.inr rfl))
  have g5 : ∀ g, (g = 43010 ∨ g = 43019 ∨ g = 43020) → cmG g := fun g hg => by unfold cmG; omega
  have g6 : ∀ g, cmH g → cmG g := fun g hg => by unfold cmG; unfold cmH at hg; omega
  have n5 : ¬ cmG 43005 := by unfold cmG cP; omega
  have c5 : ∀ x, cAt (usF (usF (usF z2 (43000 + 10) (nI p)) (43000 + 19) wr) (43000 + 20) x) 44000 (c, ci, S, G) := fun x => cAt_fr (f5 x) (fun g hg h9 => by unfold cP at hg; omega) b1
  have p5 : ∀ x, (usF (usF (usF z2 (43000 + 10) (nI p)) (43000 + 19) wr) (43000 + 20) x).1 43010 = nI p := fun x => rf_ot (by omega) (rf_ot (by omega) po_usF_at)
  refine w_mono (te_cmp0 b2 (c5 _) (tbP_fr (fr_tr f2 (fr_mono g5 (f5 _))) n5 htb) (chP_fr (fr_tr f2 (fr_mono g5 (f5 _))) (fun g hg => by unfold cmG cP at hg; omega) hch) (p5 _) hp hp2 hv hC) ?_
  rintro r ⟨r1, r2, r3, z6, Ls, ns, r4, r5, r6⟩
  refine ⟨r1, ⟨_, cAt_fr r2 (fun g hg h9 => by unfold cP at hg; unfold cmH at h9; omega) (c5 _), hb24⟩, fr_tr (fr_tr f2 (fr_mono g5 (f5 _))) (fr_mono g6 r2), r3, (c, ci, S, G), z6, Ls, ns, b2, b4, r4, r5, r6, ?_, ?_⟩
  · rw [(r2 43019 (by unfold cmH; omega)).1]
    exact (rf_ot (by omega) po_usF_at).trans g2
  · rw [(r2 43020 (by unfold cmH; omega)).1]
    refine po_usF_at.trans ?_
    rw [g2]
end XCJA
/-- what the class's table says of the list -/
def clN (p : Nat) (sg : Nat → Bool) (A0 : rn_L) (c0 : Nat) (z : ow_MS) (ans : Int32) : Prop := ∃ (c' n' κ : Nat) (CT : Nat → Int → Int), (n' ≤ c' ∧ c' ≤ 8 ∧ c' + κ ≤ c0 ∧ ng9 A0 sg = n' + κ) ∧ z.1 43019 = iI ((c' : Int) - 2 * n') ∧ z.1 43020 = nI n' ∧ tabT z CT ∧ ans = iI (sN9 (fun i => CT (i / 56) (((i % 56 : Nat) : Int) - 20)) 504) ∧ (∀ o d, (c' < o ∨ d < -16 ∨ 24 < d) → CT o d = 0) ∧ ∀ nm, nmO A0 nm c0 → ∀ r d b, bL9 p A0 sg nm c0 1 d r b → b = if r < κ then 0 else CT (r - κ) (d + c0 - c' - 3 * κ)
section XCJB
variable {A : rn_L} {sg : Nat → Bool} {nm f : Nat → Nat} {c : Nat} {T : ow_NT}
theorem ng_ons (hn : A.flatten.Nodup) (h2 : ∀ p, p ∈ A.flatten → p.2 < 2) (hO : nmO A nm c) : ng9 A sg = ons9 (fun y => sg (nm y)) c := by
  have pm : (A.flatten.filter (fun p => decide (p.2 = 0))).Perm ((List.range c).map (fun y => (nm y, 0))) := by
    refine (List.perm_ext_iff_of_nodup (hn.filter _) (nodup_map List.nodup_range (fun i j hi hj e => hO.2.1 i j (List.mem_range.mp hi) (List.mem_range.mp hj) (congrArg Prod.fst e)))).mpr (fun q => ?_)
    rw [List.mem_filter, List.mem_map]
    constructor
    · rintro ⟨a, b⟩
      obtain ⟨y, y1, y2⟩ := hO.2.2 q a
      exact ⟨y, List.mem_range.mpr y1, Prod.ext y2 (of_decide_eq_true b).symm⟩
    · rintro ⟨y, y1, rfl⟩
      exact ⟨(hO.1 y (List.mem_range.mp y1)).1, rfl⟩
  have e1 : ng9 A sg = ((A.flatten.filter (fun p => decide (p.2 = 0))).filter (fun p => sg p.1)).length := by
    unfold ng9
    rw [List.filter_filter]
    congr 2
    funext p
    rw [Bool.and_comm]
  rw [e1, (pm.filter _).length_eq]
  have key : ∀ n, (((List.range n).map (fun y => (nm y, 0))).filter (fun p : vT => sg p.1)).length = ons9 (fun y => sg (nm y)) n := by
    intro n
    induction n with
    | zero => rfl
    | succ n ih =>
      rw [List.range_succ, List.map_append, List.filter_append, List.length_append, ih]
      show _ = ons9 (fun y => sg (nm y)) n + if sg (nm n) = true then 1 else 0
      by_cases s : sg (nm n) = true
      · rw [if_pos s]
        simp [s]
      · rw [if_neg s]
        simp [s]
  exact key c
theorem sum_ng (h : isoV A sg f T) (hT : pm1 T) : np_sum T.2.2.2 T.1 = iI ((T.1 : Int) - 2 * ng9 A sg) ∧ ng9 A sg ≤ T.1 := by
  obtain ⟨nm, hm⟩ := nmT_ex h
  rw [ng_ons h.1.1.1 (fun p hp => (h.1.1.2 p hp).2.1) (nm_O h hm)]
  have key : ∀ n, n ≤ T.1 → np_sum T.2.2.2 n = iI ((n : Int) - 2 * ons9 (fun y => sg (nm y)) n) ∧ ons9 (fun y => sg (nm y)) n ≤ n := by
    intro n
    induction n with
    | zero => exact fun _ => ⟨rfl, Nat.le_refl 0⟩
    | succ n ih =>
      intro hn
      obtain ⟨i1, i2⟩ := ih (by omega)
      obtain ⟨e, m⟩ := hm n (by omega)
      have h7 := h.1.2.2.2.2.2.2.1 _ m
      simp only [] at h7
      rw [e] at h7
      show np_sum T.2.2.2 n + T.2.2.2 n = iI (((n + 1 : Nat) : Int) - 2 * ((ons9 (fun y => sg (nm y)) n + (if sg (nm n) = true then 1 else 0) : Nat) : Int)) ∧ ons9 (fun y => sg (nm y)) n + (if sg (nm n) = true then 1 else 0) ≤ n + 1
      rcases hT n (by omega) with q | q
      · have s : ¬ sg (nm n) = true := fun h9 => by
          have := h7.mpr h9
          rw [q] at this
          exact absurd this (by decide)
        rw [if_neg s, i1, q, show (1 : Int32) = iI 1 by decide, iI_add]
        exact ⟨congrArg iI (by omega), by omega⟩
      · have s : sg (nm n) = true := h7.mp (by rw [q]; decide)
        rw [if_pos s, i1, q, show (-1 : Int32) = iI (-1) by decide, iI_add]
        exact ⟨congrArg iI (by omega), by omega⟩
  exact key T.1 (Nat.le_refl _)
theorem half_ng : ∀ c : Fin 13, ∀ n : Fin 13, n.val ≤ c.val → (nI c.val - iI ((c.val : Int) - 2 * (n.val : Int))) / 2 = nI n.val := by decide +kernel
theorem clN_of {p : Nat} {A0 : rn_L} {c0 : Nat} {z : ow_MS} {ans : Int32} (hp : prT p) (h : clT p sg A0 c0 z ans) (hex : ∃ nm, nmO A0 nm c0) : clN p sg A0 c0 z ans := by
  have hpr := prp_of hp
  have hiv := iv_of hp
  obtain ⟨T, z6, Ls, ns, t1, ⟨t2, A, f, w, t3, t4, t5, κ, ⟨k1, k2⟩, k3⟩, t6, t7, t8, t9, t10⟩ := h
  obtain ⟨s1, s2⟩ := sum_ng t3 t2
  obtain ⟨hc8, -⟩ := tyI_sz t1
  have hcr : cirs A = T.2.1 := t3.1.2.2.2.2.2.2.2
  have hci : T.2.1 ≤ 6 := by
    have h9 : np_rg T.1 T.2.2.1 + T.2.1 ≤ 6 := t1.1.2.2.2
    omega
  have hn9 : ∀ s, s < 2 ^ T.1 → ns s ≤ 9 := fun s hs => (t6 s hs).2
  refine ⟨T.1, ng9 A sg, κ, fun o => cirF T.2.1 (fun d => bq9 p T.1 T.2.2.1 T.2.2.2 Ls ns o d), ⟨s2, hc8, k2, k1⟩, by rw [t9, s1], ?_, t7, t8, fun o d h9 => ?_, fun nm hO r d b hB => ?_⟩
  · rw [t10, s1]
    exact half_ng ⟨T.1, by omega⟩ ⟨ng9 A sg, by omega⟩ s2
  · by_cases q : T.1 < o
    · have z0 : ∀ j d, cirF j (fun d => bq9 p T.1 T.2.2.1 T.2.2.2 Ls ns o d) d = 0 := by
        intro j
        induction j with
        | zero => exact fun d => bq_0 hn9 hc8 (Or.inl q)
        | succ j ih =>
          intro d
          show cirF j _ (d - 1) + cirF j _ (d + 1) = 0
          rw [ih, ih]
          rfl
      exact z0 _ _
    · exact cir_0 (fun d h8 => bq_0 hn9 hc8 (Or.inr h8)) _ _ (by omega)
  · obtain ⟨n1, hn⟩ := nmT_ex t3
    have o1 := nm_O t3 hn
    have B := k3 nm n1 hO o1 1 d r b (Nat.le_refl 1) hB
    have e := bL_cl hpr hiv t3 t2 t4 t5 o1 t6 B
    rw [e, hcr]
    by_cases q : r < κ
    · rw [if_pos q]
      have z0 : ∀ j d, cirF j (fun d => if r + 1 < 1 + κ then 0 else bq9 p T.1 T.2.2.1 T.2.2.2 Ls ns (r + 1 - (1 + κ)) d) d = 0 := by
        intro j
        induction j with
        | zero => exact fun d => if_pos (by omega)
        | succ j ih =>
          intro d
          show cirF j _ (d - 1) + cirF j _ (d + 1) = 0
          rw [ih, ih]
          rfl
      exact z0 _ _
    · rw [if_neg q]
      have ef : (fun d => if r + 1 < 1 + κ then 0 else bq9 p T.1 T.2.2.1 T.2.2.2 Ls ns (r + 1 - (1 + κ)) d) = (fun d => bq9 p T.1 T.2.2.1 T.2.2.2 Ls ns (r - κ) d) := funext (fun d => by
        rw [if_neg (by omega), show r + 1 - (1 + κ) = r - κ by omega])
      rw [ef]
end XCJB
end
section
/-! 99zzzzzzzzzzzzzzzzyzn.xcic -/
-- CHAIN: the reference's loops by number (made by tools/mkcic.py)
section XCK1
variable {A : rn_L} {sg : Nat → Bool} {st : Int32} {S : ow_NP} {G : Nat → Int32} {b : Nat → Bool} {M : Nat → Nat}
/-- both sides have the same loops -/
theorem loops_iff {f : Nat → Nat} {c ci : Nat} (hi : isoN A sg f (c, ci, S, G)) (hv : vn c S) (hal : ∀ v, v < A.flatten.length → uns A v = 0 → alS sg st (crs A v) = alB G b (f (crs A v))) : ∀ x y, x < A.flatten.length → y < A.flatten.length → (rt (lpA A sg st A.flatten.length) x = rt (lpA A sg st A.flatten.length) y ↔ rt (uPx S G b c) (lbv A f x) = rt (uPx S G b c) (lbv A f y)) := by
  have hd := wkF_ok hi.1
  have hl : A.flatten.length = 2 * c := hi.2.1
  have hS2 : ∀ v, v < A.flatten.length → S.2 (lbv A f v) = lbv A f (rn_pv A v) := by
    intro v hv1
    have h1 := hi.2.2.2.2.2.1 (rn_pv A v) (pv_lt hv1)
    rw [nx_pv hv1] at h1
    have h2 : S.1 (lbv A f (rn_pv A v)) = lbv A f v := h1
    rw [← h2]
    exact (hv _ (lbv_lt hi (pv_lt hv1))).2.2.1
  have cr : ∀ v, v < A.flatten.length → uns A v = 0 → egp S (4 * f (crs A v)) = lbv A f v ∧ egp S (4 * f (crs A v) + 1) = lbv A f (rn_pv A v) ∧ egp S (4 * f (crs A v) + 2) = lbv A f (mtf A v) ∧ egp S (4 * f (crs A v) + 3) = lbv A f (rn_pv A (mtf A v)) := by
    intro v hv1 hu
    obtain ⟨m1, m2, m3, m4⟩ := lbv_mt hi hv1
    have e0 : lbv A f v = 2 * f (crs A v) := by unfold lbv; rw [hu]; rfl
    have e1 : lbv A f (mtf A v) = 2 * f (crs A v) + 1 := by
      rw [m3, e0]
      unfold mt
      rw [if_pos (by omega)]
    refine ⟨?_, ?_, ?_, ?_⟩
    · unfold egp
      rw [if_pos (by omega), e0]
      omega
    · unfold egp
      rw [if_neg (by omega), show (4 * f (crs A v) + 1) / 2 = 2 * f (crs A v) by omega, ← e0]
      exact hS2 v hv1
    · unfold egp
      rw [if_pos (by omega), e1]
      omega
    · unfold egp
      rw [if_neg (by omega), show (4 * f (crs A v) + 3) / 2 = 2 * f (crs A v) + 1 by omega, ← e1]
      exact hS2 _ m1
  -- every crossing has its over visit
  have ov : ∀ x, x < c → ∃ v, v < A.flatten.length ∧ uns A v = 0 ∧ f (crs A v) = x := by
    intro x hx
    obtain ⟨v, v1, v2⟩ := lbv_sur hi (k := 2 * x) (show 2 * x < 2 * c by omega)
    have := uns_lt hi.1 v1
    refine ⟨v, v1, ?_, ?_⟩ <;> (unfold lbv at v2; omega)
  have d1 : ∀ x y, x < A.flatten.length → y < A.flatten.length → rt (lpA A sg st A.flatten.length) x = rt (lpA A sg st A.flatten.length) y → rt (uPx S G b c) (lbv A f x) = rt (uPx S G b c) (lbv A f y) := by
    refine lpA_min (M := fun v => rt (uPx S G b c) (lbv A f v)) hd ?_ _ (Nat.le_refl _)
    intro v hv1 hu
    obtain ⟨k0, k1, k2, k3⟩ := cr v hv1 hu
    obtain ⟨j1, j2⟩ := uPx_j (S := S) (G := G) (b := b) c (f (crs A v)) (hi.2.2.2.1 v hv1)
    have ha := hal v hv1 hu
    unfold ljM
    unfold toI at j1
    unfold toO at j2
    dsimp only
    rw [ha]
    by_cases h2 : alB G b (f (crs A v)) = true
    · rw [if_pos h2] at j1 j2 ⊢
      rw [k1, k2] at j1
      rw [k0, k3] at j2
      exact ⟨j1, j2.symm⟩
    · rw [if_neg h2] at j1 j2 ⊢
      rw [k1, k3] at j1
      rw [k0, k2] at j2
      exact ⟨j1, j2⟩
  obtain ⟨F, hF⟩ : ∃ F : Nat → Nat, ∀ a, a < 2 * c → F a < A.flatten.length ∧ lbv A f (F a) = a := by
    refine ⟨fun a => if ha : a < 2 * c then Classical.choose (lbv_sur hi ha) else 0, fun a ha => ?_⟩
    dsimp only
    rw [dif_pos ha]
    exact Classical.choose_spec (lbv_sur hi ha)
  have hFi : ∀ v, v < A.flatten.length → F (lbv A f v) = v := fun v hv1 => by
    obtain ⟨q1, q2⟩ := hF _ (lbv_lt hi hv1)
    exact lbv_inj hi q1 hv1 q2
  have d2 : ∀ x y, x < 2 * c → y < 2 * c → rt (uPx S G b c) x = rt (uPx S G b c) y → rt (lpA A sg st A.flatten.length) (F x) = rt (lpA A sg st A.flatten.length) (F y) := by
    refine uPx_min (M := fun a => rt (lpA A sg st A.flatten.length) (F a)) hv ?_ c (Nat.le_refl _)
    intro x hx
    obtain ⟨v, v1, hu, rfl⟩ := ov x hx
    obtain ⟨k0, k1, k2, k3⟩ := cr v v1 hu
    have hml := mtf_lt hd v1
    have jj := lpA_jS (A := A) (sg := sg) (st := st) _ v v1 hu
    rw [hal v v1 hu] at jj
    unfold ljM at jj
    unfold toI toO
    by_cases h2 : alB G b (f (crs A v)) = true
    · rw [if_pos h2] at jj
      rw [if_pos h2, if_pos h2, k0, k1, k2, k3, hFi _ v1, hFi _ hml, hFi _ (pv_lt v1), hFi _ (pv_lt hml)]
      exact ⟨jj.1, jj.2.symm⟩
    · rw [if_neg h2] at jj
      rw [if_neg h2, if_neg h2, k0, k1, k2, k3, hFi _ v1, hFi _ hml, hFi _ (pv_lt v1), hFi _ (pv_lt hml)]
      exact ⟨jj.1, jj.2⟩
  intro x y hx hy
  refine ⟨d1 x y hx hy, fun h9 => ?_⟩
  have := d2 _ _ (lbv_lt hi hx) (lbv_lt hi hy) h9
  rw [hFi x hx, hFi y hy] at this
  exact this
end XCK1
def lbR (A : rn_L) (sg : Nat → Bool) (s v : Nat) : Nat := rtsN (lpA A sg (nI s) A.flatten.length) (rt (lpA A sg (nI s) A.flatten.length) v)
noncomputable def LsR (A : rn_L) (sg : Nat → Bool) (s g : Nat) : Nat := @dite _ (∃ v, v < A.flatten.length ∧ gV9 (vAt A v) = g) (Classical.propDecidable _) (fun h => lbR A sg s h.choose) (fun _ => rtsN (lpA A sg (nI s) A.flatten.length) A.flatten.length + cb9 A (g - 1000))
section XCK2
variable {A : rn_L} {sg : Nat → Bool} {c s : Nat} {T : ow_NT} {w : vT → Bool}
theorem rts_lt {p : Nat → Nat} {r r' : Nat} (h : p r = r) (hl : r < r') : rtsN p r < rtsN p r' := by
  have a := rtsN_mono (p := p) (a := r + 1) r' hl
  rw [rtsN_s, if_pos h] at a
  omega
theorem rts_in {p : Nat → Nat} {r r' : Nat} (h : p r = r) (h' : p r' = r') (e : rtsN p r = rtsN p r') : r = r' := by
  rcases Nat.lt_trichotomy r r' with q | q | q
  · have := rts_lt h q
    omega
  · exact q
  · have := rts_lt h' q
    omega
theorem rts_at {p : Nat → Nat} {l : Nat} (V : Nat) : l < rtsN p V → ∃ r, r < V ∧ p r = r ∧ rtsN p r = l := by
  induction V with
  | zero => exact fun h => absurd h (Nat.not_lt_zero _)
  | succ V ih =>
    intro h
    rw [rtsN_s] at h
    rcases Nat.lt_or_ge l (rtsN p V) with q | q
    · obtain ⟨r, a, b⟩ := ih q
      exact ⟨r, by omega, b⟩
    · by_cases e : p V = V
      · rw [if_pos e] at h
        exact ⟨V, by omega, e, by omega⟩
      · rw [if_neg e] at h
        omega
theorem cb_mono {a : Nat} : ∀ b, a ≤ b → cb9 A a ≤ cb9 A b := fun b h => by
  induction b with
  | zero => rw [show a = 0 by omega]; exact Nat.le_refl _
  | succ b ih =>
    rcases Nat.lt_or_ge b a with q | q
    · rw [show a = b + 1 by omega]
      exact Nat.le_refl _
    · exact Nat.le_trans (ih q) (Nat.le_add_right _ _)
theorem cb_s {i : Nat} (h : A[i]? = some []) : cb9 A (i + 1) = cb9 A i + 1 := by
  show cb9 A i + @ite _ (A[i]? = some []) (Classical.propDecidable _) 1 0 = _
  rw [if_pos h]
theorem cb_in {i i' : Nat} (h : A[i]? = some []) (h' : A[i']? = some []) (e : cb9 A i = cb9 A i') : i = i' := by
  rcases Nat.lt_trichotomy i i' with q | q | q
  · have := cb_mono (A := A) i' q
    rw [cb_s h] at this
    omega
  · exact q
  · have := cb_mono (A := A) i q
    rw [cb_s h'] at this
    omega
theorem cb_at {l : Nat} (V : Nat) : l < cb9 A V → ∃ i, i < V ∧ A[i]? = some [] ∧ cb9 A i = l := by
  induction V with
  | zero => exact fun h => absurd h (Nat.not_lt_zero _)
  | succ V ih =>
    intro h
    rcases Nat.lt_or_ge l (cb9 A V) with q | q
    · obtain ⟨r, a, b⟩ := ih q
      exact ⟨r, by omega, b⟩
    · by_cases e : A[V]? = some []
      · rw [cb_s e] at h
        exact ⟨V, by omega, e, by omega⟩
      · have h : l < cb9 A V + @ite _ (A[V]? = some []) (Classical.propDecidable _) 1 0 := h
        rw [if_neg e] at h
        omega
theorem LsR_v (hn : A.flatten.Nodup) (h2 : ∀ p, p ∈ A.flatten → p.2 < 2) {v : Nat} (hv : v < A.flatten.length) : LsR A sg s (gV9 (vAt A v)) = lbR A sg s v := by
  have h : ∃ u, u < A.flatten.length ∧ gV9 (vAt A u) = gV9 (vAt A v) := ⟨v, hv, rfl⟩
  unfold LsR
  rw [dif_pos h]
  have e := gA_inj (h2 _ (vAt_mem h.choose_spec.1)) (h2 _ (vAt_mem hv)) h.choose_spec.2
  rw [(vAt_ij hn h.choose_spec.1 hv).mp e]
theorem LsR_c (hb : bdA A) {i : Nat} : LsR A sg s (1000 + i) = rtsN (lpA A sg (nI s) A.flatten.length) A.flatten.length + cb9 A i := by
  unfold LsR
  rw [dif_neg (fun ⟨v, a, e⟩ => by
    have := gV_lt hb (vAt_mem a)
    omega), Nat.add_sub_cancel_left]
theorem al_R (hN : isoN A sg (fun x => x) T) (hT : pm1 T) (hv : vn T.1 T.2.2.1) (hc : T.1 ≤ 8) (hs : s < 2 ^ T.1) {v : Nat} (hl : v < A.flatten.length) : alS sg (nI s) (crs A v) = alB T.2.2.2 (tb s) (crs A v) := by
  have hV := isoV_of hN hv
  have h256 : 2 ^ T.1 ≤ 256 := two_mono (b := 8) hc
  have m := vAt_mem hl
  have hx : crs A v < T.1 := hV.1.2.2.2.1 _ m
  have hm : nmT A (fun x => x) (fun x => x) T.1 := fun y hy => by
    obtain ⟨x0, e, a, -⟩ := nm_of hV hy
    rw [← e]
    exact ⟨rfl, a⟩
  rw [al_sg hV (fun x hx => by rcases hT x hx with e | e <;> rw [e] <;> decide) hm hx]
  unfold alS
  rw [bit_nI (by omega) (by omega), tb_b]
  rcases bt_01 s (crs A v) with e | e <;> rw [e] <;> cases sg (crs A v) <;> decide
theorem rel_R (hN : isoN A sg (fun x => x) T) (hT : pm1 T) (hv : vn T.1 T.2.2.1) (hc : T.1 ≤ 8) (hs : s < 2 ^ T.1) {x y : Nat} (hx : x < A.flatten.length) (hy : y < A.flatten.length) : relL9 A sg (fun x => x) T.1 (tb s) (gV9 (vAt A x)) (gV9 (vAt A y)) ↔ rt (lpA A sg (nI s) A.flatten.length) x = rt (lpA A sg (nI s) A.flatten.length) y := by
  have hV := isoV_of hN hv
  have hm : nmT A (fun x => x) (fun x => x) T.1 := fun y hy => by
    obtain ⟨x0, e, a, -⟩ := nm_of hV hy
    rw [← e]
    exact ⟨rfl, a⟩
  rw [relL_T hV (fun x hx => by rcases hT x hx with e | e <;> rw [e] <;> decide) hm (vAt_mem hx) (vAt_mem hy)]
  exact (loops_iff (st := nI s) (b := tb s) hN hv (fun v hl _ => al_R hN hT hv hc hs hl) x y hx hy).symm
theorem nm_id (hN : isoN A sg (fun x => x) T) (hv : vn T.1 T.2.2.1) : nmO A (fun x => x) T.1 := by
  have hV := isoV_of hN hv
  exact nm_O (f := fun x => x) hV (fun y hy => by
    obtain ⟨x0, e, a, -⟩ := nm_of hV hy
    rw [← e]
    exact ⟨rfl, a⟩)
theorem LT_R (hN : isoN A sg (fun x => x) T) (hT : pm1 T) (hv : vn T.1 T.2.2.1) (hc : T.1 ≤ 8) (hb : bdA A) (h9 : ∀ s, s < 2 ^ T.1 → LcN A sg s ≤ 9) : LT9 T.1 (gG9 A) (relL9 A sg (fun x => x) T.1) (LsR A sg) (LcN A sg) := fun s hs => by
  have u2 : ∀ p, p ∈ A.flatten → p.2 < 2 := fun p hp => (hb.2.1 p hp).2
  have hO := nm_id hN hv
  have eK : LcN A sg s = rtsN (lpA A sg (nI s) A.flatten.length) A.flatten.length + cb9 A A.length := by
    rw [cb_all, cirs_eC]
    rfl
  have dn9 := lpA_dn (A := A) (sg := sg) (st := nI s) A.flatten.length
  have lb_lt : ∀ v, v < A.flatten.length → lbR A sg s v < rtsN (lpA A sg (nI s) A.flatten.length) A.flatten.length := fun v hv => by
    obtain ⟨r1, r2⟩ := rt_in dn9 v
    exact rts_lt r1 (by omega)
  have vis : ∀ q, q ∈ A.flatten → ∃ v, v < A.flatten.length ∧ vAt A v = q := fun q hq => by
    obtain ⟨v, hv, e⟩ := List.getElem_of_mem hq
    exact ⟨v, hv, vAt_eq (by rw [List.getElem?_eq_getElem hv, e])⟩
  refine ⟨fun g hg => ?_, fun l hl => ?_, fun g g' hg hg' => ?_, by have := h9 s hs; omega⟩
  · rw [eK]
    rcases hg with ⟨q, q1, q2⟩ | ⟨i, i1, i2, i3⟩
    · obtain ⟨v, v1, v2⟩ := vis q q1
      rw [q2, ← v2, LsR_v hb.1 u2 v1]
      have := lb_lt v v1
      omega
    · rw [i3, LsR_c hb]
      have := cb_mono (A := A) A.length i1
      rw [cb_s i2] at this
      omega
  · rw [eK] at hl
    rcases Nat.lt_or_ge l (rtsN (lpA A sg (nI s) A.flatten.length) A.flatten.length) with q | q
    · obtain ⟨r, r1, r2, r3⟩ := rts_at _ q
      refine ⟨gV9 (vAt A r), Or.inl ⟨_, vAt_mem r1, rfl⟩, ?_⟩
      rw [LsR_v hb.1 u2 r1]
      unfold lbR
      rw [rt_root r2]
      exact r3
    · obtain ⟨i, i1, i2, i3⟩ := cb_at (A := A) (l := l - rtsN (lpA A sg (nI s) A.flatten.length) A.flatten.length) A.length (by omega)
      refine ⟨1000 + i, Or.inr ⟨i, i1, i2, rfl⟩, ?_⟩
      rw [LsR_c hb, i3]
      omega
  · rcases hg with ⟨q, q1, q2⟩ | ⟨i, i1, i2, i3⟩
    · obtain ⟨v, v1, v2⟩ := vis q q1
      rcases hg' with ⟨q', q1', q2'⟩ | ⟨i', i1', i2', i3'⟩
      · obtain ⟨v', v1', v2'⟩ := vis q' q1'
        rw [q2, q2', ← v2, ← v2', LsR_v hb.1 u2 v1, LsR_v hb.1 u2 v1', rel_R hN hT hv hc hs v1 v1']
        unfold lbR
        exact ⟨fun e => rts_in (rt_in dn9 v).1 (rt_in dn9 v').1 e, fun e => by rw [e]⟩
      · rw [q2, i3', ← v2, LsR_v hb.1 u2 v1, LsR_c hb]
        have a := lb_lt v v1
        constructor
        · intro e
          omega
        · intro e
          rcases relL_out hb.1 hO e with e2 | ⟨-, p9, b1, b2⟩
          · have := gV_lt hb (vAt_mem v1)
            omega
          · have := gV_lt hb b1
            omega
    · rcases hg' with ⟨q', q1', q2'⟩ | ⟨i', i1', i2', i3'⟩
      · obtain ⟨v', v1', v2'⟩ := vis q' q1'
        rw [i3, q2', ← v2', LsR_v hb.1 u2 v1', LsR_c hb]
        have a := lb_lt v' v1'
        constructor
        · intro e
          omega
        · intro e
          rcases relL_out hb.1 hO e with e2 | ⟨⟨p9, b1, b2⟩, -⟩
          · have := gV_lt hb (vAt_mem v1')
            omega
          · have := gV_lt hb b1
            omega
      · rw [i3, i3', LsR_c hb, LsR_c hb]
        constructor
        · intro e
          have := cb_in i2 i2' (by omega)
          rw [this]
          exact lst_e _ |>.1 _
        · intro e
          rcases relL_out hb.1 hO e with e2 | ⟨⟨p9, b1, b2⟩, -⟩
          · have : i = i' := by omega
            rw [this]
          · have := gV_lt hb b1
            omega
end XCK2
end
section
/-! 99zzzzzzzzzzzzzzzzyzo.xcid -/
-- CHAIN: the reference's states and places, exactly (made by tools/mkcid.py)
def stX (y : ow_MS) (A : rn_L) (sg : Nat → Bool) (c : Nat) : Prop := (∀ s, s < 2 ^ c → y.2.1 82 s = nI (LcN A sg s)) ∧ (∀ s, s ≤ 2 ^ c → y.2.1 83 s = nI (bsN A sg s)) ∧ ∀ s g, s < 2 ^ c → g < A.flatten.length → y.2.1 81 (32 * s + g) = nI (lbR A sg s g)
section XCK3
variable {z : ow_MS}
theorem lb_LcN {A : rn_L} {sg : Nat → Bool} {s v : Nat} (hv : v < A.flatten.length) : lbR A sg s v < LcN A sg s := by
  obtain ⟨r1, r2⟩ := rt_in (lpA_dn (A := A) (sg := sg) (st := nI s) A.flatten.length) v
  have := rts_lt r1 (show rt (lpA A sg (nI s) A.flatten.length) v < A.flatten.length by omega)
  unfold lbR LcN
  omega
theorem stX_I {y : ow_MS} {A : rn_L} {sg : Nat → Bool} {c : Nat} (h : stX y A sg c) : stI y A sg c := ⟨h.1, h.2.1, fun s g hs hg => ⟨lbR A sg s g, lb_LcN hg, h.2.2 s g hs hg⟩⟩
theorem stX_fr {P : Nat → Prop} {y y1 : ow_MS} {A : rn_L} {sg : Nat → Bool} {c : Nat} (hf : fr P y y1) (h1 : ¬ P 81) (h2 : ¬ P 82) (h3 : ¬ P 83) (h : stX y A sg c) : stX y1 A sg c := ⟨fun s hs => by rw [(hf 82 h2).2.1]; exact h.1 s hs, fun s hs => by rw [(hf 83 h3).2.1]; exact h.2.1 s hs, fun s g hs hg => by rw [(hf 81 h1).2.1]; exact h.2.2 s g hs hg⟩
theorem re_makeStates {n c P : Nat} {A : rn_L} {sg : Nat → Bool} (hn : mw_net n) (hA : oNet z n A sg) (hK : chOK A sg c P) : Te (fun K => qe_X13_makeStates K n z) (fun z1 => stX z1 A sg c ∧ fr stH z z1) := by
  obtain ⟨hok, hc, hC, hL9, hbs, -⟩ := hK
  have hV := okF_len hok
  have hmn := net_mod hn
  have h2c : 2 ^ c ≤ 256 := two_mono (b := 8) hc
  let Q : ow_MS → Prop := fun z1 => stX z1 A sg c ∧ fr stH z z1
  have oA : ∀ {y : ow_MS}, fr stH z y → oNet y n A sg := fun hf => oNet_fr hf (fun g hg => by unfold stH at hg; omega) hA
  have c1 : ∀ (d s : Nat) (y : ow_MS), s + d = 2 ^ c → fr stH z y → (∀ t, t < s → y.2.1 82 t = nI (LcN A sg t)) → (∀ t, t < s → y.2.1 83 t = nI (bsN A sg t)) → (∀ t g, t < s → g < A.flatten.length → y.2.1 81 (32 * t + g) = nI (lbR A sg t g)) → Tt (fun K i => q_X13_makeStates K i 1 (nI (eC A)) (nI c) (nI (bsN A sg s)) (nI s) 0 0 n y) Q := by
    intro d
    induction d with
    | zero =>
      intro s y hs hf h82 h83 h81
      have hs : s = 2 ^ c := by omega
      refine u_X13_makeStates_1 ?_; unfold qm_X13_makeStates_1
      rw [shl1 (by omega)]
      refine w_leT (by omega) (by omega) (w_wrI ml83 rfl (by omega) (w_some ⟨⟨fun t ht => rd_ot (by omega) (h82 t (by omega)), fun t ht => ?_, fun t g ht hg => rd_ot (by omega) (h81 t g (by omega) hg)⟩, fr_I2 hf (by unfold stH; omega)⟩))
      by_cases hts : t = 2 ^ c
      · rw [hts, po_usI_at, hs]
      · exact rd_ne hts (h83 t (by omega))
    | succ d ih =>
      intro s y hs hf h82 h83 h81
      have hs9 := hL9 s (by omega)
      have hb1 : bsN A sg (s + 1) ≤ 13122 := Nat.le_trans (bs_mono (by omega)) hbs
      rw [bs_s] at hb1
      refine u_X13_makeStates_1 ?_; unfold qm_X13_makeStates_1
      rw [shl1 (by omega)]
      refine w_leF (by omega) (by omega) (w_cs0 (tp_loops (st := nI s) hn (oA hf)) (fun y1 ⟨u1, f1⟩ => ?_))
      have hf1 : fr stH z y1 := fr_tr hf (fr_mono (fun g hg => Or.inl hg) f1)
      have hp : dn (lpA A sg (nI s) A.flatten.length) := u1.1
      have hLs : LcN A sg s = rtsN (lpA A sg (nI s) A.flatten.length) A.flatten.length + eC A := rfl
      generalize hpe : lpA A sg (nI s) A.flatten.length = p at u1 hp hLs
      have lbE : ∀ h, lbR A sg s h = rtsN p (rt p h) := fun h => by
        unfold lbR
        rw [hpe]
      have k82 : ∀ t, t < s → y1.2.1 82 t = nI (LcN A sg t) := fun t ht => by rw [(f1 82 (by omega)).2.1]; exact h82 t ht
      have k83 : ∀ t, t < s → y1.2.1 83 t = nI (bsN A sg t) := fun t ht => by rw [(f1 83 (by omega)).2.1]; exact h83 t ht
      have k81 : ∀ t g, t < s → g < A.flatten.length → y1.2.1 81 (32 * t + g) = nI (lbR A sg t g) := fun t g ht hg => by rw [(f1 81 (by omega)).2.1]; exact h81 t g ht hg
      have u81 : ∀ {y : ow_MS} {i : Nat} {x : Int32}, ufR y p → ufR (usI y 81 i x) p := fun h => ⟨h.1, fun g hg => rd_ot (by omega) (h.2 g hg)⟩
      have c4 : ∀ (d2 g : Nat) (y : ow_MS), g + d2 = A.flatten.length → ufR y p → fr stH z y → (∀ t, t < s → y.2.1 82 t = nI (LcN A sg t)) → (∀ t, t < s → y.2.1 83 t = nI (bsN A sg t)) → (∀ t g, t < s → g < A.flatten.length → y.2.1 81 (32 * t + g) = nI (lbR A sg t g)) → (∀ h, h < A.flatten.length → (h < g ∨ p h = h) → y.2.1 81 (32 * s + h) = nI (lbR A sg s h)) → Tt (fun K i => q_X13_makeStates K i 4 (nI (eC A)) (nI c) (nI (bsN A sg s)) (nI s) (nI (rtsN p A.flatten.length)) (nI g) n y) Q := by
        intro d2
        induction d2 with
        | zero =>
          intro g y hg hu hf h82 h83 h81 hR
          refine u_X13_makeStates_4 ?_; unfold qm_X13_makeStates_4
          rw [nI_add, shl1 (by omega), nI_add, nI_1, ← hLs, ← bs_s]
          refine w_rdF (oA hf).1.V (w_leT (by omega) (by omega) (w_wrI ml82 rfl (by omega) (w_wrI ml83 rfl (by omega) (ih (s + 1) _ (by omega) (fr_I2 (fr_I2 hf (by unfold stH; omega)) (by unfold stH; omega)) (fun t ht => ?_) (fun t ht => ?_) (fun t h ht hh => rd_ot (by omega) (rd_ot (by omega) ?_))))))
          · refine rd_ot (by omega) ?_
            by_cases hts : t = s
            · rw [hts, po_usI_at]
            · exact rd_ne hts (h82 t (by omega))
          · by_cases hts : t = s
            · rw [hts, po_usI_at]
            · exact rd_ne hts (rd_ot (by omega) (h83 t (by omega)))
          · by_cases hts : t = s
            · rw [hts]
              exact hR h hh (Or.inl (by omega))
            · exact h81 t h (by omega) hh
        | succ d2 ih4 =>
          intro g y hg hu hf h82 h83 h81 hR
          have hgl : g < A.flatten.length := by omega
          obtain ⟨r1, r2⟩ := rt_in hp g
          have el := hR (rt p g) (by omega) (Or.inr r1)
          rw [lbE, rt_root r1, ← lbE] at el
          have hl : lbR A sg s g < LcN A sg s := by
            rw [lbE, hLs]
            have := rts_lt r1 (show rt p g < A.flatten.length by omega)
            omega
          refine u_X13_makeStates_4 ?_; unfold qm_X13_makeStates_4
          refine w_rdF (oA hf).1.V (w_leF (by omega) hgl (w_cs1 (tp_root hu (by omega)) (fun a y2 e => ?_)))
          cases e
          rw [i32x, i32x, nI_1]
          refine w_rdI ml81 rfl (by omega) el (w_wrB ml81 rfl (by omega) ?_)
          rw [(byt ⟨lbR A sg s g, by omega⟩).2]
          refine ih4 (g + 1) _ (by omega) (u81 hu) (fr_I2 hf (by unfold stH; omega)) (fun t ht => rd_ot (by omega) (h82 t ht)) (fun t ht => rd_ot (by omega) (h83 t ht)) (fun t h ht hh => ?_) (fun h hh h9 => ?_)
          · exact rd_ne (by omega) (h81 t h ht hh)
          · by_cases hhg : h = g
            · rw [hhg]
              exact po_usI_at
            · exact rd_ne (by omega) (hR h hh (by omega))
      have c2 : ∀ (d2 g : Nat) (y : ow_MS), g + d2 = A.flatten.length → ufR y p → fr stH z y → (∀ t, t < s → y.2.1 82 t = nI (LcN A sg t)) → (∀ t, t < s → y.2.1 83 t = nI (bsN A sg t)) → (∀ t g, t < s → g < A.flatten.length → y.2.1 81 (32 * t + g) = nI (lbR A sg t g)) → (∀ h, h < g → p h = h → y.2.1 81 (32 * s + h) = nI (lbR A sg s h)) → Tt (fun K i => q_X13_makeStates K i 2 (nI (eC A)) (nI c) (nI (bsN A sg s)) (nI s) (nI (rtsN p g)) (nI g) n y) Q := by
        intro d2
        induction d2 with
        | zero =>
          intro g y hg hu hf h82 h83 h81 hR
          have hg : g = A.flatten.length := by omega
          subst hg
          refine u_X13_makeStates_2 ?_; unfold qm_X13_makeStates_2
          exact w_rdF (oA hf).1.V (w_leT (by omega) (by omega) (c4 A.flatten.length 0 y (by omega) hu hf h82 h83 h81 (fun h hh h9 => hR h hh (h9.resolve_left (by omega)))))
        | succ d2 ih2 =>
          intro g y hg hu hf h82 h83 h81 hR
          have hgl : g < A.flatten.length := by omega
          have h1 := hp g
          have hrm := rtsN_mono (p := p) (a := g + 1) A.flatten.length hgl
          rw [rtsN_s] at hrm
          refine u_X13_makeStates_2 ?_; unfold qm_X13_makeStates_2
          rw [i32x]
          refine w_rdF (oA hf).1.V (w_leF (by omega) hgl (w_rdI ml47 rfl (by omega) (hu.2 g (by omega)) (w_eqN (by omega) (by omega) (fun h9 => w_wrB ml81 rfl (by omega) ?_) (fun h9 => ?_))))
          · rw [if_pos h9] at hrm
            rw [(byt ⟨rtsN p g, by omega⟩).1]
            refine u_X13_makeStates_3 ?_; unfold qm_X13_makeStates_3
            rw [nI_1, nI_1]
            have := ih2 (g + 1) (usI y 81 (32 * s + g) (nI (rtsN p g))) (by omega) (u81 hu) (fr_I2 hf (by unfold stH; omega)) (fun t ht => rd_ot (by omega) (h82 t ht)) (fun t ht => rd_ot (by omega) (h83 t ht)) (fun t h ht hh => rd_ne (by omega) (h81 t h ht hh)) (fun h hh h8 => by
              by_cases hhg : h = g
              · rw [hhg, lbE, rt_root h9]
                exact po_usI_at
              · exact rd_ne (by omega) (hR h (by omega) h8))
            rw [rtsN_s, if_pos h9] at this
            exact this
          · refine u_X13_makeStates_3 ?_; unfold qm_X13_makeStates_3
            rw [nI_1]
            have := ih2 (g + 1) y (by omega) hu hf h82 h83 h81 (fun h hh h8 => by
              by_cases hhg : h = g
              · rw [hhg] at h8
                exact absurd h8 h9
              · exact hR h (by omega) h8)
            rw [rtsN_s, if_neg h9] at this
            exact this
      exact c2 A.flatten.length 0 y1 (by omega) u1 hf1 k82 k83 k81 (fun h hh => absurd hh (by omega))
  refine e_X13_makeStates ?_
  refine u_X13_makeStates_0 ?_; unfold qm_X13_makeStates_0
  refine w_cs1 (tp_circles2 hn (by omega) (by omega) hA.1.1) (fun a y e => ?_)
  cases e
  refine w_rdF hA.1.V (w_nzI (by decide) ?_)
  rw [hV, half_V (by omega)]
  exact c1 (2 ^ c) 0 z (by omega) fr_rf (fun t ht => absurd ht (by omega)) (fun t ht => absurd ht (by omega)) (fun t g ht => absurd ht (by omega))
/-- the degree of a column -/
def dgq (c mi q : Nat) : Int := (q : Int) - 40 - c + 3 * mi
theorem qv_kp {A : rn_L} {sg : Nat → Bool} {c mi s m q : Nat} (hs : s < 2 ^ c) (hc : c ≤ 8) (hmi : mi ≤ c) (h9 : LcN A sg s ≤ 9) (hm : m < 2 ^ LcN A sg s) : qvN A sg c mi s m = q ↔ kpF (LcN A sg s) (pc s) (dgq c mi q) = some (pc m) := by
  have a := pc_le hs
  have b := pc_le hm
  rw [kp_iff b]
  unfold qvN dgq
  omega
def cq9 (ns : Nat → Nat) (dg : Int) (s m : Nat) : Nat := match kpF (ns s) (pc s) dg with
  | some k => cpN k m
  | none => 0
theorem cq9_0 {ns : Nat → Nat} {dg : Int} {s : Nat} : cq9 ns dg s 0 = 0 := by
  unfold cq9
  cases kpF (ns s) (pc s) dg <;> rfl
theorem cq9_s {ns : Nat → Nat} {dg : Int} {s m : Nat} : cq9 ns dg s (m + 1) = cq9 ns dg s m + if kpF (ns s) (pc s) dg = some (pc m) then 1 else 0 := by
  unfold cq9
  cases e : kpF (ns s) (pc s) dg with
  | none =>
    rw [if_neg (fun h => by cases h)]
  | some k =>
    show cpN k m + (if pc m = k then 1 else 0) = cpN k m + _
    by_cases q : pc m = k
    · rw [if_pos q, if_pos (by rw [q])]
    · rw [if_neg q, if_neg (fun h => q (Option.some.inj h).symm)]
theorem cq9_all {ns : Nat → Nat} {dg : Int} {s : Nat} (hn : ns s < 32) : cq9 ns dg s (2 ^ ns s) = bkF ns dg s := by
  unfold cq9 bkF
  cases e : kpF (ns s) (pc s) dg with
  | none => rfl
  | some k => exact cpN_bi _ _ hn
/-- what placeAll leaves, exactly -/
def plX (y : ow_MS) (A : rn_L) (sg : Nat → Bool) (c mi : Nat) : Prop := (∀ h q, h < 10 → q < 80 → y.2.1 85 (80 * h + q) = nI (sz9 c (LcN A sg) (dgq c mi q) h)) ∧ ∀ s m, s < 2 ^ c → m < 2 ^ LcN A sg s → y.2.1 84 (bsN A sg s + m) = nI (ix9 (LcN A sg) (dgq c mi (qvN A sg c mi s m)) s m)
theorem re_placeAll {c P mi : Nat} {A : rn_L} {sg : Nat → Bool} (hK : chOK A sg c P) (hI : stI z A sg c) (h88 : z.1 88 = nI mi) (hmi : mi ≤ c) : Te (fun K => qe_X13_placeAll K (nI c) z) (fun z1 => plX z1 A sg c mi ∧ fr plH z z1 ∧ ∀ k, k < 800 → z1.2.1 86 k = 0 ∧ z1.2.1 87 k = 0) := by
  have hK' := hK
  obtain ⟨hok, hc, hC, hL9, hbs, hblk⟩ := hK
  have h2c : 2 ^ c ≤ 256 := two_mono (b := 8) hc
  let Q : ow_MS → Prop := fun z1 => plX z1 A sg c mi ∧ fr plH z z1 ∧ ∀ k, k < 800 → z1.2.1 86 k = 0 ∧ z1.2.1 87 k = 0
  have iF : ∀ {y : ow_MS}, fr plH z y → stI y A sg c := fun hf => stI_fr hf (by unfold plH; omega) (by unfold plH; omega) (by unfold plH; omega) hI
  have szl : ∀ h s dg, s ≤ 2 ^ c → smH (bkF (LcN A sg) dg) h 0 s ≤ 1140 := fun h s dg hs => Nat.le_trans (smH_mono _ hs) (bkF_sz hL9 (hblk h))
  have c2 : ∀ (d s : Nat) (y : ow_MS), s + d = 2 ^ c → fr plH z y → (∀ h q, h < 10 → q < 80 → y.2.1 85 (80 * h + q) = nI (smH (bkF (LcN A sg) (dgq c mi q)) h 0 s)) → (∀ t m, t < s → m < 2 ^ LcN A sg t → y.2.1 84 (bsN A sg t + m) = nI (ix9 (LcN A sg) (dgq c mi (qvN A sg c mi t m)) t m)) → (∀ k, k < 800 → y.2.1 86 k = 0 ∧ y.2.1 87 k = 0) → Tt (fun K i => q_X13_placeAll K i 2 (nI c) (nI s) 0 y) Q := by
    intro d
    induction d with
    | zero =>
      intro s y hs hf h85 h84 hz9
      have hs : s = 2 ^ c := by omega
      refine u_X13_placeAll_2 ?_; unfold qm_X13_placeAll_2
      rw [shl1 (by omega)]
      refine w_leT (by omega) (by omega) (w_some ⟨⟨fun h q hh hq => ?_, fun t m ht hm => h84 t m (by omega) hm⟩, hf, hz9⟩)
      rw [h85 h q hh hq, hs]
      rfl
    | succ d ih =>
      intro s y hs hf h85 h84 hz9
      have hsl : s < 2 ^ c := by omega
      have hL := hL9 s hsl
      have h2L : 2 ^ LcN A sg s ≤ 512 := two_mono (b := 9) hL
      have hps := pc_le hsl
      have hb1 : bsN A sg (s + 1) ≤ 13122 := Nat.le_trans (bs_mono (by omega)) hbs
      rw [bs_s] at hb1
      have c3 : ∀ (d2 m : Nat) (y : ow_MS), m + d2 = 2 ^ LcN A sg s → fr plH z y → (∀ h q, h < 10 → q < 80 → y.2.1 85 (80 * h + q) = nI (smH (bkF (LcN A sg) (dgq c mi q)) h 0 s + if pc s = h then cq9 (LcN A sg) (dgq c mi q) s m else 0)) → (∀ t m', (t < s ∨ t = s ∧ m' < m) → m' < 2 ^ LcN A sg t → y.2.1 84 (bsN A sg t + m') = nI (ix9 (LcN A sg) (dgq c mi (qvN A sg c mi t m')) t m')) → (∀ k, k < 800 → y.2.1 86 k = 0 ∧ y.2.1 87 k = 0) → Tt (fun K i => q_X13_placeAll K i 3 (nI c) (nI s) (nI m) y) Q := by
        intro d2
        induction d2 with
        | zero =>
          intro m y hm hf h85 h84 hz9
          refine u_X13_placeAll_3 ?_; unfold qm_X13_placeAll_3
          refine w_rdI ml82 rfl (by omega) ((iF hf).1 s hsl) ?_
          rw [shl1 (by omega), nI_1]
          refine w_leT (by omega) (by omega) (ih (s + 1) y (by omega) hf (fun h q hh hq => ?_) (fun t m' ht hm' => h84 t m' (by
            rcases Nat.lt_or_ge t s with q9 | q9
            · exact Or.inl q9
            · have e9 : t = s := by omega
              rw [e9] at hm'
              exact Or.inr ⟨e9, by omega⟩) hm') hz9)
          rw [h85 h q hh hq, smH_s, show m = 2 ^ LcN A sg s by omega, cq9_all (by omega)]
        | succ d2 ih3 =>
          intro m y hm hf h85 h84 hz9
          have hml : m < 2 ^ LcN A sg s := by omega
          have hIy := iF hf
          have h88y : y.1 88 = nI mi := by rw [(hf 88 (by unfold plH; omega)).1]; exact h88
          obtain ⟨tq, hq80⟩ := tp_qOf hK' hIy h88y hmi hsl hml
          generalize hqe : qvN A sg c mi s m = qq at tq hq80
          have hkp := (qv_kp hsl hc hmi hL hml).mp hqe
          have ev := h85 (pc s) qq (by omega) hq80
          rw [if_pos rfl] at ev
          have ecq : cq9 (LcN A sg) (dgq c mi qq) s m = cpN (pc m) m := by
            unfold cq9
            rw [hkp]
          rw [ecq] at ev
          have eix : smH (bkF (LcN A sg) (dgq c mi qq)) (pc s) 0 s + cpN (pc m) m = ix9 (LcN A sg) (dgq c mi qq) s m := rfl
          have hbnd : ix9 (LcN A sg) (dgq c mi qq) s m < 1140 := Nat.lt_of_lt_of_le (ix_sz (h := pc s) ⟨hsl, rfl, hml, hkp⟩ (by omega)) (bkF_sz hL9 (hblk _))
          rw [eix] at ev
          refine u_X13_placeAll_3 ?_; unfold qm_X13_placeAll_3
          refine w_rdI ml82 rfl (by omega) (hIy.1 s hsl) ?_
          rw [shl1 (by omega)]
          refine w_leF (by omega) (by omega) (w_rdF h88y (w_cs1 tq (fun a y1 e1 => ?_)))
          cases e1
          rw [bc_pc (by omega), show (80 : Int32) * nI (pc s) = nI (80 * pc s) from pk_mul 80 _, nI_add, nI_1]
          refine w_rdI ml83 rfl (by omega) (hIy.2.1 s (by omega)) (w_rdI ml85 rfl (by omega) ev (w_wrI (i := bsN A sg s + m) ml84 (nI_add _ _) (by omega) (w_rdI (x := nI (ix9 (LcN A sg) (dgq c mi qq) s m)) ml85 rfl (by omega) (rd_ot (by omega) ev) (w_wrI ml85 rfl (by omega) (ih3 (m + 1) _ (by omega) (fr_I2 (fr_I2 hf (by unfold plH; omega)) (by unfold plH; omega)) (fun h q hh hq => ?_) (fun t m' ht hm' => ?_) (fun k hk => ⟨rd_ot (by omega) (rd_ot (by omega) (hz9 k hk).1), rd_ot (by omega) (rd_ot (by omega) (hz9 k hk).2)⟩))))))
          · by_cases hat : 80 * h + q = 80 * pc s + qq
            · have e1 : h = pc s := by omega
              have e2 : q = qq := by omega
              rw [e1, e2, if_pos rfl, cq9_s, if_pos hkp, ecq]
              refine po_usI_at.trans ?_
              rw [nI_1, ← eix]
              exact congrArg nI (by omega)
            · refine rd_ne hat (rd_ot (by omega) ((h85 h q hh hq).trans ?_))
              by_cases hps2 : pc s = h
              · have nk : ¬ kpF (LcN A sg s) (pc s) (dgq c mi q) = some (pc m) := fun h9 => by
                  have := (qv_kp hsl hc hmi hL hml).mpr h9
                  omega
                rw [if_pos hps2, if_pos hps2, cq9_s, if_neg nk, Nat.add_zero]
              · rw [if_neg hps2, if_neg hps2]
          · refine rd_ot (by omega) ?_
            by_cases hi2 : bsN A sg t + m' = bsN A sg s + m
            · have ets : t = s := by
                rcases ht with h9 | h9
                · have := bs_mono (A := A) (sg := sg) (a := t + 1) (b := s) h9
                  rw [bs_s] at this
                  omega
                · exact h9.1
              rw [ets] at hi2 ⊢
              rw [show m' = m by omega, hqe]
              exact po_usI_at
            · refine rd_ne hi2 (h84 t m' ?_ hm')
              rcases ht with h9 | ⟨h8, h9⟩
              · exact Or.inl h9
              · refine Or.inr ⟨h8, ?_⟩
                rw [h8] at hi2
                omega
      refine u_X13_placeAll_2 ?_; unfold qm_X13_placeAll_2
      rw [shl1 (by omega)]
      refine w_leF (by omega) (by omega) (c3 (2 ^ LcN A sg s) 0 y (by omega) hf (fun h q hh hq => ?_) (fun t m' ht hm' => h84 t m' (by omega) hm') hz9)
      rw [h85 h q hh hq, cq9_0, ite_self, Nat.add_zero]
  have c1 : ∀ (d i : Nat) (y : ow_MS), i + d = 800 → fr plH z y → (∀ k, k < i → y.2.1 85 k = 0 ∧ y.2.1 86 k = 0 ∧ y.2.1 87 k = 0) → Tt (fun K t => q_X13_placeAll K t 1 (nI c) (nI i) 0 y) Q := by
    intro d
    induction d with
    | zero =>
      intro i y hi hf h0
      refine u_X13_placeAll_1 ?_; unfold qm_X13_placeAll_1
      exact w_leT (a := 800) (by omega) (by omega) (c2 (2 ^ c) 0 y (by omega) hf (fun h q hh hq => (h0 _ (by omega)).1) (fun t m ht => absurd ht (Nat.not_lt_zero _)) (fun k hk => (h0 k (by omega)).2))
    | succ d ih =>
      intro i y hi hf h0
      refine u_X13_placeAll_1 ?_; unfold qm_X13_placeAll_1
      rw [nI_1]
      refine w_leF (a := 800) (by omega) (by omega) (w_wrI ml85 rfl (by omega) (w_wrI ml86 rfl (by omega) (w_wrI ml87 rfl (by omega) (ih (i + 1) _ (by omega) (fr_I2 (fr_I2 (fr_I2 hf (by unfold plH; omega)) (by unfold plH; omega)) (by unfold plH; omega)) (fun k hk => ?_)))))
      by_cases hki : k = i
      · rw [hki]
        exact ⟨rd_ot (by omega) (rd_ot (by omega) po_usI_at), rd_ot (by omega) po_usI_at, po_usI_at⟩
      · obtain ⟨q1, q2, q3⟩ := h0 k (by omega)
        exact ⟨rd_ot (by omega) (rd_ot (by omega) (rd_ne hki q1)), rd_ot (by omega) (rd_ne hki (rd_ot (by omega) q2)), rd_ne hki (rd_ot (by omega) (rd_ot (by omega) q3))⟩
  refine e_X13_placeAll ?_
  refine u_X13_placeAll_0 ?_; unfold qm_X13_placeAll_0
  exact c1 800 0 z (by omega) fr_rf (fun k hk => absurd hk (by omega))
end XCK3
end
section
/-! 99zzzzzzzzzzzzzzzzyzp.xcie -/
-- CHAIN: loops at a crossing, for the reference
theorem tb_test (m y : Nat) : tb m y = m.testBit y := by
  rw [Nat.testBit_eq_decide_div_mod_eq]
  rfl
theorem or_bx {r l L : Nat} (hr : r < 2 ^ L) (hl : l < L) (hL : L ≤ 9) : ∃ r', r' < 2 ^ L ∧ nI r ||| ((1 : Int32) <<< (nI l &&& 31)) = nI r' ∧ ∀ j, tb r' j = (tb r j || decide (j = l)) := by
  have h2 : r < 512 := Nat.lt_of_lt_of_le hr (two_mono (b := 9) hL)
  have h3 := or_512 ⟨r / 16, by omega⟩ ⟨r % 16, by omega⟩ ⟨l, by omega⟩
  dsimp only at h3
  rw [show 16 * (r / 16) + r % 16 = r by omega] at h3
  refine ⟨r ||| 2 ^ l, Nat.or_lt_two_pow hr (Nat.pow_lt_pow_right (by omega) hl), h3, fun j => ?_⟩
  rw [tb_test, tb_test, Nat.testBit_or, Nat.testBit_two_pow]
  by_cases e : l = j
  · rw [decide_eq_true e, decide_eq_true e.symm]
  · rw [decide_eq_false e, decide_eq_false (fun h => e h.symm)]
section XCK4
variable {A : rn_L} {sg : Nat → Bool} {c s x : Nat} {T : ow_NT} {w : vT → Bool} {G : Nat → Prop} {P1 P2 : Nat → Nat} {rel : (Nat → Bool) → Nat → Nat → Prop} {Ls : Nat → Nat → Nat} {ns : Nat → Nat}
theorem pv_R (hN : isoN A sg (fun x => x) T) (hv : vn T.1 T.2.2.1) {v : Nat} (hl : v < A.flatten.length) : gV9 (prA9 A (vAt A v)) = gV9 (vAt A (rn_pv A v)) := by
  have hV := isoV_of hN hv
  have e1 := pv_gl hV (vAt_mem hl)
  have h1 := hN.2.2.2.2.2.1 (rn_pv A v) (pv_lt hl)
  rw [nx_pv hl] at h1
  have h2 : T.2.2.1.1 (lbv A (fun x => x) (rn_pv A v)) = lbv A (fun x => x) v := h1
  have e2 : T.2.2.1.2 (lbv A (fun x => x) v) = lbv A (fun x => x) (rn_pv A v) := by
    rw [← h2]
    exact (hv _ (lbv_lt hN (pv_lt hl))).2.2.1
  have e3 : gl (fun x => x) (vAt A v) = lbv A (fun x => x) v := rfl
  rw [e3, e2] at e1
  exact e1.symm
/-- the four gaps at a crossing lie in two loops -/
theorem at_R (hN : isoN A sg (fun x => x) T) (hT : pm1 T) (hv : vn T.1 T.2.2.1) (hc : T.1 ≤ 8) (hb : bdA A) (hs : s < 2 ^ T.1) {v : Nat} (hl : v < A.flatten.length) (hx : crs A v < T.1) : lbR A sg s (mtf A v) = lbR A sg s v ∧ lbR A sg s (rn_pv A (mtf A v)) = lbR A sg s (rn_pv A v) ∨ lbR A sg s (mtf A v) = lbR A sg s (rn_pv A v) ∧ lbR A sg s (rn_pv A (mtf A v)) = lbR A sg s v := by
  have hd := wkF_ok hN.1
  have hml := mtf_lt hd hl
  have em := vAt_mtf hN.1 hl
  have hu := (hb.2.1 _ (vAt_mem hl)).2
  have E := lst_e (jp9 A sg (fun x => x) T.1 (tb s))
  have up : ∀ {a b : Nat}, a < A.flatten.length → b < A.flatten.length → relL9 A sg (fun x => x) T.1 (tb s) (gV9 (vAt A a)) (gV9 (vAt A b)) → lbR A sg s a = lbR A sg s b := fun ha hb9 h => by
    unfold lbR
    rw [(rel_R hN hT hv hc hs ha hb9).mp h]
  have jn : ∀ {a b : Nat}, jc9 A sg (crs A v) (tb s (crs A v)) a b → relL9 A sg (fun x => x) T.1 (tb s) a b := fun h => lst_i ⟨crs A v, hx, h⟩
  have p1 := pv_R hN hv hl
  have p2 := pv_R hN hv hml
  rcases (show (vAt A v).2 = 0 ∨ (vAt A v).2 = 1 by omega) with e | e
  · have e0 : vAt A v = (crs A v, 0) := Prod.ext rfl e
    have e1 : vAt A (mtf A v) = (crs A v, 1) := by
      rw [em, e]
      rfl
    rw [e0] at p1
    rw [e1] at p2
    by_cases q : sg (crs A v) = tb s (crs A v)
    · right
      refine ⟨?_, ?_⟩
      · refine up hml (pv_lt hl) (E.2.1 _ _ ?_)
        rw [e1, ← p1]
        exact jn (Or.inl ⟨q, Or.inl ⟨rfl, rfl⟩⟩)
      · refine up (pv_lt hml) hl (E.2.1 _ _ ?_)
        rw [e0, ← p2]
        exact jn (Or.inl ⟨q, Or.inr ⟨rfl, rfl⟩⟩)
    · left
      refine ⟨?_, ?_⟩
      · refine up hml hl (E.2.1 _ _ ?_)
        rw [e0, e1]
        exact jn (Or.inr ⟨q, Or.inr ⟨rfl, rfl⟩⟩)
      · refine up (pv_lt hml) (pv_lt hl) (E.2.1 _ _ ?_)
        rw [← p1, ← p2]
        exact jn (Or.inr ⟨q, Or.inl ⟨rfl, rfl⟩⟩)
  · have e0 : vAt A v = (crs A v, 1) := Prod.ext rfl e
    have e1 : vAt A (mtf A v) = (crs A v, 0) := by
      rw [em, e]
      rfl
    rw [e0] at p1
    rw [e1] at p2
    by_cases q : sg (crs A v) = tb s (crs A v)
    · right
      refine ⟨?_, ?_⟩
      · refine up hml (pv_lt hl) ?_
        rw [e1, ← p1]
        exact jn (Or.inl ⟨q, Or.inr ⟨rfl, rfl⟩⟩)
      · refine up (pv_lt hml) hl ?_
        rw [e0, ← p2]
        exact jn (Or.inl ⟨q, Or.inl ⟨rfl, rfl⟩⟩)
    · left
      refine ⟨?_, ?_⟩
      · refine up hml hl ?_
        rw [e0, e1]
        exact jn (Or.inr ⟨q, Or.inr ⟨rfl, rfl⟩⟩)
      · refine up (pv_lt hml) (pv_lt hl) ?_
        rw [← p1, ← p2]
        exact jn (Or.inr ⟨q, Or.inl ⟨rfl, rfl⟩⟩)
/-- the loops of a visit's two gaps are those of the crossing -/
theorem ab_R (hN : isoN A sg (fun x => x) T) (hT : pm1 T) (hv : vn T.1 T.2.2.1) (hc : T.1 ≤ 8) (hb : bdA A) (hs : s < 2 ^ T.1) {v : Nat} (hl : v < A.flatten.length) (hx : crs A v < T.1) : (lbR A sg s v = LsR A sg s (gV9 (crs A v, 0)) ∧ lbR A sg s (rn_pv A v) = LsR A sg s (gV9 (prA9 A (crs A v, 0)))) ∨ (lbR A sg s v = LsR A sg s (gV9 (prA9 A (crs A v, 0))) ∧ lbR A sg s (rn_pv A v) = LsR A sg s (gV9 (crs A v, 0))) := by
  have hd := wkF_ok hN.1
  have hml := mtf_lt hd hl
  have em := vAt_mtf hN.1 hl
  have hu := (hb.2.1 _ (vAt_mem hl)).2
  have u2 : ∀ p, p ∈ A.flatten → p.2 < 2 := fun p hp => (hb.2.1 p hp).2
  rcases (show (vAt A v).2 = 0 ∨ (vAt A v).2 = 1 by omega) with e | e
  · have e0 : vAt A v = (crs A v, 0) := Prod.ext rfl e
    left
    rw [← e0, LsR_v hb.1 u2 hl, pv_R hN hv hl, LsR_v hb.1 u2 (pv_lt hl)]
    exact ⟨rfl, rfl⟩
  · have e1 : vAt A (mtf A v) = (crs A v, 0) := by
      rw [em, e]
      rfl
    rw [← e1, LsR_v hb.1 u2 hml, pv_R hN hv hml, LsR_v hb.1 u2 (pv_lt hml)]
    rcases at_R hN hT hv hc hb hs hl hx with ⟨a, b⟩ | ⟨a, b⟩
    · exact Or.inl ⟨a.symm, b.symm⟩
    · exact Or.inr ⟨b.symm, a.symm⟩
/-- the loops that stay, by bits -/
theorem K_un (hC : cu9 c 2000 G P1 P2 P2 rel) (hL : LT9 c G rel Ls ns) {m r : Nat} (hr : r < 2 ^ ns (s + 2 ^ x)) (h : ∀ l, l < ns (s + 2 ^ x) → (tb r l = true ↔ l ≠ Ls (s + 2 ^ x) (P1 x) ∧ l ≠ Ls (s + 2 ^ x) (P2 x) ∧ ∃ g, G g ∧ Ls (s + 2 ^ x) g = l ∧ btN m (Ls s g) = 1)) : r = K9 G Ls ns P1 P2 s m x := by
  have sp := K_sp (G := G) (Ls := Ls) (ns := ns) (P1 := P1) (P2 := P2) (s := s) (m := m) (x := x)
  refine tb_in _ hr sp.1 (fun l hl => ?_)
  rw [sp.2 l]
  refine bx ?_
  rw [h l hl, dcb_t]
  exact ⟨fun h9 => ⟨hl, h9⟩, fun h9 => h9.2⟩
end XCK4
end
section
/-! 99zzzzzzzzzzzzzzzzyzq.xcif -/
-- CHAIN: the reference's step, exactly
def wkR (z : ow_MS) (p size b : Nat) (v : vc9) : Prop := ∀ j, j < size → ∃ a, z.2.1 89 j = nI a ∧ a ≤ b ∧ (p : Int) ∣ (a : Int) - v j
section XCK5
variable {z : ow_MS}
theorem wkR_cg {p size b b' : Nat} {v v' : vc9} (h : wkR z p size b v) (hb : b ≤ b') (e : zq9 p size v v') : wkR z p size b' v' := fun j hj => by
  obtain ⟨a, a1, a2, a3⟩ := h j hj
  refine ⟨a, a1, by omega, ?_⟩
  have := Int.dvd_add a3 (e j hj)
  rw [show (a : Int) - v j + (v j - v' j) = a - v' j by omega] at this
  exact this
theorem wkR_add {p size b i nb : Nat} {v : vc9} {x : Int32} (h : wkR z p size b v) (hi : i < size) (hx : z.2.1 89 i = x) : wkR (usI z 89 i (x + nI nb)) p size (b + nb) (fun j => v j + if j = i then (nb : Int) else 0) := fun j hj => by
  dsimp only
  by_cases e : j = i
  · obtain ⟨a, a1, a2, a3⟩ := h j hj
    rw [e] at a1 a3 ⊢
    refine ⟨a + nb, ?_, by omega, ?_⟩
    · rw [po_usI_at, ← hx, a1, nI_add]
    · rw [if_pos rfl, show ((a + nb : Nat) : Int) - (v i + (nb : Int)) = (a : Int) - v i by omega]
      exact a3
  · obtain ⟨a, a1, a2, a3⟩ := h j hj
    refine ⟨a, rd_ne e a1, by omega, ?_⟩
    rw [if_neg e, Int.add_zero]
    exact a3
theorem sy9 (a j : Nat) : (if a = j then (1 : Int) else 0) = if j = a then 1 else 0 := by
  by_cases q : j = a
  · rw [if_pos q, if_pos q.symm]
  · rw [if_neg q, if_neg (fun h9 => q h9.symm)]
theorem cn_o1 {p nb par : Int} {w : Nat} (h : p ∣ nb - par) (f : Nat → Nat) (m1 : Nat) (v : vc9) : zq9 p w (fun j => v j + if j = f m1 then nb else 0) (fun j => v j + par * cnI f j [m1]) := fun j _ => by
  show p ∣ v j + (if j = f m1 then nb else 0) - (v j + par * ((if f m1 = j then 1 else 0) + 0))
  rw [sy9]
  generalize v j = R9
  by_cases q : j = f m1
  · rw [if_pos q, if_pos q, show R9 + nb - (R9 + par * (1 + 0)) = nb - par by omega]
    exact h
  · rw [if_neg q, if_neg q, show R9 + 0 - (R9 + par * (0 + 0)) = 0 by omega]
    exact Int.dvd_zero _
theorem cn_o2 {p nb par : Int} {w : Nat} (h : p ∣ nb - par) (f : Nat → Nat) (m1 m2 : Nat) (v : vc9) : zq9 p w (fun j => (v j + if j = f m1 then nb else 0) + if j = f m2 then nb else 0) (fun j => v j + par * cnI f j [m2, m1]) ∧ zq9 p w (fun j => (v j + if j = f m1 then nb else 0) + if j = f m2 then nb else 0) (fun j => v j + par * cnI f j [m1, m2]) := by
  have key : ∀ j, p ∣ v j + (if j = f m1 then nb else 0) + (if j = f m2 then nb else 0) - (v j + par * ((if j = f m2 then 1 else 0) + (if j = f m1 then 1 else 0))) := fun j => by
    generalize v j = R9
    by_cases q1 : j = f m1
    · rw [if_pos q1, if_pos q1]
      by_cases q2 : j = f m2
      · rw [if_pos q2, if_pos q2, show R9 + nb + nb - (R9 + par * (1 + 1)) = 2 * (nb - par) by omega]
        exact dvr9 2 h
      · rw [if_neg q2, if_neg q2, show R9 + nb + 0 - (R9 + par * (0 + 1)) = nb - par by omega]
        exact h
    · rw [if_neg q1, if_neg q1]
      by_cases q2 : j = f m2
      · rw [if_pos q2, if_pos q2, show R9 + 0 + nb - (R9 + par * (1 + 0)) = nb - par by omega]
        exact h
      · rw [if_neg q2, if_neg q2, show R9 + 0 + (0 : Int) - (R9 + par * (0 + 0)) = 0 by omega]
        exact Int.dvd_zero _
  have e1 : ∀ j, cnI f j [m2, m1] = (if j = f m2 then 1 else 0) + (if j = f m1 then 1 else 0) := fun j => by
    show (if f m2 = j then 1 else 0) + ((if f m1 = j then 1 else 0) + 0) = _
    rw [sy9 (f m2) j, sy9 (f m1) j, Int.add_zero]
  have e2 : ∀ j, cnI f j [m1, m2] = (if j = f m2 then 1 else 0) + (if j = f m1 then 1 else 0) := fun j => by
    show (if f m1 = j then 1 else 0) + ((if f m2 = j then 1 else 0) + 0) = _
    rw [sy9 (f m1) j, sy9 (f m2) j, Int.add_zero, Int.add_comm]
  refine ⟨fun j _ => ?_, fun j _ => ?_⟩
  · dsimp only
    rw [e1 j]
    exact key j
  · dsimp only
    rw [e2 j]
    exact key j
theorem orK {k l L : Nat} (hk : k < 2 ^ L) (hl : l < L) (hL : L ≤ 9) (h0 : btN k l = 0) : nI k ||| ((1 : Int32) <<< (nI l &&& 31)) = nI (k + 2 ^ l) := by
  have h2 : k < 512 := Nat.lt_of_lt_of_le hk (two_mono (b := 9) hL)
  have h3 := or_512 ⟨k / 16, by omega⟩ ⟨k % 16, by omega⟩ ⟨l, by omega⟩
  dsimp only at h3
  rw [show 16 * (k / 16) + k % 16 = k by omega, or_add h0] at h3
  exact h3
theorem bt_one {m l : Nat} (hm : m < 1024) (hl : l < 10) : ((nI m >>> (nI l &&& 31)) &&& 1 = (1 : Int32)) ↔ btN m l = 1 := by
  rw [crS hm hl]
  rcases bt_01 m l with e | e <;> rw [e] <;> decide
theorem re_step {n P s m x pr b q r mi : Nat} {A : rn_L} {sg : Nat → Bool} {T : ow_NT} {v9 : vc9} (hn : mw_net n) (hK : chOK A sg T.1 P) (hA : oNet z n A sg) (hI : stX z A sg T.1) (hpl : plX z A sg T.1 mi) (hmi : mi ≤ T.1) (hN : isoN A sg (fun x => x) T) (hT : pm1 T) (hv : vn T.1 T.2.2.1) (hbd : bdA A) (hC : cu9 T.1 2000 (gG9 A) (fun y => gV9 (y, 0)) (fun y => gV9 (prA9 A (y, 0))) (fun y => gV9 (prA9 A (y, 0))) (relL9 A sg (fun x => x) T.1)) (hva : va9 T.1 (LcN A sg) (dgq T.1 mi q) r s m) (hx : x < T.1) (hb : btN s x = 0) (hpr1 : 2 ≤ pr) (hpr : pr ≤ 997) (hw : wkR z pr (sz9 T.1 (LcN A sg) (dgq T.1 mi q) (r + 1)) b v9) : Te (fun K => qe_X13_step K n (nI s) (nI m) (nI x) (nI pr) z) (fun z1 => wkR z1 pr (sz9 T.1 (LcN A sg) (dgq T.1 mi q) (r + 1)) (b + 2 * pr) (fun j => v9 j + par9 (tb s) x * cnI (ix9 (LcN A sg) (dgq T.1 mi q) (s + 2 ^ x)) j (di9 (gG9 A) (LsR A sg) (LcN A sg) (fun y => gV9 (y, 0)) (fun y => gV9 (prA9 A (y, 0))) s m x)) ∧ fr (fun g => g = 89) z z1) := by
  have hK' := hK
  obtain ⟨hok, hc, hCl, hL9, hbs, hblk⟩ := hK
  have hs : s < 2 ^ T.1 := hva.1
  have hm : m < 2 ^ LcN A sg s := hva.2.2.1
  have hLT := LT_R hN hT hv hc hbd hL9
  have hV := okF_len hok
  have hd := wkF_ok hA.wk
  have hmn := net_mod hn
  have h2c : 2 ^ T.1 ≤ 256 := two_mono (b := 8) hc
  have ht := st_lt hs hx hb
  have hLs := hL9 s hs
  have hLt := hL9 (s + 2 ^ x) ht
  have hm10 : m < 1024 := Nat.lt_of_lt_of_le hm (two_mono (b := 10) (by omega))
  have hb1 : bsN A sg (s + 2 ^ x + 1) ≤ bsN A sg (2 ^ T.1) := bs_mono ht
  rw [bs_s] at hb1
  generalize hdi : di9 (gG9 A) (LsR A sg) (LcN A sg) (fun y => gV9 (y, 0)) (fun y => gV9 (prA9 A (y, 0))) s m x = DI
  generalize hsz : sz9 T.1 (LcN A sg) (dgq T.1 mi q) (r + 1) = size at hw
  have hsz2 : size ≤ 1140 := by
    rw [← hsz]
    exact bkF_sz hL9 (hblk _)
  let Q : ow_MS → Prop := fun z1 => wkR z1 pr size (b + 2 * pr) (fun j => v9 j + par9 (tb s) x * cnI (ix9 (LcN A sg) (dgq T.1 mi q) (s + 2 ^ x)) j DI) ∧ fr (fun g => g = 89) z z1
  have lo : ∀ {t g : Nat}, t < 2 ^ T.1 → g < A.flatten.length → z.2.1 81 (32 * t + g) = nI (lbR A sg t g) := fun h1 h2 => hI.2.2 _ _ h1 h2
  have lb9 : ∀ {t g : Nat}, t < 2 ^ T.1 → g < A.flatten.length → lbR A sg t g < 10 := fun {t g} h1 h2 => by
    have := lb_LcN (A := A) (sg := sg) (s := t) h2
    have := hL9 t h1
    omega
  obtain ⟨v0, v01, v02⟩ := ok_has hok hx
  -- what comes of it has its place
  have vd : ∀ m', m' ∈ DI → m' < 2 ^ LcN A sg (s + 2 ^ x) ∧ z.2.1 84 (bsN A sg (s + 2 ^ x) + m') = nI (ix9 (LcN A sg) (dgq T.1 mi q) (s + 2 ^ x) m') ∧ ix9 (LcN A sg) (dgq T.1 mi q) (s + 2 ^ x) m' < size := fun m' hm' => by
    rw [← hdi] at hm'
    have a := va_di hC hLT (by omega) hva hx hb hm'
    have e := (qv_kp (A := A) (sg := sg) (mi := mi) (q := q) ht hc hmi hLt a.2.2.1).mpr a.2.2.2
    have e2 := hpl.2 _ m' ht a.2.2.1
    rw [e] at e2
    refine ⟨a.2.2.1, e2, ?_⟩
    rw [← hsz]
    exact ix_sz a (by omega)
  obtain ⟨q1, q2, -⟩ := hC.2.2.2 x hx
  have sp := (K_sp (G := gG9 A) (Ls := LsR A sg) (ns := LcN A sg) (P1 := fun y => gV9 (y, 0)) (P2 := fun y => gV9 (prA9 A (y, 0))) (s := s) (m := m) (x := x)).1
  obtain ⟨k01, k02⟩ := K_0 (m := m) (s := s) (x := x) (P1 := fun y => gV9 (y, 0)) (P2 := fun y => gV9 (prA9 A (y, 0))) hLT
  obtain ⟨tl1, tl2, tl3, tl4⟩ := tn_lp hC hx hb
  obtain ⟨sl1, sl2, sl3, -⟩ := hLT s hs
  obtain ⟨ul1, ul2, ul3, -⟩ := hLT _ ht
  have u2 : ∀ p, p ∈ A.flatten → p.2 < 2 := fun p hp => (hbd.2.1 p hp).2
  generalize hKP : K9 (gG9 A) (LsR A sg) (LcN A sg) (fun y => gV9 (y, 0)) (fun y => gV9 (prA9 A (y, 0))) s m x = KP at sp k01 k02
  have c1 : ∀ (d v : Nat), v + d = v0 → (∀ u, u < v → crs A u ≠ x) → Tt (fun K i => q_X13_step K i 1 (nI s) (nI m) (nI x) (nI pr) (nI v) 0 0 0 0 0 0 0 0 0 0 0 n 0 z) Q := by
    have found : ∀ v, v < A.flatten.length → crs A v = x → Tt (fun K i => q_X13_step K i 1 (nI s) (nI m) (nI x) (nI pr) (nI v) 0 0 0 0 0 0 0 0 0 0 0 n 0 z) Q := by
      intro v hvl hcv
      have hml := mtf_lt hd hvl
      have hpv := rn_pv_lt hvl
      have hpm := rn_pv_lt hml
      have atS := at_R hN hT hv hc hbd hs hvl (by omega)
      have atT := at_R hN hT hv hc hbd ht hvl (by omega)
      have abS := ab_R hN hT hv hc hbd hs hvl (by omega)
      have abT := ab_R hN hT hv hc hbd ht hvl (by omega)
      rw [hcv] at abS abT
      generalize hla : lbR A sg s v = la at atS abS
      generalize hlb : lbR A sg s (rn_pv A v) = lb at atS abS
      generalize hka : lbR A sg (s + 2 ^ x) v = ka at atT abT
      generalize hkb : lbR A sg (s + 2 ^ x) (rn_pv A v) = kb at atT abT
      have la9 : la < 10 := by rw [← hla]; exact lb9 hs hvl
      have lb10 : lb < 10 := by rw [← hlb]; exact lb9 hs hpv
      have ka9 : ka < LcN A sg (s + 2 ^ x) := by rw [← hka]; exact lb_LcN hvl
      have kb9 : kb < LcN A sg (s + 2 ^ x) := by rw [← hkb]; exact lb_LcN hpv
      have ka0 : btN KP ka = 0 := by
        rcases abT with ⟨e1, e2⟩ | ⟨e1, e2⟩ <;> rw [e1]
        · exact k01
        · exact k02
      have kb0 : btN KP kb = 0 := by
        rcases abT with ⟨e1, e2⟩ | ⟨e1, e2⟩ <;> rw [e2]
        · exact k02
        · exact k01
      have eab : la = lb ↔ LsR A sg s (gV9 (x, 0)) = LsR A sg s (gV9 (prA9 A (x, 0))) := by
        rcases abS with ⟨e1, e2⟩ | ⟨e1, e2⟩ <;> rw [e1, e2]
        exact ⟨fun h => h.symm, fun h => h.symm⟩
      -- the list, by a and b
      have dE : la = lb → btN m la = 0 → DI = [KP] := fun h1 h2 => by
        rw [← hdi, ← hKP]
        unfold di9
        have h3 := eab.mp h1
        rw [if_pos h3]
        have h4 : btN m (LsR A sg s (gV9 (x, 0))) = 0 := by
          rcases abS with ⟨e1, e2⟩ | ⟨e1, e2⟩
          · rw [← e1]
            exact h2
          · rw [h3, ← e1]
            exact h2
        rw [if_pos h4]
      have dE1 : la = lb → btN m la = 1 → DI = [KP + 2 ^ ka, KP + 2 ^ kb] ∨ DI = [KP + 2 ^ kb, KP + 2 ^ ka] := fun h1 h2 => by
        rw [← hdi, ← hKP]
        unfold di9
        have h3 := eab.mp h1
        rw [if_pos h3]
        have h4 : ¬ btN m (LsR A sg s (gV9 (x, 0))) = 0 := by
          rcases abS with ⟨e1, e2⟩ | ⟨e1, e2⟩
          · rw [← e1]
            omega
          · rw [h3, ← e1]
            omega
        rw [if_neg h4]
        rcases abT with ⟨e1, e2⟩ | ⟨e1, e2⟩ <;> rw [e1, e2]
        · exact Or.inr rfl
        · exact Or.inl rfl
      have dN0 : ¬ la = lb → btN m la = 0 → btN m lb = 0 → DI = [] := fun h1 h2 h3 => by
        rw [← hdi]
        unfold di9
        rw [if_neg (fun h => h1 (eab.mpr h))]
        have : btN m (LsR A sg s (gV9 (x, 0))) = 0 ∧ btN m (LsR A sg s (gV9 (prA9 A (x, 0)))) = 0 := by
          rcases abS with ⟨e1, e2⟩ | ⟨e1, e2⟩ <;> rw [← e1, ← e2]
          · exact ⟨h2, h3⟩
          · exact ⟨h3, h2⟩
        rw [if_pos this]
      have dN1 : ¬ la = lb → btN m la + btN m lb = 1 → DI = [KP] := fun h1 h2 => by
        rw [← hdi, ← hKP]
        unfold di9
        dsimp only
        rw [if_neg (fun h => h1 (eab.mpr h))]
        have : btN m (LsR A sg s (gV9 (x, 0))) + btN m (LsR A sg s (gV9 (prA9 A (x, 0)))) = 1 := by
          rcases abS with ⟨e1, e2⟩ | ⟨e1, e2⟩ <;> rw [← e1, ← e2] <;> omega
        rw [if_neg (by omega), if_pos (by omega)]
      have dN2 : ¬ la = lb → btN m la = 1 → btN m lb = 1 → DI = [KP + 2 ^ ka] := fun h1 h2 h3 => by
        rw [← hdi, ← hKP]
        unfold di9
        dsimp only
        have nl : ¬ LsR A sg s (gV9 (x, 0)) = LsR A sg s (gV9 (prA9 A (x, 0))) := fun h => h1 (eab.mpr h)
        rw [if_neg nl]
        have : btN m (LsR A sg s (gV9 (x, 0))) = 1 ∧ btN m (LsR A sg s (gV9 (prA9 A (x, 0)))) = 1 := by
          rcases abS with ⟨e1, e2⟩ | ⟨e1, e2⟩ <;> rw [← e1, ← e2]
          · exact ⟨h2, h3⟩
          · exact ⟨h3, h2⟩
        rw [if_neg (by omega), if_neg (by omega)]
        have et : LsR A sg (s + 2 ^ x) (gV9 (x, 0)) = LsR A sg (s + 2 ^ x) (gV9 (prA9 A (x, 0))) := (ul3 _ _ q1 q2).mpr (tl3 (fun h => nl ((sl3 _ _ q1 q2).mpr h)))
        rcases abT with ⟨e1, e2⟩ | ⟨e1, e2⟩
        · rw [e1]
        · rw [e1, et]
      have c2 : ∀ (one : Nat), one ≤ pr → (pr : Int) ∣ (one : Int) - par9 (tb s) x → Tt (fun K i => q_X13_step K i 2 (nI s) (nI m) (nI x) (nI pr) (nI v) (nI (mtf A v)) (nI (s + 2 ^ x)) 0 0 0 0 0 0 0 0 0 n (nI one) z) Q := by
        intro one hone hpar
        have add1 : ∀ {m' : Nat} (y : ow_MS) (bb : Nat) (u9 : vc9) {E : ow_MS → Nat → Nat → Option ow_MS} (j : Int32), m' ∈ DI → fr (fun g => g = 89) z y → wkR y pr size bb u9 → j = nI m' → (∀ y1, fr (fun g => g = 89) z y1 → wkR y1 pr size (bb + one) (fun i => u9 i + if i = ix9 (LcN A sg) (dgq T.1 mi q) (s + 2 ^ x) m' then (one : Int) else 0) → Tt (E y1) Q) → Tt (fun K i => rdI mX y 83 (nI (s + 2 ^ x)) fun v1 => rdI mX y 84 (v1 + j) fun v2 => rdI mX y 89 v2 fun v3 => wrI mX y 89 v2 (v3 + nI one) fun y1 => E y1 K i) Q := by
          intro m' y bb u9 E j hm' hf hwy hj H
          obtain ⟨d1, d2, d3⟩ := vd m' hm'
          have e83 : y.2.1 83 (s + 2 ^ x) = nI (bsN A sg (s + 2 ^ x)) := by
            rw [(hf 83 (by omega)).2.1]
            exact hI.2.1 _ (by omega)
          have e84 : y.2.1 84 (bsN A sg (s + 2 ^ x) + m') = nI (ix9 (LcN A sg) (dgq T.1 mi q) (s + 2 ^ x) m') := by
            rw [(hf 84 (by omega)).2.1]
            exact d2
          exact w_rdI ml83 rfl (by omega) e83 (w_rdI (i := bsN A sg (s + 2 ^ x) + m') ml84 (by rw [hj, nI_add]) (by omega) e84 (w_rdI ml89 rfl (by omega) rfl (w_wrI ml89 rfl (by omega) (H _ (fr_I2 hf rfl) (wkR_add hwy d3 rfl)))))
        have Q1 : ∀ (y : ow_MS) (m1 : Nat), DI = [m1] → fr (fun g => g = 89) z y → wkR y pr size (b + one) (fun i => v9 i + if i = ix9 (LcN A sg) (dgq T.1 mi q) (s + 2 ^ x) m1 then (one : Int) else 0) → Q y := fun y m1 e hf h => ⟨by rw [e]; exact wkR_cg h (by omega) (cn_o1 hpar _ m1 v9), hf⟩
        have Q0 : DI = [] → Q z := fun e => ⟨by
          rw [e]
          exact wkR_cg hw (by omega) (fun j _ => by
            show (pr : Int) ∣ v9 j - (v9 j + par9 (tb s) x * 0)
            rw [Int.mul_zero, Int.add_zero, Int.sub_self]
            exact Int.dvd_zero _), fr_rf⟩
        have c9 : ∀ (x15 x16 : Int32), Tt (fun K i => q_X13_step K i 9 (nI s) (nI m) (nI x) (nI pr) (nI v) (nI (mtf A v)) (nI (s + 2 ^ x)) (nI one) (nI la) (nI lb) (nI ka) (nI kb) (nI KP) x15 x16 0 n (nI (btN m la)) z) Q := by
          intro x15 x16
          have er1 := orK sp ka9 hLt ka0
          have er2 := orK sp kb9 hLt kb0
          have c13 : ∀ (x15 x16 x17 : Int32) (y : ow_MS), Q y → Tt (fun K i => q_X13_step K i 13 (nI s) (nI m) (nI x) (nI pr) (nI v) (nI (mtf A v)) (nI (s + 2 ^ x)) (nI one) (nI la) (nI lb) (nI ka) (nI kb) (nI KP) x15 x16 x17 n 0 y) Q := by
            intro x15 x16 x17 y hq
            refine u_X13_step_13 ?_; unfold qm_X13_step_13
            exact w_some hq
          have c12 : ∀ (x15 x16 x17 : Int32), DI = [KP] → Tt (fun K i => q_X13_step K i 12 (nI s) (nI m) (nI x) (nI pr) (nI v) (nI (mtf A v)) (nI (s + 2 ^ x)) (nI one) (nI la) (nI lb) (nI ka) (nI kb) (nI KP) x15 x16 x17 n 0 z) Q := by
            intro x15 x16 x17 e
            refine u_X13_step_12 ?_; unfold qm_X13_step_12
            exact add1 z b v9 _ (by rw [e]; exact List.mem_cons_self) fr_rf hw rfl (fun y1 f1 w1 => c13 _ _ _ y1 (Q1 y1 KP e f1 w1))
          have c11 : ∀ (x15 : Int32) (fa fb : Nat), fa = btN m la → fb = btN m lb → ¬ la = lb → fa + fb ≤ 1 → Tt (fun K i => q_X13_step K i 11 (nI s) (nI m) (nI x) (nI pr) (nI v) (nI (mtf A v)) (nI (s + 2 ^ x)) (nI one) (nI la) (nI lb) (nI ka) (nI kb) (nI KP) x15 (nI fa) (nI fb) n 0 z) Q := by
            intro x15 fa fb hfa hfb hne hle
            refine u_X13_step_11 ?_; unfold qm_X13_step_11
            rcases bt_01 m la with e1 | e1 <;> rcases bt_01 m lb with e2 | e2
            · exact w_ifT (by rw [hfa, e1]; rfl) (w_ifT (by rw [hfb, e2]; rfl) (c13 _ _ _ z (Q0 (dN0 hne e1 e2))))
            · exact w_ifT (by rw [hfa, e1]; rfl) (w_ifF (by rw [hfb, e2]; decide) (c12 _ _ _ (dN1 hne (by omega))))
            · exact w_ifF (by rw [hfa, e1]; decide) (c12 _ _ _ (dN1 hne (by omega)))
            · omega
          have c10 : ∀ (x15 : Int32) (fa fb : Nat), fa = btN m la → fb = btN m lb → ¬ la = lb → Tt (fun K i => q_X13_step K i 10 (nI s) (nI m) (nI x) (nI pr) (nI v) (nI (mtf A v)) (nI (s + 2 ^ x)) (nI one) (nI la) (nI lb) (nI ka) (nI kb) (nI KP) x15 (nI fa) 0 n (nI fb) z) Q := by
            intro x15 fa fb hfa hfb hne
            refine u_X13_step_10 ?_; unfold qm_X13_step_10
            rcases bt_01 m la with e1 | e1
            · exact w_ifT (by rw [hfa, e1]; rfl) (c11 _ fa fb hfa hfb hne (by rcases bt_01 m lb with e2 | e2 <;> omega))
            · refine w_ifF (by rw [hfa, e1]; decide) ?_
              rcases bt_01 m lb with e2 | e2
              · exact w_ifT (by rw [hfb, e2]; rfl) (c11 _ fa fb hfa hfb hne (by omega))
              · refine w_ifF (by rw [hfb, e2]; decide) ?_
                have e := dN2 hne e1 e2
                exact add1 z b v9 _ (by rw [e]; exact List.mem_cons_self) fr_rf hw er1 (fun y1 f1 w1 => c13 _ _ _ y1 (Q1 y1 _ e f1 w1))
          refine u_X13_step_9 ?_; unfold qm_X13_step_9
          refine w_if (fun h9 => ?_) (fun h9 => ?_)
          · have hab : la = lb := (nI_eq (by omega) (by omega)).mp h9
            rcases bt_01 m la with e1 | e1
            · have e := dE hab e1
              exact w_ifT (by rw [e1]; rfl) (add1 z b v9 _ (by rw [e]; exact List.mem_cons_self) fr_rf hw rfl (fun y1 f1 w1 => w_some (Q1 y1 KP e f1 w1)))
            · have e := dE1 hab e1
              refine w_ifF (by rw [e1]; decide) (add1 (m' := KP + 2 ^ ka) z b v9 _ ?_ fr_rf hw er1 (fun y1 f1 w1 => add1 (m' := KP + 2 ^ kb) y1 (b + one) _ _ ?_ f1 w1 er2 (fun y2 f2 w2 => w_some ?_)))
              · rcases e with e | e <;> rw [e] <;> simp
              · rcases e with e | e <;> rw [e] <;> simp
              · refine ⟨?_, f2⟩
                rcases e with e | e <;> rw [e]
                · exact wkR_cg w2 (by omega) (cn_o2 hpar _ _ _ v9).2
                · exact wkR_cg w2 (by omega) (cn_o2 hpar _ _ _ v9).1
          · have hab : ¬ la = lb := fun e => h9 (by rw [e])
            rcases bt_01 m lb with e2 | e2
            · exact w_ifF (fun h8 => by have := (bt_one hm10 lb10).mp h8; omega) (c10 _ _ 0 rfl e2.symm hab)
            · exact w_ifT ((bt_one hm10 lb10).mpr e2) (c10 _ _ 1 rfl e2.symm hab)
        -- which bits stand in what stays
        have c7 : ∀ (d k rr : Nat), k + d = eC A + 1 → 1 ≤ k → rr < 2 ^ LcN A sg (s + 2 ^ x) → (∀ l, tb rr l = true ↔ (∃ u, u < A.flatten.length ∧ lbR A sg s u ≠ la ∧ lbR A sg s u ≠ lb ∧ btN m (lbR A sg s u) = 1 ∧ lbR A sg (s + 2 ^ x) u = l) ∨ ∃ k', 1 ≤ k' ∧ k' < k ∧ btN m (LcN A sg s - k') = 1 ∧ l = LcN A sg (s + 2 ^ x) - k') → Tt (fun K i => q_X13_step K i 7 (nI s) (nI m) (nI x) (nI pr) (nI v) (nI (mtf A v)) (nI (s + 2 ^ x)) (nI one) (nI la) (nI lb) (nI ka) (nI kb) (nI rr) (nI (eC A)) (nI k) 0 n 0 z) Q := by
          have heC : eC A ≤ 6 := by have := neC_eC A; omega
          have hLe : ∀ t, eC A ≤ LcN A sg t := fun t => by unfold LcN; omega
          intro d
          induction d with
          | zero =>
            intro k rr hk hk1 hrr hbits
            have ek : k = eC A + 1 := by omega
            have eKP : rr = KP := by
              rw [← hKP]
              refine K_un hC hLT hrr (fun l hl => ?_)
              rw [hbits l]
              constructor
              · rintro (⟨u, u1, u3, u4, u5, u6⟩ | ⟨k', k1, k2, k3, k4⟩)
                · have nS : ¬ (relL9 A sg (fun x => x) T.1 (tb s) (gV9 (vAt A u)) (gV9 (x, 0)) ∨ relL9 A sg (fun x => x) T.1 (tb s) (gV9 (vAt A u)) (gV9 (prA9 A (x, 0)))) := fun h9 => by
                    have gu : gG9 A (gV9 (vAt A u)) := Or.inl ⟨_, vAt_mem u1, rfl⟩
                    have h8 := h9.imp (fun h => (sl3 _ _ gu q1).mpr h) (fun h => (sl3 _ _ gu q2).mpr h)
                    rw [LsR_v hbd.1 u2 u1] at h8
                    rcases abS with ⟨e1, e2⟩ | ⟨e1, e2⟩ <;> rw [← e1, ← e2] at h8
                    · exact h8.elim u3 u4
                    · exact h8.elim u4 u3
                  have nT := fun h9 => nS ((tl1 _).mpr h9)
                  have gu : gG9 A (gV9 (vAt A u)) := Or.inl ⟨_, vAt_mem u1, rfl⟩
                  have eT : LsR A sg (s + 2 ^ x) (gV9 (vAt A u)) = l := by
                    rw [LsR_v hbd.1 u2 u1]
                    exact u6
                  refine ⟨fun h9 => nT (Or.inl ((ul3 _ _ gu q1).mp (eT.trans h9))), fun h9 => nT (Or.inr ((ul3 _ _ gu q2).mp (eT.trans h9))), _, gu, eT, ?_⟩
                  rw [LsR_v hbd.1 u2 u1]
                  exact u5
                · obtain ⟨i, i1, i2, i3⟩ := cb_at (A := A) (l := eC A - k') A.length (by rw [cb_all, cirs_eC]; omega)
                  have a1 := LsR_c (sg := sg) (s := s) hbd (i := i)
                  have a2 := LsR_c (sg := sg) (s := s + 2 ^ x) hbd (i := i)
                  have e1 : LsR A sg s (1000 + i) = LcN A sg s - k' := by
                    rw [a1, i3]
                    unfold LcN
                    omega
                  have e2 : LsR A sg (s + 2 ^ x) (1000 + i) = l := by
                    rw [a2, i3, k4]
                    unfold LcN
                    omega
                  have gi : gG9 A (1000 + i) := Or.inr ⟨i, i1, i2, rfl⟩
                  have hO := nm_id hN hv
                  have no : ∀ p, p ∈ A.flatten → ¬ relL9 A sg (fun x => x) T.1 (tb (s + 2 ^ x)) (1000 + i) (gV9 p) := fun p hp h9 => by
                    have g9 := gV_lt hbd hp
                    rcases relL_out hbd.1 hO h9 with h8 | ⟨⟨p', b1, b2⟩, -⟩
                    · omega
                    · have := gV_lt hbd b1
                      omega
                  have m0 : (x, 0) ∈ A.flatten := (hO.1 x hx).1
                  refine ⟨fun h9 => no _ m0 ((ul3 _ _ gi q1).mp (e2.trans h9)), fun h9 => no _ (prA_in hbd.1 m0) ((ul3 _ _ gi q2).mp (e2.trans h9)), _, gi, e2, ?_⟩
                  rw [e1]
                  exact k3
              · rintro ⟨n1, n2, g, g1, g2, g3⟩
                rcases g1 with ⟨p, p1, p2⟩ | ⟨i, i1, i2, i3⟩
                · obtain ⟨u, hu, e⟩ := List.getElem_of_mem p1
                  have e : vAt A u = p := vAt_eq (by rw [List.getElem?_eq_getElem hu, e])
                  rw [p2, ← e] at g2 g3
                  rw [LsR_v hbd.1 u2 hu] at g3
                  have gu : gG9 A (gV9 (vAt A u)) := Or.inl ⟨_, vAt_mem hu, rfl⟩
                  have nT : ¬ (relL9 A sg (fun x => x) T.1 (tb (s + 2 ^ x)) (gV9 (vAt A u)) (gV9 (x, 0)) ∨ relL9 A sg (fun x => x) T.1 (tb (s + 2 ^ x)) (gV9 (vAt A u)) (gV9 (prA9 A (x, 0)))) := fun h9 => h9.elim (fun h => n1 (g2.symm.trans ((ul3 _ _ gu q1).mpr h))) (fun h => n2 (g2.symm.trans ((ul3 _ _ gu q2).mpr h)))
                  have nS := fun h9 => nT ((tl1 _).mp h9)
                  have n3 : lbR A sg s u ≠ LsR A sg s (gV9 (x, 0)) := fun h9 => nS (Or.inl ((sl3 _ _ gu q1).mp (by rw [LsR_v hbd.1 u2 hu]; exact h9)))
                  have n4 : lbR A sg s u ≠ LsR A sg s (gV9 (prA9 A (x, 0))) := fun h9 => nS (Or.inr ((sl3 _ _ gu q2).mp (by rw [LsR_v hbd.1 u2 hu]; exact h9)))
                  rw [LsR_v hbd.1 u2 hu] at g2
                  refine Or.inl ⟨u, hu, ?_, ?_, g3, g2⟩
                  · rcases abS with ⟨e1, e2⟩ | ⟨e1, e2⟩ <;> rw [e1]
                    · exact n3
                    · exact n4
                  · rcases abS with ⟨e1, e2⟩ | ⟨e1, e2⟩ <;> rw [e2]
                    · exact n4
                    · exact n3
                · rw [i3] at g2 g3
                  rw [LsR_c hbd] at g2 g3
                  have ci := cb_mono (A := A) A.length i1
                  rw [cb_s i2, cb_all, cirs_eC] at ci
                  refine Or.inr ⟨eC A - cb9 A i, by omega, by omega, ?_, ?_⟩
                  · rw [show LcN A sg s - (eC A - cb9 A i) = rtsN (lpA A sg (nI s) A.flatten.length) A.flatten.length + cb9 A i by unfold LcN; omega]
                    exact g3
                  · rw [← g2]
                    unfold LcN
                    omega
            rw [eKP]
            refine u_X13_step_7 ?_; unfold qm_X13_step_7
            refine w_ltT (by omega) (by omega) ?_
            rcases bt_01 m la with e1 | e1
            · have q9 := c9 (nI (eC A)) (nI k)
              rw [e1] at q9
              exact w_ifF (fun h8 => by have := (bt_one hm10 la9).mp h8; omega) q9
            · have q9 := c9 (nI (eC A)) (nI k)
              rw [e1] at q9
              exact w_ifT ((bt_one hm10 la9).mpr e1) q9
          | succ d ih7 =>
            intro k rr hk hk1 hrr hbits
            have hle : k ≤ LcN A sg (s + 2 ^ x) := by have := hLe (s + 2 ^ x); omega
            have hle2 : k ≤ LcN A sg s := by have := hLe s; omega
            obtain ⟨r1, hr1, er1, eb1⟩ := or_bx (l := LcN A sg (s + 2 ^ x) - k) hrr (by omega) hLt
            have c8 : ∀ rr, rr < 2 ^ LcN A sg (s + 2 ^ x) → (∀ l, tb rr l = true ↔ (∃ u, u < A.flatten.length ∧ lbR A sg s u ≠ la ∧ lbR A sg s u ≠ lb ∧ btN m (lbR A sg s u) = 1 ∧ lbR A sg (s + 2 ^ x) u = l) ∨ ∃ k', 1 ≤ k' ∧ k' < k + 1 ∧ btN m (LcN A sg s - k') = 1 ∧ l = LcN A sg (s + 2 ^ x) - k') → Tt (fun K i => q_X13_step K i 8 (nI s) (nI m) (nI x) (nI pr) (nI v) (nI (mtf A v)) (nI (s + 2 ^ x)) (nI one) (nI la) (nI lb) (nI ka) (nI kb) (nI rr) (nI (eC A)) (nI k) 0 n 0 z) Q := by
              intro rr hrr hbits
              refine u_X13_step_8 ?_; unfold qm_X13_step_8
              rw [show nI k + 1 = nI (k + 1) from nI_1 _]
              exact ih7 (k + 1) rr (by omega) (by omega) hrr hbits
            refine u_X13_step_7 ?_; unfold qm_X13_step_7
            refine w_ltF (by omega) (by omega) (w_rdI ml82 rfl (by omega) (hI.1 s hs) ?_)
            rw [pk_sub hle2]
            refine w_if (fun h9 => w_rdI ml82 rfl (by omega) (hI.1 _ ht) ?_) (fun h9 => c8 rr hrr (fun l => ?_))
            · rw [pk_sub hle, er1]
              refine c8 r1 hr1 (fun l => ?_)
              rw [eb1 l, Bool.or_eq_true, hbits l, decide_eq_true_iff]
              have hbt := (bt_one hm10 (show LcN A sg s - k < 10 by omega)).mp h9
              constructor
              · rintro ((h8 | ⟨k', k1, k2, k3, k4⟩) | h8)
                · exact Or.inl h8
                · exact Or.inr ⟨k', k1, by omega, k3, k4⟩
                · exact Or.inr ⟨k, hk1, by omega, hbt, h8⟩
              · rintro (h8 | ⟨k', k1, k2, k3, k4⟩)
                · exact Or.inl (Or.inl h8)
                · by_cases e : k' = k
                  · rw [e] at k4
                    exact Or.inr k4
                  · exact Or.inl (Or.inr ⟨k', k1, by omega, k3, k4⟩)
            · rw [hbits l]
              constructor
              · rintro (h8 | ⟨k', k1, k2, k3, k4⟩)
                · exact Or.inl h8
                · exact Or.inr ⟨k', k1, by omega, k3, k4⟩
              · rintro (h8 | ⟨k', k1, k2, k3, k4⟩)
                · exact Or.inl h8
                · by_cases e : k' = k
                  · rw [e] at k3
                    exact absurd ((bt_one hm10 (show LcN A sg s - k < 10 by omega)).mpr k3) h9
                  · exact Or.inr ⟨k', k1, by omega, k3, k4⟩
        have c5 : ∀ (d g rr : Nat), g + d = A.flatten.length → rr < 2 ^ LcN A sg (s + 2 ^ x) → (∀ l, tb rr l = true ↔ ∃ u, u < g ∧ lbR A sg s u ≠ la ∧ lbR A sg s u ≠ lb ∧ btN m (lbR A sg s u) = 1 ∧ lbR A sg (s + 2 ^ x) u = l) → Tt (fun K i => q_X13_step K i 5 (nI s) (nI m) (nI x) (nI pr) (nI v) (nI (mtf A v)) (nI (s + 2 ^ x)) (nI one) (nI la) (nI lb) (nI ka) (nI kb) (nI rr) (nI g) 0 0 n 0 z) Q := by
          intro d
          induction d with
          | zero =>
            intro g rr hg hrr hbits
            have eg : g = A.flatten.length := by omega
            refine u_X13_step_5 ?_; unfold qm_X13_step_5
            refine w_rdF hA.1.V (w_leT (by omega) (by omega) (w_cs1 (tp_circles2 hn (by omega) (by omega) hA.1.1) (fun a y e => ?_)))
            cases e
            refine c7 (eC A) 1 rr (by omega) (Nat.le_refl _) hrr (fun l => ?_)
            rw [hbits l, eg]
            exact ⟨fun h8 => Or.inl h8, fun h8 => h8.elim id (fun ⟨k', k1, k2, _⟩ => by omega)⟩
          | succ d ih5 =>
            intro g rr hg hrr hbits
            have hgl : g < A.flatten.length := by omega
            obtain ⟨r1, hr1, er1, eb1⟩ := or_bx hrr (lb_LcN (A := A) (sg := sg) (s := s + 2 ^ x) hgl) hLt
            have c6 : ∀ rr (x16 : Int32), rr < 2 ^ LcN A sg (s + 2 ^ x) → (∀ l, tb rr l = true ↔ ∃ u, u < g + 1 ∧ lbR A sg s u ≠ la ∧ lbR A sg s u ≠ lb ∧ btN m (lbR A sg s u) = 1 ∧ lbR A sg (s + 2 ^ x) u = l) → Tt (fun K i => q_X13_step K i 6 (nI s) (nI m) (nI x) (nI pr) (nI v) (nI (mtf A v)) (nI (s + 2 ^ x)) (nI one) (nI la) (nI lb) (nI ka) (nI kb) (nI rr) (nI g) x16 0 n 0 z) Q := by
              intro rr x16 hrr hbits
              refine u_X13_step_6 ?_; unfold qm_X13_step_6
              rw [show nI g + 1 = nI (g + 1) from nI_1 _]
              exact ih5 (g + 1) rr (by omega) hrr hbits
            have skip : (lbR A sg s g = la ∨ lbR A sg s g = lb ∨ btN m (lbR A sg s g) ≠ 1) → ∀ l, tb rr l = true ↔ ∃ u, u < g + 1 ∧ lbR A sg s u ≠ la ∧ lbR A sg s u ≠ lb ∧ btN m (lbR A sg s u) = 1 ∧ lbR A sg (s + 2 ^ x) u = l := fun h9 l => by
              rw [hbits l]
              constructor
              · rintro ⟨u, u1, h8⟩
                exact ⟨u, by omega, h8⟩
              · rintro ⟨u, u1, u3, u4, u5, u6⟩
                refine ⟨u, ?_, u3, u4, u5, u6⟩
                by_cases e : u = g
                · rw [e] at u3 u4 u5
                  rcases h9 with h | h | h
                  · exact absurd h u3
                  · exact absurd h u4
                  · exact absurd u5 h
                · omega
            have l9 := lb9 hs hgl
            refine u_X13_step_5 ?_; unfold qm_X13_step_5
            rw [i32x, i32x]
            refine w_rdF hA.1.V (w_leF (by omega) hgl (w_rdI ml81 rfl (by omega) (lo hs hgl) (w_if (fun h9 => c6 _ _ hrr (skip (Or.inl ((nI_eq (by omega) (by omega)).mp h9)))) (fun n1 => w_if (fun h9 => c6 _ _ hrr (skip (Or.inr (Or.inl ((nI_eq (by omega) (by omega)).mp h9))))) (fun n2 => w_if (fun h9 => w_rdI ml81 rfl (by omega) (lo ht hgl) ?_) (fun h9 => c6 _ _ hrr (skip (Or.inr (Or.inr (fun h8 => h9 ((bt_one hm10 l9).mpr h8)))))))))))
            rw [er1]
            refine c6 _ _ hr1 (fun l => ?_)
            rw [eb1 l, Bool.or_eq_true, hbits l, decide_eq_true_iff]
            constructor
            · rintro (⟨u, u1, h8⟩ | h8)
              · exact ⟨u, by omega, h8⟩
              · exact ⟨g, by omega, fun h => n1 (by rw [h]), fun h => n2 (by rw [h]), (bt_one hm10 l9).mp h9, h8.symm⟩
            · rintro ⟨u, u1, u3, u4, u5, u6⟩
              by_cases e : u = g
              · rw [e] at u6
                exact Or.inr u6.symm
              · exact Or.inl ⟨u, by omega, u3, u4, u5, u6⟩
        have c4 : Tt (fun K i => q_X13_step K i 4 (nI s) (nI m) (nI x) (nI pr) (nI v) (nI (mtf A v)) (nI (s + 2 ^ x)) (nI one) (nI la) (nI lb) (nI ka) 0 0 0 0 0 n (nI kb) z) Q := by
          refine u_X13_step_4 ?_; unfold qm_X13_step_4
          refine c5 A.flatten.length 0 0 (by omega) (Nat.two_pow_pos _) (fun l => ?_)
          have : tb 0 l = false := by
            unfold tb
            rw [Nat.zero_div]
            rfl
          rw [this]
          exact ⟨fun h => Bool.noConfusion h, fun ⟨u, h, _⟩ => absurd h (Nat.not_lt_zero _)⟩
        have c3 : Tt (fun K i => q_X13_step K i 3 (nI s) (nI m) (nI x) (nI pr) (nI v) (nI (mtf A v)) (nI (s + 2 ^ x)) (nI one) (nI la) 0 0 0 0 0 0 0 n (nI lb) z) Q := by
          have ka2 := lo ht hvl
          have kb2 := lo ht hpv
          have kc2 := lo ht hml
          have kd2 := lo ht hpm
          rw [hka] at ka2
          rw [hkb] at kb2
          refine u_X13_step_3 ?_; unfold qm_X13_step_3
          rw [i32x, i32x]
          refine w_rdI ml81 rfl (by omega) ka2 (w_rdI (pl10 hn) rfl (by omega) (lk_p hA.1 hvl) (w_rdI ml81 i32x (by omega) kb2 (w_if (fun h9 => w_rdI ml81 rfl (by omega) kc2 (w_if (fun h8 => w_rdI (pl10 hn) rfl (by omega) (lk_p hA.1 hml) (w_rdI ml81 i32x (by omega) kd2 ?_)) (fun h8 => ?_))) (fun h9 => w_rdI (pl10 hn) rfl (by omega) (lk_p hA.1 hvl) (w_rdI ml81 i32x (by omega) kb2 c4)))))
          · have hab : kb = ka := (nI_eq (by omega) (by omega)).mp h9
            have ed : lbR A sg (s + 2 ^ x) (rn_pv A (mtf A v)) = kb := by
              rcases atT with ⟨e1, e2⟩ | ⟨e1, e2⟩ <;> omega
            rw [ed]
            exact c4
          · have hab : kb = ka := (nI_eq (by omega) (by omega)).mp h9
            have ec : lbR A sg (s + 2 ^ x) (mtf A v) = ka := by
              rcases atT with ⟨e1, e2⟩ | ⟨e1, e2⟩ <;> omega
            exact absurd (by rw [ec]) h8
        have la2 := lo hs hvl
        have lb2 := lo hs hpv
        have lc2 := lo hs hml
        have ld2 := lo hs hpm
        rw [hla] at la2
        rw [hlb] at lb2
        refine u_X13_step_2 ?_; unfold qm_X13_step_2
        rw [i32x, i32x]
        refine w_rdI ml81 rfl (by omega) la2 (w_rdI (pl10 hn) rfl (by omega) (lk_p hA.1 hvl) (w_rdI ml81 i32x (by omega) lb2 (w_if (fun h9 => w_rdI ml81 rfl (by omega) lc2 (w_if (fun h8 => w_rdI (pl10 hn) rfl (by omega) (lk_p hA.1 hml) (w_rdI ml81 i32x (by omega) ld2 ?_)) (fun h8 => ?_))) (fun h9 => w_rdI (pl10 hn) rfl (by omega) (lk_p hA.1 hvl) (w_rdI ml81 i32x (by omega) lb2 c3)))))
        · have hab : lb = la := (nI_eq (by omega) (by omega)).mp h9
          have ed : lbR A sg s (rn_pv A (mtf A v)) = lb := by
            rcases atS with ⟨e1, e2⟩ | ⟨e1, e2⟩ <;> omega
          rw [ed]
          exact c3
        · have hab : lb = la := (nI_eq (by omega) (by omega)).mp h9
          have ec : lbR A sg s (mtf A v) = la := by
            rcases atS with ⟨e1, e2⟩ | ⟨e1, e2⟩ <;> omega
          exact absurd (by rw [ec]) h8
      have nk := nb_k ⟨s, by omega⟩ ⟨x, by omega⟩
      refine u_X13_step_1 ?_; unfold qm_X13_step_1
      refine w_rdI (pl4 hn) rfl (by omega) (lk_cu hA.1 hvl).1 (w_ifT (by rw [hcv]) (w_rdI (pl7 hn) rfl (by omega) (lk_m hd hA.1 hvl) ?_))
      rw [st_or (by omega) (by omega) hb]
      refine w_if (fun h9 => ?_) (fun h9 => ?_)
      · have e1 : par9 (tb s) x = 1 := nk.1.mp h9
        exact c2 1 (by omega) (by rw [e1]; exact Int.dvd_zero _)
      · have e1 : par9 (tb s) x = -1 := nk.2.elim (fun h8 => absurd (nk.1.mpr h8) h9) id
        rw [show nI pr - 1 = nI (pr - 1) from pk_sub (b := 1) (by omega)]
        refine c2 (pr - 1) (by omega) ?_
        rw [e1]
        exact ⟨1, by omega⟩
    intro d
    induction d with
    | zero =>
      intro v hv9 _
      exact found v (by omega) (by rw [show v = v0 by omega]; exact v02)
    | succ d ih =>
      intro v hv9 hall
      by_cases hcv : crs A v = x
      · exact found v (by omega) hcv
      · have hcx := (hA.cx (i := v) (by omega)).1
        refine u_X13_step_1 ?_; unfold qm_X13_step_1
        refine w_rdI (pl4 hn) rfl (by omega) (lk_cu hA.1 (by omega)).1 (w_ifF (fun e9 => hcv ((nI_eq (by omega) (by omega)).mp e9)) ?_)
        rw [show nI v + 1 = nI (v + 1) from nI_1 _]
        refine ih (v + 1) (by omega) (fun u hu => ?_)
        by_cases huv : u = v
        · rw [huv]; exact hcv
        · exact hall u (by omega)
  refine e_X13_step ?_
  refine u_X13_step_0 ?_; unfold qm_X13_step_0
  exact c1 v0 0 (by omega) (fun u hu => absurd hu (Nat.not_lt_zero _))
end XCK5
end
section
/-! 99zzzzzzzzzzzzzzzzyzr.xcig -/
-- CHAIN: the reference's reduced, exactly
def px9 (z : ow_MS) (p size N : Nat) (cl vv : Nat → Nat) (d : Nat → vc9) : Prop := (∀ i, i < N → z.2.1 92 i = nI (1024 * cl i + vv i) ∧ cl i < size ∧ vv i < p) ∧ ∀ k, k < size → (z.2.1 90 k = -1 ∧ ∀ j, j < size → (p : Int) ∣ d k j) ∨ ∃ b e, z.2.1 90 k = nI b ∧ z.2.1 91 k = nI e ∧ b ≤ e ∧ e ≤ N ∧ (∀ j, j < size → (p : Int) ∣ rs9 cl vv b (e - b) j - d k j) ∧ (p : Int) ∣ d k k - 1
section XCK6
variable {z : ow_MS}
theorem px_fr {P : Nat → Prop} {y y1 : ow_MS} {p size N : Nat} {cl vv : Nat → Nat} {d : Nat → vc9} (hf : fr P y y1) (hP : ¬ P 90 ∧ ¬ P 91 ∧ ¬ P 92) (h : px9 y p size N cl vv d) : px9 y1 p size N cl vv d := by
  unfold px9
  rw [(hf _ hP.1).2.1, (hf _ hP.2.1).2.1, (hf _ hP.2.2).2.1]
  exact h
theorem re_inv {a p : Nat} (hp : prT p) (hp9 : p ≤ 997) (h1 : 1 ≤ a) (h2 : a < p) : Te (fun K => qe_X13_inverseOf K (nI a) (nI p) z) (fun r => r.2 = z ∧ ∃ k, k < p ∧ r.1 = nI k ∧ k * a % p = 1) := by
  have hp2 := hp.1
  obtain ⟨k0, hk1, hk2, hk3⟩ := pr_inv hp h1 h2
  have key : ∀ (d k : Nat), k + d = k0 → Tt (fun K i => q_X13_inverseOf K i 1 (nI a) (nI p) (nI k) z) (fun r => r.2 = z ∧ ∃ k, k < p ∧ r.1 = nI k ∧ k * a % p = 1) := by
    intro d
    induction d with
    | zero =>
      intro k hk
      have hk : k = k0 := by omega
      subst hk
      have hb : k * a < 2 ^ 31 := by
        have := Nat.mul_le_mul (show k ≤ 997 by omega) (show a ≤ 997 by omega)
        omega
      refine u_X13_inverseOf_1 ?_; unfold qm_X13_inverseOf_1
      rw [pk_mul, pk_rem hb (by omega) (by omega), hk3]
      exact w_nzI (fun e => by have := (nI_eq (a := p) (b := 0) (by omega) (by omega)).mp e; omega) (w_ifT rfl (w_some ⟨rfl, k, hk2, rfl, hk3⟩))
    | succ d ih =>
      intro k hk
      have hb : k * a < 2 ^ 31 := by
        have := Nat.mul_le_mul (show k ≤ 997 by omega) (show a ≤ 997 by omega)
        omega
      have hm : k * a % p < p := Nat.mod_lt _ (by omega)
      refine u_X13_inverseOf_1 ?_; unfold qm_X13_inverseOf_1
      rw [pk_mul, pk_rem hb (by omega) (by omega), nI_1]
      exact w_nzI (fun e => by have := (nI_eq (a := p) (b := 0) (by omega) (by omega)).mp e; omega) (w_if (fun h9 => w_some ⟨rfl, k, by omega, rfl, (nI_eq (a := k * a % p) (b := 1) (by omega) (by omega)).mp h9⟩) (fun _ => ih (k + 1) (by omega)))
  refine e_X13_inverseOf ?_
  refine u_X13_inverseOf_0 ?_; unfold qm_X13_inverseOf_0
  exact key (k0 - 1) 1 (by omega)
theorem md_dv {p a : Nat} (x : Int) (h : (p : Int) ∣ (a : Int) - x) : (p : Int) ∣ ((a % p : Nat) : Int) - x := by
  have h1 : (p : Int) ∣ ((a % p : Nat) : Int) - (a : Int) := dv_md (Nat.mod_mod _ _)
  have := Int.dvd_add h1 h
  rw [show ((a % p : Nat) : Int) - (a : Int) + ((a : Int) - x) = ((a % p : Nat) : Int) - x by omega] at this
  exact this
theorem z_dv {p a : Nat} {x : Int} (h : (p : Int) ∣ (a : Int) - x) (ha : a % p = 0) : (p : Int) ∣ x := by
  have := md_dv x h
  rw [ha] at this
  have := Int.dvd_neg.mpr this
  rw [show -(((0 : Nat) : Int) - x) = x by omega] at this
  exact this
theorem re_reduced {size p b n N0 : Nat} {cl0 vv0 : Nat → Nat} {d9 M9 : Nat → vc9} (hp : prT p) (hp9 : p ≤ 997) (hs : size ≤ 1140) (hb : b ≤ 20000) (hpb : p ≤ b) (hI : plI z size) (h93 : z.1 93 = nI N0) (hN0 : N0 < 2 ^ 31) (hx : px9 z p size N0 cl0 vv0 d9) (hE : El9 p size M9 n d9) (hw : wkR z p size b (M9 n)) : Te (fun K => qe_X13_reduced K (nI size) (nI p) z) (fun r => plI r.2 size ∧ fr rdH z r.2 ∧ ∃ N1 cl vv d' ρ, r.2.1 93 = nI N1 ∧ N1 < 2 ^ 31 ∧ px9 r.2 p size N1 cl vv d' ∧ El9 p size M9 (n + 1) d' ∧ r.1 = nI ρ ∧ ρ ≤ 1 ∧ rk9 p size (rwl9 M9 (n + 1)) = rk9 p size (rwl9 M9 n) + ρ) := by
  have hp2 := hp.1
  have hpr := prp_of hp
  have htri := tri_le hs
  have hpz : nI p ≠ 0 := fun e => by have := (nI_eq (a := p) (b := 0) (by omega) (by omega)).mp e; omega
  let Q : Int32 × ow_MS → Prop := fun r => plI r.2 size ∧ fr rdH z r.2 ∧ ∃ N1 cl vv d' ρ, r.2.1 93 = nI N1 ∧ N1 < 2 ^ 31 ∧ px9 r.2 p size N1 cl vv d' ∧ El9 p size M9 (n + 1) d' ∧ r.1 = nI ρ ∧ ρ ≤ 1 ∧ rk9 p size (rwl9 M9 (n + 1)) = rk9 p size (rwl9 M9 n) + ρ
  have wB : ∀ {y : ow_MS} {cur : vc9}, wkR y p size b cur → wkB y size b := fun h i hi => by
    obtain ⟨a, a1, a2, -⟩ := h i hi
    exact ⟨a, a2, a1⟩
  have c1 : ∀ (d k : Nat) (y : ow_MS) (cur : vc9), k + d = size → plI y size → y.1 93 = nI N0 → px9 y p size N0 cl0 vv0 d9 → wkR y p size b cur → (∀ j, j < k → (p : Int) ∣ cur j) → sp9 p size (rwl9 d9 size) (fun j => M9 n j - cur j) → fr rdH z y → Tt (fun K i => q_X13_reduced K i 1 (nI size) (nI p) (nI k) 0 0 0 0 y) Q := by
    intro d
    induction d with
    | zero =>
      intro k y cur hk hI h93 hx hw hz0 hsp hf
      refine u_X13_reduced_1 ?_; unfold qm_X13_reduced_1
      refine w_leT (by omega) (by omega) (w_okZ (Or.inl rfl) (w_some ⟨hI, hf, N0, cl0, vv0, d9, 0, h93, hN0, hx, ?_⟩))
      have hin : sp9 p size (rwl9 d9 size) (M9 n) := sp_q (fun j hj => by
        rw [show M9 n j - (M9 n j - cur j) = cur j by omega]
        exact hz0 j (by omega)) hsp
      obtain ⟨e1, e2⟩ := El_n hE hin
      exact ⟨e1, rfl, by omega, e2⟩
    | succ d ih =>
      intro k y cur hk hI h93 hx hw hz0 hsp hf
      have hks : k < size := by omega
      obtain ⟨w, ew, hwb, hwd⟩ := hw k hks
      have hrm : w % p < p := Nat.mod_lt _ (by omega)
      have hf2 : fr rdH z (usI y 89 k (nI (w % p))) := fr_I2 hf (by unfold rdH; omega)
      have hI2 : plI (usI y 89 k (nI (w % p))) size := plI_89 (fr_I rfl) hI
      have hx2 : px9 (usI y 89 k (nI (w % p))) p size N0 cl0 vv0 d9 := px_fr (fr_I (P := fun g => g = 89) rfl) (by omega) hx
      have hw2 : wkR (usI y 89 k (nI (w % p))) p size b cur := fun i hi => by
        by_cases hik : i = k
        · rw [hik]
          exact ⟨w % p, po_usI_at, by omega, md_dv _ hwd⟩
        · obtain ⟨w3, e3, h3, d3⟩ := hw i hi
          exact ⟨w3, rd_ne hik e3, h3, d3⟩
      have c5 : ∀ (x4 : Int32) (y : ow_MS) (cur : vc9), plI y size → y.1 93 = nI N0 → px9 y p size N0 cl0 vv0 d9 → wkR y p size b cur → (∀ j, j < k + 1 → (p : Int) ∣ cur j) → sp9 p size (rwl9 d9 size) (fun j => M9 n j - cur j) → fr rdH z y → Tt (fun K i => q_X13_reduced K i 5 (nI size) (nI p) (nI k) x4 0 0 0 y) Q := by
        intro x4 y cur a1 a2 a3 a4 a5 a6 a7
        refine u_X13_reduced_5 ?_; unfold qm_X13_reduced_5
        rw [nI_1]
        exact ih (k + 1) y cur (by omega) a1 a2 a3 a4 a5 a6 a7
      have hI2' := hI2
      obtain ⟨N, n1, n2, n3, n4⟩ := hI2
      have eN : N = N0 := (nI_eq (a := N) (b := N0) (by omega) hN0).mp (n1.symm.trans h93)
      subst eN
      have hN : N ≤ 650370 := by omega
      refine u_X13_reduced_1 ?_; unfold qm_X13_reduced_1
      refine w_leF (by omega) (by omega) (w_rdI ml89 rfl (by omega) ew (w_nzI hpz ?_))
      rw [pk_rem (by omega) (by omega) (by omega)]
      refine w_wrI ml89 rfl (by omega) (w_eqN (b := 0) (by omega) (by omega) (fun h0 => c5 _ _ cur hI2' n1 hx2 hw2 (fun j hj => ?_) hsp hf2) (fun h0 => ?_))
      · by_cases e : j = k
        · rw [e]
          exact z_dv hwd h0
        · exact hz0 j (by omega)
      have cnk : ¬ (p : Int) ∣ cur k := fun h9 => h0 (by
        have := Int.dvd_add hwd h9
        rw [show (w : Int) - cur k + cur k = w by omega] at this
        exact Nat.mod_eq_zero_of_dvd (Int.natCast_dvd_natCast.mp this))
      rcases hx2.2 k hks with ⟨hm1, hzr⟩ | ⟨b1, e1, g1, g2, g3, g4, g5, g6⟩
      · -- a new row
        refine w_rdI ml90 rfl (by omega) hm1 (w_ifT rfl (w_cs1 (re_inv hp hp9 (a := w % p) (by omega) hrm) (fun a y9 ⟨e9, iv, hiv, eiv, hinv⟩ => ?_)))
        have e9 : y9 = usI y 89 k (nI (w % p)) := e9
        have eiv2 : a = nI iv := eiv
        subst e9
        rw [eiv2]
        have hu := unk_set (size := size) (v := N) (by omega) hm1 size (by omega)
        have tt : (p : Int) ∣ (iv : Int) * ((w % p : Nat) : Int) - 1 := by
          have := dv_md (p := p) (x := iv * (w % p)) (y := 1) (by rw [hinv, Nat.mod_eq_of_lt (by omega)])
          rw [Int.natCast_mul] at this
          exact this
        have ivk : (p : Int) ∣ (iv : Int) * cur k - 1 := by
          have h1 := Int.dvd_neg.mpr (dvr9 (iv : Int) (md_dv _ hwd))
          have := Int.dvd_add tt h1
          rw [show (iv : Int) * ((w % p : Nat) : Int) - 1 + -((iv : Int) * (((w % p : Nat) : Int) - cur k)) = (iv : Int) * cur k - 1 by rw [Int.mul_sub]; omega] at this
          exact this
        have El := El_y (u := fun j => (iv : Int) * cur j) hpr hE hks hzr hsp hz0 cnk tt zq_r
        refine w_rdF n1 (w_wrI ml90 rfl (by omega) ?_)
        have c2 : ∀ (d2 i M : Nat) (cl vv : Nat → Nat) (y : ow_MS), i + d2 = size → k ≤ i → N ≤ M → M + k ≤ N + i → fr rdH z y → y.1 93 = nI M → wkR y p size b cur → (∀ j, j < size → j ≠ k → (y.2.1 90 j = -1 ∧ ∀ i, i < size → (p : Int) ∣ d9 j i) ∨ ∃ b e, y.2.1 90 j = nI b ∧ y.2.1 91 j = nI e ∧ b ≤ e ∧ e ≤ N ∧ (∀ i, i < size → (p : Int) ∣ rs9 cl0 vv0 b (e - b) i - d9 j i) ∧ (p : Int) ∣ d9 j j - 1) → y.2.1 90 k = nI N → (∀ i, i < M → y.2.1 92 i = nI (1024 * cl i + vv i) ∧ cl i < size ∧ vv i < p) → (∀ i, i < N → cl i = cl0 i ∧ vv i = vv0 i) → (∀ j, j < size → (p : Int) ∣ rs9 cl vv N (M - N) j - (if k ≤ j ∧ j < i then (iv : Int) * cur j else 0)) → M + unkF y size size + (size - k) ≤ triF size size + (M - N) → Tt (fun K t => q_X13_reduced K t 2 (nI size) (nI p) (nI k) (nI (w % p)) (nI iv) (nI i) 0 y) Q := by
          intro d2
          induction d2 with
          | zero =>
            intro i M cl vv y hi hki hNM hM hf h93 hw hrow hk9 hpool hold hrs hun
            refine u_X13_reduced_2 ?_; unfold qm_X13_reduced_2
            refine w_leT (by omega) (by omega) (w_rdF h93 (w_wrI ml91 rfl (by omega) (w_okZ (Or.inr rfl) (w_some ⟨⟨M, h93, ?_, fun j hj => ?_, fun i hi => ?_⟩, fr_I2 hf (by unfold rdH; omega), M, cl, vv, (fun j => if j = k then (fun j => (iv : Int) * cur j) else d9 j), 1, h93, by omega, ⟨fun i hi => ?_, fun j hj => ?_⟩, El.1, rfl, Nat.le_refl 1, El.2⟩))))
            · rw [unk_eq (y := y) size (fun i _ => by rw [po_usI_ot (by omega)])]
              omega
            · by_cases hjk : j = k
              · rw [hjk]
                exact Or.inr ⟨N, M, by rw [po_usI_ot (by omega)]; exact hk9, po_usI_at, hNM, Nat.le_refl _⟩
              · rcases hrow j hj hjk with h9 | ⟨b1, e1, g1, g2, g3, g4, -⟩
                · exact Or.inl (rd_ot (by omega) h9.1)
                · exact Or.inr ⟨b1, e1, rd_ot (by omega) g1, rd_ne hjk g2, g3, by omega⟩
            · obtain ⟨g1, g2, g3⟩ := hpool i hi
              exact ⟨cl i, vv i, g2, by omega, rd_ot (by omega) g1⟩
            · obtain ⟨g1, g2, g3⟩ := hpool i hi
              exact ⟨rd_ot (by omega) g1, g2, g3⟩
            · dsimp only
              by_cases hjk : j = k
              · rw [if_pos hjk, hjk]
                refine Or.inr ⟨N, M, rd_ot (by omega) hk9, po_usI_at, hNM, Nat.le_refl _, fun t ht => ?_, ivk⟩
                have := hrs t ht
                by_cases q : k ≤ t ∧ t < i
                · rw [if_pos q] at this
                  exact this
                · rw [if_neg q, Int.sub_zero] at this
                  exact Int.dvd_sub this (dvr9 (iv : Int) (hz0 t (by omega)))
              · rw [if_neg hjk]
                rcases hrow j hj hjk with h9 | ⟨b1, e1, g1, g2, g3, g4, g5, g6⟩
                · exact Or.inl ⟨rd_ot (by omega) h9.1, h9.2⟩
                · refine Or.inr ⟨b1, e1, rd_ot (by omega) g1, rd_ne hjk g2, g3, by omega, fun t ht => ?_, g6⟩
                  rw [rs_cg (fun i hi => hold i (by omega))]
                  exact g5 t ht
          | succ d2 ih2 =>
            intro i M cl vv y hi hki hNM hM hf h93 hw hrow hk9 hpool hold hrs hun
            obtain ⟨w4, ew4, hw4, hd4⟩ := hw i (by omega)
            have hr4 : w4 % p < p := Nat.mod_lt _ (by omega)
            have hmul : w4 % p * iv < 2 ^ 31 := by
              have := Nat.mul_le_mul (show w4 % p ≤ 997 by omega) (show iv ≤ 997 by omega)
              omega
            have hro : w4 % p * iv % p < p := Nat.mod_lt _ (by omega)
            have hval : (p : Int) ∣ ((w4 % p * iv % p : Nat) : Int) - (iv : Int) * cur i := by
              have h1 := dvr9 (iv : Int) (md_dv _ hd4)
              refine md_dv _ ?_
              rw [Int.natCast_mul, Int.mul_comm ((w4 % p : Nat) : Int), ← Int.mul_sub]
              exact h1
            have ni := hrs i (by omega)
            rw [if_neg (by omega), Int.sub_zero] at ni
            refine u_X13_reduced_2 ?_; unfold qm_X13_reduced_2
            refine w_leF (by omega) (by omega) (w_rdI ml89 rfl (by omega) ew4 (w_nzI hpz (w_nzI hpz ?_)))
            rw [pk_rem (by omega) (by omega) (by omega), pk_mul, pk_rem hmul (by omega) (by omega)]
            refine w_eqN (b := 0) (by omega) (by omega) (fun hz9 => ?_) (fun hz9 => w_rdF h93 ?_)
            · refine u_X13_reduced_3 ?_; unfold qm_X13_reduced_3
              rw [nI_1]
              refine ih2 (i + 1) M cl vv y (by omega) (by omega) hNM (by omega) hf h93 hw hrow hk9 hpool hold (fun j hj => ?_) hun
              by_cases q : j = i
              · rw [q, if_pos ⟨hki, by omega⟩]
                rw [hz9] at hval
                have := Int.dvd_add ni hval
                rw [show rs9 cl vv N (M - N) i + (((0 : Nat) : Int) - (iv : Int) * cur i) = rs9 cl vv N (M - N) i - (iv : Int) * cur i by omega] at this
                exact this
              · have := hrs j hj
                by_cases q2 : k ≤ j ∧ j < i
                · rw [if_pos q2] at this
                  rw [if_pos ⟨q2.1, by omega⟩]
                  exact this
                · rw [if_neg q2] at this
                  rw [if_neg (fun h9 => q2 ⟨h9.1, by omega⟩)]
                  exact this
            · rw [show (1024 : Int32) * nI i = nI (1024 * i) from pk_mul 1024 i, nI_add]
              refine w_wrI ml92 rfl (by omega) (w_rdF (x := nI M) h93 (w_wrF ?_))
              refine u_X13_reduced_3 ?_; unfold qm_X13_reduced_3
              rw [nI_1]
              refine ih2 (i + 1) (M + 1) (fun t => if t = M then i else cl t) (fun t => if t = M then w4 % p * iv % p else vv t) _ (by omega) (by omega) (by omega) (by omega) (fr_F2 (fr_I2 hf (by unfold rdH; omega)) (by unfold rdH; omega)) (po_usF_at.trans (nI_1 M)) (fun i hi => ?_) (fun j hj hjk => ?_) ?_ (fun t ht => ?_) (fun t ht => ?_) (fun j hj => ?_) ?_
              · obtain ⟨w5, e5, h5, d5⟩ := hw i hi
                exact ⟨w5, rd_ot (by omega) e5, h5, d5⟩
              · show ((usI y 92 M _).2.1 90 j = -1 ∧ _) ∨ ∃ b e, (usI y 92 M _).2.1 90 j = nI b ∧ (usI y 92 M _).2.1 91 j = nI e ∧ _
                rw [po_usI_ot (by omega), po_usI_ot (by omega)]
                exact hrow j hj hjk
              · show (usI y 92 M _).2.1 90 k = nI N
                rw [po_usI_ot (by omega)]
                exact hk9
              · show (usI y 92 M _).2.1 92 t = nI (1024 * (if t = M then i else cl t) + (if t = M then w4 % p * iv % p else vv t)) ∧ _ ∧ _
                by_cases htM : t = M
                · rw [if_pos htM, if_pos htM, htM]
                  exact ⟨po_usI_at, by omega, hro⟩
                · rw [if_neg htM, if_neg htM]
                  obtain ⟨g1, g2, g3⟩ := hpool t (by omega)
                  exact ⟨rd_ne htM g1, g2, g3⟩
              · rw [if_neg (by omega), if_neg (by omega)]
                exact hold t ht
              · have e9 : M + 1 - N = (M - N) + 1 := by omega
                rw [e9, rs_s, rs_cg (cl := cl) (vv := vv) (fun i hi => ⟨if_neg (by omega), if_neg (by omega)⟩)]
                show (p : Int) ∣ rs9 cl vv N (M - N) j + (if (if N + (M - N) = M then i else cl (N + (M - N))) = j then ((if N + (M - N) = M then w4 % p * iv % p else vv (N + (M - N)) : Nat) : Int) else 0) - _
                rw [if_pos (show N + (M - N) = M by omega), if_pos (show N + (M - N) = M by omega)]
                have hj9 := hrs j hj
                by_cases q : i = j
                · subst q
                  rw [if_pos rfl, if_pos ⟨hki, by omega⟩]
                  have := Int.dvd_add ni hval
                  rw [show rs9 cl vv N (M - N) i + (((w4 % p * iv % p : Nat) : Int) - (iv : Int) * cur i) = rs9 cl vv N (M - N) i + ((w4 % p * iv % p : Nat) : Int) - (iv : Int) * cur i by omega] at this
                  exact this
                · rw [if_neg q, Int.add_zero]
                  by_cases q2 : k ≤ j ∧ j < i
                  · rw [if_pos q2] at hj9
                    rw [if_pos ⟨q2.1, by omega⟩]
                    exact hj9
                  · rw [if_neg q2] at hj9
                    rw [if_neg (fun h9 => q2 ⟨h9.1, by omega⟩)]
                    exact hj9
              · rw [unk_eq (y := y) size (fun i _ => by show (usI y 92 M _).2.1 90 i = _; rw [po_usI_ot (by omega)])]
                omega
        refine c2 (size - k) k N cl0 vv0 _ (by omega) (Nat.le_refl _) (Nat.le_refl _) (by omega) (fr_I2 hf2 (by unfold rdH; omega)) n1 (fun i hi => ?_) (fun j hj hjk => ?_) po_usI_at (fun t ht => ?_) (fun i hi => ⟨rfl, rfl⟩) (fun j hj => ?_) (by omega)
        · obtain ⟨w5, e5, h5, d5⟩ := hw2 i hi
          exact ⟨w5, rd_ot (by omega) e5, h5, d5⟩
        · rw [po_usI_ne hjk, po_usI_ot (g := 91) (h := 90) (by omega)]
          exact hx2.2 j hj
        · rw [po_usI_ot (g := 92) (h := 90) (by omega)]
          exact hx2.1 t ht
        · rw [if_neg (by omega), Nat.sub_self]
          exact Int.dvd_zero _
      · -- a kept row is taken off
        have b31 : b1 < 2 ^ 31 := by omega
        refine w_rdI ml90 rfl (by omega) g1 (w_ifF (rn_neg1 b31) (w_rdI ml90 rfl (by omega) g1 ?_))
        have ech := hE.1 k hks
        have c4 : ∀ (d2 i : Nat) (y : ow_MS), i + d2 = e1 → b1 ≤ i → plI y size → y.1 93 = nI N → px9 y p size N cl0 vv0 d9 → y.2.1 91 k = nI e1 → wkR y p size b (fun j => cur j - ((w % p : Nat) : Int) * rs9 cl0 vv0 b1 (i - b1) j) → fr rdH z y → Tt (fun K t => q_X13_reduced K t 4 (nI size) (nI p) (nI k) (nI (w % p)) (nI i) 0 0 y) Q := by
          intro d2
          induction d2 with
          | zero =>
            intro i y hi hib hI h93 hx h91 hw hf
            have ei : i = e1 := by omega
            rw [ei] at hw
            refine u_X13_reduced_4 ?_; unfold qm_X13_reduced_4
            refine w_rdI ml91 rfl (by omega) h91 (w_leT (by omega) (by omega) (c5 _ y (fun j => cur j - ((w % p : Nat) : Int) * d9 k j) hI h93 hx (wkR_cg hw (Nat.le_refl _) (fun j hj => ?_)) (fun j hj => ?_) ?_ hf))
            · have := Int.dvd_neg.mpr (dvr9 ((w % p : Nat) : Int) (g5 j hj))
              rw [show -(((w % p : Nat) : Int) * (rs9 cl0 vv0 b1 (e1 - b1) j - d9 k j)) = cur j - ((w % p : Nat) : Int) * rs9 cl0 vv0 b1 (e1 - b1) j - (cur j - ((w % p : Nat) : Int) * d9 k j) by rw [Int.mul_sub]; omega] at this
              exact this
            · by_cases q : j = k
              · rw [q]
                have := Int.dvd_neg.mpr (Int.dvd_add (md_dv _ hwd) (dvr9 ((w % p : Nat) : Int) g6))
                rw [show -(((w % p : Nat) : Int) - cur k + ((w % p : Nat) : Int) * (d9 k k - 1)) = cur k - ((w % p : Nat) : Int) * d9 k k by rw [Int.mul_sub, Int.mul_one]; omega] at this
                exact this
              · exact Int.dvd_sub (hz0 j (by omega)) (dvr9 _ (ech.1 j (by omega)))
            · refine sp_q (fun j _ => ?_) (sp_a hsp (sp_m ((w % p : Nat) : Int) (sp_in (rwl_in hks))))
              rw [show M9 n j - (cur j - ((w % p : Nat) : Int) * d9 k j) - (M9 n j - cur j + ((w % p : Nat) : Int) * d9 k j) = 0 by omega]
              exact Int.dvd_zero _
          | succ d2 ih4 =>
            intro i y hi hib hI h93 hx h91 hw hf
            obtain ⟨o3, o1, o2⟩ := hx.1 i (by omega)
            obtain ⟨w5, e5, h5, d5⟩ := hw (cl0 i) o1
            have hmul : w5 + (p - w % p) * vv0 i < 2 ^ 31 := by
              have := Nat.mul_le_mul (show p - w % p ≤ 997 by omega) (show vv0 i ≤ 1023 by omega)
              omega
            have hro : (w5 + (p - w % p) * vv0 i) % p < p := Nat.mod_lt _ (by omega)
            refine u_X13_reduced_4 ?_; unfold qm_X13_reduced_4
            refine w_rdI ml91 rfl (by omega) h91 (w_leF (by omega) (by omega) (w_rdI ml92 rfl (by omega) o3 ?_))
            rw [shr10 (by omega), show (1024 * cl0 i + vv0 i) / 1024 = cl0 i by omega]
            refine w_rdI ml89 rfl (by omega) e5 (w_rdI ml92 rfl (by omega) o3 (w_nzI hpz ?_))
            rw [and1023 (by omega), show (1024 * cl0 i + vv0 i) % 1024 = vv0 i by omega, show nI p - nI (w % p) = nI (p - w % p) from pk_sub (by omega), pk_mul, nI_add, pk_rem hmul (by omega) (by omega), nI_1]
            refine w_wrI ml89 rfl (by omega) (ih4 (i + 1) _ (by omega) (by omega) (plI_89 (fr_I rfl) hI) h93 (px_fr (fr_I (P := fun g => g = 89) rfl) (by omega) hx) (rd_ot (by omega) h91) (fun t ht => ?_) (fr_I2 hf (by unfold rdH; omega)))
            dsimp only at d5 ⊢
            rw [show i + 1 - b1 = (i - b1) + 1 by omega, rs_s, show b1 + (i - b1) = i by omega]
            by_cases htc : t = cl0 i
            · refine ⟨(w5 + (p - w % p) * vv0 i) % p, by rw [htc, po_usI_at], by omega, ?_⟩
              rw [if_pos htc.symm, htc]
              have m2 : (p : Int) ∣ (p : Int) * (vv0 i : Int) := Int.dvd_mul_right _ _
              have e9 : ((w5 + (p - w % p) * vv0 i : Nat) : Int) = (w5 : Int) + ((p : Int) * vv0 i - ((w % p : Nat) : Int) * vv0 i) := by
                rw [Int.natCast_add, Int.natCast_mul, Int.ofNat_sub (show w % p ≤ p by omega), Int.sub_mul]
              refine md_dv _ ?_
              rw [e9]
              have := Int.dvd_add d5 m2
              rw [show (w5 : Int) - (cur (cl0 i) - ((w % p : Nat) : Int) * rs9 cl0 vv0 b1 (i - b1) (cl0 i)) + (p : Int) * vv0 i = (w5 : Int) + ((p : Int) * vv0 i - ((w % p : Nat) : Int) * vv0 i) - (cur (cl0 i) - ((w % p : Nat) : Int) * (rs9 cl0 vv0 b1 (i - b1) (cl0 i) + (vv0 i : Int))) by rw [Int.mul_add]; omega] at this
              exact this
            · obtain ⟨w6, e6, h6, d6⟩ := hw t ht
              refine ⟨w6, rd_ne htc e6, h6, ?_⟩
              rw [if_neg (fun h9 => htc h9.symm), Int.add_zero]
              exact d6
        refine c4 (e1 - b1) b1 _ (by omega) (Nat.le_refl _) hI2' n1 hx2 g2 (wkR_cg hw2 (Nat.le_refl _) (fun j hj => ?_)) hf2
        rw [Nat.sub_self, show cur j - (cur j - ((w % p : Nat) : Int) * rs9 cl0 vv0 b1 0 j) = ((w % p : Nat) : Int) * 0 by show cur j - (cur j - ((w % p : Nat) : Int) * 0) = _; omega, Int.mul_zero]
        exact Int.dvd_zero _
  refine e_X13_reduced ?_
  refine u_X13_reduced_0 ?_; unfold qm_X13_reduced_0
  refine c1 size 0 z (M9 n) (by omega) hI h93 hx hw (fun j hj => absurd hj (Nat.not_lt_zero _)) (sp_q (fun j _ => ?_) sp_0) fr_rf
  rw [show M9 n j - M9 n j - 0 = 0 by omega]
  exact Int.dvd_zero _
end XCK6
end
section
/-! 99zzzzzzzzzzzzzzzzyzs.xcih -/
-- CHAIN: the reference's rankOf, exactly
def rkX (y : ow_MS) (n : Nat) (A : rn_L) (sg : Nat → Bool) (c mi : Nat) : Prop := oNet y n A sg ∧ stX y A sg c ∧ plX y A sg c mi ∧ y.1 88 = nI mi
noncomputable def RKR (p : Int) (A : rn_L) (sg : Nat → Bool) (c : Nat) (dg : Int) (h : Nat) : Nat := RK9 p c (gG9 A) (relL9 A sg (fun x => x) c) (fun y => gV9 (y, 0)) (fun y => gV9 (prA9 A (y, 0))) (LsR A sg) (LcN A sg) dg h
section XCK7
variable {z : ow_MS}
theorem rkX_fr {n : Nat} {y y1 : ow_MS} {A : rn_L} {sg : Nat → Bool} {c mi : Nat} {P : Nat → Prop} (hn : mw_net n) (hf : fr P y y1) (hP : ∀ g, P g → g = 86 ∨ g = 87 ∨ 89 ≤ g ∧ g ≤ 93) (h : rkX y n A sg c mi) : rkX y1 n A sg c mi := by
  have hmn := net_mod hn
  have no : ∀ g, ¬ (g = 86 ∨ g = 87 ∨ 89 ≤ g ∧ g ≤ 93) → ¬ P g := fun g hg h9 => hg (hP g h9)
  refine ⟨oNet_fr hf (fun g hg => by have := hP g hg; omega) h.1, stX_fr hf (no 81 (by omega)) (no 82 (by omega)) (no 83 (by omega)) h.2.1, ⟨fun h' q hh hq => ?_, fun s m hs hm => ?_⟩, by rw [(hf 88 (no 88 (by omega))).1]; exact h.2.2.2⟩
  · rw [(hf 85 (no 85 (by omega))).2.1]
    exact h.2.2.1.1 h' q hh hq
  · rw [(hf 84 (no 84 (by omega))).2.1]
    exact h.2.2.1.2 s m hs hm
theorem re_rankOf {n P r q p mi : Nat} {A : rn_L} {sg : Nat → Bool} {T : ow_NT} (hn : mw_net n) (hK : chOK A sg T.1 P) (hC0 : rkX z n A sg T.1 mi) (hmi : mi ≤ T.1) (hN : isoN A sg (fun x => x) T) (hT : pm1 T) (hv : vn T.1 T.2.2.1) (hbd : bdA A) (hC : cu9 T.1 2000 (gG9 A) (fun y => gV9 (y, 0)) (fun y => gV9 (prA9 A (y, 0))) (fun y => gV9 (prA9 A (y, 0))) (relL9 A sg (fun x => x) T.1)) (hr : r < T.1) (hq : q < 80) (hp : prT p) (hp9 : p ≤ 997) : Te (fun K => qe_X13_rankOf K n (nI r) (nI q) (nI p) z) (fun o => fr rdH z o.2 ∧ o.1 = nI (RKR p A sg T.1 (dgq T.1 mi q) r)) := by
  have hK' := hK
  obtain ⟨hok, hc, hCl, hL9, hbs, hblk⟩ := hK
  have hV := okF_len hok
  have hp2 := hp.1
  have hLT := LT_R hN hT hv hc hbd hL9
  have h2c : 2 ^ T.1 ≤ 256 := two_mono (b := 8) hc
  have eRK : RKR p A sg T.1 (dgq T.1 mi q) r = rk9 p (sz9 T.1 (LcN A sg) (dgq T.1 mi q) (r + 1)) (rwl9 (MT9 T.1 (gG9 A) (relL9 A sg (fun x => x) T.1) (fun y => gV9 (y, 0)) (fun y => gV9 (prA9 A (y, 0))) (LsR A sg) (LcN A sg) (dgq T.1 mi q) r) (sz9 T.1 (LcN A sg) (dgq T.1 mi q) r)) := rfl
  let Q : Int32 × ow_MS → Prop := fun o => fr rdH z o.2 ∧ o.1 = nI (RKR p A sg T.1 (dgq T.1 mi q) r)
  have iF : ∀ {y : ow_MS}, fr rdH z y → rkX y n A sg T.1 mi := fun hf => rkX_fr hn hf (fun g hg => by unfold rdH at hg; omega) hC0
  have esz := hC0.2.2.1.1 (r + 1) q (by omega) hq
  have esz0 := hC0.2.2.1.1 r q (by omega) hq
  have hs0 : sz9 T.1 (LcN A sg) (dgq T.1 mi q) r ≤ 1140 := bkF_sz hL9 (hblk _)
  have hsz2 : sz9 T.1 (LcN A sg) (dgq T.1 mi q) (r + 1) ≤ 1140 := bkF_sz hL9 (hblk _)
  generalize hMM : MT9 T.1 (gG9 A) (relL9 A sg (fun x => x) T.1) (fun y => gV9 (y, 0)) (fun y => gV9 (prA9 A (y, 0))) (LsR A sg) (LcN A sg) (dgq T.1 mi q) r = MM at eRK
  generalize hsz : sz9 T.1 (LcN A sg) (dgq T.1 mi q) (r + 1) = size at esz hsz2 eRK
  refine e_X13_rankOf ?_
  refine u_X13_rankOf_0 ?_; unfold qm_X13_rankOf_0
  rw [show nI r + 1 = nI (r + 1) from nI_1 _, show (80 : Int32) * nI (r + 1) = nI (80 * (r + 1)) from pk_mul 80 _, nI_add, show (80 : Int32) * nI r = nI (80 * r) from pk_mul 80 _, nI_add]
  refine w_rdI ml85 rfl (by omega) esz (w_eqN (b := 0) (by omega) (by omega) (fun h9 => w_some ⟨fr_rf, ?_⟩) (fun _ => w_rdI ml85 rfl (by omega) esz0 (w_eqN (b := 0) (by omega) (by omega) (fun h9 => w_some ⟨fr_rf, ?_⟩) (fun _ => w_rdF hC0.1.1.V (w_nzI (by decide) ?_)))))
  · rw [eRK, h9, rk_w0]
    rfl
  · rw [eRK, h9]
    rfl
  rw [hV, half_V (by omega)]
  let ST : Nat → ow_MS → Prop := fun k y => fr rdH z y ∧ plI y size ∧ ∃ N cl vv d9, y.1 93 = nI N ∧ N < 2 ^ 31 ∧ px9 y p size N cl vv d9 ∧ El9 p size MM k d9
  have c2 : ∀ (d s : Nat) (y : ow_MS), s + d = 2 ^ T.1 → ST (smH (bkF (LcN A sg) (dgq T.1 mi q)) r 0 s) y → Tt (fun K i => q_X13_rankOf K i 2 (nI r) (nI q) (nI p) (nI size) (nI T.1) (nI (rk9 p size (rwl9 MM (smH (bkF (LcN A sg) (dgq T.1 mi q)) r 0 s)))) (nI s) 0 0 n 0 0 y) Q := by
    intro d
    induction d with
    | zero =>
      intro s y hs hst
      refine u_X13_rankOf_2 ?_; unfold qm_X13_rankOf_2
      rw [shl1 (by omega)]
      refine w_leT (by omega) (by omega) (w_some ⟨hst.1, ?_⟩)
      rw [eRK, show s = 2 ^ T.1 by omega]
      rfl
    | succ d ih =>
      intro s y hs hst
      have hsl : s < 2 ^ T.1 := by omega
      have hL := hL9 s hsl
      have h2L : 2 ^ LcN A sg s ≤ 512 := two_mono (b := 9) hL
      have hps := pc_le hsl
      have c9 : ∀ (k : Nat) (x9 : Int32) (y : ow_MS), k = smH (bkF (LcN A sg) (dgq T.1 mi q)) r 0 (s + 1) → ST k y → Tt (fun K i => q_X13_rankOf K i 9 (nI r) (nI q) (nI p) (nI size) (nI T.1) (nI (rk9 p size (rwl9 MM k))) (nI s) x9 0 n 0 0 y) Q := by
        intro k x9 y hk hst
        refine u_X13_rankOf_9 ?_; unfold qm_X13_rankOf_9
        rw [nI_1]
        rw [hk] at hst ⊢
        exact ih (s + 1) y (by omega) hst
      have c3 : pc s = r → ∀ (d2 m : Nat) (y : ow_MS), m + d2 = 2 ^ LcN A sg s → ST (smH (bkF (LcN A sg) (dgq T.1 mi q)) r 0 s + cq9 (LcN A sg) (dgq T.1 mi q) s m) y → Tt (fun K i => q_X13_rankOf K i 3 (nI r) (nI q) (nI p) (nI size) (nI T.1) (nI (rk9 p size (rwl9 MM (smH (bkF (LcN A sg) (dgq T.1 mi q)) r 0 s + cq9 (LcN A sg) (dgq T.1 mi q) s m)))) (nI s) (nI m) 0 n 0 0 y) Q := by
        intro hpo d2
        induction d2 with
        | zero =>
          intro m y hm hst
          refine u_X13_rankOf_3 ?_; unfold qm_X13_rankOf_3
          rw [bc_pc (by omega)]
          refine w_ifT (by rw [hpo]) (w_rdI ml82 rfl (by omega) ((iF hst.1).2.1.1 s hsl) ?_)
          rw [shl1 (by omega)]
          refine w_leT (by omega) (by omega) (c9 _ _ y ?_ hst)
          rw [smH_s, if_pos hpo, show m = 2 ^ LcN A sg s by omega, cq9_all (by omega)]
        | succ d2 ih3 =>
          intro m y hm hst
          have hst0 := hst
          obtain ⟨hf, hI, N, cl, vv, d9, h93, hN31, hx, hE⟩ := hst
          have hml : m < 2 ^ LcN A sg s := by omega
          have hCy := iF hf
          obtain ⟨tq, hq80⟩ := tp_qOf hK' (stX_I hCy.2.1) hCy.2.2.2 hmi hsl hml
          have c8 : ∀ (k : Nat) (y : ow_MS), k = smH (bkF (LcN A sg) (dgq T.1 mi q)) r 0 s + cq9 (LcN A sg) (dgq T.1 mi q) s (m + 1) → ST k y → Tt (fun K i => q_X13_rankOf K i 8 (nI r) (nI q) (nI p) (nI size) (nI T.1) (nI (rk9 p size (rwl9 MM k))) (nI s) (nI m) 0 n 0 0 y) Q := by
            intro k y hk hst
            refine u_X13_rankOf_8 ?_; unfold qm_X13_rankOf_8
            rw [show nI m + 1 = nI (m + 1) from nI_1 _]
            rw [hk] at hst ⊢
            exact ih3 (m + 1) y (by omega) hst
          refine u_X13_rankOf_3 ?_; unfold qm_X13_rankOf_3
          rw [bc_pc (by omega)]
          refine w_ifT (by rw [hpo]) (w_rdI ml82 rfl (by omega) (hCy.2.1.1 s hsl) ?_)
          rw [shl1 (by omega)]
          refine w_leF (by omega) (by omega) (w_rdF hCy.2.2.2 (w_cs1 tq (fun a y1 e1 => ?_)))
          cases e1
          refine w_eqN (by omega) (by omega) (fun hqe => ?_) (fun hqe => c8 _ y ?_ hst0)
          · have hkp := (qv_kp hsl hc hmi hL hml).mp hqe
            have hva : va9 T.1 (LcN A sg) (dgq T.1 mi q) r s m := ⟨hsl, hpo, hml, hkp⟩
            have ecq : cq9 (LcN A sg) (dgq T.1 mi q) s m = cpN (pc m) m := by
              unfold cq9
              rw [hkp]
            have eix : smH (bkF (LcN A sg) (dgq T.1 mi q)) r 0 s + cq9 (LcN A sg) (dgq T.1 mi q) s m = ix9 (LcN A sg) (dgq T.1 mi q) s m := by
              rw [ecq]
              unfold ix9
              rw [hpo]
            have ecs : smH (bkF (LcN A sg) (dgq T.1 mi q)) r 0 s + cq9 (LcN A sg) (dgq T.1 mi q) s m + 1 = smH (bkF (LcN A sg) (dgq T.1 mi q)) r 0 s + cq9 (LcN A sg) (dgq T.1 mi q) s (m + 1) := by
              rw [cq9_s, if_pos hkp]
              omega
            generalize hkk : smH (bkF (LcN A sg) (dgq T.1 mi q)) r 0 s + cq9 (LcN A sg) (dgq T.1 mi q) s m = kk at hE eix ecs
            have c7 : ∀ (x10 : Int32) (ρ : Nat) (y : ow_MS), rk9 p size (rwl9 MM (kk + 1)) = rk9 p size (rwl9 MM kk) + ρ → ST (kk + 1) y → Tt (fun K i => q_X13_rankOf K i 7 (nI r) (nI q) (nI p) (nI size) (nI T.1) (nI (rk9 p size (rwl9 MM kk))) (nI s) (nI m) x10 n (nI ρ) (nI (rk9 p size (rwl9 MM kk))) y) Q := by
              intro x10 ρ y he hst
              refine u_X13_rankOf_7 ?_; unfold qm_X13_rankOf_7
              rw [nI_add, ← he]
              exact c8 _ y ecs hst
            have c5 : ∀ (d3 x : Nat) (y : ow_MS), x + d3 = T.1 → fr rdH z y → plI y size → y.1 93 = nI N → px9 y p size N cl vv d9 → wkR y p size (p + x * (2 * p)) (row9 (gG9 A) (LsR A sg) (LcN A sg) (fun y => gV9 (y, 0)) (fun y => gV9 (prA9 A (y, 0))) (dgq T.1 mi q) s m x) → Tt (fun K i => q_X13_rankOf K i 5 (nI r) (nI q) (nI p) (nI size) (nI T.1) (nI (rk9 p size (rwl9 MM kk))) (nI s) (nI m) (nI x) n 0 0 y) Q := by
              intro d3
              induction d3 with
              | zero =>
                intro x y hx9 hf hI h93 hx hw
                have hb : p + x * (2 * p) ≤ 20000 := by
                  have := Nat.mul_le_mul (show x ≤ 8 by omega) (show 2 * p ≤ 1994 by omega)
                  omega
                have hw2 : wkR y p size (p + x * (2 * p)) (MM kk) := wkR_cg hw (Nat.le_refl _) (fun j hj => by
                  rw [← hMM, eix, MT_row hC hLT (by omega) hva (by rw [hsz]; exact hj), show x = T.1 by omega, Int.sub_self]
                  exact Int.dvd_zero _)
                refine u_X13_rankOf_5 ?_; unfold qm_X13_rankOf_5
                refine w_leT (by omega) (by omega) (w_cs1 (re_reduced hp hp9 hsz2 hb (by omega) hI h93 hN31 hx hE hw2) ?_)
                rintro a y1 ⟨I1, f1, N1, cl1, vv1, d1, ρ, r1, r2, r3, r4, r5, r6, r7⟩
                dsimp only at I1 f1 r1 r3 r5
                have st : ST (kk + 1) y1 := ⟨fr_tr hf f1, I1, N1, cl1, vv1, d1, r1, r2, r3, r4⟩
                rw [r5]
                rcases (show ρ = 0 ∨ ρ = 1 by omega) with e | e
                · rw [e] at r7 ⊢
                  exact w_ifT rfl (c7 _ 0 y1 r7 st)
                · rw [e] at r7 ⊢
                  exact w_ifF (by decide) (c7 _ 1 y1 r7 st)
              | succ d3 ih5 =>
                intro x y hx9 hf hI h93 hx hw
                have hCy := iF hf
                have hw1 : p + x * (2 * p) ≤ p + (x + 1) * (2 * p) := by rw [Nat.add_mul]; omega
                have c6 : ∀ (y : ow_MS), fr rdH z y → plI y size → y.1 93 = nI N → px9 y p size N cl vv d9 → wkR y p size (p + (x + 1) * (2 * p)) (row9 (gG9 A) (LsR A sg) (LcN A sg) (fun y => gV9 (y, 0)) (fun y => gV9 (prA9 A (y, 0))) (dgq T.1 mi q) s m (x + 1)) → Tt (fun K i => q_X13_rankOf K i 6 (nI r) (nI q) (nI p) (nI size) (nI T.1) (nI (rk9 p size (rwl9 MM kk))) (nI s) (nI m) (nI x) n 0 0 y) Q := by
                  intro y a1 a2 a3 a4 a5
                  refine u_X13_rankOf_6 ?_; unfold qm_X13_rankOf_6
                  rw [show nI x + 1 = nI (x + 1) from nI_1 _]
                  exact ih5 (x + 1) y (by omega) a1 a2 a3 a4 a5
                refine u_X13_rankOf_5 ?_; unfold qm_X13_rankOf_5
                rw [bit_nI (by omega) (by omega)]
                refine w_leF (by omega) (by omega) (w_eqN (b := 0) (by unfold btN; omega) (by omega) (fun h0 => w_cs0 (re_step (q := q) (r := r) (m := m) (b := p + x * (2 * p)) (v9 := row9 (gG9 A) (LsR A sg) (LcN A sg) (fun y => gV9 (y, 0)) (fun y => gV9 (prA9 A (y, 0))) (dgq T.1 mi q) s m x) hn hK' hCy.1 hCy.2.1 hCy.2.2.1 hmi hN hT hv hbd hC hva (by omega) h0 hp2 hp9 (by rw [hsz]; exact hw)) ?_) (fun h0 => c6 y hf hI h93 hx (wkR_cg hw hw1 (fun j _ => ?_))))
                · rintro y1 ⟨w1, f1⟩
                  rw [hsz] at w1
                  have e93 : y1.1 93 = nI N := by
                    rw [(f1 93 (by omega)).1]
                    exact h93
                  refine c6 y1 (fr_tr hf (fr_mono (fun g hg => by unfold rdH; omega) f1)) (plI_89 f1 hI) e93 (px_fr f1 (by omega) hx) (wkR_cg w1 (by rw [Nat.add_mul]; omega) (fun j _ => ?_))
                  have e0 : rwX (gG9 A) (LsR A sg) (LcN A sg) (fun y => gV9 (y, 0)) (fun y => gV9 (prA9 A (y, 0))) (dgq T.1 mi q) s m x j = par9 (tb s) x * cnI (ix9 (LcN A sg) (dgq T.1 mi q) (s + 2 ^ x)) j (di9 (gG9 A) (LsR A sg) (LcN A sg) (fun y => gV9 (y, 0)) (fun y => gV9 (prA9 A (y, 0))) s m x) := by
                    unfold rwX
                    rw [if_neg (by omega)]
                  show (p : Int) ∣ _ - (row9 (gG9 A) (LsR A sg) (LcN A sg) (fun y => gV9 (y, 0)) (fun y => gV9 (prA9 A (y, 0))) (dgq T.1 mi q) s m x j + rwX (gG9 A) (LsR A sg) (LcN A sg) (fun y => gV9 (y, 0)) (fun y => gV9 (prA9 A (y, 0))) (dgq T.1 mi q) s m x j)
                  rw [e0, Int.sub_self]
                  exact Int.dvd_zero _
                · have e0 : rwX (gG9 A) (LsR A sg) (LcN A sg) (fun y => gV9 (y, 0)) (fun y => gV9 (prA9 A (y, 0))) (dgq T.1 mi q) s m x j = 0 := by
                    unfold rwX
                    exact if_pos ((bt_01 s x).resolve_left h0)
                  show (p : Int) ∣ row9 (gG9 A) (LsR A sg) (LcN A sg) (fun y => gV9 (y, 0)) (fun y => gV9 (prA9 A (y, 0))) (dgq T.1 mi q) s m x j - (row9 (gG9 A) (LsR A sg) (LcN A sg) (fun y => gV9 (y, 0)) (fun y => gV9 (prA9 A (y, 0))) (dgq T.1 mi q) s m x j + rwX (gG9 A) (LsR A sg) (LcN A sg) (fun y => gV9 (y, 0)) (fun y => gV9 (prA9 A (y, 0))) (dgq T.1 mi q) s m x j)
                  rw [e0, Int.add_zero, Int.sub_self]
                  exact Int.dvd_zero _
            have c4 : ∀ (d3 k : Nat) (y : ow_MS), k + d3 = size → fr rdH z y → plI y size → y.1 93 = nI N → px9 y p size N cl vv d9 → (∀ i, i < k → y.2.1 89 i = 0) → Tt (fun K i => q_X13_rankOf K i 4 (nI r) (nI q) (nI p) (nI size) (nI T.1) (nI (rk9 p size (rwl9 MM kk))) (nI s) (nI m) (nI k) n 0 0 y) Q := by
              intro d3
              induction d3 with
              | zero =>
                intro k y hk hf hI h93 hx h0
                refine u_X13_rankOf_4 ?_; unfold qm_X13_rankOf_4
                exact w_leT (by omega) (by omega) (c5 T.1 0 y (by omega) hf hI h93 hx (fun i hi => ⟨0, h0 i (by omega), Nat.zero_le _, Int.dvd_zero _⟩))
              | succ d3 ih4 =>
                intro k y hk hf hI h93 hx h0
                refine u_X13_rankOf_4 ?_; unfold qm_X13_rankOf_4
                rw [show nI k + 1 = nI (k + 1) from nI_1 _]
                refine w_leF (by omega) (by omega) (w_wrI ml89 rfl (by omega) (ih4 (k + 1) _ (by omega) (fr_I2 hf (by unfold rdH; omega)) (plI_89 (fr_I rfl) hI) h93 (px_fr (fr_I (P := fun g => g = 89) rfl) (by omega) hx) (fun i hi => ?_)))
                by_cases hik : i = k
                · rw [hik, po_usI_at]
                · exact rd_ne hik (h0 i (by omega))
            exact c4 size 0 y (by omega) hf hI h93 hx (fun i hi => absurd hi (by omega))
          · rw [cq9_s, if_neg (fun h9 => hqe ((qv_kp hsl hc hmi hL hml).mpr h9)), Nat.add_zero]
      refine u_X13_rankOf_2 ?_; unfold qm_X13_rankOf_2
      rw [shl1 (by omega)]
      refine w_leF (by omega) (by omega) ?_
      by_cases hpo : pc s = r
      · have := c3 hpo (2 ^ LcN A sg s) 0 y (by omega) (by rw [cq9_0, Nat.add_zero]; exact hst)
        rw [cq9_0, Nat.add_zero] at this
        exact this
      · refine u_X13_rankOf_3 ?_; unfold qm_X13_rankOf_3
        rw [bc_pc (by omega)]
        refine w_ifF (fun h9 => hpo ((nI_eq (by omega) (by omega)).mp h9)) (c9 _ _ y ?_ hst)
        rw [smH_s, if_neg hpo, Nat.add_zero]
  have c1 : ∀ (d k : Nat) (y : ow_MS), k + d = size → fr rdH z y → (∀ i, i < k → y.2.1 90 i = -1) → Tt (fun K i => q_X13_rankOf K i 1 (nI r) (nI q) (nI p) (nI size) (nI T.1) (nI k) 0 0 0 n 0 0 y) Q := by
    intro d
    induction d with
    | zero =>
      intro k y hk hf h9
      have hk : k = size := by omega
      subst hk
      refine u_X13_rankOf_1 ?_; unfold qm_X13_rankOf_1
      refine w_leT (by omega) (by omega) (w_wrF (c2 (2 ^ T.1) 0 _ (by omega) ⟨fr_F2 hf (by unfold rdH; omega), ⟨0, po_usF_at, ?_, fun i hi => Or.inl (h9 i hi), fun i hi => absurd hi (by omega)⟩, 0, fun _ => 0, fun _ => 0, fun _ _ => 0, po_usF_at, by omega, ⟨fun i hi => absurd hi (Nat.not_lt_zero _), fun i hi => Or.inl ⟨h9 i hi, fun j _ => Int.dvd_zero _⟩⟩, El_0⟩))
      rw [unk_all (y := usF y 93 0) k h9]
      omega
    | succ d ih =>
      intro k y hk hf h9
      refine u_X13_rankOf_1 ?_; unfold qm_X13_rankOf_1
      rw [nI_1]
      refine w_leF (by omega) (by omega) (w_wrI ml90 rfl (by omega) (ih (k + 1) _ (by omega) (fr_I2 hf (by unfold rdH; omega)) (fun i hi => ?_)))
      by_cases hik : i = k
      · rw [hik, po_usI_at]
      · exact rd_ne hik (h9 i (by omega))
  exact c1 size 0 z (by omega) fr_rf (fun i hi => absurd hi (by omega))
end XCK7
end
section
/-! 99zzzzzzzzzzzzzzzzyzt.xcii -/
/-! chain: the reference exactly -/
noncomputable def rtR (p : Int) (A : rn_L) (sg : Nat → Bool) (c mi r q : Nat) : Int := (sz9 c (LcN A sg) (dgq c mi q) r : Int) - (if r < c then (RKR p A sg c (dgq c mi q) r : Int) else 0) - (if r = 0 then 0 else (RKR p A sg c (dgq c mi q) (r - 1) : Int))
/-- the reference's table -/
def rfN (p : Nat) (A : rn_L) (sg : Nat → Bool) (c : Nat) (z : ow_MS) (ans : Int32) : Prop := c ≤ 8 ∧ ng9 A sg ≤ c ∧ (∀ s, s < 2 ^ c → LcN A sg s ≤ 9) ∧ z.1 88 = nI (ng9 A sg) ∧ (∀ r q, r < 10 → q < 80 → z.2.1 87 (80 * r + q) = iI (if r ≤ c then rtR p A sg c (ng9 A sg) r q else 0)) ∧ ans = iI (sN9 (fun q => sN9 (fun r => rtR p A sg c (ng9 A sg) r q) (c + 1)) 80)
/-- the tables stay -/
def tkR (z z1 : ow_MS) : Prop := z1.1 88 = z.1 88 ∧ z1.2.1 87 = z.2.1 87
theorem tkR_fr {P : Nat → Prop} {z z1 : ow_MS} (hf : fr P z z1) (h1 : ¬ P 87) (h2 : ¬ P 88) : tkR z z1 := ⟨(hf 88 h2).1, (hf 87 h1).2.1⟩
theorem tkR_tr {z z1 z2 : ow_MS} (h : tkR z z1) (h1 : tkR z1 z2) : tkR z z2 := ⟨h1.1.trans h.1, h1.2.trans h.2⟩
/-- what chain wants of a diagram -/
def prC (A : rn_L) (sg : Nat → Bool) : Prop := ∃ T w, isoN A sg (fun x => x) T ∧ vn T.1 T.2.2.1 ∧ pm1 T ∧ gaA A w ∧ bdA A
section XCK8
theorem wr_take {A : rn_L} {sg : Nat → Bool} : ∀ n, n ≤ A.flatten.length → wrN A sg n = (((A.flatten.take n).filter (fun p => decide (p.2 = 0) && true)).length : Int) - 2 * (((A.flatten.take n).filter (fun p => decide (p.2 = 0) && sg p.1)).length : Int) := by
  intro n
  induction n with
  | zero => exact fun _ => rfl
  | succ n ih =>
    intro h
    have i := ih (by omega)
    have e := vAt_of (A := A) (v := n) (by omega)
    rw [List.take_add_one, e]
    show wrN A sg n + (if uns A n = 0 then (if sg (crs A n) then -1 else 1) else 0) = _
    rw [i]
    simp only [Option.toList_some, List.filter_append, List.length_append]
    unfold uns crs
    generalize vAt A n = v
    obtain ⟨x, u⟩ := v
    dsimp only
    by_cases hu : u = 0
    · subst hu
      cases hs : sg x <;> simp [hs] <;> omega
    · simp [hu]
theorem on_true : ∀ c, ons9 (fun _ => true) c = c := by
  intro c
  induction c with
  | zero => rfl
  | succ c ih =>
    show ons9 (fun _ => true) c + (if true = true then 1 else 0) = c + 1
    rw [ih, if_pos rfl]
theorem on_le {s : Nat → Bool} : ∀ c, ons9 s c ≤ c := by
  intro c
  induction c with
  | zero => exact Nat.le_refl 0
  | succ c ih =>
    show ons9 s c + (if s c = true then 1 else 0) ≤ c + 1
    split <;> omega
theorem wr_ng {A : rn_L} {sg : Nat → Bool} {nm : Nat → Nat} {c : Nat} (hb : bdA A) (hO : nmO A nm c) : wrN A sg A.flatten.length = (c : Int) - 2 * ng9 A sg ∧ ng9 A sg ≤ c := by
  have h2 : ∀ p, p ∈ A.flatten → p.2 < 2 := fun p hp => (hb.2.1 p hp).2
  have e1 : ng9 A (fun _ => true) = c := by
    rw [ng_ons hb.1 h2 hO]
    exact on_true c
  have e2 : ng9 A sg ≤ c := by
    rw [ng_ons hb.1 h2 hO]
    exact on_le c
  have := wr_take (A := A) (sg := sg) A.flatten.length (Nat.le_refl _)
  rw [List.take_length] at this
  unfold ng9 at e1 e2 ⊢
  rw [this, e1]
  exact ⟨rfl, e2⟩
variable {X : (Nat → Nat → Int32) → Prop} {z : ow_MS} {St : plT}
section XCK9
theorem re_isPrime {x : Int32} : Te (fun K => qe_X13_isPrime K x z) (fun r => r.2 = z ∧ (r.1 = 0 ∧ (¬ ∃ p, x = nI p ∧ prT p ∧ p ≤ 997) ∨ r.1 = 1 ∧ ∃ p, x = nI p ∧ prT p ∧ p ≤ 997)) := by
  let Q : Int32 × ow_MS → Prop := fun r => r.2 = z ∧ (r.1 = 0 ∧ (¬ ∃ p, x = nI p ∧ prT p ∧ p ≤ 997) ∨ r.1 = 1 ∧ ∃ p, x = nI p ∧ prT p ∧ p ≤ 997)
  have c30 : (¬ ∃ p, x = nI p ∧ prT p ∧ p ≤ 997) → ∀ (x2 : Int32), Tt (fun K i => q_X13_isPrime K i 3 x 0 x2 0 z) Q := by
    intro hno x2
    refine u_X13_isPrime_3 ?_; unfold qm_X13_isPrime_3
    exact w_ifT rfl (w_okZ (Or.inl rfl) (w_some ⟨rfl, Or.inl ⟨rfl, hno⟩⟩))
  have c1 : (¬ ∃ p, x = nI p ∧ prT p ∧ p ≤ 997) → Tt (fun K i => q_X13_isPrime K i 1 x 0 0 0 z) Q := by
    intro hno
    refine u_X13_isPrime_1 ?_; unfold qm_X13_isPrime_1
    refine u_X13_isPrime_2 ?_; unfold qm_X13_isPrime_2
    exact c30 hno _
  refine e_X13_isPrime ?_
  refine u_X13_isPrime_0 ?_; unfold qm_X13_isPrime_0
  refine w_if (fun h8 => c1 ?_) (fun h2 => w_if (fun h8 => c1 ?_) (fun h9 => ?_))
  · rintro ⟨p, rfl, hp, h9⟩
    have := (nI_ltI (b := 2) (by omega) (by omega)).mp h8
    have := hp.1
    omega
  · rintro ⟨p, rfl, hp, h9⟩
    have := (nI_ltI (a := 997) (by omega) (by omega)).mp h8
    omega
  obtain ⟨p, hp31, rfl⟩ := nI_of (x := x) (fun h8 => h2 (by
    rw [Int32.lt_iff_toInt_lt] at h8 ⊢
    exact Int.lt_trans h8 (by decide)))
  have hp2 : 2 ≤ p := by
    rcases Nat.lt_or_ge p 2 with h8 | h8
    · exact absurd (nI_lt (b := 2) h8 (by omega)) h2
    · exact h8
  have hp9 : p ≤ 997 := by
    rcases Nat.lt_or_ge 997 p with h8 | h8
    · exact absurd (nI_lt (a := 997) h8 hp31) h9
    · exact h8
  have key : ∀ (d k : Nat), k + d = 32 → 2 ≤ k → (∀ j, 2 ≤ j → j < k → p % j ≠ 0) → Tt (fun K i => q_X13_isPrime K i 3 (nI p) 1 (nI k) 0 z) Q := by
    intro d
    induction d with
    | zero =>
      intro k hk hk2 hall
      have hk : k = 32 := by omega
      subst hk
      refine u_X13_isPrime_3 ?_; unfold qm_X13_isPrime_3
      rw [pk_mul]
      refine w_ifF (by decide) (w_ltT (by omega) (by omega) (w_okZ (Or.inr rfl) (w_some ⟨rfl, Or.inr ⟨rfl, p, rfl, ⟨hp2, fun j hj hjj => hall j hj ?_⟩, hp9⟩⟩)))
      rcases Nat.lt_or_ge j 32 with h8 | h8
      · exact h8
      · have := Nat.mul_le_mul h8 h8
        omega
    | succ d ih =>
      intro k hk hk2 hall
      have hkk : k * k ≤ 1024 := Nat.mul_le_mul (show k ≤ 32 by omega) (show k ≤ 32 by omega)
      refine u_X13_isPrime_3 ?_; unfold qm_X13_isPrime_3
      rw [pk_mul, pk_rem hp31 (by omega) (by omega)]
      refine w_ifF (by decide) (w_lt (by omega) (by omega) (fun hlt => w_okZ (Or.inr rfl) (w_some ⟨rfl, Or.inr ⟨rfl, p, rfl, ⟨hp2, fun j hj hjj => hall j hj ?_⟩, hp9⟩⟩)) (fun hge => w_nzI (fun e => by have := (nI_eq (a := k) (b := 0) (by omega) (by omega)).mp e; omega) (w_if (fun h0 => ?_) (fun h0 => ?_))))
      · rcases Nat.lt_or_ge j k with h8 | h8
        · exact h8
        · have := Nat.mul_le_mul h8 h8
          omega
      · refine u_X13_isPrime_4 ?_; unfold qm_X13_isPrime_4
        refine c30 ?_ _
        rintro ⟨p', e', hp', h9'⟩
        have e' := nI_inj9 (a := p) (b := p') (by omega) (by omega) e'
        subst e'
        have h0 := (nI_eq (a := p % k) (b := 0) (by have := Nat.mod_lt p (show 0 < k by omega); omega) (by omega)).mp h0
        exact hp'.2 k hk2 (by omega) h0
      · refine u_X13_isPrime_4 ?_; unfold qm_X13_isPrime_4
        rw [nI_1]
        refine ih (k + 1) (by omega) (by omega) (fun j hj hjk => ?_)
        by_cases hjk2 : j = k
        · rw [hjk2]
          exact fun e => h0 (by rw [e]; rfl)
        · exact hall j hj (by omega)
  refine u_X13_isPrime_2 ?_; unfold qm_X13_isPrime_2
  exact key 30 2 (by omega) (by omega) (fun j h1 h2 => absurd h1 (by omega))
end XCK9
theorem xq_chain {d p0 : Int32} (h : gI X z) (hR : relR z St) (hP : ∀ e A sg, e < 40 → St e = some (A, sg) → prC A sg) : Te (fun K => qe_X13_chain K d p0 z) (fun r => (r.2.1 1 = nI 1 ∧ tkR z r.2 ∧ ∀ e, e < 40 → d = nI e → St e = none) ∨ ∃ e A sg, e < 40 ∧ d = nI e ∧ St e = some (A, sg) ∧ (r.2.1 1 = nI 2 ∧ tkR z r.2 ∧ (¬ ∃ p, p0 = nI p ∧ prT p ∧ p ≤ 997) ∨ ∃ p, p0 = nI p ∧ prT p ∧ p ≤ 997 ∧ ∃ c P mm, okF A.flatten c ∧ mk A mm P ∧ (r.2.1 1 = nI 3 ∧ tkR z r.2 ∧ 9 < c + P ∨ r.2.1 1 = 0 ∧ c + P ≤ 9 ∧ rfN p A sg c r.2 r.1))) := by
  let Q : Int32 × ow_MS → Prop := fun r => (r.2.1 1 = nI 1 ∧ tkR z r.2 ∧ ∀ e, e < 40 → d = nI e → St e = none) ∨ ∃ e A sg, e < 40 ∧ d = nI e ∧ St e = some (A, sg) ∧ (r.2.1 1 = nI 2 ∧ tkR z r.2 ∧ (¬ ∃ p, p0 = nI p ∧ prT p ∧ p ≤ 997) ∨ ∃ p, p0 = nI p ∧ prT p ∧ p ≤ 997 ∧ ∃ c P mm, okF A.flatten c ∧ mk A mm P ∧ (r.2.1 1 = nI 3 ∧ tkR z r.2 ∧ 9 < c + P ∨ r.2.1 1 = 0 ∧ c + P ≤ 9 ∧ rfN p A sg c r.2 r.1))
  have h1 := gI_1 (c := 0) h
  have hR1 := relR_1 (c := 0) hR
  refine e_X13_chain ?_
  refine u_X13_chain_0 ?_; unfold qm_X13_chain_0
  refine w_wrF (w_hasX hR1 (fun h0 => w_ifT rfl (w_mono (w_failX h1 fr_1) (fun r hr => Or.inl ⟨hr.2.1, tkR_fr hr.2.2 (by unfold rPs rSc; omega) (by unfold rPs rSc; omega), h0⟩))) (fun e A sg he hx hs hv hne => w_ifF (by decide) (w_cs1 re_isPrime (fun a9 y9 ⟨e9, k9⟩ => ?_))))
  subst hx
  have e9 : y9 = usF z 1 0 := e9
  have k9 : a9 = 0 ∧ (¬ ∃ p, p0 = nI p ∧ prT p ∧ p ≤ 997) ∨ a9 = 1 ∧ ∃ p, p0 = nI p ∧ prT p ∧ p ≤ 997 := k9
  subst e9
  refine w_if (fun h9 => w_mono (w_failX h1 fr_1) (fun r hr => Or.inr ⟨e, A, sg, he, rfl, hs, Or.inl ⟨hr.2.1, tkR_fr hr.2.2 (by unfold rPs rSc; omega) (by unfold rPs rSc; omega), ?_⟩⟩)) (fun h9 => ?_)
  · rcases k9 with k9 | k9
    · exact k9.2
    · have k8 : a9 = 1 := k9.1
      rw [k8] at h9
      exact absurd h9 (by decide)
  obtain ⟨p, rfl, hp, hp9⟩ : ∃ p, p0 = nI p ∧ prT p ∧ p ≤ 997 := by
    rcases k9 with k9 | k9
    · exact absurd k9.1 h9
    · exact k9.2
  obtain ⟨T, w0, hN, hvn, hT, hga, hbd⟩ := hP e A sg he hs
  have hO := nm_id hN hvn
  have hCu := cuA (prp_of hp) (iv_of hp) (isoV_of hN hvn) hT hga hbd hO
  refine w_cs0 (to_open pn1 he hv) (fun z2 ⟨o2, f2⟩ => ?_)
  have g2 : gI X z2 := gI_net pn1 f2 (fun g hg => by omega) h1
  have hl := o2.len
  have hC := o2.2.2.2
  have hd := wkF_ok o2.wk
  obtain ⟨c, hok, hc⟩ := o2.2.2.1
  have hV := okF_len hok
  have hcT : T.1 = c := by
    have := hN.2.1
    omega
  subst hcT
  have t2 : z2.1 1 = 0 := by
    rw [(f2 1 (by omega)).1]
    exact po_usF_at
  refine w_cs0 (tn_split pn1 (by omega) (by omega) hd o2.1) (fun z3 ⟨f3, P, hpt⟩ => ?_)
  obtain ⟨mm, hmk, hmm⟩ := mk_of (by omega) hpt
  obtain ⟨p1, p2, p3, p4⟩ := hpt
  have tk3 : tkR z z3 := tkR_tr (tkR_fr (fr_F (P := fun g => g = 1) rfl) (by omega) (by omega)) (tkR_tr (tkR_fr f2 (by omega) (by omega)) (tkR_fr f3 (by unfold frP; omega) (by unfold frP; omega)))
  have t3 : z3.1 1 = 0 := by rw [(f3 1 (by unfold frP; omega)).1]; exact t2
  have o3 : oNet z3 1000 A sg := oNet_fr f3 (fun g hg => by unfold frP at hg; omega) o2
  have g3 : gI X z3 := gI_net pn1 f3 (fun g hg => by unfold frP at hg; omega) g2
  refine w_rdF o3.1.V (w_nzI (by decide) ?_)
  rw [hV, half_V (by omega)]
  refine w_rdF p1 ?_
  rw [nI_add]
  refine w_le (b := 9) (by omega) (by omega) (fun hcP => ?_) (fun h9 => w_mono (w_failX (z0 := z3) g3 fr_rf) (fun r hr => Or.inr ⟨e, A, sg, he, rfl, hs, Or.inr ⟨p, rfl, hp, hp9, T.1, P, mm, hok, hmk, Or.inl ⟨hr.2.1, tkR_tr tk3 (tkR_fr hr.2.2 (by unfold rPs rSc; omega) (by unfold rPs rSc; omega)), by omega⟩⟩⟩))
  have hP1 : 1 ≤ P := by
    have hA0 : 0 < A.length := by
      cases A with
      | nil => exact absurd rfl hne
      | cons a A => exact Nat.succ_pos _
    rcases p3.1 0 hA0 with h8 | ⟨q, hq, -⟩
    · exact absurd h8 (p4 0 hA0)
    · omega
  have hK : chOK A sg T.1 P := ch_ok hok hC p3 p4 (by omega) hP1 hcP
  refine w_cs1 (tp_writhe2 pn1 o3) (fun a4 y4 e4 => ?_)
  cases e4
  obtain ⟨ew, hmi⟩ := wr_ng (sg := sg) hbd hO
  rw [ew]
  have emi : (nI T.1 - iI ((T.1 : Int) - 2 * ng9 A sg)) / 2 = nI (ng9 A sg) := half_ng ⟨T.1, by omega⟩ ⟨ng9 A sg, by omega⟩ hmi
  rw [emi]
  generalize hmiE : ng9 A sg = mi at hmi
  refine w_nzI (by decide) (w_wrF ?_)
  have o5 : oNet (usF z3 88 (nI mi)) 1000 A sg := oNet_fr (fr_F (P := fun g => g = 88) rfl) (fun g hg => by omega) o3
  refine w_cs0 (re_makeStates pn1 o5 hK) (fun z6 ⟨I6, f6⟩ => ?_)
  have h88 : z6.1 88 = nI mi := by rw [(f6 88 (by unfold stH; omega)).1]; exact po_usF_at
  refine w_cs0 (re_placeAll hK (stX_I I6) h88 hmi) (fun z7 ⟨I7, f7, hz7⟩ => ?_)
  have o7 : oNet z7 1000 A sg := oNet_fr f7 (fun g hg => by unfold plH at hg; omega) (oNet_fr f6 (fun g hg => by unfold stH at hg; omega) o5)
  have hf7 : fr (fun g => g = 47 ∨ 81 ≤ g ∧ g ≤ 93) z3 z7 := fr_tr (fr_F (by omega)) (fr_tr (fr_mono (fun g hg => by unfold stH at hg; omega) f6) (fr_mono (fun g hg => by unfold plH at hg; omega) f7))
  have g7 : gI X z7 := gI_fr hf7 (fun g hg => by unfold per; omega) g3
  have hC7 : rkX z7 1000 A sg T.1 mi := ⟨o7, stX_fr f7 (by unfold plH; omega) (by unfold plH; omega) (by unfold plH; omega) I6, I7, by rw [(f7 88 (by unfold plH; omega)).1]; exact h88⟩
  let F : Nat → Prop := fun g => g = 86 ∨ g = 87 ∨ 89 ≤ g ∧ g ≤ 93
  have cF : ∀ {y : ow_MS}, fr F z7 y → rkX y 1000 A sg T.1 mi := fun hf => rkX_fr pn1 hf (fun g hg => hg) hC7
  have gF : ∀ {y : ow_MS}, fr F z7 y → gI X y := fun hf => gI_fr hf (fun g hg => by have hg : g = 86 ∨ g = 87 ∨ 89 ≤ g ∧ g ≤ 93 := hg; unfold per; omega) g7
  have hc8 : T.1 ≤ 8 := hK.2.1
  have t7 : z7.1 1 = 0 := by
    rw [(hf7 1 (by omega)).1]
    exact t3
  have hn9 := hK.2.2.2.1
  let rt9 : Nat → Nat → Int := fun r q => rtR p A sg T.1 mi r q
  let rk8 : Nat → Nat → Nat := fun r q => RKR p A sg T.1 (dgq T.1 mi q) r
  have c1 : ∀ (d q : Nat) (x4 : Int32) (y : ow_MS), q + d = 80 → fr F z7 y → (∀ q', q' < 80 → y.2.1 86 (80 * T.1 + q') = 0) → (∀ r q', r < 10 → q' < 80 → y.2.1 87 (80 * r + q') = iI (if r ≤ T.1 ∧ q' < q then rt9 r q' else 0)) → x4 = iI (sN9 (fun q' => sN9 (fun r => rt9 r q') (T.1 + 1)) q) → Tt (fun K i => q_X13_chain K i 1 (nI e) (nI p) (nI T.1) x4 (nI q) 0 0 0 y) Q := by
    intro d
    induction d with
    | zero =>
      intro q x4 y hq hf h86 h87 hx4
      have hq : q = 80 := by omega
      subst hq
      refine u_X13_chain_1 ?_; unfold qm_X13_chain_1
      refine w_leT (a := 80) (by omega) (by omega) (w_some (Or.inr ⟨e, A, sg, he, rfl, hs, Or.inr ⟨p, rfl, hp, hp9, T.1, P, mm, hok, hmk, Or.inr ⟨?_, hcP, ?_⟩⟩⟩))
      · show y.1 1 = 0
        rw [(hf 1 (show ¬ (1 = 86 ∨ 1 = 87 ∨ 89 ≤ 1 ∧ 1 ≤ 93) by omega)).1]
        exact t7
      · refine ⟨hc8, by rw [hmiE]; exact hmi, hn9, ?_, fun r q hr hq => ?_, ?_⟩
        · rw [hmiE]
          exact (cF hf).2.2.2
        · rw [hmiE]
          refine (h87 r q hr hq).trans ?_
          by_cases h9 : r ≤ T.1
          · rw [if_pos h9, if_pos ⟨h9, hq⟩]
          · rw [if_neg h9, if_neg (fun h8 => h9 h8.1)]
        · rw [hmiE]
          exact hx4
    | succ d ih =>
      intro q x4 y hq hf h86 h87 hx4
      have c3 : ∀ (d2 r : Nat) (x4 : Int32) (y : ow_MS), r + d2 = T.1 + 1 → fr F z7 y → (∀ q', q' < 80 → y.2.1 86 (80 * T.1 + q') = 0) → (∀ r', r' < T.1 → y.2.1 86 (80 * r' + q) = nI (rk8 r' q)) → (∀ r' q', r' < 10 → q' < 80 → y.2.1 87 (80 * r' + q') = iI (if r' ≤ T.1 ∧ (q' < q ∨ q' = q ∧ r' < r) then rt9 r' q' else 0)) → x4 = iI (sN9 (fun q' => sN9 (fun r => rt9 r q') (T.1 + 1)) q + sN9 (fun r => rt9 r q) r) → Tt (fun K i => q_X13_chain K i 3 (nI e) (nI p) (nI T.1) x4 (nI q) (nI r) 0 0 y) Q := by
        intro d2
        induction d2 with
        | zero =>
          intro r x4 y hr hf h86 h86q h87 hx4
          have hr : r = T.1 + 1 := by omega
          subst hr
          refine u_X13_chain_3 ?_; unfold qm_X13_chain_3
          rw [show nI q + 1 = nI (q + 1) from nI_1 _]
          refine w_ltT (by omega) (by omega) (ih (q + 1) x4 y (by omega) hf h86 (fun r' q' hr' hq' => ?_) hx4)
          rw [h87 r' q' hr' hq']
          by_cases h9 : r' ≤ T.1 ∧ q' < q + 1
          · rw [if_pos h9, if_pos ⟨h9.1, by omega⟩]
          · rw [if_neg h9, if_neg (fun h8 => h9 ⟨h8.1, by omega⟩)]
        | succ d2 ih3 =>
          intro r x4 y hr hf h86 h86q h87 hx4
          have e1 : (80 : Int32) * nI r + nI q = nI (80 * r + q) := by rw [show (80 : Int32) * nI r = nI (80 * r) from pk_mul 80 r, nI_add]
          have hrT : r ≤ T.1 := by omega
          have c4 : ∀ (t0 t1 : Int32), t1 - t0 = iI (rt9 r q) → Tt (fun K i => q_X13_chain K i 4 (nI e) (nI p) (nI T.1) x4 (nI q) (nI r) t0 t1 y) Q := by
            intro t0 t1 ht
            refine u_X13_chain_4 ?_; unfold qm_X13_chain_4
            rw [e1, show nI r + 1 = nI (r + 1) from nI_1 _, ht]
            refine w_wrI ml87 rfl (by omega) (ih3 (r + 1) _ _ (by omega) (fr_I2 hf (Or.inr (Or.inl rfl))) (fun q' hq' => ?_) (fun r' hr' => ?_) (fun r' q' hr' hq' => ?_) ?_)
            · exact (congrFun (po_usI_ot (by omega)) _).trans (h86 q' hq')
            · exact (congrFun (po_usI_ot (by omega)) _).trans (h86q r' hr')
            · by_cases h9 : r' = r ∧ q' = q
              · obtain ⟨rfl, rfl⟩ := h9
                rw [if_pos ⟨hrT, Or.inr ⟨rfl, by omega⟩⟩]
                exact po_usI_at
              · refine (po_usI_ne (fun h8 => h9 (by omega))).trans ((h87 r' q' hr' hq').trans ?_)
                by_cases h7 : r' ≤ T.1 ∧ (q' < q ∨ q' = q ∧ r' < r)
                · rw [if_pos h7, if_pos ⟨h7.1, by omega⟩]
                · rw [if_neg h7, if_neg (fun h8 => h7 ⟨h8.1, by omega⟩)]
            · rw [hx4, iI_add]
              show _ = iI (_ + (sN9 (fun r => rt9 r q) r + rt9 r q))
              rw [Int.add_assoc]
          have e85 : y.2.1 85 (80 * r + q) = nI (sz9 T.1 (LcN A sg) (dgq T.1 mi q) r) := (cF hf).2.2.1.1 r q (by omega) (by omega)
          have e86 : y.2.1 86 (80 * r + q) = iI (if r < T.1 then (rk8 r q : Int) else 0) := by
            by_cases h9 : r < T.1
            · rw [if_pos h9, h86q r h9, nI_iI]
            · have h9 : r = T.1 := by omega
              subst h9
              rw [if_neg (by omega)]
              exact h86 q (by omega)
          refine u_X13_chain_3 ?_; unfold qm_X13_chain_3
          rw [e1]
          refine w_ltF (by omega) (by omega) (w_rdI ml85 rfl (by omega) e85 (w_rdI ml86 rfl (by omega) e86 (w_eqN (b := 0) (by omega) (by omega) (fun hr0 => c4 _ _ ?_) (fun hr0 => ?_))))
          · show _ = iI (_ - _ - if r = 0 then 0 else _)
            rw [if_pos hr0, Int.sub_zero, nI_iI, iI_sub]
            exact Int32.sub_zero _
          · refine w_rdI (i := 80 * (r - 1) + q) ml86 (by rw [show nI r - 1 = nI (r - 1) from pk_sub (b := 1) (by omega), show (80 : Int32) * nI (r - 1) = nI (80 * (r - 1)) from pk_mul 80 _, nI_add]) (by omega) (h86q (r - 1) (by omega)) (c4 _ _ ?_)
            show _ = iI (_ - _ - if r = 0 then 0 else _)
            rw [if_neg hr0, nI_iI, nI_iI, iI_sub, iI_sub]
      have c2 : ∀ (d2 r : Nat) (y : ow_MS), r + d2 = T.1 → fr F z7 y → (∀ q', q' < 80 → y.2.1 86 (80 * T.1 + q') = 0) → (∀ r', r' < r → y.2.1 86 (80 * r' + q) = nI (rk8 r' q)) → (∀ r q', r < 10 → q' < 80 → y.2.1 87 (80 * r + q') = iI (if r ≤ T.1 ∧ q' < q then rt9 r q' else 0)) → Tt (fun K i => q_X13_chain K i 2 (nI e) (nI p) (nI T.1) x4 (nI q) (nI r) 0 0 y) Q := by
        intro d2
        induction d2 with
        | zero =>
          intro r y hr hf h86 h86q h87
          have hr : r = T.1 := by omega
          subst hr
          refine u_X13_chain_2 ?_; unfold qm_X13_chain_2
          refine w_leT (by omega) (by omega) (c3 (T.1 + 1) 0 x4 y (by omega) hf h86 h86q (fun r' q' hr' hq' => ?_) ?_)
          · rw [h87 r' q' hr' hq']
            by_cases h7 : r' ≤ T.1 ∧ q' < q
            · rw [if_pos h7, if_pos ⟨h7.1, by omega⟩]
            · rw [if_neg h7, if_neg (fun h8 => h7 ⟨h8.1, by omega⟩)]
          · rw [hx4]
            exact congrArg iI (Int.add_zero _).symm
        | succ d2 ih2 =>
          intro r y hr hf h86 h86q h87
          refine u_X13_chain_2 ?_; unfold qm_X13_chain_2
          refine w_leF (by omega) (by omega) (w_cs1 (re_rankOf pn1 hK (cF hf) hmi hN hT hvn hbd hCu (by omega) (by omega) hp hp9) (fun a8 y8 ⟨f8, e8⟩ => ?_))
          have f8 : fr rdH y y8 := f8
          have e8 : a8 = nI (rk8 r q) := e8
          have k86 : y8.2.1 86 = y.2.1 86 := (f8 86 (by unfold rdH; omega)).2.1
          have k87 : y8.2.1 87 = y.2.1 87 := (f8 87 (by unfold rdH; omega)).2.1
          rw [show (80 : Int32) * nI r = nI (80 * r) from pk_mul 80 r, nI_add, show nI r + 1 = nI (r + 1) from nI_1 _]
          refine w_wrI ml86 rfl (by omega) (ih2 (r + 1) _ (by omega) (fr_I2 (fr_tr hf (fr_mono (fun g hg => by unfold rdH at hg; exact Or.inr (Or.inr hg)) f8)) (Or.inl rfl)) (fun q' hq' => ?_) (fun r' hr' => ?_) (fun r' q' hr' hq' => ?_))
          · refine (po_usI_ne (by omega)).trans ?_
            rw [k86]
            exact h86 q' hq'
          · by_cases h9 : r' = r
            · subst h9
              rw [e8]
              exact po_usI_at
            · refine (po_usI_ne (by omega)).trans ?_
              rw [k86]
              exact h86q r' (by omega)
          · refine (congrFun (po_usI_ot (by omega)) _).trans ?_
            rw [k87]
            exact h87 r' q' hr' hq'
      refine u_X13_chain_1 ?_; unfold qm_X13_chain_1
      exact w_leF (a := 80) (by omega) (by omega) (c2 T.1 0 y (by omega) hf h86 (fun r' hr' => absurd hr' (by omega)) h87)
  refine c1 80 0 0 z7 (by omega) fr_rf (fun q' hq' => (hz7 _ (by omega)).1) (fun r q' hr hq' => ?_) rfl
  rw [if_neg (fun h8 => by omega)]
  exact (hz7 _ (by omega)).2
end XCK8
end
