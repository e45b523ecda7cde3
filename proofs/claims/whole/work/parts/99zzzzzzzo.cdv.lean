/-! the class: rows that grow -/
def gQ {α : Type} (vl : Nat → Nat) (Q : α × (Nat → Nat) × ow_MS → Prop) : α × (Nat → Nat) × ow_MS → Prop := fun r => dPhi vl ≤ dPhi r.2.1 ∧ Q r
section DV
variable {α O : Type} {vl v : Nat → Nat} {z : ow_MS}
theorem w_chV {E : Nat → Nat → Option (α × (Nat → Nat) × ow_MS)} {Q : α × (Nat → Nat) × ow_MS → Prop} (h : dPhi vl ≤ dPhi v) (H : Tt E (gQ v Q)) : Tt (fun K k => chV v (E K k)) (gQ vl Q) := by
  obtain ⟨r, ⟨b, hb⟩, h1, h2⟩ := H
  refine ⟨r, ⟨b, fun K k hK hk => ?_⟩, Nat.le_trans h h1, h2⟩
  show chV v (E K k) = some r
  rw [hb K k hK hk]
  show (if dPhi v ≤ dPhi r.2.1 then some r else none) = some r
  rw [if_pos h1]
theorem w_dc1 {f : Nat → Option (α × (Nat → Nat) × ow_MS)} {R : α × (Nat → Nat) × ow_MS → Prop} {Q : O → Prop} {E : α → (Nat → Nat) → ow_MS → Nat → Nat → Option O} (hc : Te f R) (H : ∀ a w z1, R (a, w, z1) → Tt (E a w z1) Q) : Tt (fun K k => dc1 (f K) (fun a w z => E a w z K k)) Q := by
  obtain ⟨⟨a, w, z1⟩, ⟨b, hb⟩, h1⟩ := hc
  obtain ⟨r, ⟨b2, hb2⟩, h2⟩ := H a w z1 h1
  refine ⟨r, ⟨max b b2, fun K k hK hk => ?_⟩, h2⟩
  show dc1 (f K) _ = some r
  rw [hb K (by omega)]
  exact hb2 K k (by omega) (by omega)
theorem nI_nat {n : Nat} (h : n < 2 ^ 31) : (nI n).toNatClampNeg = n := by
  have := nI_toInt h
  show (nI n).toInt.toNat = n
  rw [this]
  omega
theorem w_nwR {E : (Nat → Nat) → ow_MS → Nat → Nat → Option O} {Q : O → Prop} {h n : Nat} (h1 : n ≤ 100000000) (h2 : 2 * vl h ≤ n) (h3 : vl h + 640 ≤ n) (H : Tt (E (usV vl h n) (usR z h (fun _ => 0))) Q) : Tt (fun K k => nwR vl z h (nI n) (fun w z1 => E w z1 K k)) Q := by
  have e := nI_nat (n := n) (by omega)
  have h0 : ¬ nI n < 0 := nI_nlt (b := 0) (Nat.zero_le _) (by omega)
  unfold nwR
  rw [e]
  refine w_ifF (fun h9 => ?_) H
  rcases h9 with h9 | h9
  · exact h0 h9
  · omega
theorem w_cpR {E : (Nat → Nat) → ow_MS → Nat → Nat → Option O} {Q : O → Prop} {h n : Nat} (h1 : n ≤ 100000000) (h2 : 2 * vl h ≤ n) (h3 : vl h + 640 ≤ n) (H : Tt (E (usV vl h n) (usR z h (va_cpy (z.2.1 h) (fun _ => 0) 0 0 (vl h)))) Q) : Tt (fun K k => cpR vl z h (nI n) (fun w z1 => E w z1 K k)) Q := by
  have e := nI_nat (n := n) (by omega)
  have h0 : ¬ nI n < 0 := nI_nlt (b := 0) (Nat.zero_le _) (by omega)
  unfold cpR
  rw [e]
  refine w_ifF (fun h9 => ?_) H
  rcases h9 with h9 | h9
  · exact h0 h9
  · omega
theorem dPhi_u2 {h n : Nat} (hh : h ∈ dynL) (hn : v h ≤ n) : dPhi v ≤ dPhi (usV v h n) := by
  unfold dynL at hh
  simp only [List.mem_cons, List.not_mem_nil, or_false] at hh
  unfold dPhi usV
  rcases hh with rfl | rfl | rfl | rfl | rfl | rfl <;> simp <;> omega
/-- the lengths of the rows that grow -/
def vI (v : Nat → Nat) (W C : Nat) : Prop := v 43011 = W ∧ v 43012 = W ∧ v 43013 = W ∧ v 43014 = W ∧ v 43015 = C ∧ v 43016 = C ∧ 640 ≤ W ∧ W ≤ 2280 ∧ 20000 ≤ C ∧ C ≤ 1303020
theorem vI_phi {W C : Nat} (h : vI v W C) : dPhi v = 4 * W + 2 * C := by
  obtain ⟨h1, h2, h3, h4, h5, h6, -⟩ := h
  unfold dPhi
  omega
end DV
section DV2
variable {vl : Nat → Nat} {y : ow_MS} {W C : Nat}
theorem e_X1_makeRoom {r0 : Nat} {x1 : Int32} {vl : Nat → Nat} {z : ow_MS} {Q : (Unit × (Nat → Nat) × ow_MS) → Prop} (H : Tt (fun K k => d_X1_makeRoom K k 0 x1 r0 vl z) Q) : Te (fun K => de_X1_makeRoom K r0 x1 vl z) Q := w_te H
theorem u_X1_makeRoom_0 {x1 : Int32} {r0 : Nat} {vl : Nat → Nat} {z : ow_MS} {Q : (Unit × (Nat → Nat) × ow_MS) → Prop} (H : Tt (fun K k => dm_X1_makeRoom_0 K (d_X1_makeRoom K k) x1 r0 vl z) (gQ vl Q)) : Tt (fun K k => d_X1_makeRoom K k 0 x1 r0 vl z) (gQ vl Q) := w_un (fun _ _ => rfl) (w_chV (Nat.le_refl _) H)
theorem tc_makeRoom {n : Nat} (hv : vI vl W C) (hn : n ≤ 1140) : Te (fun K => de_X1_makeRoom K 43000 (nI n) vl y) (gQ vl (fun r => fr (fun g => g = 43011 ∨ g = 43012 ∨ g = 43013 ∨ g = 43014) y r.2.2 ∧ ∃ W', vI r.2.1 W' C ∧ W ≤ W' ∧ n ≤ W')) := by
  obtain ⟨h1, h2, h3, h4, h5, h6, h7, h8, h9, h10⟩ := hv
  refine e_X1_makeRoom ?_
  refine u_X1_makeRoom_0 ?_; unfold dm_X1_makeRoom_0
  rw [show uw_len (cX vl) y (43000 + 11) = W from ch_43011.trans h1]
  refine w_le (a := n) (b := W) (by omega) (by omega) (fun hle => w_some ⟨Nat.le_refl _, fr_rf, W, ⟨h1, h2, h3, h4, h5, h6, h7, h8, h9, h10⟩, Nat.le_refl _, hle⟩) (fun hlt => ?_)
  have p1 : ∀ v : Nat → Nat, ∀ h, h ∈ dynL → v h = W → dPhi v ≤ dPhi (usV v h (2 * n)) := fun v h hh e => dPhi_u2 hh (by omega)
  rw [rn_mul2]
  have q1 := p1 vl 43011 (by decide) h1
  have q2 := p1 (usV vl 43011 (2 * n)) 43012 (by decide) h2
  have q3 := p1 (usV (usV vl 43011 (2 * n)) 43012 (2 * n)) 43013 (by decide) h3
  have q4 := p1 (usV (usV (usV vl 43011 (2 * n)) 43012 (2 * n)) 43013 (2 * n)) 43014 (by decide) h4
  refine w_nwR (h := 43011) (by omega) (by omega) (by omega) (w_chV q1 ?_)
  refine w_nwR (h := 43012) (by omega) (by show 2 * vl 43012 ≤ _; omega) (by show vl 43012 + 640 ≤ _; omega) (w_chV q2 ?_)
  refine w_nwR (h := 43013) (by omega) (by show 2 * vl 43013 ≤ _; omega) (by show vl 43013 + 640 ≤ _; omega) (w_chV q3 ?_)
  refine w_nwR (h := 43014) (by omega) (by show 2 * vl 43014 ≤ _; omega) (by show vl 43014 + 640 ≤ _; omega) (w_chV q4 ?_)
  refine w_some ⟨Nat.le_refl _, fr_R2 (fr_R2 (fr_R2 (fr_R2 fr_rf (Or.inl rfl)) (Or.inr (Or.inl rfl))) (Or.inr (Or.inr (Or.inl rfl)))) (Or.inr (Or.inr (Or.inr rfl))), 2 * n, ⟨rfl, rfl, rfl, rfl, h5, h6, by omega, by omega, h9, h10⟩, by omega, by omega⟩
theorem u_X1_reciprocal_1 {vl : Nat → Nat} {x1 : Int32} {x2 : Int32} {x3 : Int32} {x4 : Int32} {r0 : Nat} {t0 : Int32} {z : ow_MS} {Q : (Int32 × ow_MS) → Prop} (H : Tt (fun K k => cm_X1_reciprocal_1 vl K (c_X1_reciprocal vl K k) x1 x2 x3 x4 r0 t0 z) Q) : Tt (fun K k => c_X1_reciprocal vl K k 1 x1 x2 x3 x4 r0 t0 z) Q := w_un (fun _ _ => rfl) H
theorem u_X1_reciprocal_2 {vl : Nat → Nat} {x1 : Int32} {x2 : Int32} {x3 : Int32} {x4 : Int32} {r0 : Nat} {t0 : Int32} {z : ow_MS} {Q : (Int32 × ow_MS) → Prop} (H : Tt (fun K k => cm_X1_reciprocal_2 vl K (c_X1_reciprocal vl K k) x1 x2 x3 x4 r0 t0 z) Q) : Tt (fun K k => c_X1_reciprocal vl K k 2 x1 x2 x3 x4 r0 t0 z) Q := w_un (fun _ _ => rfl) H
theorem e_X1_reciprocal {vl : Nat → Nat} {r0 : Nat} {x1 : Int32} {z : ow_MS} {Q : (Int32 × ow_MS) → Prop} (H : Tt (fun K k => c_X1_reciprocal vl K k 0 x1 0 0 0 r0 0 z) Q) : Te (fun K => ce_X1_reciprocal vl K r0 x1 z) Q := w_te H
theorem u_X1_reciprocal_0 {vl : Nat → Nat} {x1 : Int32} {x2 : Int32} {x3 : Int32} {x4 : Int32} {r0 : Nat} {t0 : Int32} {z : ow_MS} {Q : (Int32 × ow_MS) → Prop} (H : Tt (fun K k => cm_X1_reciprocal_0 vl K (c_X1_reciprocal vl K k) x1 x2 x3 x4 r0 t0 z) Q) : Tt (fun K k => c_X1_reciprocal vl K k 0 x1 x2 x3 x4 r0 t0 z) Q := w_un (fun _ _ => rfl) H
theorem tc_reciprocal {p : Nat} {x : Int32} (h10 : y.1 43010 = nI p) (hp1 : 2 ≤ p) (hp2 : p ≤ 997) : Te (fun K => ce_X1_reciprocal vl K 43000 x y) (fun r => r.2 = y) := by
  have hnz : nI p ≠ 0 := fun h9 => by
    have := (nI_eq (a := p) (b := 0) (by omega) (by omega)).mp h9
    omega
  have hsh : ∀ l : Fin 1024, nI l.val >>> ((1 : Int32) &&& 31) = nI (l.val / 2) := by decide +kernel
  have c1 : ∀ (d l : Nat) (x2 x3 : Int32), l ≤ d → l < 1024 → Tt (fun K k => c_X1_reciprocal vl K k 1 x x2 x3 (nI l) 43000 0 y) (fun r => r.2 = y) := by
    intro d
    induction d with
    | zero =>
      intro l x2 x3 hl _
      refine u_X1_reciprocal_1 ?_; unfold cm_X1_reciprocal_1
      exact w_leT (b := 0) (by omega) hl (w_some rfl)
    | succ d ih =>
      intro l x2 x3 hl h1
      refine u_X1_reciprocal_1 ?_; unfold cm_X1_reciprocal_1
      refine w_le (b := 0) (by omega) (by omega) (fun _ => w_some rfl) (fun hlt => ?_)
      have c2 : ∀ t0 : Int32, Tt (fun K k => c_X1_reciprocal vl K k 2 x x2 x3 (nI l) 43000 t0 y) (fun r => r.2 = y) := by
        intro t0
        refine u_X1_reciprocal_2 ?_; unfold cm_X1_reciprocal_2
        rw [hsh ⟨l, h1⟩]
        exact w_rdF h10 (w_nzI hnz (ih (l / 2) _ _ (by omega) (by omega)))
      exact w_if (fun _ => w_rdF h10 (w_nzI hnz (c2 _))) (fun _ => c2 _)
  refine e_X1_reciprocal ?_
  refine u_X1_reciprocal_0 ?_; unfold cm_X1_reciprocal_0
  refine w_rdF h10 ?_
  rw [show nI p - 2 = nI (p - 2) from pk_sub (b := 2) hp1]
  exact c1 _ _ _ _ (Nat.le_refl _) (by omega)
theorem u_X1_addCircle_2 {vl : Nat → Nat} {x1 : Int32} {x2 : Int32} {x3 : Int32} {x4 : Int32} {x5 : Int32} {r0 : Nat} {t0 : Int32} {z : ow_MS} {Q : ow_MS → Prop} (H : Tt (fun K k => cm_X1_addCircle_2 vl K (c_X1_addCircle vl K k) x1 x2 x3 x4 x5 r0 t0 z) Q) : Tt (fun K k => c_X1_addCircle vl K k 2 x1 x2 x3 x4 x5 r0 t0 z) Q := w_un (fun _ _ => rfl) H
theorem u_X1_addCircle_3 {vl : Nat → Nat} {x1 : Int32} {x2 : Int32} {x3 : Int32} {x4 : Int32} {x5 : Int32} {r0 : Nat} {t0 : Int32} {z : ow_MS} {Q : ow_MS → Prop} (H : Tt (fun K k => cm_X1_addCircle_3 vl K (c_X1_addCircle vl K k) x1 x2 x3 x4 x5 r0 t0 z) Q) : Tt (fun K k => c_X1_addCircle vl K k 3 x1 x2 x3 x4 x5 r0 t0 z) Q := w_un (fun _ _ => rfl) H
theorem u_X1_addCircle_1 {vl : Nat → Nat} {x1 : Int32} {x2 : Int32} {x3 : Int32} {x4 : Int32} {x5 : Int32} {r0 : Nat} {t0 : Int32} {z : ow_MS} {Q : ow_MS → Prop} (H : Tt (fun K k => cm_X1_addCircle_1 vl K (c_X1_addCircle vl K k) x1 x2 x3 x4 x5 r0 t0 z) Q) : Tt (fun K k => c_X1_addCircle vl K k 1 x1 x2 x3 x4 x5 r0 t0 z) Q := w_un (fun _ _ => rfl) H
theorem e_X1_addCircle {vl : Nat → Nat} {r0 : Nat} {z : ow_MS} {Q : ow_MS → Prop} (H : Tt (fun K k => c_X1_addCircle vl K k 0 0 0 0 0 0 r0 0 z) Q) : Te (fun K => ce_X1_addCircle vl K r0 z) Q := w_te H
theorem u_X1_addCircle_0 {vl : Nat → Nat} {x1 : Int32} {x2 : Int32} {x3 : Int32} {x4 : Int32} {x5 : Int32} {r0 : Nat} {t0 : Int32} {z : ow_MS} {Q : ow_MS → Prop} (H : Tt (fun K k => cm_X1_addCircle_0 vl K (c_X1_addCircle vl K k) x1 x2 x3 x4 x5 r0 t0 z) Q) : Tt (fun K k => c_X1_addCircle vl K k 0 x1 x2 x3 x4 x5 r0 t0 z) Q := w_un (fun _ _ => rfl) H
theorem tc_addCircle : Te (fun K => ce_X1_addCircle vl K 43000 y) (fun y1 => fr (fun g => g = 43018) y y1) := by
  let Q : ow_MS → Prop := fun y1 => fr (fun g => g = 43018) y y1
  have c2 : ∀ (o : Nat), o ≤ 8 → (∀ z, Q z → Tt (fun K k => c_X1_addCircle vl K k 1 (nI (o + 1)) 0 0 0 0 43000 0 z) Q) → ∀ (d q : Nat) (x3 : Int32) (z : ow_MS), q + d = 56 → Q z → Tt (fun K k => c_X1_addCircle vl K k 2 (nI o) (nI (56 * o)) x3 (nI q) 0 43000 0 z) Q := by
    intro o ho hnext d
    induction d with
    | zero =>
      intro q x3 z hq hz
      refine u_X1_addCircle_2 ?_; unfold cm_X1_addCircle_2
      refine w_leT (a := 56) (b := q) (by omega) (by omega) ?_
      rw [nI_1]
      exact hnext z hz
    | succ d ih =>
      intro q x3 z hq hz
      have c3 : ∀ x5 t0 : Int32, Tt (fun K k => c_X1_addCircle vl K k 3 (nI o) (nI (56 * o)) x3 (nI q) x5 43000 t0 z) Q := by
        intro x5 t0
        refine u_X1_addCircle_3 ?_; unfold cm_X1_addCircle_3
        rw [nI_add, nI_1]
        exact w_ctI ch_43018 rfl (by omega) (ih (q + 1) _ _ (by omega) (fr_I2 hz rfl))
      refine u_X1_addCircle_2 ?_; unfold cm_X1_addCircle_2
      rw [nI_add, nI_1 q]
      exact w_leF (a := 56) (b := q) (by omega) (by omega) (w_crI ch_43018 rfl (by omega) rfl (w_le (a := 56) (b := q + 1) (by omega) (by omega) (fun _ => c3 _ _) (fun h9 => w_crI ch_43018 (nI_1 _) (by omega) rfl (c3 _ _))))
  have c1 : ∀ (d o : Nat) (z : ow_MS), o + d = 9 → Q z → Tt (fun K k => c_X1_addCircle vl K k 1 (nI o) 0 0 0 0 43000 0 z) Q := by
    intro d
    induction d with
    | zero =>
      intro o z ho hz
      refine u_X1_addCircle_1 ?_; unfold cm_X1_addCircle_1
      exact w_ltT (a := 8) (b := o) (by omega) (by omega) (w_some hz)
    | succ d ih =>
      intro o z ho hz
      refine u_X1_addCircle_1 ?_; unfold cm_X1_addCircle_1
      refine w_ltF (a := 8) (b := o) (by omega) (by omega) ?_
      rw [show nI o * 56 = nI (56 * o) from (Int32.mul_comm _ _).trans (pk_mul 56 o)]
      exact c2 o (by omega) (fun z1 h1 => ih (o + 1) z1 (by omega) h1) 56 0 _ z (by omega) hz
  refine e_X1_addCircle ?_
  refine u_X1_addCircle_0 ?_; unfold cm_X1_addCircle_0
  exact c1 9 0 y (by omega) fr_rf
theorem u_X11_isPrime_1 {vl : Nat → Nat} {x0 : Int32} {x1 : Int32} {z : ow_MS} {Q : (Int32 × ow_MS) → Prop} (H : Tt (fun K k => cm_X11_isPrime_1 vl K (c_X11_isPrime vl K k) x0 x1 z) Q) : Tt (fun K k => c_X11_isPrime vl K k 1 x0 x1 z) Q := w_un (fun _ _ => rfl) H
theorem e_X11_isPrime {vl : Nat → Nat} {x0 : Int32} {z : ow_MS} {Q : (Int32 × ow_MS) → Prop} (H : Tt (fun K k => c_X11_isPrime vl K k 0 x0 0 z) Q) : Te (fun K => ce_X11_isPrime vl K x0 z) Q := w_te H
theorem u_X11_isPrime_0 {vl : Nat → Nat} {x0 : Int32} {x1 : Int32} {z : ow_MS} {Q : (Int32 × ow_MS) → Prop} (H : Tt (fun K k => cm_X11_isPrime_0 vl K (c_X11_isPrime vl K k) x0 x1 z) Q) : Tt (fun K k => c_X11_isPrime vl K k 0 x0 x1 z) Q := w_un (fun _ _ => rfl) H
theorem tc_isPrime {p : Nat} (hp2 : 2 ≤ p) (hp9 : p ≤ 997) : Te (fun K => ce_X11_isPrime vl K (nI p) y) (fun r => r.2 = y ∧ (r.1 = 1 ∧ prT p ∨ r.1 = 0 ∧ ¬ prT p)) := by
  let Q : Int32 × ow_MS → Prop := fun r => r.2 = y ∧ (r.1 = 1 ∧ prT p ∨ r.1 = 0 ∧ ¬ prT p)
  have key : ∀ (d k : Nat), k + d = 32 → 2 ≤ k → (∀ j, 2 ≤ j → j < k → p % j ≠ 0) → Tt (fun K i => c_X11_isPrime vl K i 1 (nI p) (nI k) y) Q := by
    intro d
    induction d with
    | zero =>
      intro k hk hk2 hall
      have hk : k = 32 := by omega
      subst hk
      refine u_X11_isPrime_1 ?_; unfold cm_X11_isPrime_1
      rw [pk_mul]
      refine w_ltT (by omega) (by omega) (w_okZ (Or.inr rfl) (w_some ⟨rfl, Or.inl ⟨rfl, hp2, fun j hj hjj => hall j hj ?_⟩⟩))
      rcases Nat.lt_or_ge j 32 with h8 | h8
      · exact h8
      · have := Nat.mul_le_mul h8 h8
        omega
    | succ d ih =>
      intro k hk hk2 hall
      have hkk : k * k ≤ 1024 := Nat.mul_le_mul (show k ≤ 32 by omega) (show k ≤ 32 by omega)
      refine u_X11_isPrime_1 ?_; unfold cm_X11_isPrime_1
      rw [pk_mul, pk_rem (by omega) (by omega) (by omega)]
      refine w_lt (by omega) (by omega) (fun hlt => w_okZ (Or.inr rfl) (w_some ⟨rfl, Or.inl ⟨rfl, hp2, fun j hj hjj => hall j hj ?_⟩⟩)) (fun hge => w_nzI (fun e => by have := (nI_eq (a := k) (b := 0) (by omega) (by omega)).mp e; omega) ?_)
      · rcases Nat.lt_or_ge j k with h8 | h8
        · exact h8
        · have := Nat.mul_le_mul h8 h8
          omega
      · have hm : p % k < k := Nat.mod_lt _ (by omega)
        refine w_eqN (a := p % k) (b := 0) (by omega) (by omega) (fun h0 => w_okZ (Or.inl rfl) (w_some ⟨rfl, Or.inr ⟨rfl, fun h9 => h9.2 k hk2 hge h0⟩⟩)) (fun h0 => ?_)
        rw [nI_1]
        refine ih (k + 1) (by omega) (by omega) (fun j hj hjk => ?_)
        rcases Nat.lt_or_ge j k with h8 | h8
        · exact hall j hj h8
        · rw [show j = k by omega]
          exact h0
  refine e_X11_isPrime ?_
  refine u_X11_isPrime_0 ?_; unfold cm_X11_isPrime_0
  exact key 30 2 rfl (by omega) (fun j h1 h2 => by omega)
end DV2
