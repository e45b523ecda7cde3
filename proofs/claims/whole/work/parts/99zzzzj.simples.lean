/-! makeSimples: the reference's constructor -/
def szN (n c : Nat) (y : ow_MS) : Prop := ∀ k, k < c → y.2.1 100 (120 * n + k) = nI (szG n k) ∧ ∀ i, i < szG n k → y.2.1 99 (10 * (120 * n + k) + i) = nI (leG n k i)
def mN (n k j : Nat) (y : ow_MS) : Prop := ∀ l i, (l < k ∨ l = k ∧ i < j) → l < gNN n → i + 1 < n → y.2.1 101 (4 * (120 * n + l) + i) = (if moG n l i = 0 then -1 else nI (moG n l i - 1))
def pN (n k j : Nat) (y : ow_MS) : Prop := ∀ l i, (l < k ∨ l = k ∧ i < j) → l < gNN n → i + 1 < n → y.2.1 104 (4 * (120 * n + l) + i) = nI (psG n l i) ∧ y.2.1 105 (4 * (120 * n + l) + i) = nI (lvG n l i)
def dN (n : Nat) (y : ow_MS) : Prop := y.2.1 97 n = nI (gNN n) ∧ ∀ k, k < gNN n → y.2.1 100 (120 * n + k) = nI (szG n k) ∧ y.2.1 102 (120 * n + k) = nI (ahG n k) ∧ y.2.1 103 (120 * n + k) = nI (ovG n k) ∧ (∀ i, i < szG n k → y.2.1 99 (10 * (120 * n + k) + i) = nI (leG n k i)) ∧ ∀ j, j + 1 < n → y.2.1 101 (4 * (120 * n + k) + j) = (if moG n k j = 0 then -1 else nI (moG n k j - 1)) ∧ y.2.1 104 (4 * (120 * n + k) + j) = nI (psG n k j) ∧ y.2.1 105 (4 * (120 * n + k) + j) = nI (lvG n k j)
theorem szN_fr {P : Nat → Prop} {n c : Nat} {y y1 : ow_MS} (hf : fr P y y1) (h1 : ¬ P 99) (h2 : ¬ P 100) (h : szN n c y) : szN n c y1 := by
  intro k hk
  obtain ⟨a, b⟩ := h k hk
  rw [(hf 99 h1).2.1, (hf 100 h2).2.1]
  exact ⟨a, b⟩
theorem mN_fr {P : Nat → Prop} {n k j : Nat} {y y1 : ow_MS} (hf : fr P y y1) (h1 : ¬ P 101) (h : mN n k j y) : mN n k j y1 := by
  intro l i h3 h4 h5
  rw [(hf 101 h1).2.1]
  exact h l i h3 h4 h5
theorem tT_fr {P : Nat → Prop} {n k : Nat} {y y1 : ow_MS} (hf : fr P y y1) (h1 : ¬ P 102) (h2 : ¬ P 103) (h : tT n k y) : tT n k y1 := by
  intro l hl
  rw [(hf 102 h1).2.1, (hf 103 h2).2.1]
  exact h l hl
def pA (g : Nat) : Prop := 97 ≤ g ∧ g ≤ 107
theorem dN_fB {P : Nat → Prop} {n m : Nat} {y y1 : ow_MS} (h2 : 2 ≤ m) (h5 : m ≤ 5) (hm : m ≠ n) (hf : fB P n y y1) (h : dN m y) : dN m y1 := by
  have hN := nn_pos (n := m)
  refine ⟨by rw [hf.2 97 m (by unfold inB; omega)]; exact h.1, fun k hk => ?_⟩
  obtain ⟨a, b, c, d, e⟩ := h.2 k hk
  have hs := (f_one h2 h5 hk).1
  refine ⟨by rw [hf.2 100 _ (by unfold inB; omega)]; exact a, by rw [hf.2 102 _ (by unfold inB; omega)]; exact b, by rw [hf.2 103 _ (by unfold inB; omega)]; exact c, fun i hi => by rw [hf.2 99 _ (by unfold inB; omega)]; exact d i hi, fun j hj => ?_⟩
  obtain ⟨p, q, r⟩ := e j hj
  exact ⟨by rw [hf.2 101 _ (by unfold inB; omega)]; exact p, by rw [hf.2 104 _ (by unfold inB; omega)]; exact q, by rw [hf.2 105 _ (by unfold inB; omega)]; exact r⟩
theorem u_X13_makeSimples_a_12 {x1 : Int32} {x2 : Int32} {x3 : Int32} {x4 : Int32} {x5 : Int32} {x6 : Int32} {x7 : Int32} {x8 : Int32} {x9 : Int32} {t0 : Int32} {z : ow_MS} {Q : ow_MS → Prop} (H : Tt (fun K k => qm_X13_makeSimples_12_a K (q_X13_makeSimples_a K k) x1 x2 x3 x4 x5 x6 x7 x8 x9 t0 z) Q) : Tt (fun K k => q_X13_makeSimples_a K k 12 x1 x2 x3 x4 x5 x6 x7 x8 x9 t0 z) Q := w_un (fun _ _ => rfl) H
theorem u_X13_makeSimples_a_13 {x1 : Int32} {x2 : Int32} {x3 : Int32} {x4 : Int32} {x5 : Int32} {x6 : Int32} {x7 : Int32} {x8 : Int32} {x9 : Int32} {t0 : Int32} {z : ow_MS} {Q : ow_MS → Prop} (H : Tt (fun K k => qm_X13_makeSimples_13_a K (q_X13_makeSimples_a K k) x1 x2 x3 x4 x5 x6 x7 x8 x9 t0 z) Q) : Tt (fun K k => q_X13_makeSimples_a K k 13 x1 x2 x3 x4 x5 x6 x7 x8 x9 t0 z) Q := w_un (fun _ _ => rfl) H
theorem sm_12 {Q : ow_MS → Prop} {n : Nat} {z : ow_MS} (h2 : 2 ≤ n) (h5 : n ≤ 5) (hE : eN n (gNN n) z) (hS : szN n (gNN n) z) (hM : mN n (gNN n) 0 z) (hT : tT n (gNN n) z) (H : ∀ y, dN n y → fB pA n z y → Tt (fun K t => q_X13_makeSimples_a K t 1 (nI (n + 1)) 0 0 0 0 0 0 0 0 0 y) Q) : Tt (fun K t => q_X13_makeSimples_a K t 12 (nI n) 0 0 0 0 0 0 0 0 0 z) Q := by
  have hN := nn_pos (n := n)
  have np : ∀ g, (97 ≤ g ∧ g ≤ 103) → ¬ pR g := fun g hg h => by unfold pR at h; omega
  have tRz : ∀ {y : ow_MS}, fB pR n z y → tR n y := fun hf => tR_fr hf.1 (np _ (by omega)) (np _ (by omega)) (np _ (by omega)) (fun k hk => ⟨(hS k hk).1, (hS k hk).2, fun j hj => hM k j (Or.inl hk) hk hj⟩)
  have e97 : ∀ {y : ow_MS}, fB pR n z y → y.2.1 97 n = nI (gNN n) := fun hf => by rw [(hf.1 97 (np _ (by omega))).2.1]; exact hE.1
  have c12 : ∀ (d k : Nat) (y : ow_MS), k + d = gNN n → pN n k 0 y → fB pR n z y → Tt (fun K t => q_X13_makeSimples_a K t 12 (nI n) (nI k) 0 0 0 0 0 0 0 0 y) Q := by
    intro d
    induction d with
    | zero =>
      intro k y hk hp hf
      have e : k = gNN n := by omega
      subst e
      refine u_X13_makeSimples_a_12 ?_; unfold qm_X13_makeSimples_12_a
      rw [nI_1]
      refine w_rdI ma97 rfl (by omega) (e97 hf) (w_leT (by omega) (by omega) (H y ?_ (fB_mono hf (fun g hg => by unfold pR at hg; unfold pA; omega))))
      have hT' := tT_fr hf.1 (np _ (by omega)) (np _ (by omega)) hT
      have hR' := tRz hf
      refine ⟨e97 hf, fun k hk => ⟨(hR' k hk).1, (hT' k hk).1, (hT' k hk).2, (hR' k hk).2.1, fun j hj => ⟨(hR' k hk).2.2 j hj, hp k j (Or.inl hk) hk hj⟩⟩⟩
    | succ d ih =>
      intro k y hk hp hf
      have hkN : k < gNN n := by omega
      have c13 : ∀ (dd j : Nat) (y : ow_MS), j + dd + 1 = n → pN n k j y → fB pR n z y → Tt (fun K t => q_X13_makeSimples_a K t 13 (nI n) (nI k) (nI j) 0 0 0 0 0 0 0 y) Q := by
        intro dd
        induction dd with
        | zero =>
          intro j y hj hp hf
          refine u_X13_makeSimples_a_13 ?_; unfold qm_X13_makeSimples_13_a
          rw [show nI n - 1 = nI (n - 1) from pk_sub (b := 1) (by omega), nI_1]
          refine w_leT (by omega) (by omega) (ih (k + 1) y (by omega) (fun l i h1 h3 h4 => hp l i ?_ h3 h4) hf)
          omega
        | succ dd ihd =>
          intro j y hj hp hf
          refine u_X13_makeSimples_a_13 ?_; unfold qm_X13_makeSimples_13_a
          rw [show nI n - 1 = nI (n - 1) from pk_sub (b := 1) (by omega), nI_1 j]
          refine w_leF (by omega) (by omega) (w_cs0 (tp_turnRound_a h2 h5 hkN (by omega) (tRz hf)) ?_)
          rintro y1 ⟨⟨r1, r2⟩, r3, r4⟩
          refine ihd (j + 1) y1 (by omega) (fun l i h1 h3 h4 => ?_) (fB_tr hf r4)
          by_cases e : l = k ∧ i = j
          · rw [e.1, e.2]
            exact ⟨r1, r2⟩
          · rw [r3 104 _ (Or.inl rfl) (by omega), r3 105 _ (Or.inr rfl) (by omega)]
            exact hp l i (by omega) h3 h4
      refine u_X13_makeSimples_a_12 ?_; unfold qm_X13_makeSimples_12_a
      exact w_rdI ma97 rfl (by omega) (e97 hf) (w_leF (by omega) (by omega) (c13 (n - 1) 0 y (by omega) hp hf))
  exact c12 (gNN n) 0 z (by omega) (fun l i h1 => by omega) fB_rf
def pS (g : Nat) : Prop := 97 ≤ g ∧ g ≤ 101 ∨ g = 106
theorem u_X13_makeSimples_a_3 {x1 : Int32} {x2 : Int32} {x3 : Int32} {x4 : Int32} {x5 : Int32} {x6 : Int32} {x7 : Int32} {x8 : Int32} {x9 : Int32} {t0 : Int32} {z : ow_MS} {Q : ow_MS → Prop} (H : Tt (fun K k => qm_X13_makeSimples_3_a K (q_X13_makeSimples_a K k) x1 x2 x3 x4 x5 x6 x7 x8 x9 t0 z) Q) : Tt (fun K k => q_X13_makeSimples_a K k 3 x1 x2 x3 x4 x5 x6 x7 x8 x9 t0 z) Q := w_un (fun _ _ => rfl) H
theorem u_X13_makeSimples_a_4 {x1 : Int32} {x2 : Int32} {x3 : Int32} {x4 : Int32} {x5 : Int32} {x6 : Int32} {x7 : Int32} {x8 : Int32} {x9 : Int32} {t0 : Int32} {z : ow_MS} {Q : ow_MS → Prop} (H : Tt (fun K k => qm_X13_makeSimples_4_a K (q_X13_makeSimples_a K k) x1 x2 x3 x4 x5 x6 x7 x8 x9 t0 z) Q) : Tt (fun K k => q_X13_makeSimples_a K k 4 x1 x2 x3 x4 x5 x6 x7 x8 x9 t0 z) Q := w_un (fun _ _ => rfl) H
theorem u_X13_makeSimples_a_11 {x1 : Int32} {x2 : Int32} {x3 : Int32} {x4 : Int32} {x5 : Int32} {x6 : Int32} {x7 : Int32} {x8 : Int32} {x9 : Int32} {t0 : Int32} {z : ow_MS} {Q : ow_MS → Prop} (H : Tt (fun K k => qm_X13_makeSimples_11_a K (q_X13_makeSimples_a K k) x1 x2 x3 x4 x5 x6 x7 x8 x9 t0 z) Q) : Tt (fun K k => q_X13_makeSimples_a K k 11 x1 x2 x3 x4 x5 x6 x7 x8 x9 t0 z) Q := w_un (fun _ _ => rfl) H
theorem u_X13_makeSimples_a_10 {x1 : Int32} {x2 : Int32} {x3 : Int32} {x4 : Int32} {x5 : Int32} {x6 : Int32} {x7 : Int32} {x8 : Int32} {x9 : Int32} {t0 : Int32} {z : ow_MS} {Q : ow_MS → Prop} (H : Tt (fun K k => qm_X13_makeSimples_10_a K (q_X13_makeSimples_a K k) x1 x2 x3 x4 x5 x6 x7 x8 x9 t0 z) Q) : Tt (fun K k => q_X13_makeSimples_a K k 10 x1 x2 x3 x4 x5 x6 x7 x8 x9 t0 z) Q := w_un (fun _ _ => rfl) H
theorem u_X13_makeSimples_a_9 {x1 : Int32} {x2 : Int32} {x3 : Int32} {x4 : Int32} {x5 : Int32} {x6 : Int32} {x7 : Int32} {x8 : Int32} {x9 : Int32} {t0 : Int32} {z : ow_MS} {Q : ow_MS → Prop} (H : Tt (fun K k => qm_X13_makeSimples_9_a K (q_X13_makeSimples_a K k) x1 x2 x3 x4 x5 x6 x7 x8 x9 t0 z) Q) : Tt (fun K k => q_X13_makeSimples_a K k 9 x1 x2 x3 x4 x5 x6 x7 x8 x9 t0 z) Q := w_un (fun _ _ => rfl) H
theorem u_X13_makeSimples_a_8 {x1 : Int32} {x2 : Int32} {x3 : Int32} {x4 : Int32} {x5 : Int32} {x6 : Int32} {x7 : Int32} {x8 : Int32} {x9 : Int32} {t0 : Int32} {z : ow_MS} {Q : ow_MS → Prop} (H : Tt (fun K k => qm_X13_makeSimples_8_a K (q_X13_makeSimples_a K k) x1 x2 x3 x4 x5 x6 x7 x8 x9 t0 z) Q) : Tt (fun K k => q_X13_makeSimples_a K k 8 x1 x2 x3 x4 x5 x6 x7 x8 x9 t0 z) Q := w_un (fun _ _ => rfl) H
theorem u_X13_makeSimples_a_5 {x1 : Int32} {x2 : Int32} {x3 : Int32} {x4 : Int32} {x5 : Int32} {x6 : Int32} {x7 : Int32} {x8 : Int32} {x9 : Int32} {t0 : Int32} {z : ow_MS} {Q : ow_MS → Prop} (H : Tt (fun K k => qm_X13_makeSimples_5_a K (q_X13_makeSimples_a K k) x1 x2 x3 x4 x5 x6 x7 x8 x9 t0 z) Q) : Tt (fun K k => q_X13_makeSimples_a K k 5 x1 x2 x3 x4 x5 x6 x7 x8 x9 t0 z) Q := w_un (fun _ _ => rfl) H
theorem u_X13_makeSimples_a_7 {x1 : Int32} {x2 : Int32} {x3 : Int32} {x4 : Int32} {x5 : Int32} {x6 : Int32} {x7 : Int32} {x8 : Int32} {x9 : Int32} {t0 : Int32} {z : ow_MS} {Q : ow_MS → Prop} (H : Tt (fun K k => qm_X13_makeSimples_7_a K (q_X13_makeSimples_a K k) x1 x2 x3 x4 x5 x6 x7 x8 x9 t0 z) Q) : Tt (fun K k => q_X13_makeSimples_a K k 7 x1 x2 x3 x4 x5 x6 x7 x8 x9 t0 z) Q := w_un (fun _ _ => rfl) H
theorem u_X13_makeSimples_a_6 {x1 : Int32} {x2 : Int32} {x3 : Int32} {x4 : Int32} {x5 : Int32} {x6 : Int32} {x7 : Int32} {x8 : Int32} {x9 : Int32} {t0 : Int32} {z : ow_MS} {Q : ow_MS → Prop} (H : Tt (fun K k => qm_X13_makeSimples_6_a K (q_X13_makeSimples_a K k) x1 x2 x3 x4 x5 x6 x7 x8 x9 t0 z) Q) : Tt (fun K k => q_X13_makeSimples_a K k 6 x1 x2 x3 x4 x5 x6 x7 x8 x9 t0 z) Q := w_un (fun _ _ => rfl) H
theorem sm_3 {Q : ow_MS → Prop} {n : Nat} {z : ow_MS} (h2 : 2 ≤ n) (h5 : n ≤ 5) (hE : eN n 1 z) (hS : szN n 1 z) (H : ∀ y, eN n (gNN n) y → szN n (gNN n) y → mN n (gNN n) 0 y → fB pS n z y → Tt (fun K t => cs0 (qe_X13_makeTurned_a K (nI n) y) (fun z4 => q_X13_makeSimples_a K t 12 (nI n) 0 0 0 0 0 0 0 0 0 z4)) Q) : Tt (fun K t => q_X13_makeSimples_a K t 3 (nI n) 0 0 0 0 0 0 0 0 0 z) Q := by
  have hN := nn_pos (n := n)
  have enb : ∀ k s, enG n k s < 8 := fun k s => Nat.mod_lt _ (by decide)
  obtain ⟨z1, z2, z3⟩ := hh9 h2 h5
  have c3 : ∀ (d k c : Nat) (y : ow_MS), k + d = gNN n → c = (if k = gNN n then gNN n else ctG n k 0) → eN n c y → szN n c y → mN n k 0 y → fB pS n z y → Tt (fun K t => q_X13_makeSimples_a K t 3 (nI n) (nI k) 0 0 0 0 0 0 0 0 y) Q := by
    intro d
    induction d with
    | zero =>
      intro k c y hk hc hE hS hM hf
      have e : k = gNN n := by omega
      rw [if_pos e] at hc
      subst hc
      rw [e] at hM
      refine u_X13_makeSimples_a_3 ?_; unfold qm_X13_makeSimples_3_a
      exact w_rdI ma97 rfl (by omega) hE.1 (w_leT (by omega) (by omega) (H y hE hS hM hf))
    | succ d ih =>
      intro k c y hk hc hE hS hM hf
      have hkN : k < gNN n := by omega
      rw [if_neg (by omega)] at hc
      obtain ⟨s1, s2, _, _, _, s6⟩ := hh7 h2 h5 hkN
      have hszk := (f_one h2 h5 hkN).1
      have cmono : ∀ jj, jj + 1 < n → ctG n k jj ≤ ctG n k (jj + 1) := by
        intro jj hjj
        obtain ⟨_, a, b⟩ := hh6 h2 h5 hkN hjj
        by_cases h9 : lpN n k jj n < lpN n k (jj + 1) n
        · rcases (a h9).2.2 with h | h
          · omega
          · omega
        · have := b h9
          omega
      have cge : ∀ jj, jj + 1 ≤ n → k < ctG n k jj := by
        intro jj
        induction jj with
        | zero =>
          intro _
          exact s2
        | succ jj ihj =>
          intro h
          have := ihj (by omega)
          have := cmono jj (by omega)
          omega
      have c4 : ∀ (dd j : Nat) (y : ow_MS), j + dd + 1 = n → eN n (ctG n k j) y → szN n (ctG n k j) y → mN n k j y → fB pS n z y → Tt (fun K t => q_X13_makeSimples_a K t 4 (nI n) (nI k) (nI (120 * n + k)) (nI j) 0 0 0 0 0 0 y) Q := by
        intro dd
        induction dd with
        | zero =>
          intro j y hj hE hS hM hf
          have ej : j = n - 1 := by omega
          refine u_X13_makeSimples_a_4 ?_; unfold qm_X13_makeSimples_4_a
          rw [show nI n - 1 = nI (n - 1) from pk_sub (b := 1) (by omega), nI_1]
          refine w_leT (by omega) (by omega) (ih (k + 1) (ctG n k j) y (by omega) (by rw [ej]; exact s1) hE hS (fun l i h1 h3 h4 => hM l i ?_ h3 h4) hf)
          omega
        | succ dd ihd =>
          intro j y hj hE hS hM hf
          have hj1 : j + 1 < n := by omega
          obtain ⟨f1, f2, f3⟩ := hh6 h2 h5 hkN hj1
          have hmo := (f_two h2 h5 hkN hj1).2.2.1
          have hkc := cge j (by omega)
          generalize hcc : ctG n k j = c at *
          have i4 : (4 : Int32) * nI (120 * n + k) + nI j = nI (4 * (120 * n + k) + j) := by
            rw [show (4 : Int32) * nI (120 * n + k) = nI (4 * (120 * n + k)) from pk_mul 4 _, nI_add]
          have k11 : ∀ (y : ow_MS) (x5 x6 x7 : Int32), eN n (ctG n k (j + 1)) y → szN n (ctG n k (j + 1)) y → mN n k (j + 1) y → fB pS n z y → Tt (fun K t => q_X13_makeSimples_a K t 11 (nI n) (nI k) (nI (120 * n + k)) (nI j) x5 x6 x7 0 0 0 y) Q := by
            intro y x5 x6 x7 hE hS hM hf
            refine u_X13_makeSimples_a_11 ?_; unfold qm_X13_makeSimples_11_a
            rw [nI_1]
            exact ihd (j + 1) y (by omega) hE hS hM hf
          have mst : ∀ (y : ow_MS) (x : Int32), mN n k j y → x = (if moG n k j = 0 then -1 else nI (moG n k j - 1)) → mN n k (j + 1) (usI y 101 (4 * (120 * n + k) + j) x) := by
            intro y x hM hx l i h1 h3 h4
            by_cases e : l = k ∧ i = j
            · rw [e.1, e.2, ← hx]
              exact po_usI_at
            · exact rd_ne (by omega) (hM l i (by omega) h3 h4)
          have k10 : ∀ (y : ow_MS) (x5 x6 : Int32), moG n k j ≠ 0 → eN n (ctG n k (j + 1)) y → szN n (ctG n k (j + 1)) y → mN n k j y → fB pS n z y → Tt (fun K t => q_X13_makeSimples_a K t 10 (nI n) (nI k) (nI (120 * n + k)) (nI j) x5 x6 (nI (moG n k j - 1)) 0 0 0 y) Q := by
            intro y x5 x6 hm hE hS hM hf
            refine u_X13_makeSimples_a_10 ?_; unfold qm_X13_makeSimples_10_a
            rw [i4]
            refine w_wrI ma101 rfl (by omega) (k11 _ _ _ _ (eN_fr (fr_I2 (P := fun g => g = 101) fr_rf rfl) (by omega) (by omega) hE) (szN_fr (fr_I2 (P := fun g => g = 101) fr_rf rfl) (by omega) (by omega) hS) (mst y _ hM (by rw [if_neg hm])) (fB_I2 hf (Or.inl (by omega)) (by unfold inB; omega)))
          -- a new simple one: its ends, its size, its letters
          have k9 : moG n k j - 1 = c → moG n k j ≠ 0 → ctG n k (j + 1) = c + 1 → c < gNN n → szG n c = szG n k + 1 → leG n c (szG n k) = j → (∀ i, i < szG n k → leG n c i = leG n k i) → ∀ (e i : Nat) (y : ow_MS) (x5 x6 : Int32), i + e = szG n k → eN n c y → szN n c y → mN n k j y → fB pS n z y → (∀ s, s < n → y.2.1 98 (5 * (120 * n + c) + s) = nI (enG n c s)) → y.2.1 100 (120 * n + c) = nI (szG n c) → (∀ i', i' < i → y.2.1 99 (10 * (120 * n + c) + i') = nI (leG n c i')) → Tt (fun K t => q_X13_makeSimples_a K t 9 (nI n) (nI k) (nI (120 * n + k)) (nI j) x5 x6 (nI c) (nI (120 * n + c)) (nI i) 0 y) Q := by
            intro g1 g2 g3 g4 g5 g6 g7 e
            have hszc := (f_one h2 h5 g4).1
            induction e with
            | zero =>
              intro i y x5 x6 hi hE hS hM hf h98 h100 h99
              have ei : i = szG n k := by omega
              subst ei
              have e100 := (hS k hkc).1
              refine u_X13_makeSimples_a_9 ?_; unfold qm_X13_makeSimples_9_a
              rw [show (10 : Int32) * nI (120 * n + c) + nI (szG n k) = nI (10 * (120 * n + c) + szG n k) from ix10]
              refine w_rdI ma100 rfl (by omega) e100 (w_leT (by omega) (by omega) (w_rdI ma100 rfl (by omega) e100 (w_wrI (i := 10 * (120 * n + c) + szG n k) ma99 (by rw [ix10]) (by omega) (w_rdI (x := nI c) ma97 rfl (by omega) (rd_ot (by omega) hE.1) ?_))))
              rw [nI_1 c]
              refine w_wrI ma97 rfl (by omega) ?_
              have hk10 := k10 (usI (usI y 99 (10 * (120 * n + c) + szG n k) (nI j)) 97 n (nI (c + 1))) x5 x6 g2 (by
                rw [g3]
                refine ⟨po_usI_at, fun l hl s hs => ?_⟩
                refine rd_ot (by omega) (rd_ot (by omega) ?_)
                by_cases el : l = c
                · rw [el]
                  exact h98 s hs
                · exact hE.2 l (by omega) s hs) (by
                rw [g3]
                intro l hl
                by_cases el : l = c
                · rw [el]
                  refine ⟨rd_ot (by omega) (rd_ot (by omega) h100), fun i' hi' => rd_ot (by omega) ?_⟩
                  by_cases e9 : i' = szG n k
                  · rw [e9, g6]
                    exact po_usI_at
                  · exact rd_ne (by omega) (h99 i' (by omega))
                · obtain ⟨a, b⟩ := hS l (by omega)
                  have hl10 := (f_one h2 h5 (show l < gNN n by omega)).1
                  exact ⟨rd_ot (by omega) (rd_ot (by omega) a), fun i' hi' => rd_ot (by omega) (rd_ne (by omega) (b i' hi'))⟩) (fun l i' h1 h3 h4 => rd_ot (by omega) (rd_ot (by omega) (hM l i' h1 h3 h4))) (fB_I2 (fB_I2 hf (Or.inl (by omega)) (by unfold inB; omega)) (Or.inl (by omega)) (by unfold inB; omega))
              rw [g1] at hk10
              exact hk10
            | succ e ihe =>
              intro i y x5 x6 hi hE hS hM hf h98 h100 h99
              obtain ⟨e100, e99⟩ := hS k hkc
              refine u_X13_makeSimples_a_9 ?_; unfold qm_X13_makeSimples_9_a
              rw [show (10 : Int32) * nI (120 * n + c) + nI i = nI (10 * (120 * n + c) + i) from ix10, show (10 : Int32) * nI (120 * n + k) + nI i = nI (10 * (120 * n + k) + i) from ix10, nI_1 i]
              refine w_rdI ma100 rfl (by omega) e100 (w_leF (by omega) (by omega) (w_rdI ma99 rfl (by omega) (e99 i (by omega)) (w_wrI ma99 rfl (by omega) (ihe (i + 1) _ _ _ (by omega) (eN_fr (fr_I2 (P := fun g => g = 99) fr_rf rfl) (by omega) (by omega) hE) (fun l hl => ?_) (mN_fr (fr_I2 (P := fun g => g = 99) fr_rf rfl) (by omega) hM) (fB_I2 hf (Or.inl (by omega)) (by unfold inB; omega)) (fun s hs => rd_ot (by omega) (h98 s hs)) (rd_ot (by omega) h100) (fun i' hi' => ?_)))))
              · obtain ⟨a, b⟩ := hS l hl
                have hl10 := (f_one h2 h5 (show l < gNN n by omega)).1
                exact ⟨rd_ot (by omega) a, fun i' hi' => rd_ne (by omega) (b i' hi')⟩
              · by_cases e9 : i' = i
                · rw [e9, g7 i (by omega)]
                  exact po_usI_at
                · exact rd_ne (by omega) (h99 i' (by omega))
          have k8 : moG n k j - 1 = c → moG n k j ≠ 0 → ctG n k (j + 1) = c + 1 → c < gNN n → szG n c = szG n k + 1 → leG n c (szG n k) = j → (∀ i, i < szG n k → leG n c i = leG n k i) → ∀ (e s : Nat) (y : ow_MS) (x5 x6 : Int32), s + e = n → eN n c y → szN n c y → mN n k j y → fB pS n z y → (∀ s', s' < n → y.2.1 106 s' = nI (enG n c s')) → (∀ s', s' < s → y.2.1 98 (5 * (120 * n + c) + s') = nI (enG n c s')) → Tt (fun K t => q_X13_makeSimples_a K t 8 (nI n) (nI k) (nI (120 * n + k)) (nI j) x5 x6 (nI c) (nI (120 * n + c)) (nI s) 0 y) Q := by
            intro g1 g2 g3 g4 g5 g6 g7 e
            induction e with
            | zero =>
              intro s y x5 x6 hs hE hS hM hf h106 h98
              have e100 := (hS k hkc).1
              refine u_X13_makeSimples_a_8 ?_; unfold qm_X13_makeSimples_8_a
              refine w_leT (by omega) (by omega) (w_rdI ma100 rfl (by omega) e100 ?_)
              rw [nI_1 (szG n k), ← g5]
              refine w_wrI ma100 rfl (by omega) (k9 g1 g2 g3 g4 g5 g6 g7 (szG n k) 0 _ _ _ (by omega) (eN_fr (fr_I2 (P := fun g => g = 100) fr_rf rfl) (by omega) (by omega) hE) (fun l hl => ?_) (mN_fr (fr_I2 (P := fun g => g = 100) fr_rf rfl) (by omega) hM) (fB_I2 hf (Or.inl (by omega)) (by unfold inB; omega)) (fun s hs => rd_ot (by omega) (h98 s (by omega))) po_usI_at (fun i' hi' => by omega))
              obtain ⟨a, b⟩ := hS l hl
              exact ⟨rd_ne (by omega) a, fun i' hi' => rd_ot (by omega) (b i' hi')⟩
            | succ e ihe =>
              intro s y x5 x6 hs hE hS hM hf h106 h98
              refine u_X13_makeSimples_a_8 ?_; unfold qm_X13_makeSimples_8_a
              rw [show (5 : Int32) * nI (120 * n + c) + nI s = nI (5 * (120 * n + c) + s) from by rw [show (5 : Int32) * nI (120 * n + c) = nI (5 * (120 * n + c)) from pk_mul 5 _, nI_add], nI_1 s]
              refine w_leF (by omega) (by omega) (w_rdI ma106 rfl (by omega) (h106 s (by omega)) (w_wrI ma98 rfl (by omega) (ihe (s + 1) _ _ _ (by omega) ⟨rd_ot (by omega) hE.1, fun l hl s' hs' => rd_ne (by omega) (hE.2 l hl s' hs')⟩ (szN_fr (fr_I2 (P := fun g => g = 98) fr_rf rfl) (by omega) (by omega) hS) (mN_fr (fr_I2 (P := fun g => g = 98) fr_rf rfl) (by omega) hM) (fB_I2 hf (Or.inl (by omega)) (by unfold inB; omega)) (fun s' hs' => rd_ot (by omega) (h106 s' hs')) (fun s' hs' => ?_))))
              by_cases e9 : s' = s
              · rw [e9]
                exact po_usI_at
              · exact rd_ne (by omega) (h98 s' (by omega))
          have lpb : ∀ v s, s ≤ n → lpN n k v s ≤ n - 1 := by
            intro v s
            induction s with
            | zero =>
              intro _
              exact Nat.zero_le _
            | succ s ihs =>
              intro hs
              show (if enG n k s = v then s else lpN n k v s) ≤ n - 1
              split
              · omega
              · exact ihs (by omega)
          have c5 : ∀ (e s : Nat) (y : ow_MS), s + e = n → eN n c y → szN n c y → mN n k j y → fB pS n z y → (∀ s', s' < s → y.2.1 106 s' = nI (enG n k s')) → Tt (fun K t => q_X13_makeSimples_a K t 5 (nI n) (nI k) (nI (120 * n + k)) (nI j) (nI (lpN n k j s)) (nI (lpN n k (j + 1) s)) (nI s) 0 0 0 y) Q := by
            intro e
            induction e with
            | zero =>
              intro s y hs hE hS hM hf h106
              have es : s = n := by omega
              subst es
              have ba := lpb j s (Nat.le_refl _)
              have bb := lpb (j + 1) s (Nat.le_refl _)
              refine u_X13_makeSimples_a_5 ?_; unfold qm_X13_makeSimples_5_a
              rw [i4, nI_1 j]
              refine w_leT (by omega) (by omega) (w_wrI ma101 rfl (by omega) (w_le (by omega) (by omega) (fun h9 => ?_) (fun h9 => ?_)))
              · obtain ⟨g1, g2⟩ := f3 (by omega)
                refine k11 _ _ _ _ ?_ ?_ (mst y _ hM (by rw [if_pos g1])) (fB_I2 hf (Or.inl (by omega)) (by unfold inB; omega))
                · rw [g2]
                  exact eN_fr (fr_I2 (P := fun g => g = 101) fr_rf rfl) (by omega) (by omega) hE
                · rw [g2]
                  exact szN_fr (fr_I2 (P := fun g => g = 101) fr_rf rfl) (by omega) (by omega) hS
              · obtain ⟨g1, g2, g3⟩ := f2 h9
                refine w_wrI ma106 rfl (by omega) (w_wrI ma106 rfl (by omega) ?_)
                have hfr : fr (fun g => g = 101 ∨ g = 106) y (usI (usI (usI y 101 (4 * (120 * s + k) + j) (-1)) 106 (lpN s k j s) (nI (j + 1))) 106 (lpN s k (j + 1) s) (nI j)) := fr_I2 (fr_I2 (fr_I2 fr_rf (Or.inl rfl)) (Or.inr rfl)) (Or.inr rfl)
                have hfB : fB pS s z (usI (usI (usI y 101 (4 * (120 * s + k) + j) (-1)) 106 (lpN s k j s) (nI (j + 1))) 106 (lpN s k (j + 1) s) (nI j)) := fB_I2 (fB_I2 (fB_I2 hf (Or.inl (by omega)) (by unfold inB; omega)) (Or.inr rfl) (Or.inl rfl)) (Or.inr rfl) (Or.inl rfl)
                have hM7 : mN s k j (usI (usI (usI y 101 (4 * (120 * s + k) + j) (-1)) 106 (lpN s k j s) (nI (j + 1))) 106 (lpN s k (j + 1) s) (nI j)) := fun l i h1 h3 h4 => rd_ot (by omega) (rd_ot (by omega) (rd_ne (by omega) (hM l i h1 h3 h4)))
                have hrow : ∀ s', s' < s → (usI (usI (usI y 101 (4 * (120 * s + k) + j) (-1)) 106 (lpN s k j s) (nI (j + 1))) 106 (lpN s k (j + 1) s) (nI j)).2.1 106 s' = nI (enG s (moG s k j - 1) s') := by
                  intro s' hs'
                  rw [g2 s' hs']
                  by_cases e1 : s' = lpN s k (j + 1) s
                  · rw [if_pos e1, e1]
                    exact po_usI_at
                  · rw [if_neg e1]
                    refine rd_ne e1 ?_
                    by_cases e2 : s' = lpN s k j s
                    · rw [if_pos e2, e2]
                      exact po_usI_at
                    · rw [if_neg e2]
                      exact rd_ne e2 (rd_ot (by omega) (h106 s' hs'))
                have hE7 := eN_fr hfr (by omega) (by omega) hE
                have hS7 := szN_fr hfr (by omega) (by omega) hS
                generalize usI (usI (usI y 101 (4 * (120 * s + k) + j) (-1)) 106 (lpN s k j s) (nI (j + 1))) 106 (lpN s k (j + 1) s) (nI j) = y7 at *
                refine w_cs1 (tp_find_a h2 h5 hE7 f1 (show moG s k j - 1 < gNN s by omega) hrow) ?_
                rintro v y1 ⟨e1, e2⟩
                dsimp only at e1 e2
                subst e2
                rcases g3 with ⟨g4, g5⟩ | ⟨g4, g5, g6, g7, g8, g9⟩
                · rw [if_pos g4] at e1
                  subst e1
                  refine w_ifF ?_ (k10 _ _ _ g1 (by rw [g5]; exact hE7) (by rw [g5]; exact hS7) hM7 hfB)
                  exact rn_neg1 (by omega)
                · rw [if_neg (by omega)] at e1
                  subst e1
                  refine w_ifT rfl (w_rdI ma97 rfl (by omega) hE7.1 ?_)
                  rw [ix120]
                  exact k8 g4 g1 g5 g6 g7 g8 g9 s 0 _ _ _ (by omega) hE7 hS7 hM7 hfB (fun s' hs' => by rw [← g4]; exact hrow s' hs') (fun s' hs' => by omega)
            | succ e ihe =>
              intro s y hs hE hS hM hf h106
              have e98 := hE.2 k hkc s (by omega)
              have b0 := enb k s
              have := s6 s (by omega)
              have k7 : ∀ (x5 x6 : Int32) (y1 : ow_MS), y1 = usI y 106 s (nI (enG n k s)) → x5 = nI (lpN n k j (s + 1)) → x6 = nI (lpN n k (j + 1) (s + 1)) → Tt (fun K t => q_X13_makeSimples_a K t 7 (nI n) (nI k) (nI (120 * n + k)) (nI j) x5 (nI (lpN n k (j + 1) s)) (nI s) 0 0 x6 y1) Q := by
                intro x5 x6 y1 e1 e2 e3
                subst e1
                subst e2
                subst e3
                refine u_X13_makeSimples_a_7 ?_; unfold qm_X13_makeSimples_7_a
                rw [nI_1]
                refine ihe (s + 1) _ (by omega) (eN_fr (fr_I2 (P := fun g => g = 106) fr_rf rfl) (by omega) (by omega) hE) (szN_fr (fr_I2 (P := fun g => g = 106) fr_rf rfl) (by omega) (by omega) hS) (mN_fr (fr_I2 (P := fun g => g = 106) fr_rf rfl) (by omega) hM) (fB_I2 hf (Or.inr rfl) (Or.inl rfl)) (fun s' hs' => ?_)
                by_cases e9 : s' = s
                · rw [e9]
                  exact po_usI_at
                · exact rd_ne e9 (h106 s' (by omega))
              have k6 : ∀ (t0 : Int32), t0 = nI (lpN n k j (s + 1)) → Tt (fun K t => q_X13_makeSimples_a K t 6 (nI n) (nI k) (nI (120 * n + k)) (nI j) (nI (lpN n k j s)) (nI (lpN n k (j + 1) s)) (nI s) 0 0 t0 (usI y 106 s (nI (enG n k s)))) Q := by
                intro t0 h0
                refine u_X13_makeSimples_a_6 ?_; unfold qm_X13_makeSimples_6_a
                rw [nI_1 j]
                refine w_rdI ma106 rfl (by omega) po_usI_at (w_eqN (by omega) (by omega) (fun h9 => k7 _ _ _ rfl h0 ?_) (fun h9 => k7 _ _ _ rfl h0 ?_))
                · show _ = nI (if enG n k s = j + 1 then s else lpN n k (j + 1) s)
                  rw [if_pos h9]
                · show _ = nI (if enG n k s = j + 1 then s else lpN n k (j + 1) s)
                  rw [if_neg h9]
              refine u_X13_makeSimples_a_5 ?_; unfold qm_X13_makeSimples_5_a
              rw [show (5 : Int32) * nI (120 * n + k) + nI s = nI (5 * (120 * n + k) + s) from by rw [show (5 : Int32) * nI (120 * n + k) = nI (5 * (120 * n + k)) from pk_mul 5 _, nI_add]]
              refine w_leF (by omega) (by omega) (w_rdI ma98 rfl (by omega) e98 (w_wrI ma106 rfl (by omega) (w_rdI ma106 rfl (by omega) po_usI_at (w_eqN (by omega) (by omega) (fun h9 => k6 _ ?_) (fun h9 => k6 _ ?_)))))
              · show _ = nI (if enG n k s = j then s else lpN n k j s)
                rw [if_pos h9]
              · show _ = nI (if enG n k s = j then s else lpN n k j s)
                rw [if_neg h9]
          refine u_X13_makeSimples_a_4 ?_; unfold qm_X13_makeSimples_4_a
          rw [show nI n - 1 = nI (n - 1) from pk_sub (b := 1) (by omega)]
          exact w_leF (by omega) (by omega) (c5 n 0 y (by omega) hE hS hM hf (fun s' hs' => by omega))
      refine u_X13_makeSimples_a_3 ?_; unfold qm_X13_makeSimples_3_a
      rw [ix120]
      have ctb : c ≤ gNN n := by
        rw [hc]
        exact (hh6 h2 h5 hkN (show 0 + 1 < n by omega)).1
      exact w_rdI ma97 rfl (by omega) hE.1 (w_leF (by omega) (by omega) (c4 (n - 1) 0 y (by omega) (by rw [← hc]; exact hE) (by rw [← hc]; exact hS) hM hf))
  exact c3 (gNN n) 0 1 z (by omega) (by rw [if_neg (by omega), z1]) hE hS (fun l i h1 => by omega) fB_rf
theorem u_X13_makeSimples_a_2 {x1 : Int32} {x2 : Int32} {x3 : Int32} {x4 : Int32} {x5 : Int32} {x6 : Int32} {x7 : Int32} {x8 : Int32} {x9 : Int32} {t0 : Int32} {z : ow_MS} {Q : ow_MS → Prop} (H : Tt (fun K k => qm_X13_makeSimples_2_a K (q_X13_makeSimples_a K k) x1 x2 x3 x4 x5 x6 x7 x8 x9 t0 z) Q) : Tt (fun K k => q_X13_makeSimples_a K k 2 x1 x2 x3 x4 x5 x6 x7 x8 x9 t0 z) Q := w_un (fun _ _ => rfl) H
theorem sm_2 {Q : ow_MS → Prop} {n : Nat} {z : ow_MS} (h2 : 2 ≤ n) (h5 : n ≤ 5) (h0 : z.2.1 100 (120 * n) = 0) (H : ∀ y, dN n y → fB pA n z y → Tt (fun K t => q_X13_makeSimples_a K t 1 (nI (n + 1)) 0 0 0 0 0 0 0 0 0 y) Q) : Tt (fun K t => q_X13_makeSimples_a K t 2 (nI n) 0 0 0 0 0 0 0 0 0 z) Q := by
  have hN := nn_pos (n := n)
  obtain ⟨z1, z2, z3⟩ := hh9 h2 h5
  have c2 : ∀ (d a : Nat) (y : ow_MS), a + d = n → fB (fun g => g = 98) n z y → (∀ s, s < a → y.2.1 98 (600 * n + s) = nI s) → Tt (fun K t => q_X13_makeSimples_a K t 2 (nI n) (nI a) 0 0 0 0 0 0 0 0 y) Q := by
    intro d
    induction d with
    | zero =>
      intro a y ha hf hy
      have ea : a = n := by omega
      subst ea
      refine u_X13_makeSimples_a_2 ?_; unfold qm_X13_makeSimples_2_a
      refine w_leT (by omega) (by omega) (w_wrI ma97 rfl (by omega) (sm_3 h2 h5 ⟨po_usI_at, fun k hk s hs => ?_⟩ (fun k hk => ⟨?_, fun i hi => ?_⟩) (fun y1 hE hS hM hf1 => w_cs0 (tp_makeTurned_a h2 h5 hE) (fun y2 h9 => ?_))))
      · rw [show k = 0 by omega, z3 s hs, show 5 * (120 * a + 0) + s = 600 * a + s by omega]
        exact rd_ot (by omega) (hy s hs)
      · rw [show k = 0 by omega, z2]
        refine rd_ot (by omega) ?_
        rw [Nat.add_zero, (hf.1 100 (by omega)).2.1]
        exact h0
      · rw [show k = 0 by omega, z2] at hi
        omega
      · obtain ⟨hT, hf2⟩ := h9
        have np : ∀ g, (97 ≤ g ∧ g ≤ 101) → ¬ pTu g := fun g hg h => by unfold pTu at h; omega
        refine sm_12 h2 h5 (eN_fr hf2.1 (np _ (by omega)) (np _ (by omega)) hE) (szN_fr hf2.1 (np _ (by omega)) (np _ (by omega)) hS) (mN_fr hf2.1 (np _ (by omega)) hM) hT (fun y3 hd hf3 => H y3 hd ?_)
        have f1 : fB pA a z (usI y 97 a 1) := fB_I2 (fB_mono hf (fun g hg => by unfold pA; omega)) (by unfold pA; omega) (by unfold inB; omega)
        exact fB_tr (fB_tr (fB_tr f1 (fB_mono hf1 (fun g hg => by unfold pS at hg; unfold pA; omega))) (fB_mono hf2 (fun g hg => by unfold pTu at hg; unfold pA; omega))) hf3
    | succ d ih =>
      intro a y ha hf hy
      refine u_X13_makeSimples_a_2 ?_; unfold qm_X13_makeSimples_2_a
      rw [show (600 : Int32) * nI n + nI a = nI (600 * n + a) from by rw [show (600 : Int32) * nI n = nI (600 * n) from pk_mul 600 _, nI_add], nI_1 a]
      refine w_leF (by omega) (by omega) (w_wrI ma98 rfl (by omega) (ih (a + 1) _ (by omega) (fB_I2 hf rfl (by unfold inB; omega)) (fun s hs => ?_)))
      by_cases e : s = a
      · rw [e]
        exact po_usI_at
      · exact rd_ne (by omega) (hy s (by omega))
  exact c2 n 0 z (by omega) fB_rf (fun s hs => by omega)
theorem u_X13_makeSimples_a_1 {x1 : Int32} {x2 : Int32} {x3 : Int32} {x4 : Int32} {x5 : Int32} {x6 : Int32} {x7 : Int32} {x8 : Int32} {x9 : Int32} {t0 : Int32} {z : ow_MS} {Q : ow_MS → Prop} (H : Tt (fun K k => qm_X13_makeSimples_1_a K (q_X13_makeSimples_a K k) x1 x2 x3 x4 x5 x6 x7 x8 x9 t0 z) Q) : Tt (fun K k => q_X13_makeSimples_a K k 1 x1 x2 x3 x4 x5 x6 x7 x8 x9 t0 z) Q := w_un (fun _ _ => rfl) H
theorem e_X13_makeSimples_a {z : ow_MS} {Q : ow_MS → Prop} (H : Tt (fun K k => q_X13_makeSimples_a K k 0 0 0 0 0 0 0 0 0 0 0 z) Q) : Te (fun K => qe_X13_makeSimples_a K z) Q := w_te H
theorem u_X13_makeSimples_a_0 {x1 : Int32} {x2 : Int32} {x3 : Int32} {x4 : Int32} {x5 : Int32} {x6 : Int32} {x7 : Int32} {x8 : Int32} {x9 : Int32} {t0 : Int32} {z : ow_MS} {Q : ow_MS → Prop} (H : Tt (fun K k => qm_X13_makeSimples_0_a K (q_X13_makeSimples_a K k) x1 x2 x3 x4 x5 x6 x7 x8 x9 t0 z) Q) : Tt (fun K k => q_X13_makeSimples_a K k 0 x1 x2 x3 x4 x5 x6 x7 x8 x9 t0 z) Q := w_un (fun _ _ => rfl) H
theorem tp_makeSimples_a {z : ow_MS} (hz : ∀ n, n ≤ 5 → z.2.1 100 (120 * n) = 0) : Te (fun K => qe_X13_makeSimples_a K z) (fun z1 => (∀ n, 2 ≤ n → n ≤ 5 → dN n z1) ∧ fr pA z z1) := by
  let Q : ow_MS → Prop := fun z1 => (∀ n, 2 ≤ n → n ≤ 5 → dN n z1) ∧ fr pA z z1
  have key : ∀ (d n : Nat) (y : ow_MS), n + d = 6 → 2 ≤ n → (∀ m, 2 ≤ m → m < n → dN m y) → (∀ m, n ≤ m → m ≤ 5 → y.2.1 100 (120 * m) = 0) → fr pA z y → Tt (fun K t => q_X13_makeSimples_a K t 1 (nI n) 0 0 0 0 0 0 0 0 0 y) Q := by
    intro d
    induction d with
    | zero =>
      intro n y hn h2 hD h0 hf
      refine u_X13_makeSimples_a_1 ?_; unfold qm_X13_makeSimples_1_a
      exact w_ltT (a := 5) (by omega) (by omega) (w_some ⟨fun m h1 h3 => hD m h1 (by omega), hf⟩)
    | succ d ih =>
      intro n y hn h2 hD h0 hf
      refine u_X13_makeSimples_a_1 ?_; unfold qm_X13_makeSimples_1_a
      refine w_ltF (a := 5) (by omega) (by omega) (sm_2 h2 (by omega) (h0 n (by omega) (by omega)) (fun y1 hd hf1 => ih (n + 1) y1 (by omega) (by omega) (fun m h1 h3 => ?_) (fun m h1 h3 => ?_) (fr_tr hf hf1.1)))
      · by_cases e : m = n
        · rw [e]
          exact hd
        · exact dN_fB h1 (by omega) e hf1 (hD m h1 (by omega))
      · rw [hf1.2 100 _ (by unfold inB; omega)]
        exact h0 m (by omega) h3
  refine e_X13_makeSimples_a ?_
  refine u_X13_makeSimples_a_0 ?_; unfold qm_X13_makeSimples_0_a
  exact key 4 2 z (by omega) (by omega) (fun m h1 h3 => by omega) (fun m h1 h3 => hz m h3) fr_rf
