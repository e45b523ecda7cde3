/-! find, makeTurned: the reference's constructor -/
/-- what belongs to the simples of n strands -/
def inB (n g i : Nat) : Prop := g = 106 ∨ g = 107 ∨ g = 97 ∧ i = n ∨ g = 98 ∧ 600 * n ≤ i ∧ i < 600 * n + 600 ∨ g = 99 ∧ 1200 * n ≤ i ∧ i < 1200 * n + 1200 ∨ (g = 100 ∨ g = 102 ∨ g = 103) ∧ 120 * n ≤ i ∧ i < 120 * n + 120 ∨ (g = 101 ∨ g = 104 ∨ g = 105) ∧ 480 * n ≤ i ∧ i < 480 * n + 480
def fB (P : Nat → Prop) (n : Nat) (z z1 : ow_MS) : Prop := fr P z z1 ∧ ∀ g i, ¬ inB n g i → z1.2.1 g i = z.2.1 g i
theorem fB_rf {P : Nat → Prop} {n : Nat} {z : ow_MS} : fB P n z z := ⟨fr_rf, fun _ _ _ => rfl⟩
theorem fB_tr {P : Nat → Prop} {n : Nat} {z z1 z2 : ow_MS} (h1 : fB P n z z1) (h2 : fB P n z1 z2) : fB P n z z2 := ⟨fr_tr h1.1 h2.1, fun g i h => (h2.2 g i h).trans (h1.2 g i h)⟩
theorem fB_I2 {P : Nat → Prop} {n g i : Nat} {x : Int32} {z z1 : ow_MS} (h1 : fB P n z z1) (hp : P g) (hb : inB n g i) : fB P n z (usI z1 g i x) := by
  refine ⟨fr_I2 h1.1 hp, fun g' i' h => ?_⟩
  by_cases hg : g' = g
  · subst hg
    by_cases hi : i' = i
    · subst hi
      exact absurd hb h
    · exact rd_ne hi (h1.2 _ _ h)
  · exact rd_ot hg (h1.2 _ _ h)
theorem fB_mono {P R : Nat → Prop} {n : Nat} {z z1 : ow_MS} (h : fB P n z z1) (hP : ∀ g, P g → R g) : fB R n z z1 := ⟨fr_mono hP h.1, h.2⟩
theorem ix5 {n k s : Nat} : (5 : Int32) * (120 * nI n + nI k) + nI s = nI (5 * (120 * n + k) + s) := by
  rw [ix120, show (5 : Int32) * nI (120 * n + k) = nI (5 * (120 * n + k)) from pk_mul 5 _, nI_add]
/-- the ends of the first c simples -/
def eN (n c : Nat) (y : ow_MS) : Prop := y.2.1 97 n = nI c ∧ ∀ k, k < c → ∀ s, s < n → y.2.1 98 (5 * (120 * n + k) + s) = nI (enG n k s)
theorem u_X13_find_a_2 {x1 : Int32} {x3 : Int32} {x4 : Int32} {x5 : Int32} {r2 : Nat} {t0 : Int32} {t1 : Int32} {z : ow_MS} {Q : (Int32 × ow_MS) → Prop} (H : Tt (fun K k => qm_X13_find_2_a K (q_X13_find_a K k) x1 x3 x4 x5 r2 t0 t1 z) Q) : Tt (fun K k => q_X13_find_a K k 2 x1 x3 x4 x5 r2 t0 t1 z) Q := w_un (fun _ _ => rfl) H
theorem u_X13_find_a_3 {x1 : Int32} {x3 : Int32} {x4 : Int32} {x5 : Int32} {r2 : Nat} {t0 : Int32} {t1 : Int32} {z : ow_MS} {Q : (Int32 × ow_MS) → Prop} (H : Tt (fun K k => qm_X13_find_3_a K (q_X13_find_a K k) x1 x3 x4 x5 r2 t0 t1 z) Q) : Tt (fun K k => q_X13_find_a K k 3 x1 x3 x4 x5 r2 t0 t1 z) Q := w_un (fun _ _ => rfl) H
theorem u_X13_find_a_1 {x1 : Int32} {x3 : Int32} {x4 : Int32} {x5 : Int32} {r2 : Nat} {t0 : Int32} {t1 : Int32} {z : ow_MS} {Q : (Int32 × ow_MS) → Prop} (H : Tt (fun K k => qm_X13_find_1_a K (q_X13_find_a K k) x1 x3 x4 x5 r2 t0 t1 z) Q) : Tt (fun K k => q_X13_find_a K k 1 x1 x3 x4 x5 r2 t0 t1 z) Q := w_un (fun _ _ => rfl) H
theorem e_X13_find_a {x1 : Int32} {r2 : Nat} {z : ow_MS} {Q : (Int32 × ow_MS) → Prop} (H : Tt (fun K k => q_X13_find_a K k 0 x1 0 0 0 r2 0 0 z) Q) : Te (fun K => qe_X13_find_a K x1 r2 z) Q := w_te H
theorem u_X13_find_a_0 {x1 : Int32} {x3 : Int32} {x4 : Int32} {x5 : Int32} {r2 : Nat} {t0 : Int32} {t1 : Int32} {z : ow_MS} {Q : (Int32 × ow_MS) → Prop} (H : Tt (fun K k => qm_X13_find_0_a K (q_X13_find_a K k) x1 x3 x4 x5 r2 t0 t1 z) Q) : Tt (fun K k => q_X13_find_a K k 0 x1 x3 x4 x5 r2 t0 t1 z) Q := w_un (fun _ _ => rfl) H
theorem tp_find_a {y : ow_MS} {n c to : Nat} (h2 : 2 ≤ n) (h5 : n ≤ 5) (hE : eN n c y) (hc : c ≤ gNN n) (ht : to < gNN n) (hr : ∀ s, s < n → y.2.1 106 s = nI (enG n to s)) : Te (fun K => qe_X13_find_a K (nI n) 106 y) (fun r => r.1 = (if to < c then nI to else -1) ∧ r.2 = y) := by
  have hN := nn_pos (n := n)
  let Q : Int32 × ow_MS → Prop := fun r => r.1 = (if to < c then nI to else -1) ∧ r.2 = y
  have enb : ∀ k s, enG n k s < 8 := fun k s => Nat.mod_lt _ (by decide)
  have c2 : ∀ k, k < c → (k = to → Tt (fun _ _ => some (nI k, y)) Q) → (k ≠ to → Tt (fun K t => q_X13_find_a K t 1 (nI n) (nI (k + 1)) 0 0 106 0 0 y) Q) → ∀ (d s : Nat) (x4 : Int32), s + d = n → (x4 = 1 ∧ (∀ s', s' < s → enG n k s' = enG n to s') ∨ x4 = 0 ∧ ∃ s', s' < n ∧ enG n k s' ≠ enG n to s') → Tt (fun K t => q_X13_find_a K t 2 (nI n) (nI k) x4 (nI s) 106 0 0 y) Q := by
    intro k hk kT kF d
    induction d with
    | zero =>
      intro s x4 hs hx
      have hs : s = n := by omega
      subst hs
      refine u_X13_find_a_2 ?_; unfold qm_X13_find_2_a
      rw [nI_1]
      refine w_leT (by omega) (by omega) ?_
      rcases hx with ⟨rfl, h⟩ | ⟨rfl, s', h1, h3⟩
      · refine w_ifF (by decide) (kT ?_)
        refine Decidable.byContradiction fun h9 => ?_
        obtain ⟨s', a, b⟩ := hh8 h2 h5 (show k < gNN s by omega) ht h9
        exact b (h s' a)
      · refine w_ifT rfl (kF ?_)
        rintro rfl
        exact h3 rfl
    | succ d ih =>
      intro s x4 hs hx
      have e1 := hE.2 k hk s (by omega)
      have e2 := hr s (by omega)
      have b1 := enb k s
      have b2 := enb to s
      have k3 : ∀ (t0 : Int32), (t0 = 1 ∧ enG n k s = enG n to s ∨ t0 = 0 ∧ enG n k s ≠ enG n to s) → Tt (fun K t => q_X13_find_a K t 3 (nI n) (nI k) x4 (nI s) 106 t0 x4 y) Q := by
        intro t0 h0
        refine u_X13_find_a_3 ?_; unfold qm_X13_find_3_a
        rw [nI_1]
        refine ih (s + 1) _ (by omega) ?_
        rcases hx with ⟨rfl, h⟩ | ⟨rfl, h⟩
        · rcases h0 with ⟨rfl, h0⟩ | ⟨rfl, h0⟩
          · refine Or.inl ⟨by decide, fun s' hs' => ?_⟩
            by_cases e : s' = s
            · rw [e]
              exact h0
            · exact h s' (by omega)
          · exact Or.inr ⟨by decide, s, by omega, h0⟩
        · rcases h0 with ⟨rfl, h0⟩ | ⟨rfl, h0⟩
          · exact Or.inr ⟨by decide, h⟩
          · exact Or.inr ⟨by decide, h⟩
      refine u_X13_find_a_2 ?_; unfold qm_X13_find_2_a
      rw [ix5]
      refine w_leF (by omega) (by omega) (w_rdI ma98 rfl (by omega) e1 (w_rdI ma106 rfl (by omega) e2 ?_))
      exact w_eqN (by omega) (by omega) (fun h9 => k3 1 (Or.inl ⟨rfl, h9⟩)) (fun h9 => k3 0 (Or.inr ⟨rfl, h9⟩))
  have c1 : ∀ (d k : Nat), k + d = c → k ≤ to → Tt (fun K t => q_X13_find_a K t 1 (nI n) (nI k) 0 0 106 0 0 y) Q := by
    intro d
    induction d with
    | zero =>
      intro k hk hto
      refine u_X13_find_a_1 ?_; unfold qm_X13_find_1_a
      refine w_rdI ma97 rfl (by omega) hE.1 (w_leT (by omega) (by omega) (w_some ⟨?_, rfl⟩))
      rw [if_neg (by omega)]
    | succ d ih =>
      intro k hk hto
      refine u_X13_find_a_1 ?_; unfold qm_X13_find_1_a
      refine w_rdI ma97 rfl (by omega) hE.1 (w_leF (by omega) (by omega) (c2 k (by omega) (fun e => ?_) (fun e => ih (k + 1) (by omega) (by omega)) n 0 1 (by omega) (Or.inl ⟨rfl, fun s' h => by omega⟩)))
      refine w_some ⟨?_, rfl⟩
      rw [if_pos (by omega), e]
  refine e_X13_find_a ?_
  refine u_X13_find_a_0 ?_; unfold qm_X13_find_0_a
  exact c1 c 0 (by omega) (by omega)
def lpI (n k v : Nat) (x : Int32) : Nat → Int32
  | 0 => x
  | s + 1 => if enG n k s = v then nI s else lpI n k v x s
theorem lpI_eq {n k v : Nat} {x : Int32} : ∀ d, (∃ b, b < d ∧ enG n k b = v) → lpI n k v x d = nI (lpN n k v d)
  | 0, h => by
    obtain ⟨b, hb, _⟩ := h
    omega
  | d + 1, h => by
    show (if enG n k d = v then nI d else lpI n k v x d) = nI (if enG n k d = v then d else lpN n k v d)
    by_cases e : enG n k d = v
    · rw [if_pos e, if_pos e]
    · rw [if_neg e, if_neg e]
      refine lpI_eq d ?_
      obtain ⟨b, hb, h⟩ := h
      refine ⟨b, ?_, h⟩
      by_cases e2 : b = d
      · subst e2
        exact absurd h e
      · omega
theorem eN_fr {P : Nat → Prop} {n c : Nat} {y y1 : ow_MS} (hf : fr P y y1) (h1 : ¬ P 97) (h2 : ¬ P 98) (h : eN n c y) : eN n c y1 := by
  refine ⟨by rw [(hf 97 h1).2.1]; exact h.1, fun k hk s hs => ?_⟩
  rw [(hf 98 h2).2.1]
  exact h.2 k hk s hs
def pTu (g : Nat) : Prop := g = 102 ∨ g = 103 ∨ g = 106
def tT (n k : Nat) (y : ow_MS) : Prop := ∀ l, l < k → y.2.1 102 (120 * n + l) = nI (ahG n l) ∧ y.2.1 103 (120 * n + l) = nI (ovG n l)
theorem u_X13_makeTurned_a_1 {x1 : Int32} {x2 : Int32} {x3 : Int32} {x4 : Int32} {x5 : Int32} {z : ow_MS} {Q : ow_MS → Prop} (H : Tt (fun K k => qm_X13_makeTurned_1_a K (q_X13_makeTurned_a K k) x1 x2 x3 x4 x5 z) Q) : Tt (fun K k => q_X13_makeTurned_a K k 1 x1 x2 x3 x4 x5 z) Q := w_un (fun _ _ => rfl) H
theorem u_X13_makeTurned_a_5 {x1 : Int32} {x2 : Int32} {x3 : Int32} {x4 : Int32} {x5 : Int32} {z : ow_MS} {Q : ow_MS → Prop} (H : Tt (fun K k => qm_X13_makeTurned_5_a K (q_X13_makeTurned_a K k) x1 x2 x3 x4 x5 z) Q) : Tt (fun K k => q_X13_makeTurned_a K k 5 x1 x2 x3 x4 x5 z) Q := w_un (fun _ _ => rfl) H
theorem u_X13_makeTurned_a_2 {x1 : Int32} {x2 : Int32} {x3 : Int32} {x4 : Int32} {x5 : Int32} {z : ow_MS} {Q : ow_MS → Prop} (H : Tt (fun K k => qm_X13_makeTurned_2_a K (q_X13_makeTurned_a K k) x1 x2 x3 x4 x5 z) Q) : Tt (fun K k => q_X13_makeTurned_a K k 2 x1 x2 x3 x4 x5 z) Q := w_un (fun _ _ => rfl) H
theorem u_X13_makeTurned_a_3 {x1 : Int32} {x2 : Int32} {x3 : Int32} {x4 : Int32} {x5 : Int32} {z : ow_MS} {Q : ow_MS → Prop} (H : Tt (fun K k => qm_X13_makeTurned_3_a K (q_X13_makeTurned_a K k) x1 x2 x3 x4 x5 z) Q) : Tt (fun K k => q_X13_makeTurned_a K k 3 x1 x2 x3 x4 x5 z) Q := w_un (fun _ _ => rfl) H
theorem u_X13_makeTurned_a_4 {x1 : Int32} {x2 : Int32} {x3 : Int32} {x4 : Int32} {x5 : Int32} {z : ow_MS} {Q : ow_MS → Prop} (H : Tt (fun K k => qm_X13_makeTurned_4_a K (q_X13_makeTurned_a K k) x1 x2 x3 x4 x5 z) Q) : Tt (fun K k => q_X13_makeTurned_a K k 4 x1 x2 x3 x4 x5 z) Q := w_un (fun _ _ => rfl) H
theorem e_X13_makeTurned_a {x1 : Int32} {z : ow_MS} {Q : ow_MS → Prop} (H : Tt (fun K k => q_X13_makeTurned_a K k 0 x1 0 0 0 0 z) Q) : Te (fun K => qe_X13_makeTurned_a K x1 z) Q := w_te H
theorem u_X13_makeTurned_a_0 {x1 : Int32} {x2 : Int32} {x3 : Int32} {x4 : Int32} {x5 : Int32} {z : ow_MS} {Q : ow_MS → Prop} (H : Tt (fun K k => qm_X13_makeTurned_0_a K (q_X13_makeTurned_a K k) x1 x2 x3 x4 x5 z) Q) : Tt (fun K k => q_X13_makeTurned_a K k 0 x1 x2 x3 x4 x5 z) Q := w_un (fun _ _ => rfl) H
theorem tp_makeTurned_a {z : ow_MS} {n : Nat} (h2 : 2 ≤ n) (h5 : n ≤ 5) (hz : eN n (gNN n) z) : Te (fun K => qe_X13_makeTurned_a K (nI n) z) (fun z1 => tT n (gNN n) z1 ∧ fB pTu n z z1) := by
  have hN := nn_pos (n := n)
  let Q : ow_MS → Prop := fun z1 => tT n (gNN n) z1 ∧ fB pTu n z z1
  have enb : ∀ k s, enG n k s < 8 := fun k s => Nat.mod_lt _ (by decide)
  have eNy : ∀ {y : ow_MS}, fB pTu n z y → eN n (gNN n) y := fun hf => eN_fr hf.1 (fun h => by unfold pTu at h; omega) (fun h => by unfold pTu at h; omega) hz
  have c1 : ∀ (d k : Nat) (y : ow_MS), k + d = gNN n → tT n k y → fB pTu n z y → Tt (fun K t => q_X13_makeTurned_a K t 1 (nI n) (nI k) 0 0 0 y) Q := by
    intro d
    induction d with
    | zero =>
      intro k y hk hT hf
      have e : k = gNN n := by omega
      subst e
      refine u_X13_makeTurned_a_1 ?_; unfold qm_X13_makeTurned_1_a
      exact w_rdI ma97 rfl (by omega) (eNy hf).1 (w_leT (by omega) (by omega) (w_some ⟨hT, hf⟩))
    | succ d ih =>
      intro k y hk hT hf
      have hkN : k < gNN n := by omega
      obtain ⟨_, _, s3, s4, _, s6⟩ := hh7 h2 h5 hkN
      obtain ⟨_, a1, a2, _⟩ := f_one h2 h5 hkN
      have c5 : ∀ (dd a : Nat) (y : ow_MS), a + dd = n → tT n k y → y.2.1 102 (120 * n + k) = nI (ahG n k) → fB pTu n z y → (∀ s, s < a → y.2.1 106 s = nI (enG n (ovG n k) s)) → Tt (fun K t => q_X13_makeTurned_a K t 5 (nI n) (nI k) (nI (120 * n + k)) (nI a) 0 y) Q := by
        intro dd
        induction dd with
        | zero =>
          intro a y ha hT e102 hf hr
          refine u_X13_makeTurned_a_5 ?_; unfold qm_X13_makeTurned_5_a
          refine w_leT (by omega) (by omega) (w_cs1 (tp_find_a h2 h5 (eNy hf) (by omega) a2 (fun s hs => hr s (by omega))) ?_)
          rintro v y1 ⟨e1, e2⟩
          dsimp only at e1 e2
          subst e2
          rw [if_pos a2] at e1
          subst e1
          rw [nI_1]
          refine w_wrI ma103 rfl (by omega) (ih (k + 1) _ (by omega) (fun l hl => ?_) (fB_I2 hf (Or.inr (Or.inl rfl)) (by unfold inB; omega)))
          by_cases e : l = k
          · subst e
            exact ⟨rd_ot (by omega) e102, po_usI_at⟩
          · obtain ⟨t1, t2⟩ := hT l (by omega)
            exact ⟨rd_ot (by omega) t1, rd_ne (by omega) t2⟩
        | succ dd ihd =>
          intro a y ha hT e102 hf hr
          have e98 := (eNy hf).2 k hkN (n - 1 - a) (by omega)
          have hs4 := s4 a (by omega)
          refine u_X13_makeTurned_a_5 ?_; unfold qm_X13_makeTurned_5_a
          rw [show (5 : Int32) * nI (120 * n + k) + nI n - 1 - nI a = nI (5 * (120 * n + k) + (n - 1 - a)) from by
            rw [show (5 : Int32) * nI (120 * n + k) = nI (5 * (120 * n + k)) from pk_mul 5 _, nI_add, show nI (5 * (120 * n + k) + n) - 1 = nI (5 * (120 * n + k) + n - 1) from pk_sub (b := 1) (by omega), show nI (5 * (120 * n + k) + n - 1) - nI a = nI (5 * (120 * n + k) + n - 1 - a) from pk_sub (by omega)]
            congr 1
            omega]
          refine w_leF (by omega) (by omega) (w_rdI ma98 rfl (by omega) e98 ?_)
          rw [show nI n - 1 = nI (n - 1) from pk_sub (b := 1) (by omega), show nI (n - 1) - nI (enG n k (n - 1 - a)) = nI (n - 1 - enG n k (n - 1 - a)) from pk_sub (by omega), nI_1]
          refine w_wrI ma106 rfl (by omega) (ihd (a + 1) _ (by omega) (fun l hl => ?_) (rd_ot (by omega) e102) (fB_I2 hf (Or.inr (Or.inr rfl)) (Or.inl rfl)) (fun s hs => ?_))
          · obtain ⟨t1, t2⟩ := hT l (by omega)
            exact ⟨rd_ot (by omega) t1, rd_ot (by omega) t2⟩
          · by_cases e : s = a
            · subst e
              rw [show enG n (ovG n k) s = n - 1 - enG n k (n - 1 - s) by omega]
              exact po_usI_at
            · exact rd_ne e (hr s (by omega))
      have c2 : ∀ (dd a : Nat) (y : ow_MS), a + dd = n → tT n k y → fB pTu n z y → (∀ s, s < a → y.2.1 106 s = nI (enG n (ahG n k) s)) → Tt (fun K t => q_X13_makeTurned_a K t 2 (nI n) (nI k) (nI (120 * n + k)) (nI a) 0 y) Q := by
        intro dd
        induction dd with
        | zero =>
          intro a y ha hT hf hr
          refine u_X13_makeTurned_a_2 ?_; unfold qm_X13_makeTurned_2_a
          refine w_leT (by omega) (by omega) (w_cs1 (tp_find_a h2 h5 (eNy hf) (by omega) a1 (fun s hs => hr s (by omega))) ?_)
          rintro v y1 ⟨e1, e2⟩
          dsimp only at e1 e2
          subst e2
          rw [if_pos a1] at e1
          subst e1
          refine w_wrI ma102 rfl (by omega) (c5 n 0 _ (by omega) (fun l hl => ?_) po_usI_at (fB_I2 hf (Or.inl rfl) (by unfold inB; omega)) (fun s hs => by omega))
          obtain ⟨t1, t2⟩ := hT l hl
          exact ⟨rd_ne (by omega) t1, rd_ot (by omega) t2⟩
        | succ dd ihd =>
          intro a y ha hT hf hr
          have c3 : ∀ (e b : Nat) (y : ow_MS), b + e = n → tT n k y → fB pTu n z y → (∀ s, s < a → y.2.1 106 s = nI (enG n (ahG n k) s)) → (∃ x, y.2.1 106 a = lpI n k (n - 1 - a) x b) → Tt (fun K t => q_X13_makeTurned_a K t 3 (nI n) (nI k) (nI (120 * n + k)) (nI a) (nI b) y) Q := by
            intro e
            induction e with
            | zero =>
              intro b y hb hT hf hr hx
              have eb : b = n := by omega
              subst eb
              obtain ⟨x, hx⟩ := hx
              obtain ⟨q1, q2⟩ := s3 a (by omega)
              refine u_X13_makeTurned_a_3 ?_; unfold qm_X13_makeTurned_3_a
              rw [nI_1]
              refine w_leT (by omega) (by omega) (ihd (a + 1) y (by omega) hT hf (fun s hs => ?_))
              by_cases e : s = a
              · subst e
                rw [hx, q1]
                exact lpI_eq _ q2
              · exact hr s (by omega)
            | succ e ihe =>
              intro b y hb hT hf hr hx
              have e98 := (eNy hf).2 k hkN b (by omega)
              have := enb k b
              have k4 : ∀ y : ow_MS, tT n k y → fB pTu n z y → (∀ s, s < a → y.2.1 106 s = nI (enG n (ahG n k) s)) → (∃ x, y.2.1 106 a = lpI n k (n - 1 - a) x (b + 1)) → Tt (fun K t => q_X13_makeTurned_a K t 4 (nI n) (nI k) (nI (120 * n + k)) (nI a) (nI b) y) Q := by
                intro y hT hf hr hx
                refine u_X13_makeTurned_a_4 ?_; unfold qm_X13_makeTurned_4_a
                rw [nI_1]
                exact ihe (b + 1) y (by omega) hT hf hr hx
              obtain ⟨x, hx⟩ := hx
              refine u_X13_makeTurned_a_3 ?_; unfold qm_X13_makeTurned_3_a
              rw [show (5 : Int32) * nI (120 * n + k) + nI b = nI (5 * (120 * n + k) + b) from by rw [show (5 : Int32) * nI (120 * n + k) = nI (5 * (120 * n + k)) from pk_mul 5 _, nI_add], show nI n - 1 = nI (n - 1) from pk_sub (b := 1) (by omega), show nI (n - 1) - nI a = nI (n - 1 - a) from pk_sub (by omega)]
              refine w_leF (by omega) (by omega) (w_rdI ma98 rfl (by omega) e98 (w_eqN (by omega) (by omega) (fun h9 => ?_) (fun h9 => ?_)))
              · refine w_wrI ma106 rfl (by omega) (k4 _ (fun l hl => ?_) (fB_I2 hf (Or.inr (Or.inr rfl)) (Or.inl rfl)) (fun s hs => rd_ne (by omega) (hr s hs)) ⟨0, ?_⟩)
                · obtain ⟨t1, t2⟩ := hT l (by omega)
                  exact ⟨rd_ot (by omega) t1, rd_ot (by omega) t2⟩
                · show _ = if enG n k b = n - 1 - a then nI b else _
                  rw [if_pos h9]
                  exact po_usI_at
              · refine k4 y hT hf hr ⟨x, ?_⟩
                show _ = if enG n k b = n - 1 - a then nI b else _
                rw [if_neg h9]
                exact hx
          refine u_X13_makeTurned_a_2 ?_; unfold qm_X13_makeTurned_2_a
          exact w_leF (by omega) (by omega) (c3 n 0 y (by omega) hT hf hr ⟨_, rfl⟩)
      refine u_X13_makeTurned_a_1 ?_; unfold qm_X13_makeTurned_1_a
      rw [ix120]
      exact w_rdI ma97 rfl (by omega) (eNy hf).1 (w_leF (by omega) (by omega) (c2 n 0 y (by omega) hT hf (fun s hs => by omega)))
  refine e_X13_makeTurned_a ?_
  refine u_X13_makeTurned_a_0 ?_; unfold qm_X13_makeTurned_0_a
  exact c1 (gNN n) 0 z (by omega) (fun l hl => by omega) fB_rf
