section
/-! 99zzzzh.find -/
/-! find, makeTurned: the reference's constructor -/
/-- what belongs to the simples of n strands -/
def inB (n g i : Nat) : Prop := g = 106 ∨ g = 107 ∨ g = 97 ∧ i = n ∨ g = 98 ∧ 600 * n ≤ i ∧ i < 600 * n + 600 ∨ g = 99 ∧ 1200 * n ≤ i ∧ i < 1200 * n + 1200 ∨ (g = 100 ∨ g = 102 ∨ g = 103) ∧ 120 * n ≤ i ∧ i < 120 * n + 120 ∨ (g = 101 ∨ g = 104 ∨ g = 105) ∧ 480 * n ≤ i ∧ i < 480 * n + 480
def fB (P : Nat → Prop) (n : Nat) (z z1 : ow_MS) : Prop := fr P z z1 ∧ ∀ g i, ¬ inB n g i → z1.2.1 g i = z.2.1 g i
theorem fB_rf {P : Nat → Prop} {n : Nat} {z : ow_MS} : fB P n z z := ⟨fr_rf, fun _ _ _ => rfl⟩
theorem fB_tr {P : Nat → Prop} {n : Nat} {z z1 z2 : ow_MS} (h1 : fB P n z z1) (h2 : fB P n z1 z2) : fB P n z z2 := ⟨fr_tr h1.1 h2.1, fun g i h => (h2.2 g i h).trans (h1.2 g i h)⟩
theorem fB_I2 {P : Nat → Prop} {n g i : Nat} {x : Int32} {z z1 : ow_MS} (h1 : fB P n z z1) (hp : P g) (hb : inB n g i) : fB P n z (usI z1 g i x) := by
  refine ⟨fr_I2 h1.1 hp, fun g' i' h => ?_⟩
  by_cases hg : g' = g
  · subst hg
    by_cases hi : i' = i
    · subst hi
      exact absurd hb h
    · exact rd_ne hi (h1.2 _ _ h)
  · exact rd_ot hg (h1.2 _ _ h)
theorem fB_mono {P R : Nat → Prop} {n : Nat} {z z1 : ow_MS} (h : fB P n z z1) (hP : ∀ g, P g → R g) : fB R n z z1 := ⟨fr_mono hP h.1, h.2⟩
theorem ix5 {n k s : Nat} : (5 : Int32) * (120 * nI n + nI k) + nI s = nI (5 * (120 * n + k) + s) := by
  rw [ix120, show (5 : Int32) * nI (120 * n + k) = nI (5 * (120 * n + k)) from pk_mul 5 _, nI_add]
/-- the ends of the first c simples -/
def eN (n c : Nat) (y : ow_MS) : Prop := y.2.1 97 n = nI c ∧ ∀ k, k < c → ∀ s, s < n → y.2.1 98 (5 * (120 * n + k) + s) = nI (enG n k s)
theorem u_X13_find_a_2 {x1 : Int32} {x3 : Int32} {x4 : Int32} {x5 : Int32} {r2 : Nat} {t0 : Int32} {t1 : Int32} {z : ow_MS} {Q : (Int32 × ow_MS) → Prop} (H : Tt (fun K k => qm_X13_find_2_a K (q_X13_find_a K k) x1 x3 x4 x5 r2 t0 t1 z) Q) : Tt (fun K k => q_X13_find_a K k 2 x1 x3 x4 x5 r2 t0 t1 z) Q := w_un (fun _ _ => rfl) H
theorem u_X13_find_a_3 {x1 : Int32} {x3 : Int32} {x4 : Int32} {x5 : Int32} {r2 : Nat} {t0 : Int32} {t1 : Int32} {z : ow_MS} {Q : (Int32 × ow_MS) → Prop} (H : Tt (fun K k => qm_X13_find_3_a K (q_X13_find_a K k) x1 x3 x4 x5 r2 t0 t1 z) Q) : Tt (fun K k => q_X13_find_a K k 3 x1 x3 x4 x5 r2 t0 t1 z) Q := w_un (fun _ _ => rfl) H
theorem u_X13_find_a_1 {x1 : Int32} {x3 : Int32} {x4 : Int32} {x5 : Int32} {r2 : Nat} {t0 : Int32} {t1 : Int32} {z : ow_MS} {Q : (Int32 × ow_MS) → Prop} (H : Tt (fun K k => qm_X13_find_1_a K (q_X13_find_a K k) x1 x3 x4 x5 r2 t0 t1 z) Q) : Tt (fun K k => q_X13_find_a K k 1 x1 x3 x4 x5 r2 t0 t1 z) Q := w_un (fun _ _ => rfl) H
theorem e_X13_find_a {x1 : Int32} {r2 : Nat} {z : ow_MS} {Q : (Int32 × ow_MS) → Prop} (H : Tt (fun K k => q_X13_find_a K k 0 x1 0 0 0 r2 0 0 z) Q) : Te (fun K => qe_X13_find_a K x1 r2 z) Q := w_te H
theorem u_X13_find_a_0 {x1 : Int32} {x3 : Int32} {x4 : Int32} {x5 : Int32} {r2 : Nat} {t0 : Int32} {t1 : Int32} {z : ow_MS} {Q : (Int32 × ow_MS) → Prop} (H : Tt (fun K k => qm_X13_find_0_a K (q_X13_find_a K k) x1 x3 x4 x5 r2 t0 t1 z) Q) : Tt (fun K k => q_X13_find_a K k 0 x1 x3 x4 x5 r2 t0 t1 z) Q := w_un (fun _ _ => rfl) H
theorem tp_find_a {y : ow_MS} {n c to : Nat} (h2 : 2 ≤ n) (h5 : n ≤ 5) (hE : eN n c y) (hc : c ≤ gNN n) (ht : to < gNN n) (hr : ∀ s, s < n → y.2.1 106 s = nI (enG n to s)) : Te (fun K => qe_X13_find_a K (nI n) 106 y) (fun r => r.1 = (if to < c then nI to else -1) ∧ r.2 = y) := by
  have hN := nn_pos (n := n)
  let Q : Int32 × ow_MS → Prop := fun r => r.1 = (if to < c then nI to else -1) ∧ r.2 = y
  have enb : ∀ k s, enG n k s < 8 := fun k s => Nat.mod_lt _ (by decide)
  have c2 : ∀ k, k < c → (k = to → Tt (fun _ _ => some (nI k, y)) Q) → (k ≠ to → Tt (fun K t => q_X13_find_a K t 1 (nI n) (nI (k + 1)) 0 0 106 0 0 y) Q) → ∀ (d s : Nat) (x4 : Int32), s + d = n → (x4 = 1 ∧ (∀ s', s' < s → enG n k s' = enG n to s') ∨ x4 = 0 ∧ ∃ s', s' < n ∧ enG n k s' ≠ enG n to s') → Tt (fun K t => q_X13_find_a K t 2 (nI n) (nI k) x4 (nI s) 106 0 0 y) Q := by
    intro k hk kT kF d
    induction d with
    | zero =>
      intro s x4 hs hx
      have hs : s = n := by omega
      subst hs
      refine u_X13_find_a_2 ?_; unfold qm_X13_find_2_a
      rw [nI_1]
      refine w_leT (by omega) (by omega) ?_
      rcases hx with ⟨rfl, h⟩ | ⟨rfl, s', h1, h3⟩
      · refine w_ifF (by decide) (kT ?_)
        refine Decidable.byContradiction fun h9 => ?_
        obtain ⟨s', a, b⟩ := hh8 h2 h5 (show k < gNN s by omega) ht h9
        exact b (h s' a)
      · refine w_ifT rfl (kF ?_)
        rintro rfl
        exact h3 rfl
    | succ d ih =>
      intro s x4 hs hx
      have e1 := hE.2 k hk s (by omega)
      have e2 := hr s (by omega)
      have b1 := enb k s
      have b2 := enb to s
      have k3 : ∀ (t0 : Int32), (t0 = 1 ∧ enG n k s = enG n to s ∨ t0 = 0 ∧ enG n k s ≠ enG n to s) → Tt (fun K t => q_X13_find_a K t 3 (nI n) (nI k) x4 (nI s) 106 t0 x4 y) Q := by
        intro t0 h0
        refine u_X13_find_a_3 ?_; unfold qm_X13_find_3_a
        rw [nI_1]
        refine ih (s + 1) _ (by omega) ?_
        rcases hx with ⟨rfl, h⟩ | ⟨rfl, h⟩
        · rcases h0 with ⟨rfl, h0⟩ | ⟨rfl, h0⟩
          · refine Or.inl ⟨by decide, fun s' hs' => ?_⟩
            by_cases e : s' = s
            · rw [e]
              exact h0
            · exact h s' (by omega)
          · exact Or.inr ⟨by decide, s, by omega, h0⟩
        · rcases h0 with ⟨rfl, h0⟩ | ⟨rfl, h0⟩
          · exact Or.inr ⟨by decide, h⟩
          · exact Or.inr ⟨by decide, h⟩
      refine u_X13_find_a_2 ?_; unfold qm_X13_find_2_a
      rw [ix5]
      refine w_leF (by omega) (by omega) (w_rdI ma98 rfl (by omega) e1 (w_rdI ma106 rfl (by omega) e2 ?_))
      exact w_eqN (by omega) (by omega) (fun h9 => k3 1 (Or.inl ⟨rfl, h9⟩)) (fun h9 => k3 0 (Or.inr ⟨rfl, h9⟩))
  have c1 : ∀ (d k : Nat), k + d = c → k ≤ to → Tt (fun K t => q_X13_find_a K t 1 (nI n) (nI k) 0 0 106 0 0 y) Q := by
    intro d
    induction d with
    | zero =>
      intro k hk hto
      refine u_X13_find_a_1 ?_; unfold qm_X13_find_1_a
      refine w_rdI ma97 rfl (by omega) hE.1 (w_leT (by omega) (by omega) (w_some ⟨?_, rfl⟩))
      rw [if_neg (by omega)]
    | succ d ih =>
      intro k hk hto
      refine u_X13_find_a_1 ?_; unfold qm_X13_find_1_a
      refine w_rdI ma97 rfl (by omega) hE.1 (w_leF (by omega) (by omega) (c2 k (by omega) (fun e => ?_) (fun e => ih (k + 1) (by omega) (by omega)) n 0 1 (by omega) (Or.inl ⟨rfl, fun s' h => by omega⟩)))
      refine w_some ⟨?_, rfl⟩
      rw [if_pos (by omega), e]
  refine e_X13_find_a ?_
  refine u_X13_find_a_0 ?_; unfold qm_X13_find_0_a
  exact c1 c 0 (by omega) (by omega)
def lpI (n k v : Nat) (x : Int32) : Nat → Int32
  | 0 => x
  | s + 1 => if enG n k s = v then nI s else lpI n k v x s
theorem lpI_eq {n k v : Nat} {x : Int32} : ∀ d, (∃ b, b < d ∧ enG n k b = v) → lpI n k v x d = nI (lpN n k v d)
  | 0, h => by
    obtain ⟨b, hb, _⟩ := h
    omega
  | d + 1, h => by
    show (if enG n k d = v then nI d else lpI n k v x d) = nI (if enG n k d = v then d else lpN n k v d)
    by_cases e : enG n k d = v
    · rw [if_pos e, if_pos e]
    · rw [if_neg e, if_neg e]
      refine lpI_eq d ?_
      obtain ⟨b, hb, h⟩ := h
      refine ⟨b, ?_, h⟩
      by_cases e2 : b = d
      · subst e2
        exact absurd h e
      · omega
theorem eN_fr {P : Nat → Prop} {n c : Nat} {y y1 : ow_MS} (hf : fr P y y1) (h1 : ¬ P 97) (h2 : ¬ P 98) (h : eN n c y) : eN n c y1 := by
  refine ⟨by rw [(hf 97 h1).2.1]; exact h.1, fun k hk s hs => ?_⟩
  rw [(hf 98 h2).2.1]
  exact h.2 k hk s hs
def pTu (g : Nat) : Prop := g = 102 ∨ g = 103 ∨ g = 106
def tT (n k : Nat) (y : ow_MS) : Prop := ∀ l, l < k → y.2.1 102 (120 * n + l) = nI (ahG n l) ∧ y.2.1 103 (120 * n + l) = nI (ovG n l)
theorem u_X13_makeTurned_a_1 {x1 : Int32} {x2 : Int32} {x3 : Int32} {x4 : Int32} {x5 : Int32} {z : ow_MS} {Q : ow_MS → Prop} (H : Tt (fun K k => qm_X13_makeTurned_1_a K (q_X13_makeTurned_a K k) x1 x2 x3 x4 x5 z) Q) : Tt (fun K k => q_X13_makeTurned_a K k 1 x1 x2 x3 x4 x5 z) Q := w_un (fun _ _ => rfl) H
theorem u_X13_makeTurned_a_5 {x1 : Int32} {x2 : Int32} {x3 : Int32} {x4 : Int32} {x5 : Int32} {z : ow_MS} {Q : ow_MS → Prop} (H : Tt (fun K k => qm_X13_makeTurned_5_a K (q_X13_makeTurned_a K k) x1 x2 x3 x4 x5 z) Q) : Tt (fun K k => q_X13_makeTurned_a K k 5 x1 x2 x3 x4 x5 z) Q := w_un (fun _ _ => rfl) H
theorem u_X13_makeTurned_a_2 {x1 : Int32} {x2 : Int32} {x3 : Int32} {x4 : Int32} {x5 : Int32} {z : ow_MS} {Q : ow_MS → Prop} (H : Tt (fun K k => qm_X13_makeTurned_2_a K (q_X13_makeTurned_a K k) x1 x2 x3 x4 x5 z) Q) : Tt (fun K k => q_X13_makeTurned_a K k 2 x1 x2 x3 x4 x5 z) Q := w_un (fun _ _ => rfl) H
theorem u_X13_makeTurned_a_3 {x1 : Int32} {x2 : Int32} {x3 : Int32} {x4 : Int32} {x5 : Int32} {z : ow_MS} {Q : ow_MS → Prop} (H : Tt (fun K k => qm_X13_makeTurned_3_a K (q_X13_makeTurned_a K k) x1 x2 x3 x4 x5 z) Q) : Tt (fun K k => q_X13_makeTurned_a K k 3 x1 x2 x3 x4 x5 z) Q := w_un (fun _ _ => rfl) H
theorem u_X13_makeTurned_a_4 {x1 : Int32} {x2 : Int32} {x3 : Int32} {x4 : Int32} {x5 : Int32} {z : ow_MS} {Q : ow_MS → Prop} (H : Tt (fun K k => qm_X13_makeTurned_4_a K (q_X13_makeTurned_a K k) x1 x2 x3 x4 x5 z) Q) : Tt (fun K k => q_X13_makeTurned_a K k 4 x1 x2 x3 x4 x5 z) Q := w_un (fun _ _ => rfl) H
theorem e_X13_makeTurned_a {x1 : Int32} {z : ow_MS} {Q : ow_MS → Prop} (H : Tt (fun K k => q_X13_makeTurned_a K k 0 x1 0 0 0 0 z) Q) : Te (fun K => qe_X13_makeTurned_a K x1 z) Q := w_te H
theorem u_X13_makeTurned_a_0 {x1 : Int32} {x2 : Int32} {x3 : Int32} {x4 : Int32} {x5 : Int32} {z : ow_MS} {Q : ow_MS → Prop} (H : Tt (fun K k => qm_X13_makeTurned_0_a K (q_X13_makeTurned_a K k) x1 x2 x3 x4 x5 z) Q) : Tt (fun K k => q_X13_makeTurned_a K k 0 x1 x2 x3 x4 x5 z) Q := w_un (fun _ _ => rfl) H
theorem tp_makeTurned_a {z : ow_MS} {n : Nat} (h2 : 2 ≤ n) (h5 : n ≤ 5) (hz : eN n (gNN n) z) : Te (fun K => qe_X13_makeTurned_a K (nI n) z) (fun z1 => tT n (gNN n) z1 ∧ fB pTu n z z1) := by
  have hN := nn_pos (n := n)
  let Q : ow_MS → Prop := fun z1 => tT n (gNN n) z1 ∧ fB pTu n z z1
  have enb : ∀ k s, enG n k s < 8 := fun k s => Nat.mod_lt _ (by decide)
  have eNy : ∀ {y : ow_MS}, fB pTu n z y → eN n (gNN n) y := fun hf => eN_fr hf.1 (fun h => by unfold pTu at h; omega) (fun h => by unfold pTu at h; omega) hz
  have c1 : ∀ (d k : Nat) (y : ow_MS), k + d = gNN n → tT n k y → fB pTu n z y → Tt (fun K t => q_X13_makeTurned_a K t 1 (nI n) (nI k) 0 0 0 y) Q := by
    intro d
    induction d with
    | zero =>
      intro k y hk hT hf
      have e : k = gNN n := by omega
      subst e
      refine u_X13_makeTurned_a_1 ?_; unfold qm_X13_makeTurned_1_a
      exact w_rdI ma97 rfl (by omega) (eNy hf).1 (w_leT (by omega) (by omega) (w_some ⟨hT, hf⟩))
    | succ d ih =>
      intro k y hk hT hf
      have hkN : k < gNN n := by omega
      obtain ⟨_, _, s3, s4, _, s6⟩ := hh7 h2 h5 hkN
      obtain ⟨_, a1, a2, _⟩ := f_one h2 h5 hkN
      have c5 : ∀ (dd a : Nat) (y : ow_MS), a + dd = n → tT n k y → y.2.1 102 (120 * n + k) = nI (ahG n k) → fB pTu n z y → (∀ s, s < a → y.2.1 106 s = nI (enG n (ovG n k) s)) → Tt (fun K t => q_X13_makeTurned_a K t 5 (nI n) (nI k) (nI (120 * n + k)) (nI a) 0 y) Q := by
        intro dd
        induction dd with
        | zero =>
          intro a y ha hT e102 hf hr
          refine u_X13_makeTurned_a_5 ?_; unfold qm_X13_makeTurned_5_a
          refine w_leT (by omega) (by omega) (w_cs1 (tp_find_a h2 h5 (eNy hf) (by omega) a2 (fun s hs => hr s (by omega))) ?_)
          rintro v y1 ⟨e1, e2⟩
          dsimp only at e1 e2
          subst e2
          rw [if_pos a2] at e1
          subst e1
          rw [nI_1]
          refine w_wrI ma103 rfl (by omega) (ih (k + 1) _ (by omega) (fun l hl => ?_) (fB_I2 hf (Or.inr (Or.inl rfl)) (by unfold inB; omega)))
          by_cases e : l = k
          · subst e
            exact ⟨rd_ot (by omega) e102, po_usI_at⟩
          · obtain ⟨t1, t2⟩ := hT l (by omega)
            exact ⟨rd_ot (by omega) t1, rd_ne (by omega) t2⟩
        | succ dd ihd =>
          intro a y ha hT e102 hf hr
          have e98 := (eNy hf).2 k hkN (n - 1 - a) (by omega)
          have hs4 := s4 a (by omega)
          refine u_X13_makeTurned_a_5 ?_; unfold qm_X13_makeTurned_5_a
          rw [show (5 : Int32) * nI (120 * n + k) + nI n - 1 - nI a = nI (5 * (120 * n + k) + (n - 1 - a)) from by
            rw [show (5 : Int32) * nI (120 * n + k) = nI (5 * (120 * n + k)) from pk_mul 5 _, nI_add, show nI (5 * (120 * n + k) + n) - 1 = nI (5 * (120 * n + k) + n - 1) from pk_sub (b := 1) (by omega), show nI (5 * (120 * n + k) + n - 1) - nI a = nI (5 * (120 * n + k) + n - 1 - a) from pk_sub (by omega)]
            congr 1
            omega]
          refine w_leF (by omega) (by omega) (w_rdI ma98 rfl (by omega) e98 ?_)
          rw [show nI n - 1 = nI (n - 1) from pk_sub (b := 1) (by omega), show nI (n - 1) - nI (enG n k (n - 1 - a)) = nI (n - 1 - enG n k (n - 1 - a)) from pk_sub (by omega), nI_1]
          refine w_wrI ma106 rfl (by omega) (ihd (a + 1) _ (by omega) (fun l hl => ?_) (rd_ot (by omega) e102) (fB_I2 hf (Or.inr (Or.inr rfl)) (Or.inl rfl)) (fun s hs => ?_))
          · obtain ⟨t1, t2⟩ := hT l (by omega)
            exact ⟨rd_ot (by omega) t1, rd_ot (by omega) t2⟩
          · by_cases e : s = a
            · subst e
              rw [show enG n (ovG n k) s = n - 1 - enG n k (n - 1 - s) by omega]
              exact po_usI_at
            · exact rd_ne e (hr s (by omega))
      have c2 : ∀ (dd a : Nat) (y : ow_MS), a + dd = n → tT n k y → fB pTu n z y → (∀ s, s < a → y.2.1 106 s = nI (enG n (ahG n k) s)) → Tt (fun K t => q_X13_makeTurned_a K t 2 (nI n) (nI k) (nI (120 * n + k)) (nI a) 0 y) Q := by
        intro dd
        induction dd with
        | zero =>
          intro a y ha hT hf hr
          refine u_X13_makeTurned_a_2 ?_; unfold qm_X13_makeTurned_2_a
          refine w_leT (by omega) (by omega) (w_cs1 (tp_find_a h2 h5 (eNy hf) (by omega) a1 (fun s hs => hr s (by omega))) ?_)
          rintro v y1 ⟨e1, e2⟩
          dsimp only at e1 e2
          subst e2
          rw [if_pos a1] at e1
          subst e1
          refine w_wrI ma102 rfl (by omega) (c5 n 0 _ (by omega) (fun l hl => ?_) po_usI_at (fB_I2 hf (Or.inl rfl) (by unfold inB; omega)) (fun s hs => by omega))
          obtain ⟨t1, t2⟩ := hT l hl
          exact ⟨rd_ne (by omega) t1, rd_ot (by omega) t2⟩
        | succ dd ihd =>
          intro a y ha hT hf hr
          have c3 : ∀ (e b : Nat) (y : ow_MS), b + e = n → tT n k y → fB pTu n z y → (∀ s, s < a → y.2.1 106 s = nI (enG n (ahG n k) s)) → (∃ x, y.2.1 106 a = lpI n k (n - 1 - a) x b) → Tt (fun K t => q_X13_makeTurned_a K t 3 (nI n) (nI k) (nI (120 * n + k)) (nI a) (nI b) y) Q := by
            intro e
            induction e with
            | zero =>
              intro b y hb hT hf hr hx
              have eb : b = n := by omega
              subst eb
              obtain ⟨x, hx⟩ := hx
              obtain ⟨q1, q2⟩ := s3 a (by omega)
              refine u_X13_makeTurned_a_3 ?_; unfold qm_X13_makeTurned_3_a
              rw [nI_1]
              refine w_leT (by omega) (by omega) (ihd (a + 1) y (by omega) hT hf (fun s hs => ?_))
              by_cases e : s = a
              · subst e
                rw [hx, q1]
                exact lpI_eq _ q2
              · exact hr s (by omega)
            | succ e ihe =>
              intro b y hb hT hf hr hx
              have e98 := (eNy hf).2 k hkN b (by omega)
              have := enb k b
              have k4 : ∀ y : ow_MS, tT n k y → fB pTu n z y → (∀ s, s < a → y.2.1 106 s = nI (enG n (ahG n k) s)) → (∃ x, y.2.1 106 a = lpI n k (n - 1 - a) x (b + 1)) → Tt (fun K t => q_X13_makeTurned_a K t 4 (nI n) (nI k) (nI (120 * n + k)) (nI a) (nI b) y) Q := by
                intro y hT hf hr hx
                refine u_X13_makeTurned_a_4 ?_; unfold qm_X13_makeTurned_4_a
                rw [nI_1]
                exact ihe (b + 1) y (by omega) hT hf hr hx
              obtain ⟨x, hx⟩ := hx
              refine u_X13_makeTurned_a_3 ?_; unfold qm_X13_makeTurned_3_a
              rw [show (5 : Int32) * nI (120 * n + k) + nI b = nI (5 * (120 * n + k) + b) from by rw [show (5 : Int32) * nI (120 * n + k) = nI (5 * (120 * n + k)) from pk_mul 5 _, nI_add], show nI n - 1 = nI (n - 1) from pk_sub (b := 1) (by omega), show nI (n - 1) - nI a = nI (n - 1 - a) from pk_sub (by omega)]
              refine w_leF (by omega) (by omega) (w_rdI ma98 rfl (by omega) e98 (w_eqN (by omega) (by omega) (fun h9 => ?_) (fun h9 => ?_)))
              · refine w_wrI ma106 rfl (by omega) (k4 _ (fun l hl => ?_) (fB_I2 hf (Or.inr (Or.inr rfl)) (Or.inl rfl)) (fun s hs => rd_ne (by omega) (hr s hs)) ⟨0, ?_⟩)
                · obtain ⟨t1, t2⟩ := hT l (by omega)
                  exact ⟨rd_ot (by omega) t1, rd_ot (by omega) t2⟩
                · show _ = if enG n k b = n - 1 - a then nI b else _
                  rw [if_pos h9]
                  exact po_usI_at
              · refine k4 y hT hf hr ⟨x, ?_⟩
                show _ = if enG n k b = n - 1 - a then nI b else _
                rw [if_neg h9]
                exact hx
          refine u_X13_makeTurned_a_2 ?_; unfold qm_X13_makeTurned_2_a
          exact w_leF (by omega) (by omega) (c3 n 0 y (by omega) hT hf hr ⟨_, rfl⟩)
      refine u_X13_makeTurned_a_1 ?_; unfold qm_X13_makeTurned_1_a
      rw [ix120]
      exact w_rdI ma97 rfl (by omega) (eNy hf).1 (w_leF (by omega) (by omega) (c2 n 0 y (by omega) hT hf (fun s hs => by omega)))
  refine e_X13_makeTurned_a ?_
  refine u_X13_makeTurned_a_0 ?_; unfold qm_X13_makeTurned_0_a
  exact c1 (gNN n) 0 z (by omega) (fun l hl => by omega) fB_rf
end
section
/-! 99zzzzi.turn -/
/-! turnRound: word reversing in the reference's constructor -/
def cvG (c : Nat) : Int32 := if c < 8 then nI c else 0 - nI (c - 8)
theorem cv_c : ∀ c : Fin 13, (c.val < 8 → 0 ≤ cvG c.val ∧ cvG c.val = nI c.val) ∧ (8 < c.val → ¬ 0 ≤ cvG c.val ∧ 0 - cvG c.val = nI (c.val - 8) ∧ ¬ 0 < cvG c.val) ∧ (8 ≤ c.val → cvG c.val ≤ 0) ∧ (0 < c.val → c.val < 8 → ¬ cvG c.val ≤ 0) := by decide +kernel
theorem cv_ab : ∀ a : Fin 5, ∀ b : Fin 5, (if 0 ≤ (nI a.val - nI b.val) then (nI a.val - nI b.val) else 0 - (nI a.val - nI b.val)) = nI (a.val - b.val + (b.val - a.val)) := by decide +kernel
theorem cv_neg {a : Nat} (h1 : 1 ≤ a) : 0 - nI a = cvG (8 + a) := by
  unfold cvG
  rw [if_neg (by omega), show 8 + a - 8 = a by omega]
theorem cv_pos {a : Nat} (h1 : a < 8) : nI a = cvG a := by
  unfold cvG
  rw [if_pos h1]
theorem cv_let : ∀ a : Fin 4, (-1 : Int32) - nI a.val = cvG (9 + a.val) := by decide +kernel
/-- a row holds a list of letters -/
def rwG (y : ow_MS) (L : List Nat) : Prop := ∀ j c, L[j]? = some c → y.2.1 107 j = cvG c
theorem spl {L M : List Nat} {i j : Nat} (hi : i ≤ L.length) : (L.take i ++ M ++ L.drop (i + 2))[j]? = if j < i then L[j]? else if j < i + M.length then M[j - i]? else L[j - M.length + 2]? := by
  have hl : (L.take i).length = i := by rw [List.length_take]; omega
  by_cases h1 : j < i
  · rw [if_pos h1, List.getElem?_append_left (by rw [List.length_append, hl]; omega), List.getElem?_append_left (by omega), List.getElem?_take_of_lt h1]
  · rw [if_neg h1]
    by_cases h2 : j < i + M.length
    · rw [if_pos h2, List.getElem?_append_left (by rw [List.length_append, hl]; omega), List.getElem?_append_right (by omega), hl]
    · rw [if_neg h2, List.getElem?_append_right (by rw [List.length_append, hl]; omega), List.length_append, hl, List.getElem?_drop]
      congr 1
      omega
def pR (g : Nat) : Prop := g = 104 ∨ g = 105 ∨ g = 107
/-- the tables that turnRound reads -/
def tR (n : Nat) (y : ow_MS) : Prop := ∀ k, k < gNN n → y.2.1 100 (120 * n + k) = nI (szG n k) ∧ (∀ i, i < szG n k → y.2.1 99 (10 * (120 * n + k) + i) = nI (leG n k i)) ∧ ∀ j, j + 1 < n → y.2.1 101 (4 * (120 * n + k) + j) = (if moG n k j = 0 then -1 else nI (moG n k j - 1))
theorem tR_fr {P : Nat → Prop} {n : Nat} {y y1 : ow_MS} (hf : fr P y y1) (h1 : ¬ P 99) (h2 : ¬ P 100) (h3 : ¬ P 101) (h : tR n y) : tR n y1 := by
  intro k hk
  obtain ⟨a, b, c⟩ := h k hk
  rw [(hf 99 h1).2.1, (hf 100 h2).2.1, (hf 101 h3).2.1]
  exact ⟨a, b, c⟩
theorem u_X13_turnRound_a_10 {x1 : Int32} {x2 : Int32} {x3 : Int32} {x4 : Int32} {x5 : Int32} {x6 : Int32} {x7 : Int32} {x8 : Int32} {x9 : Int32} {x10 : Int32} {z : ow_MS} {Q : ow_MS → Prop} (H : Tt (fun K k => qm_X13_turnRound_10_a K (q_X13_turnRound_a K k) x1 x2 x3 x4 x5 x6 x7 x8 x9 x10 z) Q) : Tt (fun K k => q_X13_turnRound_a K k 10 x1 x2 x3 x4 x5 x6 x7 x8 x9 x10 z) Q := w_un (fun _ _ => rfl) H
theorem u_X13_turnRound_a_9 {x1 : Int32} {x2 : Int32} {x3 : Int32} {x4 : Int32} {x5 : Int32} {x6 : Int32} {x7 : Int32} {x8 : Int32} {x9 : Int32} {x10 : Int32} {z : ow_MS} {Q : ow_MS → Prop} (H : Tt (fun K k => qm_X13_turnRound_9_a K (q_X13_turnRound_a K k) x1 x2 x3 x4 x5 x6 x7 x8 x9 x10 z) Q) : Tt (fun K k => q_X13_turnRound_a K k 9 x1 x2 x3 x4 x5 x6 x7 x8 x9 x10 z) Q := w_un (fun _ _ => rfl) H
theorem u_X13_turnRound_a_8 {x1 : Int32} {x2 : Int32} {x3 : Int32} {x4 : Int32} {x5 : Int32} {x6 : Int32} {x7 : Int32} {x8 : Int32} {x9 : Int32} {x10 : Int32} {z : ow_MS} {Q : ow_MS → Prop} (H : Tt (fun K k => qm_X13_turnRound_8_a K (q_X13_turnRound_a K k) x1 x2 x3 x4 x5 x6 x7 x8 x9 x10 z) Q) : Tt (fun K k => q_X13_turnRound_a K k 8 x1 x2 x3 x4 x5 x6 x7 x8 x9 x10 z) Q := w_un (fun _ _ => rfl) H
theorem u_X13_turnRound_a_2 {x1 : Int32} {x2 : Int32} {x3 : Int32} {x4 : Int32} {x5 : Int32} {x6 : Int32} {x7 : Int32} {x8 : Int32} {x9 : Int32} {x10 : Int32} {z : ow_MS} {Q : ow_MS → Prop} (H : Tt (fun K k => qm_X13_turnRound_2_a K (q_X13_turnRound_a K k) x1 x2 x3 x4 x5 x6 x7 x8 x9 x10 z) Q) : Tt (fun K k => q_X13_turnRound_a K k 2 x1 x2 x3 x4 x5 x6 x7 x8 x9 x10 z) Q := w_un (fun _ _ => rfl) H
theorem u_X13_turnRound_a_7 {x1 : Int32} {x2 : Int32} {x3 : Int32} {x4 : Int32} {x5 : Int32} {x6 : Int32} {x7 : Int32} {x8 : Int32} {x9 : Int32} {x10 : Int32} {z : ow_MS} {Q : ow_MS → Prop} (H : Tt (fun K k => qm_X13_turnRound_7_a K (q_X13_turnRound_a K k) x1 x2 x3 x4 x5 x6 x7 x8 x9 x10 z) Q) : Tt (fun K k => q_X13_turnRound_a K k 7 x1 x2 x3 x4 x5 x6 x7 x8 x9 x10 z) Q := w_un (fun _ _ => rfl) H
theorem u_X13_turnRound_a_6 {x1 : Int32} {x2 : Int32} {x3 : Int32} {x4 : Int32} {x5 : Int32} {x6 : Int32} {x7 : Int32} {x8 : Int32} {x9 : Int32} {x10 : Int32} {z : ow_MS} {Q : ow_MS → Prop} (H : Tt (fun K k => qm_X13_turnRound_6_a K (q_X13_turnRound_a K k) x1 x2 x3 x4 x5 x6 x7 x8 x9 x10 z) Q) : Tt (fun K k => q_X13_turnRound_a K k 6 x1 x2 x3 x4 x5 x6 x7 x8 x9 x10 z) Q := w_un (fun _ _ => rfl) H
theorem u_X13_turnRound_a_3 {x1 : Int32} {x2 : Int32} {x3 : Int32} {x4 : Int32} {x5 : Int32} {x6 : Int32} {x7 : Int32} {x8 : Int32} {x9 : Int32} {x10 : Int32} {z : ow_MS} {Q : ow_MS → Prop} (H : Tt (fun K k => qm_X13_turnRound_3_a K (q_X13_turnRound_a K k) x1 x2 x3 x4 x5 x6 x7 x8 x9 x10 z) Q) : Tt (fun K k => q_X13_turnRound_a K k 3 x1 x2 x3 x4 x5 x6 x7 x8 x9 x10 z) Q := w_un (fun _ _ => rfl) H
theorem u_X13_turnRound_a_5 {x1 : Int32} {x2 : Int32} {x3 : Int32} {x4 : Int32} {x5 : Int32} {x6 : Int32} {x7 : Int32} {x8 : Int32} {x9 : Int32} {x10 : Int32} {z : ow_MS} {Q : ow_MS → Prop} (H : Tt (fun K k => qm_X13_turnRound_5_a K (q_X13_turnRound_a K k) x1 x2 x3 x4 x5 x6 x7 x8 x9 x10 z) Q) : Tt (fun K k => q_X13_turnRound_a K k 5 x1 x2 x3 x4 x5 x6 x7 x8 x9 x10 z) Q := w_un (fun _ _ => rfl) H
theorem u_X13_turnRound_a_4 {x1 : Int32} {x2 : Int32} {x3 : Int32} {x4 : Int32} {x5 : Int32} {x6 : Int32} {x7 : Int32} {x8 : Int32} {x9 : Int32} {x10 : Int32} {z : ow_MS} {Q : ow_MS → Prop} (H : Tt (fun K k => qm_X13_turnRound_4_a K (q_X13_turnRound_a K k) x1 x2 x3 x4 x5 x6 x7 x8 x9 x10 z) Q) : Tt (fun K k => q_X13_turnRound_a K k 4 x1 x2 x3 x4 x5 x6 x7 x8 x9 x10 z) Q := w_un (fun _ _ => rfl) H
theorem u_X13_turnRound_a_1 {x1 : Int32} {x2 : Int32} {x3 : Int32} {x4 : Int32} {x5 : Int32} {x6 : Int32} {x7 : Int32} {x8 : Int32} {x9 : Int32} {x10 : Int32} {z : ow_MS} {Q : ow_MS → Prop} (H : Tt (fun K k => qm_X13_turnRound_1_a K (q_X13_turnRound_a K k) x1 x2 x3 x4 x5 x6 x7 x8 x9 x10 z) Q) : Tt (fun K k => q_X13_turnRound_a K k 1 x1 x2 x3 x4 x5 x6 x7 x8 x9 x10 z) Q := w_un (fun _ _ => rfl) H
theorem e_X13_turnRound_a {x1 : Int32} {x2 : Int32} {x3 : Int32} {z : ow_MS} {Q : ow_MS → Prop} (H : Tt (fun K k => q_X13_turnRound_a K k 0 x1 x2 x3 0 0 0 0 0 0 0 z) Q) : Te (fun K => qe_X13_turnRound_a K x1 x2 x3 z) Q := w_te H
theorem u_X13_turnRound_a_0 {x1 : Int32} {x2 : Int32} {x3 : Int32} {x4 : Int32} {x5 : Int32} {x6 : Int32} {x7 : Int32} {x8 : Int32} {x9 : Int32} {x10 : Int32} {z : ow_MS} {Q : ow_MS → Prop} (H : Tt (fun K k => qm_X13_turnRound_0_a K (q_X13_turnRound_a K k) x1 x2 x3 x4 x5 x6 x7 x8 x9 x10 z) Q) : Tt (fun K k => q_X13_turnRound_a K k 0 x1 x2 x3 x4 x5 x6 x7 x8 x9 x10 z) Q := w_un (fun _ _ => rfl) H
theorem tp_turnRound_a {z : ow_MS} {n k j : Nat} (h2 : 2 ≤ n) (h5 : n ≤ 5) (hk : k < gNN n) (hj : j + 1 < n) (hz : tR n z) : Te (fun K => qe_X13_turnRound_a K (nI n) (nI k) (nI j) z) (fun z1 => (z1.2.1 104 (4 * (120 * n + k) + j) = nI (psG n k j) ∧ z1.2.1 105 (4 * (120 * n + k) + j) = nI (lvG n k j)) ∧ (∀ g i, (g = 104 ∨ g = 105) → i ≠ 4 * (120 * n + k) + j → z1.2.1 g i = z.2.1 g i) ∧ fB pR n z z1) := by
  have hN := nn_pos (n := n)
  let Q : ow_MS → Prop := fun z1 => (z1.2.1 104 (4 * (120 * n + k) + j) = nI (psG n k j) ∧ z1.2.1 105 (4 * (120 * n + k) + j) = nI (lvG n k j)) ∧ (∀ g i, (g = 104 ∨ g = 105) → i ≠ 4 * (120 * n + k) + j → z1.2.1 g i = z.2.1 g i) ∧ fB pR n z z1
  let F : ow_MS → Prop := fun y => fB (fun g => g = 107) n z y
  have tRy : ∀ {y : ow_MS}, F y → tR n y := fun hf => tR_fr hf.1 (by omega) (by omega) (by omega) hz
  have F2 : ∀ {y : ow_MS} {i : Nat} {x : Int32}, F y → F (usI y 107 i x) := fun hf => fB_I2 hf rfl (Or.inr (Or.inl rfl))
  have i4 : (4 : Int32) * nI (120 * n + k) + nI j = nI (4 * (120 * n + k) + j) := by
    rw [show (4 : Int32) * nI (120 * n + k) = nI (4 * (120 * n + k)) from pk_mul 4 _, nI_add]
  have hw := hh10 h2 h5 hk hj
  obtain ⟨R, hR, u, r, hU, hu, hD⟩ : ∃ R, trG 110 (l0G n k j) 0 = some R ∧ ∃ u r, upG n R 0 = some (u, r) ∧ u = psG n k j ∧ dnG n r.reverse 0 = some (lvG n k j) := by
    unfold tnG at hw
    split at hw
    · exact absurd hw (by decide)
    · rename_i R hR
      refine ⟨R, hR, ?_⟩
      split at hw
      · exact absurd hw (by decide)
      · rename_i u r hU
        rw [Bool.and_eq_true] at hw
        exact ⟨u, r, hU, of_decide_eq_true hw.1, of_decide_eq_true hw.2⟩
  have hR36 : R.length ≤ 36 := by
    have aux : ∀ f L i, trG f L i = some R → R.length ≤ 36 := by
      intro f
      induction f with
      | zero =>
        intro L i h
        cases h
      | succ f ih =>
        intro L i h
        unfold trG at h
        split at h
        · cases h
        · split at h
          · cases h
            omega
          · split at h
            · cases h
            · split at h
              · cases h
              · split at h
                · split at h
                  · cases h
                  · exact ih _ _ h
                · exact ih _ _ h
    exact aux _ _ _ hR
  -- what stands behind the letters
  have c10 : ∀ (l : List Nat) (y : ow_MS) (v : Nat) (x6 : Int32) (e : Nat) (W V : List Nat), F y → rwG y R → v < gNN n → R = W ++ l.reverse ++ V → e = W.length → dnG n l v = some (lvG n k j) → Tt (fun K t => q_X13_turnRound_a K t 10 (nI n) (nI k) (nI j) (nI (120 * n + k)) (nI R.length) x6 (nI u) (nI e) (nI v) (nI (e + l.length) - 1) y) Q := by
    intro l
    induction l with
    | nil =>
      intro y v x6 e W V hF hr hv hW he hd
      have ev : v = lvG n k j := Option.some.inj hd
      refine u_X13_turnRound_a_10 ?_; unfold qm_X13_turnRound_10_a
      refine w_ifT ?_ ?_
      · show nI e - 1 < nI e
        rw [nI_iI, show (1 : Int32) = iI 1 from rfl, iI_sub]
        have : e ≤ 36 := by
          rw [he]
          have := congrArg List.length hW
          rw [List.length_append, List.length_append] at this
          omega
        exact (iI_lt (by omega) (by omega) (by omega) (by omega)).mpr (by omega)
      · rw [i4]
        refine w_wrI ma104 rfl (by omega) (w_wrI ma105 rfl (by omega) (w_some ⟨⟨rd_ot (by omega) (by rw [hu]; exact po_usI_at), by rw [ev]; exact po_usI_at⟩, fun g i hg hi => ?_, ?_⟩))
        · have e0 : y.2.1 g i = z.2.1 g i := congrFun (hF.1 g (by omega)).2.1 i
          rcases hg with rfl | rfl
          · exact rd_ot (by omega) (rd_ne hi e0)
          · exact rd_ne hi (rd_ot (by omega) e0)
        · exact fB_I2 (fB_I2 (fB_mono hF (fun g hg => Or.inr (Or.inr hg))) (Or.inl rfl) (by unfold inB; omega)) (Or.inr (Or.inl rfl)) (by unfold inB; omega)
    | cons x l ih =>
      intro y v x6 e W V hF hr hv hW he hd
      unfold dnG at hd
      split at hd
      · cases hd
      rename_i hx
      have hx8 : 8 < x := by omega
      have hx12 : x ≤ 12 := by omega
      have hxn : x < n + 8 := by omega
      have hm0 : moG n v (x - 9) ≠ 0 := fun h => hx (Or.inr (Or.inr (Or.inr h)))
      have hmN := (f_two h2 h5 hv (show x - 9 + 1 < n by omega)).2.2.1
      have eR : R[e + l.length]? = some x := by
        rw [hW, List.reverse_cons, ← List.append_assoc, List.append_assoc (W ++ l.reverse), List.getElem?_append_right (by rw [List.length_append, List.length_reverse]; omega), List.length_append, List.length_reverse, ← he, Nat.sub_self]
        rfl
      have hlen : e + (l.length + 1) ≤ R.length := by
        rw [hW, List.length_append, List.length_append, List.length_reverse, List.length_cons, he]
        omega
      have e107 := hr _ _ eR
      obtain ⟨_, q2, q3, _⟩ := cv_c ⟨x, by omega⟩
      have q2 := q2 hx8
      have e101 := ((tRy hF) v hv).2.2 (x - 9) (by omega)
      rw [if_neg hm0] at e101
      refine u_X13_turnRound_a_10 ?_; unfold qm_X13_turnRound_10_a
      rw [show nI (e + (x :: l).length) - 1 = nI (e + l.length) from by
        rw [List.length_cons, show e + (l.length + 1) = (e + l.length) + 1 by omega]
        exact pk_sub (b := 1) (by omega)]
      refine w_ltF (by omega) (by omega) (w_rdI ma107 rfl (by omega) e107 ?_)
      refine w_rdI (i := 4 * (120 * n + v) + (x - 9)) ma101 ?_ (by omega) e101 ?_
      · rw [ix120, show (4 : Int32) * nI (120 * n + v) = nI (4 * (120 * n + v)) from pk_mul 4 _]
        have : cvG x = 0 - nI (x - 8) := by
          unfold cvG
          rw [if_neg (by omega)]
        rw [this, nI_iI, nI_iI (x - 8), show (0 : Int32) = iI 0 from rfl, show (1 : Int32) = iI 1 from rfl, iI_sub, iI_sub, iI_sub, nI_iI]
        congr 1
        omega
      · rw [show nI (e + l.length) + -1 = nI (e + l.length) - 1 from by
          rw [nI_iI, show (-1 : Int32) = iI (-1) from rfl, show (1 : Int32) = iI 1 from rfl, iI_add, iI_sub]
          congr 1]
        exact ih y _ x6 e W ([x] ++ V) hF hr (by omega) (by rw [hW, List.reverse_cons, List.append_assoc, List.append_assoc, List.append_assoc]) he hd
  have c9 : ∀ (y : ow_MS) (x6 : Int32) (W : List Nat) (e : Nat), F y → rwG y R → R = W ++ r → e = W.length → Tt (fun K t => q_X13_turnRound_a K t 9 (nI n) (nI k) (nI j) (nI (120 * n + k)) (nI R.length) x6 (nI u) (nI e) 0 0 y) Q := by
    intro y x6 W e hF hr hW he
    have := c10 r.reverse y 0 x6 e W [] hF hr (by omega) (by rw [List.reverse_reverse, List.append_nil]; exact hW) he hD
    rw [List.length_reverse, show e + r.length = R.length from by rw [hW, List.length_append, he]] at this
    refine u_X13_turnRound_a_9 ?_; unfold qm_X13_turnRound_9_a
    exact this
  have c8 : ∀ (l : List Nat) (y : ow_MS) (v : Nat) (x6 : Int32) (e : Nat) (W : List Nat), F y → rwG y R → v < gNN n → R = W ++ l → e = W.length → upG n l v = some (u, r) → Tt (fun K t => q_X13_turnRound_a K t 8 (nI n) (nI k) (nI j) (nI (120 * n + k)) (nI R.length) x6 (nI v) (nI e) 0 0 y) Q := by
    intro l
    induction l with
    | nil =>
      intro y v x6 e W hF hr hv hW he hd
      have h1 := Option.some.inj hd
      have hv : v = u := congrArg Prod.fst h1
      have hr0 : [] = r := congrArg Prod.snd h1
      have hlen : R.length = e := by rw [hW, List.append_nil, he]
      refine u_X13_turnRound_a_8 ?_; unfold qm_X13_turnRound_8_a
      rw [hv]
      exact w_leT (by omega) (by omega) (c9 y x6 W e hF hr (by rw [← hr0]; exact hW) he)
    | cons x l ih =>
      intro y v x6 e W hF hr hv hW he hd
      have eR : R[e]? = some x := by
        rw [hW, List.getElem?_append_right (by omega), ← he, Nat.sub_self]
        rfl
      have hlen : e + 1 ≤ R.length := by
        rw [hW, List.length_append, List.length_cons, he]
        omega
      have e107 := hr _ _ eR
      unfold upG at hd
      split at hd
      · cases hd
      rename_i hx
      obtain ⟨q1, q2, q3, q4⟩ := cv_c ⟨x, by omega⟩
      split at hd
      · rename_i hx8
        split at hd
        · cases hd
        rename_i hm
        have hm0 : moG n v (x - 1) ≠ 0 := fun h => hm (Or.inl h)
        have hxn : x < n := by
          refine Nat.lt_of_not_le fun h => hm (Or.inr h)
        have hmN := (f_two h2 h5 hv (show x - 1 + 1 < n by omega)).2.2.1
        have e101 := ((tRy hF) v hv).2.2 (x - 1) (by omega)
        rw [if_neg hm0] at e101
        have e1 : cvG x = nI x := (q1 hx8).2
        refine u_X13_turnRound_a_8 ?_; unfold qm_X13_turnRound_8_a
        refine w_leF (by omega) (by omega) (w_rdI ma107 rfl (by omega) e107 (w_ifF (q4 (by show 0 < x; omega) hx8) (w_rdI ma107 rfl (by omega) e107 (w_rdI (i := 4 * (120 * n + v) + (x - 1)) ma101 ?_ (by omega) e101 ?_))))
        · rw [e1, ix4, show nI (4 * (120 * n + v) + x) - 1 = nI (4 * (120 * n + v) + x - 1) from pk_sub (b := 1) (by omega)]
          congr 1
          omega
        · rw [nI_1]
          exact ih y _ x6 (e + 1) (W ++ [x]) hF hr (by omega) (by rw [hW, List.append_assoc]; rfl) (by rw [List.length_append, he]; rfl) hd
      · rename_i hx8
        have h1 := Option.some.inj hd
        have hv : v = u := congrArg Prod.fst h1
        have hr0 : x :: l = r := congrArg Prod.snd h1
        refine u_X13_turnRound_a_8 ?_; unfold qm_X13_turnRound_8_a
        rw [hv]
        exact w_leF (by omega) (by omega) (w_rdI ma107 rfl (by omega) e107 (w_ifT (q3 (by show 8 ≤ x; omega)) (c9 y x6 W e hF hr (by rw [← hr0]; exact hW) he)))
  have c2 : ∀ (f : Nat) (L : List Nat) (i : Nat) (y : ow_MS), i ≤ 36 → trG f L i = some R → F y → rwG y L → Tt (fun K t => q_X13_turnRound_a K t 2 (nI n) (nI k) (nI j) (nI (120 * n + k)) (nI L.length) (nI i) 0 0 0 0 y) Q := by
    intro f
    induction f with
    | zero =>
      intro L i y _ h
      cases h
    | succ f ih =>
      intro L i y hi36 h hF hr
      unfold trG at h
      split at h
      · cases h
      rename_i hL
      split at h
      · rename_i hn
        cases h
        have hle : R.length ≤ i + 1 := List.getElem?_eq_none_iff.mp hn
        refine u_X13_turnRound_a_2 ?_; unfold qm_X13_turnRound_2_a
        rw [nI_1]
        exact w_leT (by omega) hle (c8 R y 0 _ 0 [] hF hr (by omega) rfl rfl hU)
      rename_i b hb
      split at h
      · cases h
      rename_i x hx
      split at h
      · cases h
      rename_i hc
      have hil : i + 1 < L.length := (List.getElem?_eq_some_iff.mp hb).1
      have ex := hr _ _ hx
      have eb := hr _ _ hb
      obtain ⟨q1, q2, q3, q4⟩ := cv_c ⟨x, by omega⟩
      obtain ⟨p1, p2, p3, p4⟩ := cv_c ⟨b, by omega⟩
      have k7 : trG f L (i + 1) = some R → Tt (fun K t => q_X13_turnRound_a K t 7 (nI n) (nI k) (nI j) (nI (120 * n + k)) (nI L.length) (nI i) 0 0 0 0 y) Q := by
        intro h
        refine u_X13_turnRound_a_7 ?_; unfold qm_X13_turnRound_7_a
        rw [nI_1]
        exact ih L (i + 1) y (by omega) h hF hr
      split at h
      · rename_i hxb
        split at h
        · cases h
        rename_i hb4
        obtain ⟨x1, x2, x3⟩ := q2 hxb.1
        have b1 : cvG b = nI b := (p1 hxb.2).2
        have b0 : 0 < b := by omega
        obtain ⟨a, ha, ha1, ha4⟩ : ∃ a, a = x - 8 ∧ 1 ≤ a ∧ a ≤ 4 := ⟨x - 8, rfl, by omega, by omega⟩
        have x2 : 0 - cvG x = nI a := by rw [ha]; exact x2
        rw [← ha] at h
        have hab := cv_ab ⟨a, by omega⟩ ⟨b, by omega⟩
        dsimp only at hab
        have k6 : ∀ (y1 : ow_MS) (l : Nat) (x6 x7 x8 x9 : Int32), l = (L.take i ++ nwG a b ++ L.drop (i + 2)).length → F y1 → rwG y1 (L.take i ++ nwG a b ++ L.drop (i + 2)) → Tt (fun K t => q_X13_turnRound_a K t 6 (nI n) (nI k) (nI j) (nI (120 * n + k)) (nI l) x6 x7 x8 x9 0 y1) Q := by
          intro y1 l x6 x7 x8 x9 hl hF1 hr1
          subst hl
          refine u_X13_turnRound_a_6 ?_; unfold qm_X13_turnRound_6_a
          exact ih _ 0 y1 (by omega) h hF1 hr1
        have len : (L.take i ++ nwG a b ++ L.drop (i + 2)).length = L.length - 2 + (nwG a b).length := by
          rw [List.length_append, List.length_append, List.length_take, List.length_drop]
          omega
        have rl : ∀ y1 : ow_MS, (∀ jj c, jj < i → L[jj]? = some c → y1.2.1 107 jj = cvG c) → (∀ jj c, (nwG a b)[jj]? = some c → y1.2.1 107 (i + jj) = cvG c) → (∀ jj c, i + 2 ≤ jj → L[jj]? = some c → y1.2.1 107 (jj - 2 + (nwG a b).length) = cvG c) → rwG y1 (L.take i ++ nwG a b ++ L.drop (i + 2)) := by
          intro y1 r1 r2 r3 jj c hc
          rw [spl (by omega)] at hc
          split at hc
          · rename_i h9
            exact r1 jj c h9 hc
          · rename_i h9
            split at hc
            · have := r2 _ c hc
              rw [show i + (jj - i) = jj by omega] at this
              exact this
            · rename_i h8
              have := r3 _ c (by omega) hc
              rw [show jj - (nwG a b).length + 2 - 2 + (nwG a b).length = jj by omega] at this
              exact this
        refine u_X13_turnRound_a_2 ?_; unfold qm_X13_turnRound_2_a
        rw [nI_1]
        refine w_leF (by omega) (by omega) (w_rdI ma107 rfl (by omega) ex (w_ifF x1 (w_rdI ma107 rfl (by omega) eb (w_ifF (p4 b0 hxb.2) (w_rdI ma107 rfl (by omega) ex (w_rdI ma107 rfl (by omega) eb ?_))))))
        rw [x2, b1, hab]
        by_cases e0 : a = b
        · have hnw : nwG a b = [] := by unfold nwG; rw [if_pos e0]
          have c3 : ∀ (d t : Nat) (y1 : ow_MS) (x7 x8 x9 : Int32), t + 2 + d = L.length → i ≤ t → F y1 → (∀ jj, y1.2.1 107 jj = if i ≤ jj ∧ jj < t then y.2.1 107 (jj + 2) else y.2.1 107 jj) → Tt (fun K t' => q_X13_turnRound_a K t' 3 (nI n) (nI k) (nI j) (nI (120 * n + k)) (nI L.length) (nI i) x7 x8 x9 (nI t) y1) Q := by
            intro d
            induction d with
            | zero =>
              intro t y1 x7 x8 x9 ht hit hF1 hy1
              refine u_X13_turnRound_a_3 ?_; unfold qm_X13_turnRound_3_a
              rw [show nI t + 2 = nI (t + 2) from nI_add t 2, show nI L.length + -2 = nI (L.length - 2) from by
                rw [nI_iI, show (-2 : Int32) = iI (-2) from rfl, iI_add, nI_iI]
                congr 1
                omega]
              refine w_leT (by omega) (by omega) (k6 y1 _ _ _ _ _ (by rw [len, hnw]; rfl) hF1 (rl y1 (fun jj c h1 h3 => ?_) (fun jj c h3 => ?_) (fun jj c h1 h3 => ?_)))
              · rw [hy1, if_neg (by omega)]
                exact hr _ _ h3
              · rw [hnw] at h3
                cases h3
              · have hjl := (List.getElem?_eq_some_iff.mp h3).1
                rw [hnw, List.length_nil, Nat.add_zero, hy1, if_pos (by omega), show jj - 2 + 2 = jj by omega]
                exact hr _ _ h3
            | succ d ihd =>
              intro t y1 x7 x8 x9 ht hit hF1 hy1
              refine u_X13_turnRound_a_3 ?_; unfold qm_X13_turnRound_3_a
              rw [show nI t + 2 = nI (t + 2) from nI_add t 2, nI_1]
              refine w_leF (by omega) (by omega) (w_rdI (x := y.2.1 107 (t + 2)) ma107 rfl (by omega) (by rw [hy1, if_neg (by omega)]) (w_wrI ma107 rfl (by omega) (ihd (t + 1) _ _ _ _ (by omega) (by omega) (F2 hF1) (fun jj => ?_))))
              by_cases e : jj = t
              · rw [e, if_pos (by omega)]
                exact po_usI_at
              · rw [show (usI y1 107 t (y.2.1 107 (t + 2))).2.1 107 jj = y1.2.1 107 jj from po_usI_ne e, hy1]
                by_cases h9 : i ≤ jj ∧ jj < t
                · rw [if_pos h9, if_pos (by omega)]
                · rw [if_neg h9, if_neg (by omega)]
          refine w_ifT (by rw [show a - b + (b - a) = 0 by omega]; rfl) (c3 (L.length - i - 2) i y _ _ _ (by omega) (by omega) hF (fun jj => ?_))
          rw [if_neg (by omega)]
        · refine w_ifF (fun h9 => ?_) ?_
          · have := (nI_eq (a := a - b + (b - a)) (b := 0) (by omega) (by omega)).mp h9
            omega
          have k5 : ∀ (y1 : ow_MS) (l : Nat) (x9 : Int32), l = (L.take i ++ nwG a b ++ L.drop (i + 2)).length → F y1 → rwG (usI y1 107 i (nI b)) (L.take i ++ nwG a b ++ L.drop (i + 2)) → Tt (fun K t => q_X13_turnRound_a K t 5 (nI n) (nI k) (nI j) (nI (120 * n + k)) (nI l) (nI i) (nI a) (nI b) x9 0 y1) Q := by
            intro y1 l x9 hl hF1 hr1
            refine u_X13_turnRound_a_5 ?_; unfold qm_X13_turnRound_5_a
            exact w_wrI ma107 rfl (by omega) (k6 _ _ _ _ _ _ hl (F2 hF1) hr1)
          by_cases e1 : a + 1 = b ∨ b + 1 = a
          · have hnw : nwG a b = [b, a, 8 + b, 8 + a] := by unfold nwG; rw [if_neg e0, if_pos e1]
            have c4 : ∀ (d t : Nat) (y1 : ow_MS) (x9 : Int32), t = i + 1 + d → t < L.length → F y1 → (∀ jj, y1.2.1 107 jj = if t + 2 < jj ∧ jj ≤ L.length + 1 then y.2.1 107 (jj - 2) else y.2.1 107 jj) → Tt (fun K t' => q_X13_turnRound_a K t' 4 (nI n) (nI k) (nI j) (nI (120 * n + k)) (nI L.length) (nI i) (nI a) (nI b) x9 (nI t) y1) Q := by
              intro d
              induction d with
              | zero =>
                intro t y1 x9 ht hit hF1 hy1
                refine u_X13_turnRound_a_4 ?_; unfold qm_X13_turnRound_4_a
                rw [show nI i + 2 = nI (i + 2) from nI_add i 2, show nI i + 3 = nI (i + 3) from nI_add i 3, nI_1, cv_neg ha1, cv_neg (show 1 ≤ b by omega), show nI L.length + 2 = nI (L.length + 2) from nI_add _ 2]
                refine w_ltT (by omega) (by omega) (w_wrI ma107 rfl (by omega) (w_wrI ma107 rfl (by omega) (w_wrI ma107 rfl (by omega) (k5 _ _ _ (by rw [len, hnw]; show _ = L.length - 2 + 4; omega) (F2 (F2 (F2 hF1))) (rl _ (fun jj c h1 h3 => ?_) (fun jj c h3 => ?_) (fun jj c h1 h3 => ?_))))))
                · refine rd_ne (by omega) (rd_ne (by omega) (rd_ne (by omega) (rd_ne (by omega) ?_)))
                  rw [hy1, if_neg (by omega)]
                  exact hr _ _ h3
                · rw [hnw] at h3
                  match jj, h3 with
                  | 0, h3 =>
                    cases h3
                    rw [← cv_pos (show b < 8 by omega)]
                    exact po_usI_at
                  | 1, h3 =>
                    cases h3
                    rw [← cv_pos (show a < 8 by omega)]
                    exact rd_ne (by omega) (rd_ne (by omega) (rd_ne (by omega) po_usI_at))
                  | 2, h3 =>
                    cases h3
                    exact rd_ne (by omega) (rd_ne (by omega) po_usI_at)
                  | 3, h3 =>
                    cases h3
                    exact rd_ne (by omega) po_usI_at
                  | q + 4, h3 => cases h3
                · have hjl := (List.getElem?_eq_some_iff.mp h3).1
                  rw [hnw]
                  show (usI _ 107 i (nI b)).2.1 107 (jj - 2 + 4) = cvG c
                  refine rd_ne (by omega) (rd_ne (by omega) (rd_ne (by omega) (rd_ne (by omega) ?_)))
                  rw [hy1, if_pos (by omega), show jj - 2 + 4 - 2 = jj by omega]
                  exact hr _ _ h3
              | succ d ihd =>
                intro t y1 x9 ht hit hF1 hy1
                refine u_X13_turnRound_a_4 ?_; unfold qm_X13_turnRound_4_a
                rw [show nI i + 2 = nI (i + 2) from nI_add i 2, show nI t + 2 = nI (t + 2) from nI_add t 2, show nI t + -1 = nI (t - 1) from by
                  rw [nI_iI, show (-1 : Int32) = iI (-1) from rfl, iI_add, nI_iI]
                  congr 1
                  omega]
                refine w_ltF (by omega) (by omega) (w_rdI (x := y.2.1 107 t) ma107 rfl (by omega) (by rw [hy1, if_neg (by omega)]) (w_wrI ma107 rfl (by omega) (ihd (t - 1) _ _ (by omega) (by omega) (F2 hF1) (fun jj => ?_))))
                by_cases e : jj = t + 2
                · rw [e, if_pos (by omega), show t + 2 - 2 = t by omega]
                  exact po_usI_at
                · rw [show (usI y1 107 (t + 2) (y.2.1 107 t)).2.1 107 jj = y1.2.1 107 jj from po_usI_ne e, hy1]
                  by_cases h9 : t + 2 < jj ∧ jj ≤ L.length + 1
                  · rw [if_pos h9, if_pos (by omega)]
                  · rw [if_neg h9, if_neg (by omega)]
            rw [show nI L.length - 1 = nI (L.length - 1) from pk_sub (b := 1) (by omega)]
            refine w_ifT (by rw [show a - b + (b - a) = 1 by omega]; rfl) (c4 (L.length - i - 2) (L.length - 1) y _ (by omega) (by omega) hF (fun jj => ?_))
            rw [if_neg (by omega)]
          · have hnw : nwG a b = [b, 8 + a] := by unfold nwG; rw [if_neg e0, if_neg e1]
            refine w_ifF (fun h9 => ?_) ?_
            · have := (nI_eq (a := a - b + (b - a)) (b := 1) (by omega) (by omega)).mp h9
              omega
            rw [cv_neg ha1]
            refine w_wrI ma107 rfl (by omega) (k5 _ _ _ (by rw [len, hnw]; show _ = L.length - 2 + 2; omega) (F2 hF) (rl _ (fun jj c h1 h3 => rd_ne (by omega) (rd_ne (by omega) (hr _ _ h3))) (fun jj c h3 => ?_) (fun jj c h1 h3 => ?_)))
            · rw [hnw] at h3
              match jj, h3 with
              | 0, h3 =>
                cases h3
                rw [← cv_pos (show b < 8 by omega)]
                exact po_usI_at
              | 1, h3 =>
                cases h3
                exact rd_ne (by omega) po_usI_at
              | q + 2, h3 => cases h3
            · rw [hnw]
              show (usI _ 107 i (nI b)).2.1 107 (jj - 2 + 2) = cvG c
              rw [show jj - 2 + 2 = jj by omega]
              exact rd_ne (by omega) (rd_ne (by omega) (hr _ _ h3))
      · rename_i hxb
        refine u_X13_turnRound_a_2 ?_; unfold qm_X13_turnRound_2_a
        rw [nI_1]
        refine w_leF (by omega) (by omega) (w_rdI ma107 rfl (by omega) ex ?_)
        by_cases hx8 : x < 8
        · exact w_ifT (q1 hx8).1 (k7 h)
        · refine w_ifF (q2 (show 8 < x by omega)).1 (w_rdI ma107 rfl (by omega) eb (w_ifT (p3 (show 8 ≤ b by omega)) (k7 h)))
  have hsz := (f_one h2 h5 hk).1
  have hle := (hh7 h2 h5 hk).2.2.2.2.1
  have l0l : (l0G n k j).length = szG n k + 1 := by
    unfold l0G
    rw [List.length_append, List.length_map, List.length_reverse, lt_len]
    rfl
  have l0a : ∀ jj c, (l0G n k j)[jj]? = some c → jj < szG n k ∧ c = 9 + leG n k (szG n k - 1 - jj) ∨ jj = szG n k ∧ c = 1 + j := by
    intro jj c h
    have hl := (List.getElem?_eq_some_iff.mp h).1
    rw [l0l] at hl
    unfold l0G at h
    by_cases h9 : jj < szG n k
    · rw [List.getElem?_append_left (by rw [List.length_map, List.length_reverse, lt_len]; exact h9), List.getElem?_map, List.getElem?_reverse (by rw [lt_len]; exact h9), lt_len] at h
      unfold ltG at h
      rw [List.getElem?_map, List.getElem?_range (by omega)] at h
      exact Or.inl ⟨h9, (Option.some.inj h).symm⟩
    · rw [List.getElem?_append_right (by rw [List.length_map, List.length_reverse, lt_len]; omega), List.length_map, List.length_reverse, lt_len, show jj - szG n k = 0 by omega] at h
      exact Or.inr ⟨by omega, (Option.some.inj h).symm⟩
  have c1 : ∀ (rr s : Nat) (y : ow_MS), s + rr = szG n k → F y → (∀ jj, jj < s → y.2.1 107 jj = cvG (9 + leG n k (szG n k - 1 - jj))) → Tt (fun K t => q_X13_turnRound_a K t 1 (nI n) (nI k) (nI j) (nI (120 * n + k)) (nI s) (nI rr - 1) 0 0 0 0 y) Q := by
    intro rr
    induction rr with
    | zero =>
      intro s y hs hF hy
      refine u_X13_turnRound_a_1 ?_; unfold qm_X13_turnRound_1_a
      rw [show (1 : Int32) + nI j = nI (1 + j) from nI_add 1 j, nI_1]
      refine w_ifT (by decide) (w_wrI ma107 rfl (by omega) ?_)
      have := c2 110 (l0G n k j) 0 (usI y 107 s (nI (1 + j))) (by omega) hR (F2 hF) (fun jj c h => ?_)
      · rw [l0l, show szG n k = s by omega] at this
        exact this
      · rcases l0a jj c h with ⟨h1, rfl⟩ | ⟨h1, rfl⟩
        · exact rd_ne (by omega) (hy jj (by omega))
        · rw [show jj = s by omega, ← cv_pos (show 1 + j < 8 by omega)]
          exact po_usI_at
    | succ rr ihr =>
      intro s y hs hF hy
      have e99 := ((tRy hF) k hk).2.1 rr (by omega)
      have := hle rr (by omega)
      refine u_X13_turnRound_a_1 ?_; unfold qm_X13_turnRound_1_a
      rw [show nI (rr + 1) - 1 = nI rr from pk_sub (b := 1) (by omega), show (10 : Int32) * nI (120 * n + k) + nI rr = nI (10 * (120 * n + k) + rr) from ix10, nI_1, show nI rr + -1 = nI rr - 1 from by
        rw [nI_iI, show (-1 : Int32) = iI (-1) from rfl, show (1 : Int32) = iI 1 from rfl, iI_add, iI_sub]
        congr 1]
      refine w_ltF (b := 0) (by omega) (by omega) (w_rdI ma99 rfl (by omega) e99 (w_wrI ma107 rfl (by omega) (ihr (s + 1) _ (by omega) (F2 hF) (fun jj hjj => ?_))))
      by_cases e : jj = s
      · subst e
        rw [show szG n k - 1 - jj = rr by omega, ← cv_let ⟨leG n k rr, by omega⟩]
        exact po_usI_at
      · exact rd_ne e (hy jj (by omega))
  refine e_X13_turnRound_a ?_
  refine u_X13_turnRound_a_0 ?_; unfold qm_X13_turnRound_0_a
  rw [ix120]
  exact w_rdI ma100 rfl (by omega) (hz k hk).1 (c1 (szG n k) 0 z (by omega) fB_rf (fun jj h => by omega))
end
section
/-! 99zzzzj.simples -/
/-! makeSimples: the reference's constructor -/
def szN (n c : Nat) (y : ow_MS) : Prop := ∀ k, k < c → y.2.1 100 (120 * n + k) = nI (szG n k) ∧ ∀ i, i < szG n k → y.2.1 99 (10 * (120 * n + k) + i) = nI (leG n k i)
def mN (n k j : Nat) (y : ow_MS) : Prop := ∀ l i, (l < k ∨ l = k ∧ i < j) → l < gNN n → i + 1 < n → y.2.1 101 (4 * (120 * n + l) + i) = (if moG n l i = 0 then -1 else nI (moG n l i - 1))
def pN (n k j : Nat) (y : ow_MS) : Prop := ∀ l i, (l < k ∨ l = k ∧ i < j) → l < gNN n → i + 1 < n → y.2.1 104 (4 * (120 * n + l) + i) = nI (psG n l i) ∧ y.2.1 105 (4 * (120 * n + l) + i) = nI (lvG n l i)
def dN (n : Nat) (y : ow_MS) : Prop := y.2.1 97 n = nI (gNN n) ∧ ∀ k, k < gNN n → y.2.1 100 (120 * n + k) = nI (szG n k) ∧ y.2.1 102 (120 * n + k) = nI (ahG n k) ∧ y.2.1 103 (120 * n + k) = nI (ovG n k) ∧ (∀ i, i < szG n k → y.2.1 99 (10 * (120 * n + k) + i) = nI (leG n k i)) ∧ ∀ j, j + 1 < n → y.2.1 101 (4 * (120 * n + k) + j) = (if moG n k j = 0 then -1 else nI (moG n k j - 1)) ∧ y.2.1 104 (4 * (120 * n + k) + j) = nI (psG n k j) ∧ y.2.1 105 (4 * (120 * n + k) + j) = nI (lvG n k j)
theorem szN_fr {P : Nat → Prop} {n c : Nat} {y y1 : ow_MS} (hf : fr P y y1) (h1 : ¬ P 99) (h2 : ¬ P 100) (h : szN n c y) : szN n c y1 := by
  intro k hk
  obtain ⟨a, b⟩ := h k hk
  rw [(hf 99 h1).2.1, (hf 100 h2).2.1]
  exact ⟨a, b⟩
theorem mN_fr {P : Nat → Prop} {n k j : Nat} {y y1 : ow_MS} (hf : fr P y y1) (h1 : ¬ P 101) (h : mN n k j y) : mN n k j y1 := by
  intro l i h3 h4 h5
  rw [(hf 101 h1).2.1]
  exact h l i h3 h4 h5
theorem tT_fr {P : Nat → Prop} {n k : Nat} {y y1 : ow_MS} (hf : fr P y y1) (h1 : ¬ P 102) (h2 : ¬ P 103) (h : tT n k y) : tT n k y1 := by
  intro l hl
  rw [(hf 102 h1).2.1, (hf 103 h2).2.1]
  exact h l hl
def pA (g : Nat) : Prop := 97 ≤ g ∧ g ≤ 107
theorem dN_fB {P : Nat → Prop} {n m : Nat} {y y1 : ow_MS} (h2 : 2 ≤ m) (h5 : m ≤ 5) (hm : m ≠ n) (hf : fB P n y y1) (h : dN m y) : dN m y1 := by
  have hN := nn_pos (n := m)
  refine ⟨by rw [hf.2 97 m (by unfold inB; omega)]; exact h.1, fun k hk => ?_⟩
  obtain ⟨a, b, c, d, e⟩ := h.2 k hk
  have hs := (f_one h2 h5 hk).1
  refine ⟨by rw [hf.2 100 _ (by unfold inB; omega)]; exact a, by rw [hf.2 102 _ (by unfold inB; omega)]; exact b, by rw [hf.2 103 _ (by unfold inB; omega)]; exact c, fun i hi => by rw [hf.2 99 _ (by unfold inB; omega)]; exact d i hi, fun j hj => ?_⟩
  obtain ⟨p, q, r⟩ := e j hj
  exact ⟨by rw [hf.2 101 _ (by unfold inB; omega)]; exact p, by rw [hf.2 104 _ (by unfold inB; omega)]; exact q, by rw [hf.2 105 _ (by unfold inB; omega)]; exact r⟩
theorem u_X13_makeSimples_a_12 {x1 : Int32} {x2 : Int32} {x3 : Int32} {x4 : Int32} {x5 : Int32} {x6 : Int32} {x7 : Int32} {x8 : Int32} {x9 : Int32} {t0 : Int32} {z : ow_MS} {Q : ow_MS → Prop} (H : Tt (fun K k => qm_X13_makeSimples_12_a K (q_X13_makeSimples_a K k) x1 x2 x3 x4 x5 x6 x7 x8 x9 t0 z) Q) : Tt (fun K k => q_X13_makeSimples_a K k 12 x1 x2 x3 x4 x5 x6 x7 x8 x9 t0 z) Q := w_un (fun _ _ => rfl) H
theorem u_X13_makeSimples_a_13 {x1 : Int32} {x2 : Int32} {x3 : Int32} {x4 : Int32} {x5 : Int32} {x6 : Int32} {x7 : Int32} {x8 : Int32} {x9 : Int32} {t0 : Int32} {z : ow_MS} {Q : ow_MS → Prop} (H : Tt (fun K k => qm_X13_makeSimples_13_a K (q_X13_makeSimples_a K k) x1 x2 x3 x4 x5 x6 x7 x8 x9 t0 z) Q) : Tt (fun K k => q_X13_makeSimples_a K k 13 x1 x2 x3 x4 x5 x6 x7 x8 x9 t0 z) Q := w_un (fun _ _ => rfl) H
theorem sm_12 {Q : ow_MS → Prop} {n : Nat} {z : ow_MS} (h2 : 2 ≤ n) (h5 : n ≤ 5) (hE : eN n (gNN n) z) (hS : szN n (gNN n) z) (hM : mN n (gNN n) 0 z) (hT : tT n (gNN n) z) (H : ∀ y, dN n y → fB pA n z y → Tt (fun K t => q_X13_makeSimples_a K t 1 (nI (n + 1)) 0 0 0 0 0 0 0 0 0 y) Q) : Tt (fun K t => q_X13_makeSimples_a K t 12 (nI n) 0 0 0 0 0 0 0 0 0 z) Q := by
  have hN := nn_pos (n := n)
  have np : ∀ g, (97 ≤ g ∧ g ≤ 103) → ¬ pR g := fun g hg h => by unfold pR at h; omega
  have tRz : ∀ {y : ow_MS}, fB pR n z y → tR n y := fun hf => tR_fr hf.1 (np _ (by omega)) (np _ (by omega)) (np _ (by omega)) (fun k hk => ⟨(hS k hk).1, (hS k hk).2, fun j hj => hM k j (Or.inl hk) hk hj⟩)
  have e97 : ∀ {y : ow_MS}, fB pR n z y → y.2.1 97 n = nI (gNN n) := fun hf => by rw [(hf.1 97 (np _ (by omega))).2.1]; exact hE.1
  have c12 : ∀ (d k : Nat) (y : ow_MS), k + d = gNN n → pN n k 0 y → fB pR n z y → Tt (fun K t => q_X13_makeSimples_a K t 12 (nI n) (nI k) 0 0 0 0 0 0 0 0 y) Q := by
    intro d
    induction d with
    | zero =>
      intro k y hk hp hf
      have e : k = gNN n := by omega
      subst e
      refine u_X13_makeSimples_a_12 ?_; unfold qm_X13_makeSimples_12_a
      rw [nI_1]
      refine w_rdI ma97 rfl (by omega) (e97 hf) (w_leT (by omega) (by omega) (H y ?_ (fB_mono hf (fun g hg => by unfold pR at hg; unfold pA; omega))))
      have hT' := tT_fr hf.1 (np _ (by omega)) (np _ (by omega)) hT
      have hR' := tRz hf
      refine ⟨e97 hf, fun k hk => ⟨(hR' k hk).1, (hT' k hk).1, (hT' k hk).2, (hR' k hk).2.1, fun j hj => ⟨(hR' k hk).2.2 j hj, hp k j (Or.inl hk) hk hj⟩⟩⟩
    | succ d ih =>
      intro k y hk hp hf
      have hkN : k < gNN n := by omega
      have c13 : ∀ (dd j : Nat) (y : ow_MS), j + dd + 1 = n → pN n k j y → fB pR n z y → Tt (fun K t => q_X13_makeSimples_a K t 13 (nI n) (nI k) (nI j) 0 0 0 0 0 0 0 y) Q := by
        intro dd
        induction dd with
        | zero =>
          intro j y hj hp hf
          refine u_X13_makeSimples_a_13 ?_; unfold qm_X13_makeSimples_13_a
          rw [show nI n - 1 = nI (n - 1) from pk_sub (b := 1) (by omega), nI_1]
          refine w_leT (by omega) (by omega) (ih (k + 1) y (by omega) (fun l i h1 h3 h4 => hp l i ?_ h3 h4) hf)
          omega
        | succ dd ihd =>
          intro j y hj hp hf
          refine u_X13_makeSimples_a_13 ?_; unfold qm_X13_makeSimples_13_a
          rw [show nI n - 1 = nI (n - 1) from pk_sub (b := 1) (by omega), nI_1 j]
          refine w_leF (by omega) (by omega) (w_cs0 (tp_turnRound_a h2 h5 hkN (by omega) (tRz hf)) ?_)
          rintro y1 ⟨⟨r1, r2⟩, r3, r4⟩
          refine ihd (j + 1) y1 (by omega) (fun l i h1 h3 h4 => ?_) (fB_tr hf r4)
          by_cases e : l = k ∧ i = j
          · rw [e.1, e.2]
            exact ⟨r1, r2⟩
          · rw [r3 104 _ (Or.inl rfl) (by omega), r3 105 _ (Or.inr rfl) (by omega)]
            exact hp l i (by omega) h3 h4
      refine u_X13_makeSimples_a_12 ?_; unfold qm_X13_makeSimples_12_a
      exact w_rdI ma97 rfl (by omega) (e97 hf) (w_leF (by omega) (by omega) (c13 (n - 1) 0 y (by omega) hp hf))
  exact c12 (gNN n) 0 z (by omega) (fun l i h1 => by omega) fB_rf
def pS (g : Nat) : Prop := 97 ≤ g ∧ g ≤ 101 ∨ g = 106
theorem u_X13_makeSimples_a_3 {x1 : Int32} {x2 : Int32} {x3 : Int32} {x4 : Int32} {x5 : Int32} {x6 : Int32} {x7 : Int32} {x8 : Int32} {x9 : Int32} {t0 : Int32} {z : ow_MS} {Q : ow_MS → Prop} (H : Tt (fun K k => qm_X13_makeSimples_3_a K (q_X13_makeSimples_a K k) x1 x2 x3 x4 x5 x6 x7 x8 x9 t0 z) Q) : Tt (fun K k => q_X13_makeSimples_a K k 3 x1 x2 x3 x4 x5 x6 x7 x8 x9 t0 z) Q := w_un (fun _ _ => rfl) H
theorem u_X13_makeSimples_a_4 {x1 : Int32} {x2 : Int32} {x3 : Int32} {x4 : Int32} {x5 : Int32} {x6 : Int32} {x7 : Int32} {x8 : Int32} {x9 : Int32} {t0 : Int32} {z : ow_MS} {Q : ow_MS → Prop} (H : Tt (fun K k => qm_X13_makeSimples_4_a K (q_X13_makeSimples_a K k) x1 x2 x3 x4 x5 x6 x7 x8 x9 t0 z) Q) : Tt (fun K k => q_X13_makeSimples_a K k 4 x1 x2 x3 x4 x5 x6 x7 x8 x9 t0 z) Q := w_un (fun _ _ => rfl) H
theorem u_X13_makeSimples_a_11 {x1 : Int32} {x2 : Int32} {x3 : Int32} {x4 : Int32} {x5 : Int32} {x6 : Int32} {x7 : Int32} {x8 : Int32} {x9 : Int32} {t0 : Int32} {z : ow_MS} {Q : ow_MS → Prop} (H : Tt (fun K k => qm_X13_makeSimples_11_a K (q_X13_makeSimples_a K k) x1 x2 x3 x4 x5 x6 x7 x8 x9 t0 z) Q) : Tt (fun K k => q_X13_makeSimples_a K k 11 x1 x2 x3 x4 x5 x6 x7 x8 x9 t0 z) Q := w_un (fun _ _ => rfl) H
theorem u_X13_makeSimples_a_10 {x1 : Int32} {x2 : Int32} {x3 : Int32} {x4 : Int32} {x5 : Int32} {x6 : Int32} {x7 : Int32} {x8 : Int32} {x9 : Int32} {t0 : Int32} {z : ow_MS} {Q : ow_MS → Prop} (H : Tt (fun K k => qm_X13_makeSimples_10_a K (q_X13_makeSimples_a K k) x1 x2 x3 x4 x5 x6 x7 x8 x9 t0 z) Q) : Tt (fun K k => q_X13_makeSimples_a K k 10 x1 x2 x3 x4 x5 x6 x7 x8 x9 t0 z) Q := w_un (fun _ _ => rfl) H
theorem u_X13_makeSimples_a_9 {x1 : Int32} {x2 : Int32} {x3 : Int32} {x4 : Int32} {x5 : Int32} {x6 : Int32} {x7 : Int32} {x8 : Int32} {x9 : Int32} {t0 : Int32} {z : ow_MS} {Q : ow_MS → Prop} (H : Tt (fun K k => qm_X13_makeSimples_9_a K (q_X13_makeSimples_a K k) x1 x2 x3 x4 x5 x6 x7 x8 x9 t0 z) Q) : Tt (fun K k => q_X13_makeSimples_a K k 9 x1 x2 x3 x4 x5 x6 x7 x8 x9 t0 z) Q := w_un (fun _ _ => rfl) H
theorem u_X13_makeSimples_a_8 {x1 : Int32} {x2 : Int32} {x3 : Int32} {x4 : Int32} {x5 : Int32} {x6 : Int32} {x7 : Int32} {x8 : Int32} {x9 : Int32} {t0 : Int32} {z : ow_MS} {Q : ow_MS → Prop} (H : Tt (fun K k => qm_X13_makeSimples_8_a K (q_X13_makeSimples_a K k) x1 x2 x3 x4 x5 x6 x7 x8 x9 t0 z) Q) : Tt (fun K k => q_X13_makeSimples_a K k 8 x1 x2 x3 x4 x5 x6 x7 x8 x9 t0 z) Q := w_un (fun _ _ => rfl) H
theorem u_X13_makeSimples_a_5 {x1 : Int32} {x2 : Int32} {x3 : Int32} {x4 : Int32} {x5 : Int32} {x6 : Int32} {x7 : Int32} {x8 : Int32} {x9 : Int32} {t0 : Int32} {z : ow_MS} {Q : ow_MS → Prop} (H : Tt (fun K k => qm_X13_makeSimples_5_a K (q_X13_makeSimples_a K k) x1 x2 x3 x4 x5 x6 x7 x8 x9 t0 z) Q) : Tt (fun K k => q_X13_makeSimples_a K k 5 x1 x2 x3 x4 x5 x6 x7 x8 x9 t0 z) Q := w_un (fun _ _ => rfl) H
theorem u_X13_makeSimples_a_7 {x1 : Int32} {x2 : Int32} {x3 : Int32} {x4 : Int32} {x5 : Int32} {x6 : Int32} {x7 : Int32} {x8 : Int32} {x9 : Int32} {t0 : Int32} {z : ow_MS} {Q : ow_MS → Prop} (H : Tt (fun K k => qm_X13_makeSimples_7_a K (q_X13_makeSimples_a K k) x1 x2 x3 x4 x5 x6 x7 x8 x9 t0 z) Q) : Tt (fun K k => q_X13_makeSimples_a K k 7 x1 x2 x3 x4 x5 x6 x7 x8 x9 t0 z) Q := w_un (fun _ _ => rfl) H
theorem u_X13_makeSimples_a_6 {x1 : Int32} {x2 : Int32} {x3 : Int32} {x4 : Int32} {x5 : Int32} {x6 : Int32} {x7 : Int32} {x8 : Int32} {x9 : Int32} {t0 : Int32} {z : ow_MS} {Q : ow_MS → Prop} (H : Tt (fun K k => qm_X13_makeSimples_6_a K (q_X13_makeSimples_a K k) x1 x2 x3 x4 x5 x6 x7 x8 x9 t0 z) Q) : Tt (fun K k => q_X13_makeSimples_a K k 6 x1 x2 x3 x4 x5 x6 x7 x8 x9 t0 z) Q := w_un (fun _ _ => rfl) H
theorem sm_3 {Q : ow_MS → Prop} {n : Nat} {z : ow_MS} (h2 : 2 ≤ n) (h5 : n ≤ 5) (hE : eN n 1 z) (hS : szN n 1 z) (H : ∀ y, eN n (gNN n) y → szN n (gNN n) y → mN n (gNN n) 0 y → fB pS n z y → Tt (fun K t => cs0 (qe_X13_makeTurned_a K (nI n) y) (fun z4 => q_X13_makeSimples_a K t 12 (nI n) 0 0 0 0 0 0 0 0 0 z4)) Q) : Tt (fun K t => q_X13_makeSimples_a K t 3 (nI n) 0 0 0 0 0 0 0 0 0 z) Q := by
  have hN := nn_pos (n := n)
  have enb : ∀ k s, enG n k s < 8 := fun k s => Nat.mod_lt _ (by decide)
  obtain ⟨z1, z2, z3⟩ := hh9 h2 h5
  have c3 : ∀ (d k c : Nat) (y : ow_MS), k + d = gNN n → c = (if k = gNN n then gNN n else ctG n k 0) → eN n c y → szN n c y → mN n k 0 y → fB pS n z y → Tt (fun K t => q_X13_makeSimples_a K t 3 (nI n) (nI k) 0 0 0 0 0 0 0 0 y) Q := by
    intro d
    induction d with
    | zero =>
      intro k c y hk hc hE hS hM hf
      have e : k = gNN n := by omega
      rw [if_pos e] at hc
      subst hc
      rw [e] at hM
      refine u_X13_makeSimples_a_3 ?_; unfold qm_X13_makeSimples_3_a
      exact w_rdI ma97 rfl (by omega) hE.1 (w_leT (by omega) (by omega) (H y hE hS hM hf))
    | succ d ih =>
      intro k c y hk hc hE hS hM hf
      have hkN : k < gNN n := by omega
      rw [if_neg (by omega)] at hc
      obtain ⟨s1, s2, _, _, _, s6⟩ := hh7 h2 h5 hkN
      have hszk := (f_one h2 h5 hkN).1
      have cmono : ∀ jj, jj + 1 < n → ctG n k jj ≤ ctG n k (jj + 1) := by
        intro jj hjj
        obtain ⟨_, a, b⟩ := hh6 h2 h5 hkN hjj
        by_cases h9 : lpN n k jj n < lpN n k (jj + 1) n
        · rcases (a h9).2.2 with h | h
          · omega
          · omega
        · have := b h9
          omega
      have cge : ∀ jj, jj + 1 ≤ n → k < ctG n k jj := by
        intro jj
        induction jj with
        | zero =>
          intro _
          exact s2
        | succ jj ihj =>
          intro h
          have := ihj (by omega)
          have := cmono jj (by omega)
          omega
      have c4 : ∀ (dd j : Nat) (y : ow_MS), j + dd + 1 = n → eN n (ctG n k j) y → szN n (ctG n k j) y → mN n k j y → fB pS n z y → Tt (fun K t => q_X13_makeSimples_a K t 4 (nI n) (nI k) (nI (120 * n + k)) (nI j) 0 0 0 0 0 0 y) Q := by
        intro dd
        induction dd with
        | zero =>
          intro j y hj hE hS hM hf
          have ej : j = n - 1 := by omega
          refine u_X13_makeSimples_a_4 ?_; unfold qm_X13_makeSimples_4_a
          rw [show nI n - 1 = nI (n - 1) from pk_sub (b := 1) (by omega), nI_1]
          refine w_leT (by omega) (by omega) (ih (k + 1) (ctG n k j) y (by omega) (by rw [ej]; exact s1) hE hS (fun l i h1 h3 h4 => hM l i ?_ h3 h4) hf)
          omega
        | succ dd ihd =>
          intro j y hj hE hS hM hf
          have hj1 : j + 1 < n := by omega
          obtain ⟨f1, f2, f3⟩ := hh6 h2 h5 hkN hj1
          have hmo := (f_two h2 h5 hkN hj1).2.2.1
          have hkc := cge j (by omega)
          generalize hcc : ctG n k j = c at *
          have i4 : (4 : Int32) * nI (120 * n + k) + nI j = nI (4 * (120 * n + k) + j) := by
            rw [show (4 : Int32) * nI (120 * n + k) = nI (4 * (120 * n + k)) from pk_mul 4 _, nI_add]
          have k11 : ∀ (y : ow_MS) (x5 x6 x7 : Int32), eN n (ctG n k (j + 1)) y → szN n (ctG n k (j + 1)) y → mN n k (j + 1) y → fB pS n z y → Tt (fun K t => q_X13_makeSimples_a K t 11 (nI n) (nI k) (nI (120 * n + k)) (nI j) x5 x6 x7 0 0 0 y) Q := by
            intro y x5 x6 x7 hE hS hM hf
            refine u_X13_makeSimples_a_11 ?_; unfold qm_X13_makeSimples_11_a
            rw [nI_1]
            exact ihd (j + 1) y (by omega) hE hS hM hf
          have mst : ∀ (y : ow_MS) (x : Int32), mN n k j y → x = (if moG n k j = 0 then -1 else nI (moG n k j - 1)) → mN n k (j + 1) (usI y 101 (4 * (120 * n + k) + j) x) := by
            intro y x hM hx l i h1 h3 h4
            by_cases e : l = k ∧ i = j
            · rw [e.1, e.2, ← hx]
              exact po_usI_at
            · exact rd_ne (by omega) (hM l i (by omega) h3 h4)
          have k10 : ∀ (y : ow_MS) (x5 x6 : Int32), moG n k j ≠ 0 → eN n (ctG n k (j + 1)) y → szN n (ctG n k (j + 1)) y → mN n k j y → fB pS n z y → Tt (fun K t => q_X13_makeSimples_a K t 10 (nI n) (nI k) (nI (120 * n + k)) (nI j) x5 x6 (nI (moG n k j - 1)) 0 0 0 y) Q := by
            intro y x5 x6 hm hE hS hM hf
            refine u_X13_makeSimples_a_10 ?_; unfold qm_X13_makeSimples_10_a
            rw [i4]
            refine w_wrI ma101 rfl (by omega) (k11 _ _ _ _ (eN_fr (fr_I2 (P := fun g => g = 101) fr_rf rfl) (by omega) (by omega) hE) (szN_fr (fr_I2 (P := fun g => g = 101) fr_rf rfl) (by omega) (by omega) hS) (mst y _ hM (by rw [if_neg hm])) (fB_I2 hf (Or.inl (by omega)) (by unfold inB; omega)))
          -- a new simple one: its ends, its size, its letters
          have k9 : moG n k j - 1 = c → moG n k j ≠ 0 → ctG n k (j + 1) = c + 1 → c < gNN n → szG n c = szG n k + 1 → leG n c (szG n k) = j → (∀ i, i < szG n k → leG n c i = leG n k i) → ∀ (e i : Nat) (y : ow_MS) (x5 x6 : Int32), i + e = szG n k → eN n c y → szN n c y → mN n k j y → fB pS n z y → (∀ s, s < n → y.2.1 98 (5 * (120 * n + c) + s) = nI (enG n c s)) → y.2.1 100 (120 * n + c) = nI (szG n c) → (∀ i', i' < i → y.2.1 99 (10 * (120 * n + c) + i') = nI (leG n c i')) → Tt (fun K t => q_X13_makeSimples_a K t 9 (nI n) (nI k) (nI (120 * n + k)) (nI j) x5 x6 (nI c) (nI (120 * n + c)) (nI i) 0 y) Q := by
            intro g1 g2 g3 g4 g5 g6 g7 e
            have hszc := (f_one h2 h5 g4).1
            induction e with
            | zero =>
              intro i y x5 x6 hi hE hS hM hf h98 h100 h99
              have ei : i = szG n k := by omega
              subst ei
              have e100 := (hS k hkc).1
              refine u_X13_makeSimples_a_9 ?_; unfold qm_X13_makeSimples_9_a
              rw [show (10 : Int32) * nI (120 * n + c) + nI (szG n k) = nI (10 * (120 * n + c) + szG n k) from ix10]
              refine w_rdI ma100 rfl (by omega) e100 (w_leT (by omega) (by omega) (w_rdI ma100 rfl (by omega) e100 (w_wrI (i := 10 * (120 * n + c) + szG n k) ma99 (by rw [ix10]) (by omega) (w_rdI (x := nI c) ma97 rfl (by omega) (rd_ot (by omega) hE.1) ?_))))
              rw [nI_1 c]
              refine w_wrI ma97 rfl (by omega) ?_
              have hk10 := k10 (usI (usI y 99 (10 * (120 * n + c) + szG n k) (nI j)) 97 n (nI (c + 1))) x5 x6 g2 (by
                rw [g3]
                refine ⟨po_usI_at, fun l hl s hs => ?_⟩
                refine rd_ot (by omega) (rd_ot (by omega) ?_)
                by_cases el : l = c
                · rw [el]
                  exact h98 s hs
                · exact hE.2 l (by omega) s hs) (by
                rw [g3]
                intro l hl
                by_cases el : l = c
                · rw [el]
                  refine ⟨rd_ot (by omega) (rd_ot (by omega) h100), fun i' hi' => rd_ot (by omega) ?_⟩
                  by_cases e9 : i' = szG n k
                  · rw [e9, g6]
                    exact po_usI_at
                  · exact rd_ne (by omega) (h99 i' (by omega))
                · obtain ⟨a, b⟩ := hS l (by omega)
                  have hl10 := (f_one h2 h5 (show l < gNN n by omega)).1
                  exact ⟨rd_ot (by omega) (rd_ot (by omega) a), fun i' hi' => rd_ot (by omega) (rd_ne (by omega) (b i' hi'))⟩) (fun l i' h1 h3 h4 => rd_ot (by omega) (rd_ot (by omega) (hM l i' h1 h3 h4))) (fB_I2 (fB_I2 hf (Or.inl (by omega)) (by unfold inB; omega)) (Or.inl (by omega)) (by unfold inB; omega))
              rw [g1] at hk10
              exact hk10
            | succ e ihe =>
              intro i y x5 x6 hi hE hS hM hf h98 h100 h99
              obtain ⟨e100, e99⟩ := hS k hkc
              refine u_X13_makeSimples_a_9 ?_; unfold qm_X13_makeSimples_9_a
              rw [show (10 : Int32) * nI (120 * n + c) + nI i = nI (10 * (120 * n + c) + i) from ix10, show (10 : Int32) * nI (120 * n + k) + nI i = nI (10 * (120 * n + k) + i) from ix10, nI_1 i]
              refine w_rdI ma100 rfl (by omega) e100 (w_leF (by omega) (by omega) (w_rdI ma99 rfl (by omega) (e99 i (by omega)) (w_wrI ma99 rfl (by omega) (ihe (i + 1) _ _ _ (by omega) (eN_fr (fr_I2 (P := fun g => g = 99) fr_rf rfl) (by omega) (by omega) hE) (fun l hl => ?_) (mN_fr (fr_I2 (P := fun g => g = 99) fr_rf rfl) (by omega) hM) (fB_I2 hf (Or.inl (by omega)) (by unfold inB; omega)) (fun s hs => rd_ot (by omega) (h98 s hs)) (rd_ot (by omega) h100) (fun i' hi' => ?_)))))
              · obtain ⟨a, b⟩ := hS l hl
                have hl10 := (f_one h2 h5 (show l < gNN n by omega)).1
                exact ⟨rd_ot (by omega) a, fun i' hi' => rd_ne (by omega) (b i' hi')⟩
              · by_cases e9 : i' = i
                · rw [e9, g7 i (by omega)]
                  exact po_usI_at
                · exact rd_ne (by omega) (h99 i' (by omega))
          have k8 : moG n k j - 1 = c → moG n k j ≠ 0 → ctG n k (j + 1) = c + 1 → c < gNN n → szG n c = szG n k + 1 → leG n c (szG n k) = j → (∀ i, i < szG n k → leG n c i = leG n k i) → ∀ (e s : Nat) (y : ow_MS) (x5 x6 : Int32), s + e = n → eN n c y → szN n c y → mN n k j y → fB pS n z y → (∀ s', s' < n → y.2.1 106 s' = nI (enG n c s')) → (∀ s', s' < s → y.2.1 98 (5 * (120 * n + c) + s') = nI (enG n c s')) → Tt (fun K t => q_X13_makeSimples_a K t 8 (nI n) (nI k) (nI (120 * n + k)) (nI j) x5 x6 (nI c) (nI (120 * n + c)) (nI s) 0 y) Q := by
            intro g1 g2 g3 g4 g5 g6 g7 e
            induction e with
            | zero =>
              intro s y x5 x6 hs hE hS hM hf h106 h98
              have e100 := (hS k hkc).1
              refine u_X13_makeSimples_a_8 ?_; unfold qm_X13_makeSimples_8_a
              refine w_leT (by omega) (by omega) (w_rdI ma100 rfl (by omega) e100 ?_)
              rw [nI_1 (szG n k), ← g5]
              refine w_wrI ma100 rfl (by omega) (k9 g1 g2 g3 g4 g5 g6 g7 (szG n k) 0 _ _ _ (by omega) (eN_fr (fr_I2 (P := fun g => g = 100) fr_rf rfl) (by omega) (by omega) hE) (fun l hl => ?_) (mN_fr (fr_I2 (P := fun g => g = 100) fr_rf rfl) (by omega) hM) (fB_I2 hf (Or.inl (by omega)) (by unfold inB; omega)) (fun s hs => rd_ot (by omega) (h98 s (by omega))) po_usI_at (fun i' hi' => by omega))
              obtain ⟨a, b⟩ := hS l hl
              exact ⟨rd_ne (by omega) a, fun i' hi' => rd_ot (by omega) (b i' hi')⟩
            | succ e ihe =>
              intro s y x5 x6 hs hE hS hM hf h106 h98
              refine u_X13_makeSimples_a_8 ?_; unfold qm_X13_makeSimples_8_a
              rw [show (5 : Int32) * nI (120 * n + c) + nI s = nI (5 * (120 * n + c) + s) from by rw [show (5 : Int32) * nI (120 * n + c) = nI (5 * (120 * n + c)) from pk_mul 5 _, nI_add], nI_1 s]
              refine w_leF (by omega) (by omega) (w_rdI ma106 rfl (by omega) (h106 s (by omega)) (w_wrI ma98 rfl (by omega) (ihe (s + 1) _ _ _ (by omega) ⟨rd_ot (by omega) hE.1, fun l hl s' hs' => rd_ne (by omega) (hE.2 l hl s' hs')⟩ (szN_fr (fr_I2 (P := fun g => g = 98) fr_rf rfl) (by omega) (by omega) hS) (mN_fr (fr_I2 (P := fun g => g = 98) fr_rf rfl) (by omega) hM) (fB_I2 hf (Or.inl (by omega)) (by unfold inB; omega)) (fun s' hs' => rd_ot (by omega) (h106 s' hs')) (fun s' hs' => ?_))))
              by_cases e9 : s' = s
              · rw [e9]
                exact po_usI_at
              · exact rd_ne (by omega) (h98 s' (by omega))
          have lpb : ∀ v s, s ≤ n → lpN n k v s ≤ n - 1 := by
            intro v s
            induction s with
            | zero =>
              intro _
              exact Nat.zero_le _
            | succ s ihs =>
              intro hs
              show (if enG n k s = v then s else lpN n k v s) ≤ n - 1
              split
              · omega
              · exact ihs (by omega)
          have c5 : ∀ (e s : Nat) (y : ow_MS), s + e = n → eN n c y → szN n c y → mN n k j y → fB pS n z y → (∀ s', s' < s → y.2.1 106 s' = nI (enG n k s')) → Tt (fun K t => q_X13_makeSimples_a K t 5 (nI n) (nI k) (nI (120 * n + k)) (nI j) (nI (lpN n k j s)) (nI (lpN n k (j + 1) s)) (nI s) 0 0 0 y) Q := by
            intro e
            induction e with
            | zero =>
              intro s y hs hE hS hM hf h106
              have es : s = n := by omega
              subst es
              have ba := lpb j s (Nat.le_refl _)
              have bb := lpb (j + 1) s (Nat.le_refl _)
              refine u_X13_makeSimples_a_5 ?_; unfold qm_X13_makeSimples_5_a
              rw [i4, nI_1 j]
              refine w_leT (by omega) (by omega) (w_wrI ma101 rfl (by omega) (w_le (by omega) (by omega) (fun h9 => ?_) (fun h9 => ?_)))
              · obtain ⟨g1, g2⟩ := f3 (by omega)
                refine k11 _ _ _ _ ?_ ?_ (mst y _ hM (by rw [if_pos g1])) (fB_I2 hf (Or.inl (by omega)) (by unfold inB; omega))
                · rw [g2]
                  exact eN_fr (fr_I2 (P := fun g => g = 101) fr_rf rfl) (by omega) (by omega) hE
                · rw [g2]
                  exact szN_fr (fr_I2 (P := fun g => g = 101) fr_rf rfl) (by omega) (by omega) hS
              · obtain ⟨g1, g2, g3⟩ := f2 h9
                refine w_wrI ma106 rfl (by omega) (w_wrI ma106 rfl (by omega) ?_)
                have hfr : fr (fun g => g = 101 ∨ g = 106) y (usI (usI (usI y 101 (4 * (120 * s + k) + j) (-1)) 106 (lpN s k j s) (nI (j + 1))) 106 (lpN s k (j + 1) s) (nI j)) := fr_I2 (fr_I2 (fr_I2 fr_rf (Or.inl rfl)) (Or.inr rfl)) (Or.inr rfl)
                have hfB : fB pS s z (usI (usI (usI y 101 (4 * (120 * s + k) + j) (-1)) 106 (lpN s k j s) (nI (j + 1))) 106 (lpN s k (j + 1) s) (nI j)) := fB_I2 (fB_I2 (fB_I2 hf (Or.inl (by omega)) (by unfold inB; omega)) (Or.inr rfl) (Or.inl rfl)) (Or.inr rfl) (Or.inl rfl)
                have hM7 : mN s k j (usI (usI (usI y 101 (4 * (120 * s + k) + j) (-1)) 106 (lpN s k j s) (nI (j + 1))) 106 (lpN s k (j + 1) s) (nI j)) := fun l i h1 h3 h4 => rd_ot (by omega) (rd_ot (by omega) (rd_ne (by omega) (hM l i h1 h3 h4)))
                have hrow : ∀ s', s' < s → (usI (usI (usI y 101 (4 * (120 * s + k) + j) (-1)) 106 (lpN s k j s) (nI (j + 1))) 106 (lpN s k (j + 1) s) (nI j)).2.1 106 s' = nI (enG s (moG s k j - 1) s') := by
                  intro s' hs'
                  rw [g2 s' hs']
                  by_cases e1 : s' = lpN s k (j + 1) s
                  · rw [if_pos e1, e1]
                    exact po_usI_at
                  · rw [if_neg e1]
                    refine rd_ne e1 ?_
                    by_cases e2 : s' = lpN s k j s
                    · rw [if_pos e2, e2]
                      exact po_usI_at
                    · rw [if_neg e2]
                      exact rd_ne e2 (rd_ot (by omega) (h106 s' hs'))
                have hE7 := eN_fr hfr (by omega) (by omega) hE
                have hS7 := szN_fr hfr (by omega) (by omega) hS
                generalize usI (usI (usI y 101 (4 * (120 * s + k) + j) (-1)) 106 (lpN s k j s) (nI (j + 1))) 106 (lpN s k (j + 1) s) (nI j) = y7 at *
                refine w_cs1 (tp_find_a h2 h5 hE7 f1 (show moG s k j - 1 < gNN s by omega) hrow) ?_
                rintro v y1 ⟨e1, e2⟩
                dsimp only at e1 e2
                subst e2
                rcases g3 with ⟨g4, g5⟩ | ⟨g4, g5, g6, g7, g8, g9⟩
                · rw [if_pos g4] at e1
                  subst e1
                  refine w_ifF ?_ (k10 _ _ _ g1 (by rw [g5]; exact hE7) (by rw [g5]; exact hS7) hM7 hfB)
                  exact rn_neg1 (by omega)
                · rw [if_neg (by omega)] at e1
                  subst e1
                  refine w_ifT rfl (w_rdI ma97 rfl (by omega) hE7.1 ?_)
                  rw [ix120]
                  exact k8 g4 g1 g5 g6 g7 g8 g9 s 0 _ _ _ (by omega) hE7 hS7 hM7 hfB (fun s' hs' => by rw [← g4]; exact hrow s' hs') (fun s' hs' => by omega)
            | succ e ihe =>
              intro s y hs hE hS hM hf h106
              have e98 := hE.2 k hkc s (by omega)
              have b0 := enb k s
              have := s6 s (by omega)
              have k7 : ∀ (x5 x6 : Int32) (y1 : ow_MS), y1 = usI y 106 s (nI (enG n k s)) → x5 = nI (lpN n k j (s + 1)) → x6 = nI (lpN n k (j + 1) (s + 1)) → Tt (fun K t => q_X13_makeSimples_a K t 7 (nI n) (nI k) (nI (120 * n + k)) (nI j) x5 (nI (lpN n k (j + 1) s)) (nI s) 0 0 x6 y1) Q := by
                intro x5 x6 y1 e1 e2 e3
                subst e1
                subst e2
                subst e3
                refine u_X13_makeSimples_a_7 ?_; unfold qm_X13_makeSimples_7_a
                rw [nI_1]
                refine ihe (s + 1) _ (by omega) (eN_fr (fr_I2 (P := fun g => g = 106) fr_rf rfl) (by omega) (by omega) hE) (szN_fr (fr_I2 (P := fun g => g = 106) fr_rf rfl) (by omega) (by omega) hS) (mN_fr (fr_I2 (P := fun g => g = 106) fr_rf rfl) (by omega) hM) (fB_I2 hf (Or.inr rfl) (Or.inl rfl)) (fun s' hs' => ?_)
                by_cases e9 : s' = s
                · rw [e9]
                  exact po_usI_at
                · exact rd_ne e9 (h106 s' (by omega))
              have k6 : ∀ (t0 : Int32), t0 = nI (lpN n k j (s + 1)) → Tt (fun K t => q_X13_makeSimples_a K t 6 (nI n) (nI k) (nI (120 * n + k)) (nI j) (nI (lpN n k j s)) (nI (lpN n k (j + 1) s)) (nI s) 0 0 t0 (usI y 106 s (nI (enG n k s)))) Q := by
                intro t0 h0
                refine u_X13_makeSimples_a_6 ?_; unfold qm_X13_makeSimples_6_a
                rw [nI_1 j]
                refine w_rdI ma106 rfl (by omega) po_usI_at (w_eqN (by omega) (by omega) (fun h9 => k7 _ _ _ rfl h0 ?_) (fun h9 => k7 _ _ _ rfl h0 ?_))
                · show _ = nI (if enG n k s = j + 1 then s else lpN n k (j + 1) s)
                  rw [if_pos h9]
                · show _ = nI (if enG n k s = j + 1 then s else lpN n k (j + 1) s)
                  rw [if_neg h9]
              refine u_X13_makeSimples_a_5 ?_; unfold qm_X13_makeSimples_5_a
              rw [show (5 : Int32) * nI (120 * n + k) + nI s = nI (5 * (120 * n + k) + s) from by rw [show (5 : Int32) * nI (120 * n + k) = nI (5 * (120 * n + k)) from pk_mul 5 _, nI_add]]
              refine w_leF (by omega) (by omega) (w_rdI ma98 rfl (by omega) e98 (w_wrI ma106 rfl (by omega) (w_rdI ma106 rfl (by omega) po_usI_at (w_eqN (by omega) (by omega) (fun h9 => k6 _ ?_) (fun h9 => k6 _ ?_)))))
              · show _ = nI (if enG n k s = j then s else lpN n k j s)
                rw [if_pos h9]
              · show _ = nI (if enG n k s = j then s else lpN n k j s)
                rw [if_neg h9]
          refine u_X13_makeSimples_a_4 ?_; unfold qm_X13_makeSimples_4_a
          rw [show nI n - 1 = nI (n - 1) from pk_sub (b := 1) (by omega)]
          exact w_leF (by omega) (by omega) (c5 n 0 y (by omega) hE hS hM hf (fun s' hs' => by omega))
      refine u_X13_makeSimples_a_3 ?_; unfold qm_X13_makeSimples_3_a
      rw [ix120]
      have ctb : c ≤ gNN n := by
        rw [hc]
        exact (hh6 h2 h5 hkN (show 0 + 1 < n by omega)).1
      exact w_rdI ma97 rfl (by omega) hE.1 (w_leF (by omega) (by omega) (c4 (n - 1) 0 y (by omega) (by rw [← hc]; exact hE) (by rw [← hc]; exact hS) hM hf))
  exact c3 (gNN n) 0 1 z (by omega) (by rw [if_neg (by omega), z1]) hE hS (fun l i h1 => by omega) fB_rf
theorem u_X13_makeSimples_a_2 {x1 : Int32} {x2 : Int32} {x3 : Int32} {x4 : Int32} {x5 : Int32} {x6 : Int32} {x7 : Int32} {x8 : Int32} {x9 : Int32} {t0 : Int32} {z : ow_MS} {Q : ow_MS → Prop} (H : Tt (fun K k => qm_X13_makeSimples_2_a K (q_X13_makeSimples_a K k) x1 x2 x3 x4 x5 x6 x7 x8 x9 t0 z) Q) : Tt (fun K k => q_X13_makeSimples_a K k 2 x1 x2 x3 x4 x5 x6 x7 x8 x9 t0 z) Q := w_un (fun _ _ => rfl) H
theorem sm_2 {Q : ow_MS → Prop} {n : Nat} {z : ow_MS} (h2 : 2 ≤ n) (h5 : n ≤ 5) (h0 : z.2.1 100 (120 * n) = 0) (H : ∀ y, dN n y → fB pA n z y → Tt (fun K t => q_X13_makeSimples_a K t 1 (nI (n + 1)) 0 0 0 0 0 0 0 0 0 y) Q) : Tt (fun K t => q_X13_makeSimples_a K t 2 (nI n) 0 0 0 0 0 0 0 0 0 z) Q := by
  have hN := nn_pos (n := n)
  obtain ⟨z1, z2, z3⟩ := hh9 h2 h5
  have c2 : ∀ (d a : Nat) (y : ow_MS), a + d = n → fB (fun g => g = 98) n z y → (∀ s, s < a → y.2.1 98 (600 * n + s) = nI s) → Tt (fun K t => q_X13_makeSimples_a K t 2 (nI n) (nI a) 0 0 0 0 0 0 0 0 y) Q := by
    intro d
    induction d with
    | zero =>
      intro a y ha hf hy
      have ea : a = n := by omega
      subst ea
      refine u_X13_makeSimples_a_2 ?_; unfold qm_X13_makeSimples_2_a
      refine w_leT (by omega) (by omega) (w_wrI ma97 rfl (by omega) (sm_3 h2 h5 ⟨po_usI_at, fun k hk s hs => ?_⟩ (fun k hk => ⟨?_, fun i hi => ?_⟩) (fun y1 hE hS hM hf1 => w_cs0 (tp_makeTurned_a h2 h5 hE) (fun y2 h9 => ?_))))
      · rw [show k = 0 by omega, z3 s hs, show 5 * (120 * a + 0) + s = 600 * a + s by omega]
        exact rd_ot (by omega) (hy s hs)
      · rw [show k = 0 by omega, z2]
        refine rd_ot (by omega) ?_
        rw [Nat.add_zero, (hf.1 100 (by omega)).2.1]
        exact h0
      · rw [show k = 0 by omega, z2] at hi
        omega
      · obtain ⟨hT, hf2⟩ := h9
        have np : ∀ g, (97 ≤ g ∧ g ≤ 101) → ¬ pTu g := fun g hg h => by unfold pTu at h; omega
        refine sm_12 h2 h5 (eN_fr hf2.1 (np _ (by omega)) (np _ (by omega)) hE) (szN_fr hf2.1 (np _ (by omega)) (np _ (by omega)) hS) (mN_fr hf2.1 (np _ (by omega)) hM) hT (fun y3 hd hf3 => H y3 hd ?_)
        have f1 : fB pA a z (usI y 97 a 1) := fB_I2 (fB_mono hf (fun g hg => by unfold pA; omega)) (by unfold pA; omega) (by unfold inB; omega)
        exact fB_tr (fB_tr (fB_tr f1 (fB_mono hf1 (fun g hg => by unfold pS at hg; unfold pA; omega))) (fB_mono hf2 (fun g hg => by unfold pTu at hg; unfold pA; omega))) hf3
    | succ d ih =>
      intro a y ha hf hy
      refine u_X13_makeSimples_a_2 ?_; unfold qm_X13_makeSimples_2_a
      rw [show (600 : Int32) * nI n + nI a = nI (600 * n + a) from by rw [show (600 : Int32) * nI n = nI (600 * n) from pk_mul 600 _, nI_add], nI_1 a]
      refine w_leF (by omega) (by omega) (w_wrI ma98 rfl (by omega) (ih (a + 1) _ (by omega) (fB_I2 hf rfl (by unfold inB; omega)) (fun s hs => ?_)))
      by_cases e : s = a
      · rw [e]
        exact po_usI_at
      · exact rd_ne (by omega) (hy s (by omega))
  exact c2 n 0 z (by omega) fB_rf (fun s hs => by omega)
theorem u_X13_makeSimples_a_1 {x1 : Int32} {x2 : Int32} {x3 : Int32} {x4 : Int32} {x5 : Int32} {x6 : Int32} {x7 : Int32} {x8 : Int32} {x9 : Int32} {t0 : Int32} {z : ow_MS} {Q : ow_MS → Prop} (H : Tt (fun K k => qm_X13_makeSimples_1_a K (q_X13_makeSimples_a K k) x1 x2 x3 x4 x5 x6 x7 x8 x9 t0 z) Q) : Tt (fun K k => q_X13_makeSimples_a K k 1 x1 x2 x3 x4 x5 x6 x7 x8 x9 t0 z) Q := w_un (fun _ _ => rfl) H
theorem e_X13_makeSimples_a {z : ow_MS} {Q : ow_MS → Prop} (H : Tt (fun K k => q_X13_makeSimples_a K k 0 0 0 0 0 0 0 0 0 0 0 z) Q) : Te (fun K => qe_X13_makeSimples_a K z) Q := w_te H
theorem u_X13_makeSimples_a_0 {x1 : Int32} {x2 : Int32} {x3 : Int32} {x4 : Int32} {x5 : Int32} {x6 : Int32} {x7 : Int32} {x8 : Int32} {x9 : Int32} {t0 : Int32} {z : ow_MS} {Q : ow_MS → Prop} (H : Tt (fun K k => qm_X13_makeSimples_0_a K (q_X13_makeSimples_a K k) x1 x2 x3 x4 x5 x6 x7 x8 x9 t0 z) Q) : Tt (fun K k => q_X13_makeSimples_a K k 0 x1 x2 x3 x4 x5 x6 x7 x8 x9 t0 z) Q := w_un (fun _ _ => rfl) H
theorem tp_makeSimples_a {z : ow_MS} (hz : ∀ n, n ≤ 5 → z.2.1 100 (120 * n) = 0) : Te (fun K => qe_X13_makeSimples_a K z) (fun z1 => (∀ n, 2 ≤ n → n ≤ 5 → dN n z1) ∧ fr pA z z1) := by
  let Q : ow_MS → Prop := fun z1 => (∀ n, 2 ≤ n → n ≤ 5 → dN n z1) ∧ fr pA z z1
  have key : ∀ (d n : Nat) (y : ow_MS), n + d = 6 → 2 ≤ n → (∀ m, 2 ≤ m → m < n → dN m y) → (∀ m, n ≤ m → m ≤ 5 → y.2.1 100 (120 * m) = 0) → fr pA z y → Tt (fun K t => q_X13_makeSimples_a K t 1 (nI n) 0 0 0 0 0 0 0 0 0 y) Q := by
    intro d
    induction d with
    | zero =>
      intro n y hn h2 hD h0 hf
      refine u_X13_makeSimples_a_1 ?_; unfold qm_X13_makeSimples_1_a
      exact w_ltT (a := 5) (by omega) (by omega) (w_some ⟨fun m h1 h3 => hD m h1 (by omega), hf⟩)
    | succ d ih =>
      intro n y hn h2 hD h0 hf
      refine u_X13_makeSimples_a_1 ?_; unfold qm_X13_makeSimples_1_a
      refine w_ltF (a := 5) (by omega) (by omega) (sm_2 h2 (by omega) (h0 n (by omega) (by omega)) (fun y1 hd hf1 => ih (n + 1) y1 (by omega) (by omega) (fun m h1 h3 => ?_) (fun m h1 h3 => ?_) (fr_tr hf hf1.1)))
      · by_cases e : m = n
        · rw [e]
          exact hd
        · exact dN_fB h1 (by omega) e hf1 (hD m h1 (by omega))
      · rw [hf1.2 100 _ (by unfold inB; omega)]
        exact h0 m (by omega) h3
  refine e_X13_makeSimples_a ?_
  refine u_X13_makeSimples_a_0 ?_; unfold qm_X13_makeSimples_0_a
  exact key 4 2 z (by omega) (by omega) (fun m h1 h3 => by omega) (fun m h1 h3 => hz m h3) fr_rf
end
section
/-! 99zzzzk.init -/
/-! the reference's constructor: the state that it leaves -/
def XR (W : Nat → Nat → Int32) : Prop := XM W ∧ XG W ∧ ∀ f, f < 80 → ∃ i, i < 16 ∧ W 53 f = nI i
theorem XR_M {W : Nat → Nat → Int32} (h : XR W) : XM W := h.1
theorem XR_G {W : Nat → Nat → Int32} (h : XR W) : XG W := h.2.1
theorem XR_a : X53a XR := fun _ h => h.2.2
theorem XR_b : X53b XR := by
  intro W W' h he h53
  refine ⟨⟨fun m hm => ?_, fun m h1 h4 o p ho hp => ?_⟩, ?_, h53⟩
  · rw [he 73 (by omega)]
    exact h.1.1 m hm
  · rw [he 75 (by omega), he 76 (by omega)]
    exact h.1.2 m h1 h4 o p ho hp
  · unfold XG
    rw [he 97 (by omega), he 99 (by omega), he 100 (by omega), he 101 (by omega), he 102 (by omega), he 103 (by omega), he 104 (by omega), he 105 (by omega)]
    exact h.2.1
theorem rc_0 {z : ow_MS} {h : Nat} (h0 : z.2.1 h 0 = 0) : ∃ T, rc_At z h 0 T := ⟨[], Nat.zero_le _, fun t ht => by simp at ht, h0, fun k t hk => by simp at hk⟩
theorem gI_0 {m : ow_MS} (h1 : ∀ g, g < 73 → m.1 g = 0) (h2 : ∀ g i, ¬ (73 ≤ g ∧ g ≤ 76 ∨ 97 ≤ g ∧ g ≤ 107) → m.2.1 g i = 0) (hX : XR (fun g => m.2.1 (if g = 53 ∨ 73 ≤ g ∧ g ≤ 76 ∨ 97 ≤ g ∧ g ≤ 105 then g else 73))) : gI XR m := by
  refine ⟨⟨0, by omega, h1 11 (by omega)⟩, fun d _ => dRow_0 (h2 12 _ (by omega)), ⟨0, by omega, h1 22 (by omega), fun k hk => by omega, fun k hk => by omega⟩, ⟨0, by omega, h1 36 (by omega), fun k hk => by omega, fun k hk => by omega⟩, ⟨rc_0 (h2 43 _ (by omega)), rc_0 (h2 45 _ (by omega)), rc_0 (h2 50 _ (by omega)), rc_0 (h2 65 _ (by omega)), 0, by omega, h1 67 (by omega)⟩, fun b _ => ⟨0, 0, by omega, by omega, h2 96 _ (by omega), fun h => by omega⟩, hX⟩
theorem uz_c {g : Nat} (hg : g < 1000) : ([4, 5, 6, 7, 8, 9, 10, 11, 12, 13, 14, 15, 16, 17, 18] : List Nat).contains (g / 1000) = true ↔ False := by
  rw [Nat.div_eq_of_lt hg]
  decide
theorem uz_I {m : ow_MS} {g : Nat} (hg : g < 1000) : (usZ m [4, 5, 6, 7, 8, 9, 10, 11, 12, 13, 14, 15, 16, 17, 18]).2.1 g = m.2.1 g := if_neg (fun h => (uz_c hg).mp h)
/-- the reference's constructor has an answer, and leaves a state that keeps what the methods ask -/
theorem ref_init {z : ow_MS} (h1 : ∀ g, z.1 g = 0) (h2 : ∀ g i, g ≠ 73 → z.2.1 g i = 0) (h73 : ∀ m, m ≤ 4 → z.2.1 73 m = nI (thM m)) : ∃ m1 m2, (∃ b, ∀ K, b ≤ K → qe_X13_makeSimples_a K z = some m1) ∧ (∃ b, ∀ K, b ≤ K → qe_X13_makePermutations_a K m1 = some m2) ∧ gI XR (usZ m2 [4, 5, 6, 7, 8, 9, 10, 11, 12, 13, 14, 15, 16, 17, 18]) := by
  obtain ⟨m1, e1, hD, hf1⟩ := tp_makeSimples_a (z := z) (fun n _ => h2 100 _ (by omega))
  have pa : ∀ g, ¬ (97 ≤ g ∧ g ≤ 107) → ¬ pA g := fun g hg h => hg h
  have m1I : ∀ g i, ¬ (97 ≤ g ∧ g ≤ 107) → g ≠ 73 → m1.2.1 g i = 0 := fun g i hg h9 => by
    rw [(hf1 g (pa g hg)).2.1]
    exact h2 g i h9
  obtain ⟨m2, e2, hJ, hf2⟩ := tp_perms_a (z := m1) ⟨fun i => ⟨0, by omega, m1I 74 i (by omega) (by omega)⟩, fun m g1 g4 o p ho hp => ⟨⟨0, by omega, m1I 75 _ (by omega) (by omega)⟩, 0, by omega, m1I 76 _ (by omega) (by omega)⟩⟩
  have pp : ∀ g, ¬ (74 ≤ g ∧ g ≤ 76) → ¬ pmP g := fun g hg h => by unfold pmP at h; omega
  refine ⟨m1, m2, e1, e2, gI_0 (fun g hg => ?_) (fun g i hg => ?_) ⟨⟨fun m hm => ?_, fun m g1 g4 o p ho hp => ?_⟩, ?_, fun f _ => ⟨0, by omega, ?_⟩⟩⟩
  · show (if _ then 0 else m2.1 g) = 0
    split
    · rfl
    · rw [(hf2 g (pp g (by omega))).1, (hf1 g (pa g (by omega))).1]
      exact h1 g
  · show (if _ then (fun _ => 0) else m2.2.1 g) i = 0
    split
    · rfl
    · rw [(hf2 g (pp g (by omega))).2.1]
      exact m1I g i (by omega) (by omega)
  · show (usZ m2 _).2.1 73 m = _
    rw [uz_I (by omega), (hf2 73 (pp 73 (by omega))).2.1, (hf1 73 (pa 73 (by omega))).2.1]
    exact h73 m hm
  · show (∃ q, q < thM m ∧ (usZ m2 _).2.1 75 _ = nI q) ∧ ∃ q, q < thM m ∧ (usZ m2 _).2.1 76 _ = nI q
    rw [uz_I (by omega), uz_I (by omega)]
    exact hJ.2 m g1 g4 o p ho hp
  · show XG (usZ m2 _).2.1
    unfold XG
    rw [uz_I (by omega), uz_I (by omega), uz_I (by omega), uz_I (by omega), uz_I (by omega), uz_I (by omega), uz_I (by omega), uz_I (by omega), (hf2 97 (pp _ (by omega))).2.1, (hf2 99 (pp _ (by omega))).2.1, (hf2 100 (pp _ (by omega))).2.1, (hf2 101 (pp _ (by omega))).2.1, (hf2 102 (pp _ (by omega))).2.1, (hf2 103 (pp _ (by omega))).2.1, (hf2 104 (pp _ (by omega))).2.1, (hf2 105 (pp _ (by omega))).2.1]
    exact fun n a b => hD n a b
  · show (usZ m2 _).2.1 53 f = 0
    rw [uz_I (by omega), (hf2 53 (pp _ (by omega))).2.1]
    exact m1I 53 f (by omega) (by omega)
end
section
/-! 99zzzzl.cold -/
/-! pure theory of the class's nets (taken back) -/
theorem ow_nI_inj {a b : Nat} (ha : a < 2 ^ 31) (hb : b < 2 ^ 31) (h : nI a = nI b) : a = b := by
  rw [← nI_clamp ha, ← nI_clamp hb, h]
/-- one place changed -/
def nu (N : Nat → Nat) (j w : Nat) : Nat → Nat := fun k => if k = j then w else N k
theorem nu_same (N : Nat → Nat) (j w : Nat) : nu N j w j = w := if_pos rfl
theorem nu_ne (N : Nat → Nat) {j k : Nat} (w : Nat) (h : k ≠ j) : nu N j w k = N k := if_neg h
/-- next and prev of a net -/
abbrev ow_NP := (Nat → Nat) × (Nat → Nat)
def nl (S : ow_NP) (v w : Nat) : ow_NP := (nu S.1 v w, nu S.2 w v)
def ow_b24 (S : ow_NP) : Prop := (∀ k, S.1 k < 24) ∧ (∀ k, S.2 k < 24)
theorem nl_b24 {S : ow_NP} {v w : Nat} (h : ow_b24 S) (hv : v < 24) (hw : w < 24) : ow_b24 (nl S v w) := by
  constructor
  · intro k
    show (if k = v then w else S.1 k) < 24
    split
    · exact hw
    · exact h.1 k
  · intro k
    show (if k = w then v else S.2 k) < 24
    split
    · exact hv
    · exact h.2 k
def np_exchange (S : ow_NP) (v w : Nat) : ow_NP := nl (nl S v (S.1 w)) w (S.1 v)
def np_putBehind (S : ow_NP) (a v : Nat) : ow_NP := nl (nl S a v) v (S.1 a)
def np_cut (S : ow_NP) (v : Nat) : ow_NP := if S.1 v = v then S else nl S (S.2 v) (S.1 v)
def np_rename (S : ow_NP) (v n : Nat) : ow_NP := if S.1 v = v then nl S n n else nl (nl S (S.2 v) n) n ((nl S (S.2 v) n).1 v)
theorem np_putBehind_b24 {S : ow_NP} {a v : Nat} (h : ow_b24 S) (ha : a < 24) (hv : v < 24) : ow_b24 (np_putBehind S a v) := nl_b24 (nl_b24 h ha hv) hv (h.1 a)
theorem np_cut_b24 {S : ow_NP} {v : Nat} (h : ow_b24 S) : ow_b24 (np_cut S v) := by
  unfold np_cut
  split
  · exact h
  · exact nl_b24 h (h.2 v) (h.1 v)
theorem np_rename_b24 {S : ow_NP} {v n : Nat} (h : ow_b24 S) (hn : n < 24) : ow_b24 (np_rename S v n) := by
  unfold np_rename
  split
  · exact nl_b24 h hn hn
  · exact nl_b24 (nl_b24 h (h.2 v) hn) hn ((nl_b24 h (h.2 v) hn).1 v)
def su (f : Nat → Int32) (j : Nat) (x : Int32) : Nat → Int32 := fun k => if k = j then x else f k
def np_rmS (S : ow_NP) (x c : Nat) : ow_NP := if x = c then np_cut (np_cut S (2 * x)) (2 * x + 1) else np_rename (np_rename (np_cut (np_cut S (2 * x)) (2 * x + 1)) (2 * c) (2 * x)) (2 * c + 1) (2 * x + 1)
def np_rmG (G : Nat → Int32) (x c : Nat) : Nat → Int32 := if x = c then G else su G x (G c)
theorem np_rmS_b24 {S : ow_NP} {x c : Nat} (h : ow_b24 S) (hx : x < 12) : ow_b24 (np_rmS S x c) := by
  unfold np_rmS
  split
  · exact np_cut_b24 (np_cut_b24 h)
  · exact np_rename_b24 (np_rename_b24 (np_cut_b24 (np_cut_b24 h)) (by omega)) (by omega)
def np_sw (a v w : Nat) : Nat := if a = v then w else if a = w then v else a
theorem np_sw_lt {a v w : Nat} (ha : a < 24) (hv : v < 24) (hw : w < 24) : np_sw a v w < 24 := by
  unfold np_sw
  split
  · exact hw
  · split
    · exact hv
    · exact ha
def np_swap (S : ow_NP) (v w : Nat) : ow_NP := nl (nl (nl (nl S (np_sw (S.2 v) v w) w) w (np_sw (S.1 v) v w)) (np_sw (S.2 w) v w) v) v (np_sw (S.1 w) v w)
theorem np_swap_b24 {S : ow_NP} {v w : Nat} (h : ow_b24 S) (hv : v < 24) (hw : w < 24) : ow_b24 (np_swap S v w) := nl_b24 (nl_b24 (nl_b24 (nl_b24 h (np_sw_lt (h.2 v) hv hw) hw) hw (np_sw_lt (h.1 v) hv hw)) (np_sw_lt (h.2 w) hv hw) hv) hv (np_sw_lt (h.1 w) hv hw)
def np_fill (f : Nat → Int32) (a b : Nat) (x : Int32) : Nat → Int32 := fun k => if a ≤ k ∧ k < b then x else f k
def mr_in (N : Nat → Nat) (x : Int32) : Nat → (Nat → Int32) → Nat → (Nat → Int32)
  | 0, F, _ => F
  | n + 1, F, v => if F v = -1 then mr_in N x n (su F v x) (N v) else F
def mr_out (N : Nat → Nat) (vs : Nat) (F : Nat → Int32) : Nat → (Nat → Int32) × Nat
  | 0 => (F, 0)
  | n + 1 => if (mr_out N vs F n).1 n = -1 then (mr_in N (nI (mr_out N vs F n).2) vs (mr_out N vs F n).1 n, (mr_out N vs F n).2 + 1) else mr_out N vs F n
def mt (q : Nat) : Nat := if q % 2 = 0 then q + 1 else q - 1
theorem mt_lt {q c : Nat} (h : q < 2 * c) : mt q < 2 * c := by
  unfold mt
  split <;> omega
def cntU (F : Nat → Int32) : Nat → Nat
  | 0 => 0
  | n + 1 => cntU F n + (if F n = -1 then 1 else 0)
theorem cntU_le (F : Nat → Int32) : ∀ n, cntU F n ≤ n := by
  intro n
  induction n with
  | zero => exact Nat.le_refl 0
  | succ n ih =>
    show cntU F n + (if F n = -1 then 1 else 0) ≤ n + 1
    split <;> omega
theorem cntU_out {F : Nat → Int32} {v : Nat} {x : Int32} : ∀ n, n ≤ v → cntU (su F v x) n = cntU F n := by
  intro n
  induction n with
  | zero => intro _; rfl
  | succ n ih =>
    intro h
    show cntU (su F v x) n + (if su F v x n = -1 then 1 else 0) = cntU F n + (if F n = -1 then 1 else 0)
    rw [ih (by omega), show su F v x n = F n from if_neg (by omega)]
theorem cntU_su {F : Nat → Int32} {v : Nat} {x : Int32} (hF : F v = -1) (hx : x ≠ -1) : ∀ n, v < n → cntU (su F v x) n + 1 = cntU F n := by
  intro n
  induction n with
  | zero => intro h; omega
  | succ n ih =>
    intro h
    show cntU (su F v x) n + (if su F v x n = -1 then 1 else 0) + 1 = cntU F n + (if F n = -1 then 1 else 0)
    by_cases e : v = n
    · subst e
      rw [cntU_out v (Nat.le_refl v), show su F v x v = x from if_pos rfl, if_neg hx, if_pos hF]
    · rw [show su F v x n = F n from if_neg (fun h => e h.symm)]
      have := ih (by omega)
      omega
theorem nI_nm1 {k : Nat} (h : k < 2 ^ 31) : nI k ≠ -1 := by
  intro e
  have h1 : (nI k).toInt = (-1 : Int32).toInt := by rw [e]
  rw [nI_toInt h] at h1
  have h2 : (-1 : Int32).toInt = -1 := by decide
  omega
/-- parts: the marks, the queue, how many stand in it -/
abbrev ow_PQ := (Nat → Int32) × (Nat → Nat) × Nat
def mp_add (k : Int32) (t : ow_PQ) (v : Nat) : ow_PQ := if t.1 v = -1 then (su t.1 v k, nu t.2.1 t.2.2 v, t.2.2 + 1) else t
def mp_bfs (N : Nat → Nat) (k : Int32) : Nat → Nat → ow_PQ → ow_PQ
  | 0, _, t => t
  | n + 1, i, t => if i < t.2.2 then mp_bfs N k n (i + 1) (mp_add k (mp_add k t (N (t.2.1 i))) (mt (t.2.1 i))) else t
def mp_out (N : Nat → Nat) (vs : Nat) (F : Nat → Int32) : Nat → (Nat → Int32) × Nat
  | 0 => (F, 0)
  | n + 1 => if (mp_out N vs F n).1 n = -1 then ((mp_bfs N (nI (mp_out N vs F n).2) vs 0 (su (mp_out N vs F n).1 n (nI (mp_out N vs F n).2), (fun _ => n), 1)).1, (mp_out N vs F n).2 + 1) else mp_out N vs F n
theorem mp_out_le (N : Nat → Nat) (vs : Nat) (F : Nat → Int32) : ∀ n, (mp_out N vs F n).2 ≤ n := by
  intro n
  induction n with
  | zero => exact Nat.le_refl 0
  | succ n ih =>
    show (if (mp_out N vs F n).1 n = -1 then _ else _ : (Nat → Int32) × Nat).2 ≤ n + 1
    split
    · show (mp_out N vs F n).2 + 1 ≤ n + 1
      omega
    · omega
/-- the queue holds visits, and there is room for all that are not marked -/
def mp_ok (vs : Nat) (t : ow_PQ) : Prop := (∀ j, j < t.2.2 → t.2.1 j < vs) ∧ t.2.2 + cntU t.1 vs ≤ vs
theorem mp_add_ok {vs k v : Nat} {t : ow_PQ} (hk : k < 2 ^ 31) (h : mp_ok vs t) (hv : v < vs) : mp_ok vs (mp_add (nI k) t v) := by
  unfold mp_add
  split
  · rename_i hF
    refine ⟨?_, ?_⟩
    · intro j hj
      show (if j = t.2.2 then v else t.2.1 j) < vs
      split
      · exact hv
      · rename_i hne
        have hj : j < t.2.2 + 1 := hj
        exact h.1 j (by omega)
    · have h1 := cntU_su (x := nI k) hF (nI_nm1 hk) vs hv
      have h2 := h.2
      show t.2.2 + 1 + cntU (su t.1 v (nI k)) vs ≤ vs
      omega
  · exact h
def vn (c : Nat) (S : ow_NP) : Prop := ∀ k, k < 2 * c → S.1 k < 2 * c ∧ S.2 k < 2 * c ∧ S.2 (S.1 k) = k ∧ S.1 (S.2 k) = k
theorem vn_inj {c : Nat} {S : ow_NP} (h : vn c S) {a b : Nat} (ha : a < 2 * c) (hb : b < 2 * c) (e : S.1 a = S.1 b) : a = b := by
  rw [← (h a ha).2.2.1, e, (h b hb).2.2.1]
theorem vn_inj2 {c : Nat} {S : ow_NP} (h : vn c S) {a b : Nat} (ha : a < 2 * c) (hb : b < 2 * c) (e : S.2 a = S.2 b) : a = b := by
  rw [← (h a ha).2.2.2, e, (h b hb).2.2.2]
theorem np_exchange_1 (S : ow_NP) (v w k : Nat) : (np_exchange S v w).1 k = if k = w then S.1 v else if k = v then S.1 w else S.1 k := rfl
theorem np_exchange_2 (S : ow_NP) (v w k : Nat) : (np_exchange S v w).2 k = if k = S.1 v then w else if k = S.1 w then v else S.2 k := rfl
theorem vn_exchange {c : Nat} {S : ow_NP} (h : vn c S) {v w : Nat} (hv : v < 2 * c) (hw : w < 2 * c) : vn c (np_exchange S v w) := by
  intro k hk
  refine ⟨?_, ?_, ?_, ?_⟩
  · rw [np_exchange_1]
    split
    · exact (h v hv).1
    · split
      · exact (h w hw).1
      · exact (h k hk).1
  · rw [np_exchange_2]
    split
    · exact hw
    · split
      · exact hv
      · exact (h k hk).2.1
  · rw [np_exchange_2, np_exchange_1]
    by_cases e1 : k = w
    · rw [if_pos e1, if_pos rfl, e1]
    · rw [if_neg e1]
      by_cases e2 : k = v
      · rw [if_pos e2]
        by_cases e3 : S.1 w = S.1 v
        · exact absurd (e2.trans (vn_inj h hv hw e3.symm)) e1
        · rw [if_neg e3, if_pos rfl, e2]
      · rw [if_neg e2, if_neg (fun e => e2 (vn_inj h hk hv e)), if_neg (fun e => e1 (vn_inj h hk hw e))]
        exact (h k hk).2.2.1
  · rw [np_exchange_1, np_exchange_2]
    by_cases e1 : k = S.1 v
    · rw [if_pos e1, if_pos rfl, e1]
    · rw [if_neg e1]
      by_cases e2 : k = S.1 w
      · rw [if_pos e2]
        by_cases e3 : v = w
        · exact absurd (by rw [e2, e3]) e1
        · rw [if_neg e3, if_pos rfl, e2]
      · rw [if_neg e2, if_neg (fun e => e2 (by rw [← e, (h k hk).2.2.2])), if_neg (fun e => e1 (by rw [← e, (h k hk).2.2.2]))]
        exact (h k hk).2.2.2
theorem np_exchange_twice {c : Nat} {S : ow_NP} (h : vn c S) {v w : Nat} (hv : v < 2 * c) (hw : w < 2 * c) : np_exchange (np_exchange S v w) v w = S := by
  have hvv : (np_exchange S v w).1 v = S.1 w := by
    rw [np_exchange_1]
    by_cases e : v = w
    · rw [if_pos e, e]
    · rw [if_neg e, if_pos rfl]
  have hww : (np_exchange S v w).1 w = S.1 v := by rw [np_exchange_1, if_pos rfl]
  apply Prod.ext
  · funext k
    rw [np_exchange_1, hvv, hww]
    by_cases e1 : k = w
    · rw [if_pos e1, e1]
    · rw [if_neg e1]
      by_cases e2 : k = v
      · rw [if_pos e2, e2]
      · rw [if_neg e2, np_exchange_1, if_neg e1, if_neg e2]
  · funext k
    rw [np_exchange_2, hvv, hww]
    by_cases e1 : k = S.1 w
    · rw [if_pos e1, e1, (h w hw).2.2.1]
    · rw [if_neg e1]
      by_cases e2 : k = S.1 v
      · rw [if_pos e2, e2, (h v hv).2.2.1]
      · rw [if_neg e2, np_exchange_2, if_neg e2, if_neg e1]
def rl (n : Nat) (f g : Nat → Int32) : Prop := ∀ k, k < n → f k = g k
theorem rl_su {n v : Nat} {f g : Nat → Int32} (x : Int32) (h : rl n f g) : rl n (su f v x) (su g v x) := by
  intro k hk
  show (if k = v then x else f k) = if k = v then x else g k
  split
  · rfl
  · exact h k hk
theorem rl_fill (n : Nat) (f : Nat → Int32) (x : Int32) : rl n (np_fill f 0 n x) (fun _ => x) := fun k hk => if_pos ⟨Nat.zero_le k, hk⟩
theorem mp_add_rl {vs v : Nat} {k : Int32} {t u : ow_PQ} (h : rl vs t.1 u.1) (he : t.2 = u.2) (hv : v < vs) : rl vs (mp_add k t v).1 (mp_add k u v).1 ∧ (mp_add k t v).2 = (mp_add k u v).2 := by
  unfold mp_add
  rw [h v hv]
  split
  · exact ⟨rl_su k h, by rw [he]⟩
  · exact ⟨h, he⟩
theorem mp_bfs_rl {N : Nat → Nat} {c k : Nat} (hN : ∀ a, a < 2 * c → N a < 2 * c) (hk : k < 2 ^ 31) : ∀ (d i : Nat) (t u : ow_PQ), mp_ok (2 * c) t → rl (2 * c) t.1 u.1 → t.2 = u.2 → rl (2 * c) (mp_bfs N (nI k) d i t).1 (mp_bfs N (nI k) d i u).1 ∧ (mp_bfs N (nI k) d i t).2 = (mp_bfs N (nI k) d i u).2 := by
  intro d
  induction d with
  | zero => intro i t u _ h he; exact ⟨h, he⟩
  | succ d ih =>
    intro i t u hok h he
    show rl (2 * c) (if i < t.2.2 then _ else _ : ow_PQ).1 (if i < u.2.2 then _ else _ : ow_PQ).1 ∧ (if i < t.2.2 then _ else _ : ow_PQ).2 = (if i < u.2.2 then _ else _ : ow_PQ).2
    rw [← he]
    split
    · rename_i hlt
      have hq := hok.1 i hlt
      have h1 := mp_add_rl (k := nI k) h he (hN _ hq)
      have h2 := mp_add_rl (k := nI k) h1.1 h1.2 (mt_lt hq)
      exact ih (i + 1) _ _ (mp_add_ok hk (mp_add_ok hk hok (hN _ hq)) (mt_lt hq)) h2.1 h2.2
    · exact ⟨h, he⟩
theorem mp_out_rl {N : Nat → Nat} {c : Nat} (hN : ∀ a, a < 2 * c → N a < 2 * c) (hc : c ≤ 12) {F G : Nat → Int32} (h : rl (2 * c) F G) : ∀ n, n ≤ 2 * c → rl (2 * c) (mp_out N (2 * c) F n).1 (mp_out N (2 * c) G n).1 ∧ (mp_out N (2 * c) F n).2 = (mp_out N (2 * c) G n).2 := by
  intro n
  induction n with
  | zero => intro _; exact ⟨h, rfl⟩
  | succ n ih =>
    intro hn
    have hi := ih (by omega)
    have hle := mp_out_le N (2 * c) F n
    show rl (2 * c) (if (mp_out N (2 * c) F n).1 n = -1 then _ else _ : (Nat → Int32) × Nat).1 (if (mp_out N (2 * c) G n).1 n = -1 then _ else _ : (Nat → Int32) × Nat).1 ∧ (if (mp_out N (2 * c) F n).1 n = -1 then _ else _ : (Nat → Int32) × Nat).2 = (if (mp_out N (2 * c) G n).1 n = -1 then _ else _ : (Nat → Int32) × Nat).2
    rw [← hi.1 n (by omega), ← hi.2]
    split
    · rename_i hF
      have hk : (mp_out N (2 * c) F n).2 < 2 ^ 31 := by omega
      have hok : mp_ok (2 * c) (su (mp_out N (2 * c) F n).1 n (nI (mp_out N (2 * c) F n).2), (fun _ => n), 1) := by
        refine ⟨fun _ _ => by show n < 2 * c; omega, ?_⟩
        have h1 := cntU_su (x := nI (mp_out N (2 * c) F n).2) hF (nI_nm1 hk) (2 * c) (by omega)
        have h2 := cntU_le (mp_out N (2 * c) F n).1 (2 * c)
        show 1 + cntU (su (mp_out N (2 * c) F n).1 n (nI (mp_out N (2 * c) F n).2)) (2 * c) ≤ 2 * c
        omega
      exact ⟨(mp_bfs_rl hN hk (2 * c) 0 _ (su (mp_out N (2 * c) G n).1 n (nI (mp_out N (2 * c) F n).2), (fun _ => n), 1) hok (rl_su _ hi.1) rfl).1, rfl⟩
    · exact hi
/-- the parts of a net: the mark of each visit, how many -/
def np_parts (c : Nat) (N : Nat → Nat) : (Nat → Int32) × Nat := mp_out N (2 * c) (fun _ => -1) (2 * c)
theorem np_parts_of {N : Nat → Nat} {c : Nat} (hN : ∀ a, a < 2 * c → N a < 2 * c) (hc : c ≤ 12) (F : Nat → Int32) : rl (2 * c) (mp_out N (2 * c) (np_fill F 0 (2 * c) (-1)) (2 * c)).1 (np_parts c N).1 ∧ (mp_out N (2 * c) (np_fill F 0 (2 * c) (-1)) (2 * c)).2 = (np_parts c N).2 := mp_out_rl hN hc (rl_fill (2 * c) F (-1)) (2 * c) (Nat.le_refl _)
theorem mr_in_rl {N : Nat → Nat} {n : Nat} {x : Int32} (hN : ∀ a, a < n → N a < n) : ∀ (d : Nat) (f g : Nat → Int32) (v : Nat), v < n → rl n f g → rl n (mr_in N x d f v) (mr_in N x d g v) := by
  intro d
  induction d with
  | zero => intro f g v _ h; exact h
  | succ d ih =>
    intro f g v hv h
    show rl n (if f v = -1 then _ else _) (if g v = -1 then _ else _)
    rw [h v hv]
    split
    · exact ih _ _ _ (hN v hv) (rl_su x h)
    · exact h
theorem mr_out_rl {N : Nat → Nat} {vs : Nat} (hN : ∀ a, a < vs → N a < vs) {F G : Nat → Int32} (h : rl vs F G) : ∀ n, n ≤ vs → rl vs (mr_out N vs F n).1 (mr_out N vs G n).1 ∧ (mr_out N vs F n).2 = (mr_out N vs G n).2 := by
  intro n
  induction n with
  | zero => intro _; exact ⟨h, rfl⟩
  | succ n ih =>
    intro hn
    have hi := ih (by omega)
    show rl vs (if (mr_out N vs F n).1 n = -1 then _ else _ : (Nat → Int32) × Nat).1 (if (mr_out N vs G n).1 n = -1 then _ else _ : (Nat → Int32) × Nat).1 ∧ (if (mr_out N vs F n).1 n = -1 then _ else _ : (Nat → Int32) × Nat).2 = (if (mr_out N vs G n).1 n = -1 then _ else _ : (Nat → Int32) × Nat).2
    rw [← hi.1 n (by omega), ← hi.2]
    split
    · exact ⟨mr_in_rl hN vs _ _ n (by omega) hi.1, rfl⟩
    · exact hi
/-- the rings of a net -/
def np_rings (c : Nat) (N : Nat → Nat) : (Nat → Int32) × Nat := mr_out N (2 * c) (fun _ => -1) (2 * c)
theorem np_rings_of {N : Nat → Nat} {c : Nat} (hN : ∀ a, a < 2 * c → N a < 2 * c) (F : Nat → Int32) : rl (2 * c) (mr_out N (2 * c) (np_fill F 0 (2 * c) (-1)) (2 * c)).1 (np_rings c N).1 ∧ (mr_out N (2 * c) (np_fill F 0 (2 * c) (-1)) (2 * c)).2 = (np_rings c N).2 := mr_out_rl hN (rl_fill (2 * c) F (-1)) (2 * c) (Nat.le_refl _)
def fc_end (N : Nat → Nat) (sd : Nat) : Nat := if sd % 2 = 0 then N (sd / 2) else sd / 2
def fc_on (S : ow_NP) (G : Nat → Int32) (sd : Nat) : Nat :=
  if (decide (fc_end S.1 sd % 2 = 0) == decide (0 < G (fc_end S.1 sd / 2))) == decide (sd % 2 = 0) then 2 * mt (fc_end S.1 sd) else 2 * S.2 (mt (fc_end S.1 sd)) + 1
/-- the first cell of a code from a visit -/
def cd_first (G : Nat → Int32) (v : Nat) : Nat := 4 + 2 * (v % 2) + (if G (v / 2) < 0 then 1 else 0)
abbrev tf_P := (Nat → Nat) × (Nat → Nat) × Nat × Nat × (Nat → Nat) × Nat
abbrev tf_P.num (P : tf_P) : Nat → Nat := P.1
abbrev tf_P.nam (P : tf_P) : Nat → Nat := P.2.1
abbrev tf_P.names (P : tf_P) : Nat := P.2.2.1
abbrev tf_P.gone (P : tf_P) : Nat := P.2.2.2.1
abbrev tf_P.T (P : tf_P) : Nat → Nat := P.2.2.2.2.1
abbrev tf_P.len (P : tf_P) : Nat := P.2.2.2.2.2
def tf_name (P : tf_P) (x : Nat) : tf_P := if P.num x = 0 then ⟨nu P.num x (P.names + 1), nu P.nam P.names x, P.names + 1, P.gone, P.T, P.len⟩ else P
def tf_cell (G : Nat → Int32) (P : tf_P) (v : Nat) : Nat := 4 * ((tf_name P (v / 2)).num (v / 2) - 1) + cd_first G v
def tf_vis (G : Nat → Int32) (P : tf_P) (v : Nat) : tf_P := ⟨(tf_name P (v / 2)).num, (tf_name P (v / 2)).nam, (tf_name P (v / 2)).names, P.gone ||| 2 ^ v, nu P.T P.len (tf_cell G P v), P.len + 1⟩
def tf_ring (G : Nat → Int32) (N : Nat → Nat) (f : Nat) : Nat → Nat → tf_P → tf_P
  | 0, _, P => P
  | d + 1, v, P => if N v = f then tf_vis G P v else tf_ring G N f d (N v) (tf_vis G P v)
def tf_sep (P : tf_P) : tf_P := ⟨P.num, P.nam, P.names, P.gone, nu P.T P.len 0, P.len + 1⟩
def tf_look (P : tf_P) : Nat → Nat → Option Nat × Nat
  | 0, k => (none, k)
  | d + 1, k => if P.gone / 2 ^ (2 * P.nam k) % 2 = 0 then (some (2 * P.nam k), k + 1) else if P.gone / 2 ^ (2 * P.nam k + 1) % 2 = 0 then (some (2 * P.nam k + 1), k + 1) else tf_look P d (k + 1)
def tf_out (G : Nat → Int32) (N : Nat → Nat) : Nat → Option Nat → Nat → tf_P → tf_P
  | 0, _, _, P => P
  | _ + 1, none, _, P => P
  | d + 1, some f, k, P => tf_out G N d (tf_look (tf_sep (tf_ring G N f 24 f P)) ((tf_sep (tf_ring G N f 24 f P)).names - k) k).1 (tf_look (tf_sep (tf_ring G N f 24 f P)) ((tf_sep (tf_ring G N f 24 f P)).names - k) k).2 (tf_sep (tf_ring G N f 24 f P))
def tf_0 : tf_P := ⟨fun _ => 0, fun _ => 0, 0, 0, fun _ => 0, 0⟩
def tf_code (G : Nat → Int32) (N : Nat → Nat) (v : Nat) : tf_P := tf_out G N 24 (some v) 0 tf_0
def mv_bs (N : Nat → Nat) (v w : Nat) : Bool := decide (N v = w) || decide (N w = v)
def mv_pair (N : Nat → Nat) (G : Nat → Int32) (x y : Nat) : Bool := (decide (G x ≠ G y) && mv_bs N (2 * x) (2 * y)) && mv_bs N (2 * x + 1) (2 * y + 1)
def mv_ov (N : Nat → Nat) (sd : Nat) : Bool := decide (sd / 2 % 2 = 0) && decide (N (sd / 2) % 2 = 0)
def mv_cnt (c kd : Nat) : Nat := match kd with
  | 0 => c
  | 1 => if c + 1 ≤ 12 then (2 * c + 1) * 4 else 0
  | 2 => c * c
  | 3 => if c + 2 ≤ 12 then (2 * c + 1) * (2 * c + 2) * 4 else 0
  | _ => 2 * (2 * c)
def mv_meet (F P : Nat → Int32) (v w : Nat) : Bool := decide (P v ≠ P w) || (decide (F (2 * v) = F (2 * w)) || (decide (F (2 * v) = F (2 * w + 1)) || (decide (F (2 * v + 1) = F (2 * w)) || decide (F (2 * v + 1) = F (2 * w + 1)))))
def mv_pass (N : Nat → Nat) (a b d : Nat) : Bool := decide (fc_end N a / 2 ≠ fc_end N b / 2) && (decide (fc_end N b / 2 ≠ fc_end N d / 2) && (decide (fc_end N a / 2 ≠ fc_end N d / 2) && (mv_ov N a || (mv_ov N b || mv_ov N d))))
abbrev ow_NT := Nat × Nat × ow_NP × (Nat → Int32)
def np_cutN (S : ow_NP) (v k : Nat) : Nat := if S.1 v = v then k + 1 else k
def np_rmN (S : ow_NP) (x k : Nat) : Nat := np_cutN (np_cut S (2 * x)) (2 * x + 1) (np_cutN S (2 * x) k)
/-- the first visits and crossings of a net laid over another's -/
def nt_copy (Q R : ow_NT) : ow_NT := (R.1, R.2.1, (va_cpy R.2.2.1.1 Q.2.2.1.1 0 0 (2 * R.1), va_cpy R.2.2.1.2 Q.2.2.1.2 0 0 (2 * R.1)), va_cpy R.2.2.2 Q.2.2.2 0 0 R.1)
def nt_rm (Q : ow_NT) (x : Nat) : ow_NT := (Q.1 - 1, np_rmN Q.2.2.1 x Q.2.1, np_rmS Q.2.2.1 x (Q.1 - 1), np_rmG Q.2.2.2 x (Q.1 - 1))
def nt_swap (Q : ow_NT) (v w : Nat) : ow_NT := (Q.1, Q.2.1, np_swap Q.2.2.1 v w, Q.2.2.2)
theorem cpy_lt {f g : Nat → Nat} {a b n m : Nat} (hf : ∀ k, f k < m) (hg : ∀ k, g k < m) (k : Nat) : va_cpy f g a b n k < m := by
  show (if b ≤ k ∧ k < b + n then f (a + (k - b)) else g k) < m
  split
  · exact hf _
  · exact hg k
theorem nt_copy_b24 {Q R : ow_NT} (hQ : ow_b24 Q.2.2.1) (hR : ow_b24 R.2.2.1) : ow_b24 (nt_copy Q R).2.2.1 := ⟨cpy_lt hR.1 hQ.1, cpy_lt hR.2 hQ.2⟩
def mv_t0 (Q R : ow_NT) (x : Nat) : ow_NT := if mv_bs R.2.2.1.1 (2 * x) (2 * x + 1) then nt_rm (nt_copy Q R) x else Q
def mv_b2 (R : ow_NT) (x y : Nat) : Bool := decide (y < x) && mv_pair R.2.2.1.1 R.2.2.2 x y
def mv_t2 (Q R : ow_NT) (x y : Nat) : ow_NT := if mv_b2 R x y then nt_rm (nt_rm (nt_copy Q R) x) y else Q
def mv_b4 (R : ow_NT) (a : Nat) : Bool := decide (a < fc_on R.2.2.1 R.2.2.2 a) && (decide (a < fc_on R.2.2.1 R.2.2.2 (fc_on R.2.2.1 R.2.2.2 a)) && (decide (fc_on R.2.2.1 R.2.2.2 (fc_on R.2.2.1 R.2.2.2 (fc_on R.2.2.1 R.2.2.2 a)) = a) && mv_pass R.2.2.1.1 a (fc_on R.2.2.1 R.2.2.2 a) (fc_on R.2.2.1 R.2.2.2 (fc_on R.2.2.1 R.2.2.2 a))))
def nt_sw (R Q : ow_NT) (a : Nat) : ow_NT := nt_swap Q (a / 2) (R.2.2.1.1 (a / 2))
def mv_t4 (Q R : ow_NT) (a : Nat) : ow_NT := if mv_b4 R a then nt_sw R (nt_sw R (nt_sw R (nt_copy Q R) a) (fc_on R.2.2.1 R.2.2.2 a)) (fc_on R.2.2.1 R.2.2.2 (fc_on R.2.2.1 R.2.2.2 a)) else Q
/-- two visits come behind a visit, or into a circle -/
def nt_pair (Q : ow_NT) (af : Option Nat) (f g : Nat) : ow_NT := match af with
  | none => (Q.1, Q.2.1 - 1, np_putBehind (nl Q.2.2.1 f f) f g, Q.2.2.2)
  | some a => (Q.1, Q.2.1, np_putBehind (np_putBehind Q.2.2.1 a f) f g, Q.2.2.2)
theorem nt_pair_b24 {Q : ow_NT} {af : Option Nat} {f g : Nat} (h : ow_b24 Q.2.2.1) (ha : ∀ a, af = some a → a < 24) (hf : f < 24) (hg : g < 24) : ow_b24 (nt_pair Q af f g).2.2.1 := by
  cases af with
  | none => exact np_putBehind_b24 (nl_b24 h hf hf) hf hg
  | some a => exact np_putBehind_b24 (np_putBehind_b24 h (ha a rfl) hf) hf hg
/-- one crossing more, not yet in any ring -/
def nt_add (Q : ow_NT) (x : Int32) : ow_NT := (Q.1 + 1, Q.2.1, Q.2.2.1, su Q.2.2.2 Q.1 x)
def mv_b1 (R : ow_NT) (gap : Nat) : Bool := !(decide (gap = 2 * R.1) && decide (R.2.1 = 0))
def mv_sg (ch : Nat) : Int32 := if ch / 2 % 2 = 0 then 1 else -1
def mv_af (R : ow_NT) (gap : Nat) : Option Nat := if gap = 2 * R.1 then none else some gap
def mv_t1 (Q R : ow_NT) (gap ch : Nat) : ow_NT := if mv_b1 R gap then nt_pair (nt_add (nt_copy Q R) (mv_sg ch)) (mv_af R gap) (2 * R.1 + ch % 2) (mt (2 * R.1 + ch % 2)) else Q
def vD (D : Nat → Prop) (S : ow_NP) : Prop := ∀ k, D k → D (S.1 k) ∧ D (S.2 k) ∧ S.2 (S.1 k) = k ∧ S.1 (S.2 k) = k
theorem vD_vn {c : Nat} {S : ow_NP} : vD (fun k => k < 2 * c) S ↔ vn c S := Iff.rfl
theorem vD_cg {D E : Nat → Prop} {S : ow_NP} (h : vD D S) (he : ∀ k, E k ↔ D k) : vD E S := fun k hk => by
  obtain ⟨h1, h2, h3, h4⟩ := h k ((he k).mp hk)
  exact ⟨(he _).mpr h1, (he _).mpr h2, h3, h4⟩
theorem vD_inj {D : Nat → Prop} {S : ow_NP} (h : vD D S) {a b : Nat} (ha : D a) (hb : D b) (e : S.1 a = S.1 b) : a = b := by
  rw [← (h a ha).2.2.1, e, (h b hb).2.2.1]
theorem vD_inj2 {D : Nat → Prop} {S : ow_NP} (h : vD D S) {a b : Nat} (ha : D a) (hb : D b) (e : S.2 a = S.2 b) : a = b := by
  rw [← (h a ha).2.2.2, e, (h b hb).2.2.2]
theorem put_1 (S : ow_NP) (a v k : Nat) : (np_putBehind S a v).1 k = if k = v then S.1 a else if k = a then v else S.1 k := rfl
theorem put_2 (S : ow_NP) (a v k : Nat) : (np_putBehind S a v).2 k = if k = S.1 a then v else if k = v then a else S.2 k := rfl
theorem vD_put {D : Nat → Prop} {S : ow_NP} (h : vD D S) {a v : Nat} (ha : D a) (hv : ¬ D v) : vD (fun k => D k ∨ k = v) (np_putBehind S a v) := by
  have hav : ¬ a = v := fun e => hv (by rw [← e]; exact ha)
  have hna : ¬ v = S.1 a := fun e => hv (by rw [e]; exact (h a ha).1)
  have n1 : (np_putBehind S a v).1 v = S.1 a := by rw [put_1, if_pos rfl]
  have n2 : (np_putBehind S a v).1 a = v := by rw [put_1, if_neg hav, if_pos rfl]
  have n3 : ∀ k, ¬ k = v → ¬ k = a → (np_putBehind S a v).1 k = S.1 k := fun k x y => by rw [put_1, if_neg x, if_neg y]
  have p1 : (np_putBehind S a v).2 (S.1 a) = v := by rw [put_2, if_pos rfl]
  have p2 : (np_putBehind S a v).2 v = a := by rw [put_2, if_neg hna, if_pos rfl]
  have p3 : ∀ k, ¬ k = S.1 a → ¬ k = v → (np_putBehind S a v).2 k = S.2 k := fun k x y => by rw [put_2, if_neg x, if_neg y]
  intro k hk
  have hx : (D ((np_putBehind S a v).1 k) ∨ (np_putBehind S a v).1 k = v) ∧ (np_putBehind S a v).2 ((np_putBehind S a v).1 k) = k := by
    by_cases e1 : k = v
    · rw [e1, n1, p1]; exact ⟨Or.inl (h a ha).1, rfl⟩
    · by_cases e2 : k = a
      · rw [e2, n2, p2]; exact ⟨Or.inr rfl, rfl⟩
      · have hk := hk.resolve_right e1
        rw [n3 k e1 e2, p3 _ (fun e => e2 (vD_inj h hk ha e)) (fun e => hv (by rw [← e]; exact (h k hk).1))]
        exact ⟨Or.inl (h k hk).1, (h k hk).2.2.1⟩
  have hy : (D ((np_putBehind S a v).2 k) ∨ (np_putBehind S a v).2 k = v) ∧ (np_putBehind S a v).1 ((np_putBehind S a v).2 k) = k := by
    by_cases e1 : k = v
    · rw [e1, p2, n2]; exact ⟨Or.inl ha, rfl⟩
    · by_cases e2 : k = S.1 a
      · rw [e2, p1, n1]; exact ⟨Or.inr rfl, rfl⟩
      · have hk := hk.resolve_right e1
        rw [p3 k e2 e1, n3 _ (fun e => hv (by rw [← e]; exact (h k hk).2.1)) (fun e => e2 (by rw [← e, (h k hk).2.2.2]))]
        exact ⟨Or.inl (h k hk).2.1, (h k hk).2.2.2⟩
  exact ⟨hx.1, hy.1, hx.2, hy.2⟩
theorem nl_1 (S : ow_NP) (v w k : Nat) : (nl S v w).1 k = if k = v then w else S.1 k := rfl
theorem nl_2 (S : ow_NP) (v w k : Nat) : (nl S v w).2 k = if k = w then v else S.2 k := rfl
theorem vD_open {D : Nat → Prop} {S : ow_NP} (h : vD D S) {v : Nat} (hv : ¬ D v) : vD (fun k => D k ∨ k = v) (nl S v v) := by
  have n1 : (nl S v v).1 v = v := if_pos rfl
  have p1 : (nl S v v).2 v = v := if_pos rfl
  have n3 : ∀ k, ¬ k = v → (nl S v v).1 k = S.1 k := fun k x => if_neg x
  have p3 : ∀ k, ¬ k = v → (nl S v v).2 k = S.2 k := fun k x => if_neg x
  intro k hk
  by_cases e1 : k = v
  · rw [e1, n1, p1, n1]
    exact ⟨Or.inr rfl, Or.inr rfl, rfl, rfl⟩
  · have hk : D k := hk.resolve_right e1
    rw [n3 k e1, p3 k e1, p3 _ (fun e => hv (by rw [← e]; exact (h k hk).1)), n3 _ (fun e => hv (by rw [← e]; exact (h k hk).2.1))]
    exact ⟨Or.inl (h k hk).1, Or.inl (h k hk).2.1, (h k hk).2.2.1, (h k hk).2.2.2⟩
theorem vD_cut {D : Nat → Prop} {S : ow_NP} (h : vD D S) {v : Nat} (hv : D v) : vD (fun k => D k ∧ k ≠ v) (np_cut S v) := by
  unfold np_cut
  split
  · rename_i e
    intro k hk
    obtain ⟨h1, h2, h3, h4⟩ := h k hk.1
    refine ⟨⟨h1, fun e2 => hk.2 ?_⟩, ⟨h2, fun e2 => hk.2 ?_⟩, h3, h4⟩
    · rw [← h3, e2]
      have := (h v hv).2.2.1
      rw [e] at this; exact this
    · rw [← h4, e2, e]
  · rename_i e
    have e' : ¬ S.2 v = v := fun q => e (by have := (h v hv).2.2.2; rw [q] at this; exact this)
    intro k hk
    obtain ⟨h1, h2, h3, h4⟩ := h k hk.1
    rw [nl_1, nl_2, nl_1, nl_2]
    by_cases e1 : k = S.2 v
    · rw [if_pos e1, if_pos rfl]
      refine ⟨⟨(h v hv).1, e⟩, ?_, e1.symm, ?_⟩
      · by_cases e3 : k = S.1 v
        · rw [if_pos e3]; exact ⟨(h v hv).2.1, e'⟩
        · rw [if_neg e3]
          refine ⟨h2, fun q => e3 ?_⟩
          rw [← h4, q]
      · by_cases e3 : k = S.1 v
        · rw [if_pos e3, if_pos rfl, e3]
        · rw [if_neg e3, if_neg (fun q => hk.2 (by rw [← h4, q, (h v hv).2.2.2])), h4]
    · rw [if_neg e1, if_neg (fun q => hk.2 (vD_inj h hk.1 hv q))]
      refine ⟨⟨h1, fun q => e1 (by rw [← h3, q])⟩, ?_, h3, ?_⟩
      · by_cases e3 : k = S.1 v
        · rw [if_pos e3]; exact ⟨(h v hv).2.1, e'⟩
        · rw [if_neg e3]
          refine ⟨h2, fun q => e3 ?_⟩
          rw [← h4, q]
      · by_cases e3 : k = S.1 v
        · rw [if_pos e3, if_pos rfl, e3]
        · rw [if_neg e3, if_neg (fun q => hk.2 (by rw [← h4, q, (h v hv).2.2.2])), h4]
/-- a visit gets another name -/
theorem vD_rename {D : Nat → Prop} {S : ow_NP} (h : vD D S) {v n : Nat} (hv : D v) (hn : ¬ D n) : vD (fun k => (D k ∧ k ≠ v) ∨ k = n) (np_rename S v n) := by
  unfold np_rename
  split
  · rename_i e
    have hc := vD_cut h hv
    rw [np_cut, if_pos e] at hc
    exact vD_open hc (fun q => hn q.1)
  · rename_i e
    have e' : ¬ S.2 v = v := fun q => e (by have := (h v hv).2.2.2; rw [q] at this; exact this)
    have hs : (nl S (S.2 v) n).1 v = S.1 v := by rw [nl_1, if_neg (fun q => e' q.symm)]
    rw [hs]
    have w1 : ¬ n = S.2 v := fun q => hn (by rw [q]; exact (h v hv).2.1)
    have w2 : ¬ n = S.1 v := fun q => hn (by rw [q]; exact (h v hv).1)
    have n1 : (nl (nl S (S.2 v) n) n (S.1 v)).1 n = S.1 v := if_pos rfl
    have n2 : (nl (nl S (S.2 v) n) n (S.1 v)).1 (S.2 v) = n := by rw [nl_1, if_neg (fun q => w1 q.symm), nl_1, if_pos rfl]
    have n3 : ∀ k, ¬ k = n → ¬ k = S.2 v → (nl (nl S (S.2 v) n) n (S.1 v)).1 k = S.1 k := fun k x y => by rw [nl_1, if_neg x, nl_1, if_neg y]
    have p1 : (nl (nl S (S.2 v) n) n (S.1 v)).2 (S.1 v) = n := if_pos rfl
    have p2 : (nl (nl S (S.2 v) n) n (S.1 v)).2 n = S.2 v := by rw [nl_2, if_neg w2, nl_2, if_pos rfl]
    have p3 : ∀ k, ¬ k = n → ¬ k = S.1 v → (nl (nl S (S.2 v) n) n (S.1 v)).2 k = S.2 k := fun k x y => by rw [nl_2, if_neg y, nl_2, if_neg x]
    intro k hk
    have hx : ((D ((nl (nl S (S.2 v) n) n (S.1 v)).1 k) ∧ (nl (nl S (S.2 v) n) n (S.1 v)).1 k ≠ v) ∨ (nl (nl S (S.2 v) n) n (S.1 v)).1 k = n) ∧ (nl (nl S (S.2 v) n) n (S.1 v)).2 ((nl (nl S (S.2 v) n) n (S.1 v)).1 k) = k := by
      by_cases e1 : k = n
      · rw [e1, n1, p1]; exact ⟨Or.inl ⟨(h v hv).1, e⟩, rfl⟩
      · by_cases e2 : k = S.2 v
        · rw [e2, n2, p2]; exact ⟨Or.inr rfl, rfl⟩
        · have hk := hk.resolve_right e1
          obtain ⟨h1, h2, h3, h4⟩ := h k hk.1
          rw [n3 k e1 e2, p3 _ (fun q => hn (by rw [← q]; exact h1)) (fun q => hk.2 (vD_inj h hk.1 hv q))]
          exact ⟨Or.inl ⟨h1, fun q => e2 (by rw [← h3, q])⟩, h3⟩
    have hy : ((D ((nl (nl S (S.2 v) n) n (S.1 v)).2 k) ∧ (nl (nl S (S.2 v) n) n (S.1 v)).2 k ≠ v) ∨ (nl (nl S (S.2 v) n) n (S.1 v)).2 k = n) ∧ (nl (nl S (S.2 v) n) n (S.1 v)).1 ((nl (nl S (S.2 v) n) n (S.1 v)).2 k) = k := by
      by_cases e1 : k = n
      · rw [e1, p2, n2]; exact ⟨Or.inl ⟨(h v hv).2.1, e'⟩, rfl⟩
      · by_cases e2 : k = S.1 v
        · rw [e2, p1, n1]; exact ⟨Or.inr rfl, rfl⟩
        · have hk := hk.resolve_right e1
          obtain ⟨h1, h2, h3, h4⟩ := h k hk.1
          rw [p3 k e1 e2, n3 _ (fun q => hn (by rw [← q]; exact h2)) (fun q => hk.2 (vD_inj2 h hk.1 hv q))]
          exact ⟨Or.inl ⟨h2, fun q => e2 (by rw [← h4, q])⟩, h4⟩
    exact ⟨hx.1, hy.1, hx.2, hy.2⟩
theorem vn_rm {c x : Nat} {S : ow_NP} (h : vn (c + 1) S) (hx : x ≤ c) : vn c (np_rmS S x c) := by
  have h1 := vD_cut (vD_cut (vD_vn.mpr h) (v := 2 * x) (by omega)) (v := 2 * x + 1) (by omega)
  unfold np_rmS
  split
  · rename_i e
    exact vD_vn.mp (vD_cg h1 (fun k => by omega))
  · rename_i e
    have h2 := vD_rename h1 (v := 2 * c) (n := 2 * x) (by omega) (by omega)
    have h3 := vD_rename h2 (v := 2 * c + 1) (n := 2 * x + 1) (by omega) (by omega)
    exact vD_vn.mp (vD_cg h3 (fun k => by omega))
theorem np_sw_v (v w : Nat) : np_sw v v w = w := if_pos rfl
theorem np_sw_w (v w : Nat) : np_sw w v w = v := by
  unfold np_sw
  split
  · rename_i e
    exact e
  · exact if_pos rfl
theorem np_sw_o {v w a : Nat} (h1 : ¬ a = v) (h2 : ¬ a = w) : np_sw a v w = a := by
  unfold np_sw
  rw [if_neg h1, if_neg h2]
theorem np_sw_i (v w a : Nat) : np_sw (np_sw a v w) v w = a := by
  by_cases e1 : a = v
  · rw [e1, np_sw_v, np_sw_w]
  · by_cases e2 : a = w
    · rw [e2, np_sw_w, np_sw_v]
    · rw [np_sw_o e1 e2, np_sw_o e1 e2]
theorem np_sw_D {D : Nat → Prop} {v w a : Nat} (hv : D v) (hw : D w) (ha : D a) : D (np_sw a v w) := by
  unfold np_sw
  split
  · exact hw
  · split
    · exact hv
    · exact ha
theorem np_sw_e {v w a b : Nat} : a = np_sw b v w ↔ np_sw a v w = b := ⟨fun h => by rw [h, np_sw_i], fun h => by rw [← h, np_sw_i]⟩
/-- swapped places: the net, with two visits renamed -/
theorem np_swap_1 {D : Nat → Prop} {S : ow_NP} (h : vD D S) {v w : Nat} (hv : D v) (hw : D w) {k : Nat} (hk : D k) : (np_swap S v w).1 k = np_sw (S.1 (np_sw k v w)) v w := by
  show (if k = v then np_sw (S.1 w) v w else if k = np_sw (S.2 w) v w then v else if k = w then np_sw (S.1 v) v w else if k = np_sw (S.2 v) v w then w else S.1 k) = _
  by_cases e1 : k = v
  · rw [if_pos e1, e1, np_sw_v]
  · rw [if_neg e1]
    by_cases e2 : k = np_sw (S.2 w) v w
    · rw [if_pos e2, np_sw_e.mp e2, (h w hw).2.2.2, np_sw_w]
    · rw [if_neg e2]
      by_cases e3 : k = w
      · rw [if_pos e3, e3, np_sw_w]
      · rw [if_neg e3]
        by_cases e4 : k = np_sw (S.2 v) v w
        · rw [if_pos e4, np_sw_e.mp e4, (h v hv).2.2.2, np_sw_v]
        · rw [if_neg e4, np_sw_o e1 e3]
          have e5 : np_sw k v w = k := np_sw_o e1 e3
          rw [np_sw_o]
          · intro q
            exact e4 (np_sw_e.mpr (by rw [e5, ← (h k hk).2.2.1, q]))
          · intro q
            exact e2 (np_sw_e.mpr (by rw [e5, ← (h k hk).2.2.1, q]))
theorem np_swap_2 {D : Nat → Prop} {S : ow_NP} (h : vD D S) {v w : Nat} (hv : D v) (hw : D w) {k : Nat} (hk : D k) : (np_swap S v w).2 k = np_sw (S.2 (np_sw k v w)) v w := by
  show (if k = np_sw (S.1 w) v w then v else if k = v then np_sw (S.2 w) v w else if k = np_sw (S.1 v) v w then w else if k = w then np_sw (S.2 v) v w else S.2 k) = _
  by_cases e1 : k = np_sw (S.1 w) v w
  · rw [if_pos e1, np_sw_e.mp e1, (h w hw).2.2.1, np_sw_w]
  · rw [if_neg e1]
    by_cases e2 : k = v
    · rw [if_pos e2, e2, np_sw_v]
    · rw [if_neg e2]
      by_cases e3 : k = np_sw (S.1 v) v w
      · rw [if_pos e3, np_sw_e.mp e3, (h v hv).2.2.1, np_sw_v]
      · rw [if_neg e3]
        by_cases e4 : k = w
        · rw [if_pos e4, e4, np_sw_w]
        · rw [if_neg e4, np_sw_o e2 e4]
          have e5 : np_sw k v w = k := np_sw_o e2 e4
          rw [np_sw_o]
          · intro q
            exact e3 (np_sw_e.mpr (by rw [e5, ← (h k hk).2.2.2, q]))
          · intro q
            exact e1 (np_sw_e.mpr (by rw [e5, ← (h k hk).2.2.2, q]))
theorem vD_swap {D : Nat → Prop} {S : ow_NP} (h : vD D S) {v w : Nat} (hv : D v) (hw : D w) : vD D (np_swap S v w) := by
  intro k hk
  have hsk := np_sw_D (a := k) hv hw hk
  obtain ⟨h1, h2, h3, h4⟩ := h _ hsk
  have d1 := np_sw_D hv hw h1
  have d2 := np_sw_D hv hw h2
  rw [np_swap_1 h hv hw hk, np_swap_2 h hv hw hk, np_swap_2 h hv hw d1, np_swap_1 h hv hw d2, np_sw_i, np_sw_i, h3, h4, np_sw_i]
  exact ⟨d1, d2, rfl, rfl⟩
theorem vn_copy {Q R : ow_NT} (h : vn R.1 R.2.2.1) : vn R.1 (nt_copy Q R).2.2.1 := by
  have key : ∀ (f g : Nat → Nat) (k : Nat), k < 2 * R.1 → va_cpy f g 0 0 (2 * R.1) k = f k := fun f g k hk => by
    rw [pk_cpy_in (Nat.zero_le k) (by omega), Nat.zero_add, Nat.sub_zero]
  intro k hk
  obtain ⟨h1, h2, h3, h4⟩ := h k hk
  show va_cpy _ _ 0 0 _ k < _ ∧ va_cpy _ _ 0 0 _ k < _ ∧ va_cpy R.2.2.1.2 _ 0 0 _ (va_cpy R.2.2.1.1 _ 0 0 _ k) = k ∧ va_cpy R.2.2.1.1 _ 0 0 _ (va_cpy R.2.2.1.2 _ 0 0 _ k) = k
  rw [key _ _ k hk, key _ _ k hk, key _ _ _ h1, key _ _ _ h2]
  exact ⟨h1, h2, h3, h4⟩
theorem vD_pair {D : Nat → Prop} {Q : ow_NT} (h : vD D Q.2.2.1) {af : Option Nat} {f g : Nat} (ha : ∀ a, af = some a → D a) (hf : ¬ D f) (hg : ¬ D g) (hfg : ¬ f = g) : vD (fun k => (D k ∨ k = f) ∨ k = g) (nt_pair Q af f g).2.2.1 := by
  cases af with
  | none => exact vD_put (vD_open h hf) (Or.inr rfl) (fun q => q.elim hg (fun e => hfg e.symm))
  | some a => exact vD_put (vD_put h (ha a rfl) hf) (Or.inr rfl) (fun q => q.elim hg (fun e => hfg e.symm))
def np_faces (c : Nat) (S : ow_NP) (G : Nat → Int32) : (Nat → Int32) × Nat := mr_out (fc_on S G) (4 * c) (fun _ => -1) (4 * c)
theorem fc_on_vn {c : Nat} {S : ow_NP} (h : vn c S) (G : Nat → Int32) {sd : Nat} (hs : sd < 4 * c) : fc_on S G sd < 4 * c := by
  have h1 : fc_end S.1 sd < 2 * c := by
    unfold fc_end
    split
    · exact (h _ (by omega)).1
    · omega
  have h2 := mt_lt h1
  unfold fc_on
  split
  · omega
  · have := (h _ h2).2.1
    omega
def nt_plane (T : ow_NT) : Bool := decide ((np_faces T.1 T.2.2.1 T.2.2.2).2 = T.1 + 2 * (np_parts T.1 T.2.2.1.1).2)
def mv_nd (R : ow_NT) (o u : Nat) : Nat := (if o = 2 * R.1 then 1 else 0) + (if u = 2 * R.1 + 1 then 1 else 0)
def mv_b3 (R : ow_NT) (F P : Nat → Int32) (o u : Nat) : Bool := decide (mv_nd R o u ≤ R.2.1) && !(decide (o < 2 * R.1) && (decide (u < 2 * R.1) && !(mv_meet F P o u)))
def mv_s1 (ch : Nat) : Int32 := if ch % 2 = 0 then 1 else -1
def mv_s2 (ch : Nat) : Int32 := if ch % 2 = 0 then -1 else 1
def mv_au (R : ow_NT) (u : Nat) : Option Nat := if u < 2 * R.1 then some u else if u = 2 * R.1 then some (2 * R.1 + 2) else none
def mv_t3a (Q R : ow_NT) (o ch : Nat) : ow_NT := nt_pair (nt_add (nt_add (nt_copy Q R) (mv_s1 ch)) (mv_s2 ch)) (mv_af R o) (2 * R.1) (2 * R.1 + 2)
def mv_t3b (Q R : ow_NT) (o u ch : Nat) : ow_NT := nt_pair (mv_t3a Q R o ch) (mv_au R u) (if ch / 2 % 2 = 0 then 2 * R.1 + 1 else 2 * R.1 + 3) (if ch / 2 % 2 = 0 then 2 * R.1 + 3 else 2 * R.1 + 1)
def mv_t3 (Q R : ow_NT) (F P : Nat → Int32) (o u ch : Nat) : ow_NT := if mv_b3 R F P o u then mv_t3b Q R o u ch else Q
theorem nt_pair_c (Q : ow_NT) (af : Option Nat) (f g : Nat) : (nt_pair Q af f g).1 = Q.1 := by cases af <;> rfl
theorem mv_t3b_c (Q R : ow_NT) (o u ch : Nat) : (mv_t3b Q R o u ch).1 = R.1 + 2 := by
  unfold mv_t3b mv_t3a
  rw [nt_pair_c, nt_pair_c]; rfl
theorem mv_af_lt {R : ow_NT} {o a : Nat} (ho : o ≤ 2 * R.1) (h : mv_af R o = some a) : a < 2 * R.1 := by
  unfold mv_af at h
  split at h
  · cases h
  · have := Option.some.inj h
    omega
theorem mv_au_in {R : ow_NT} {u a : Nat} (h : mv_au R u = some a) : a < 2 * R.1 ∨ a = 2 * R.1 + 2 := by
  unfold mv_au at h
  split at h
  · have := Option.some.inj h
    omega
  · split at h
    · have := Option.some.inj h
      omega
    · cases h
theorem vD_t3a {Q R : ow_NT} (h : vn R.1 R.2.2.1) {o ch : Nat} (ho : o ≤ 2 * R.1) : vD (fun k => (k < 2 * R.1 ∨ k = 2 * R.1) ∨ k = 2 * R.1 + 2) (mv_t3a Q R o ch).2.2.1 := vD_pair (Q := nt_add (nt_add (nt_copy Q R) (mv_s1 ch)) (mv_s2 ch)) (vD_vn.mpr (vn_copy (Q := Q) h)) (fun a ha => mv_af_lt ho ha) (by omega) (by omega) (by omega)
theorem vn_t3b {Q R : ow_NT} (h : vn R.1 R.2.2.1) {o u ch : Nat} (ho : o ≤ 2 * R.1) : vn (R.1 + 2) (mv_t3b Q R o u ch).2.2.1 := by
  have h1 := vD_t3a (Q := Q) (ch := ch) h ho
  unfold mv_t3b
  by_cases e : ch / 2 % 2 = 0
  · rw [if_pos e, if_pos e]
    exact vD_vn.mp (vD_cg (vD_pair h1 (fun a ha => by have := mv_au_in ha; omega) (by omega) (by omega) (by omega)) (fun k => by omega))
  · rw [if_neg e, if_neg e]
    exact vD_vn.mp (vD_cg (vD_pair h1 (fun a ha => by have := mv_au_in ha; omega) (by omega) (by omega) (by omega)) (fun k => by omega))
theorem mv_nd_1 {R : ow_NT} {o u : Nat} (h : mv_nd R o u ≤ R.2.1) (hn : mv_af R o = none) : 1 ≤ R.2.1 := by
  unfold mv_af at hn
  split at hn
  · rename_i e
    unfold mv_nd at h
    rw [if_pos e] at h
    omega
  · cases hn
theorem mv_nd_2 {Q R : ow_NT} {o u ch : Nat} (h : mv_nd R o u ≤ R.2.1) (hu : u ≤ 2 * R.1 + 1) (hn : mv_au R u = none) : 1 ≤ (mv_t3a Q R o ch).2.1 := by
  unfold mv_au at hn
  split at hn
  · cases hn
  · split at hn
    · cases hn
    · have e : u = 2 * R.1 + 1 := by omega
      unfold mv_nd at h
      rw [if_pos e] at h
      unfold mv_t3a mv_af
      by_cases e2 : o = 2 * R.1
      · rw [if_pos e2] at h ⊢
        show 1 ≤ R.2.1 - 1
        omega
      · rw [if_neg e2] at h ⊢
        show 1 ≤ R.2.1
        omega
def mv_B (kd nb : Nat) (Q R : ow_NT) (F P : Nat → Int32) : Bool := match kd with
  | 0 => mv_bs R.2.2.1.1 (2 * nb) (2 * nb + 1)
  | 1 => mv_b1 R (nb / 4)
  | 2 => mv_b2 R (nb / R.1) (nb % R.1)
  | 3 => mv_b3 R F P (nb / 4 / (2 * R.1 + 2)) (nb / 4 % (2 * R.1 + 2)) && nt_plane (mv_t3b Q R (nb / 4 / (2 * R.1 + 2)) (nb / 4 % (2 * R.1 + 2)) (nb % 4))
  | _ => mv_b4 R nb
def mv_T (kd nb : Nat) (Q R : ow_NT) (F P : Nat → Int32) : ow_NT := match kd with
  | 0 => mv_t0 Q R nb
  | 1 => mv_t1 Q R (nb / 4) (nb % 4)
  | 2 => mv_t2 Q R (nb / R.1) (nb % R.1)
  | 3 => mv_t3 Q R F P (nb / 4 / (2 * R.1 + 2)) (nb / 4 % (2 * R.1 + 2)) (nb % 4)
  | _ => mv_t4 Q R nb
/-- marks of parts and faces, where moves of kind 3 need them -/
def mv_mk (kd : Nat) (R : ow_NT) (F P : Nat → Int32) : Prop := kd = 3 → rl (2 * R.1) P (np_parts R.1 R.2.2.1.1).1 ∧ rl (4 * R.1) F (np_faces R.1 R.2.2.1 R.2.2.2).1
theorem ow_pig : ∀ (n : Nat) (f : Nat → Nat), (∀ i, i ≤ n → f i < n) → ∃ i j, i < j ∧ j ≤ n ∧ f i = f j := by
  intro n
  induction n with
  | zero => intro f h; exact absurd (h 0 (Nat.le_refl 0)) (Nat.not_lt_zero _)
  | succ n ih =>
    intro f h
    by_cases e : ∃ i, i ≤ n ∧ f i = f (n + 1)
    · obtain ⟨i, hi, he⟩ := e
      exact ⟨i, n + 1, by omega, Nat.le_refl _, he⟩
    · have hne : ∀ i, i ≤ n → ¬ f i = f (n + 1) := fun i hi he => e ⟨i, hi, he⟩
      have hy := h (n + 1) (Nat.le_refl _)
      obtain ⟨i, j, hij, hj, hg⟩ := ih (fun i => if f (n + 1) < f i then f i - 1 else f i) (fun i hi => by
        have h1 := h i (by omega)
        have h2 := hne i hi
        show (if f (n + 1) < f i then f i - 1 else f i) < n
        split <;> omega)
      refine ⟨i, j, hij, by omega, ?_⟩
      have h1 := hne i (by omega)
      have h2 := hne j hj
      have hg : (if f (n + 1) < f i then f i - 1 else f i) = (if f (n + 1) < f j then f j - 1 else f j) := hg
      split at hg <;> split at hg <;> omega
def it (N : Nat → Nat) : Nat → Nat → Nat
  | 0, k => k
  | i + 1, k => N (it N i k)
theorem it_add (N : Nat → Nat) (k : Nat) : ∀ a b, it N (a + b) k = it N a (it N b k) := by
  intro a b
  induction a with
  | zero => rw [Nat.zero_add]; rfl
  | succ a ih =>
    rw [Nat.succ_add]
    show N (it N (a + b) k) = N (it N a (it N b k))
    rw [ih]
theorem it_lt {c : Nat} {S : ow_NP} (h : vn c S) {k : Nat} (hk : k < 2 * c) : ∀ i, it S.1 i k < 2 * c := by
  intro i
  induction i with
  | zero => exact hk
  | succ i ih => exact (h _ ih).1
theorem it_inj {c : Nat} {S : ow_NP} (h : vn c S) {a b : Nat} (ha : a < 2 * c) (hb : b < 2 * c) : ∀ i, it S.1 i a = it S.1 i b → a = b := by
  intro i
  induction i with
  | zero => intro e; exact e
  | succ i ih => intro e; exact ih (vn_inj h (it_lt h ha i) (it_lt h hb i) e)
/-- m is the length of the ring of f -/
def ring_len (N : Nat → Nat) (f m : Nat) : Prop := 1 ≤ m ∧ it N m f = f ∧ ∀ i, 1 ≤ i → i < m → ¬ it N i f = f
theorem ring_ex {c : Nat} {S : ow_NP} (h : vn c S) {f : Nat} (hf : f < 2 * c) : ∃ m, m ≤ 2 * c ∧ ring_len S.1 f m := by
  obtain ⟨i, j, hij, hj, he⟩ := ow_pig (2 * c) (fun i => it S.1 i f) (fun i _ => it_lt h hf i)
  have he : it S.1 i f = it S.1 j f := he
  have hp : it S.1 (j - i) f = f := by
    have h1 : it S.1 j f = it S.1 i (it S.1 (j - i) f) := by rw [← it_add]; congr 1; omega
    exact it_inj h (it_lt h hf _) hf i (by rw [← h1, ← he])
  obtain ⟨m, hm, hl⟩ := pk_least (fun m => 1 ≤ m ∧ it S.1 m f = f) ⟨j - i, by omega, hp⟩
  have hmj : m ≤ j - i := by
    rcases Nat.lt_or_ge (j - i) m with q | q
    · exact absurd ⟨by omega, hp⟩ (hl (j - i) q)
    · exact q
  exact ⟨m, by omega, hm.1, hm.2, fun i h1 h2 e => hl i h2 ⟨h1, e⟩⟩
theorem ring_dist {c : Nat} {S : ow_NP} (h : vn c S) {f m : Nat} (hf : f < 2 * c) (hm : ring_len S.1 f m) {i j : Nat} (hij : i < j) (hj : j < m) : ¬ it S.1 i f = it S.1 j f := by
  intro e
  have h1 : it S.1 j f = it S.1 i (it S.1 (j - i) f) := by rw [← it_add]; congr 1; omega
  have hp : it S.1 (j - i) f = f := it_inj h (it_lt h hf _) hf i (by rw [← h1, ← e])
  exact hm.2.2 (j - i) (by omega) (by omega) hp
def o_gn (g k : Nat) : Prop := g / 2 ^ k % 2 = 1
theorem gn_test (g k : Nat) : o_gn g k ↔ g.testBit k = true := by
  unfold o_gn
  rw [Nat.testBit_eq_decide_div_mod_eq, decide_eq_true_eq]
theorem gn_or (g v k : Nat) : o_gn (g ||| 2 ^ v) k ↔ o_gn g k ∨ k = v := by
  rw [gn_test, gn_test, Nat.testBit_or, Nat.testBit_two_pow, Bool.or_eq_true, decide_eq_true_eq]
  constructor
  · rintro (h | h)
    · exact Or.inl h
    · exact Or.inr h.symm
  · rintro (h | h)
    · exact Or.inl h
    · exact Or.inr h.symm
theorem gn_not {g k : Nat} : ¬ o_gn g k ↔ g / 2 ^ k % 2 = 0 := by
  unfold o_gn
  have := Nat.mod_two_eq_zero_or_one (g / 2 ^ k)
  omega
theorem tf_ring_gn {c : Nat} {S : ow_NP} {G : Nat → Int32} (h : vn c S) {f m : Nat} (hf : f < 2 * c) (hm : ring_len S.1 f m) : ∀ (d i : Nat) (P : tf_P), i < m → m ≤ i + d → (tf_ring G S.1 f d (it S.1 i f) P).len = P.len + (m - i) ∧ ∀ k, o_gn (tf_ring G S.1 f d (it S.1 i f) P).gone k ↔ o_gn P.gone k ∨ ∃ j, i ≤ j ∧ j < m ∧ k = it S.1 j f := by
  intro d
  induction d with
  | zero => intro i P h1 h2; omega
  | succ d ih =>
    intro i P h1 h2
    rw [tf_ring]
    have hvg : ∀ k, o_gn (tf_vis G P (it S.1 i f)).gone k ↔ o_gn P.gone k ∨ k = it S.1 i f := fun k => gn_or _ _ _
    have hvl : (tf_vis G P (it S.1 i f)).len = P.len + 1 := rfl
    split
    · rename_i e
      have hmi : m = i + 1 := by
        rcases Nat.lt_or_ge (i + 1) m with q | q
        · exact absurd e (hm.2.2 (i + 1) (by omega) q)
        · omega
      refine ⟨by rw [hvl]; omega, fun k => ?_⟩
      rw [hvg]
      constructor
      · rintro (q | q)
        · exact Or.inl q
        · exact Or.inr ⟨i, Nat.le_refl i, h1, q⟩
      · rintro (q | ⟨j, h3, h4, q⟩)
        · exact Or.inl q
        · have : j = i := by omega
          rw [this] at q
          exact Or.inr q
    · rename_i e
      have hi1 : i + 1 < m := by
        rcases Nat.lt_or_ge (i + 1) m with q | q
        · exact q
        · have hmi : m = i + 1 := by omega
          have := hm.2.1
          rw [hmi] at this
          exact absurd this e
      obtain ⟨a1, a2⟩ := ih (i + 1) (tf_vis G P (it S.1 i f)) hi1 (by omega)
      have hN : S.1 (it S.1 i f) = it S.1 (i + 1) f := rfl
      rw [hN]
      refine ⟨by rw [a1, hvl]; omega, fun k => ?_⟩
      rw [a2, hvg]
      constructor
      · rintro ((q | q) | ⟨j, h3, h4, q⟩)
        · exact Or.inl q
        · exact Or.inr ⟨i, Nat.le_refl i, h1, q⟩
        · exact Or.inr ⟨j, by omega, h4, q⟩
      · rintro (q | ⟨j, h3, h4, q⟩)
        · exact Or.inl (Or.inl q)
        · rcases Nat.lt_or_ge i j with r | r
          · exact Or.inr ⟨j, r, h4, q⟩
          · have : j = i := by omega
            rw [this] at q
            exact Or.inl (Or.inr q)
def cntB (q : Nat → Bool) : Nat → Nat
  | 0 => 0
  | n + 1 => cntB q n + (if q n then 1 else 0)
theorem cntB_cg {q r : Nat → Bool} : ∀ n, (∀ k, k < n → q k = r k) → cntB q n = cntB r n := by
  intro n
  induction n with
  | zero => intro _; rfl
  | succ n ih => intro h; rw [cntB, cntB, ih (fun k hk => h k (by omega)), h n (Nat.lt_succ_self n)]
theorem cntB_add {q r : Nat → Bool} {w : Nat} (hw : q w = false) : ∀ n, (∀ k, k < n → r k = (q k || decide (k = w))) → cntB r n = cntB q n + (if w < n then 1 else 0) := by
  intro n
  induction n with
  | zero => intro _; rw [if_neg (Nat.not_lt_zero w)]; rfl
  | succ n ih =>
    intro h
    rw [cntB, cntB, ih (fun k hk => h k (by omega)), h n (Nat.lt_succ_self n)]
    by_cases e : n = w
    · rw [e, hw, if_neg (Nat.lt_irrefl w), if_pos (Nat.lt_succ_self w), decide_eq_true rfl]
      rfl
    · rw [decide_eq_false e, Bool.or_false]
      by_cases e2 : w < n
      · rw [if_pos e2, if_pos (show w < n + 1 by omega)]; omega
      · rw [if_neg e2, if_neg (show ¬ w < n + 1 by omega)]; omega
theorem cntB_le (q : Nat → Bool) : ∀ n, cntB q n ≤ n := by
  intro n
  induction n with
  | zero => exact Nat.le_refl 0
  | succ n ih => rw [cntB]; split <;> omega
theorem cntB_all {q : Nat → Bool} : ∀ n, n ≤ cntB q n → ∀ k, k < n → q k = true := by
  intro n
  induction n with
  | zero => intro _ k hk; exact absurd hk (Nat.not_lt_zero k)
  | succ n ih =>
    intro h k hk
    have hl := cntB_le q n
    rw [cntB] at h
    split at h
    · rename_i e
      rcases Nat.lt_or_ge k n with q1 | q1
      · exact ih (by omega) k q1
      · have : k = n := by omega
        rw [this]; exact e
    · omega
def gnB (g k : Nat) : Bool := decide (g / 2 ^ k % 2 = 1)
theorem gnB_t {g k : Nat} : gnB g k = true ↔ o_gn g k := by
  unfold gnB o_gn
  exact decide_eq_true_iff
theorem gnB_f {g k : Nat} : gnB g k = false ↔ ¬ o_gn g k := by
  unfold gnB o_gn
  exact decide_eq_false_iff_not
theorem gnB_or (g v k : Nat) : gnB (g ||| 2 ^ v) k = (gnB g k || decide (k = v)) := by
  rw [Bool.eq_iff_iff, gnB_t, gn_or, Bool.or_eq_true, gnB_t, decide_eq_true_eq]
/-- the least of its ring -/
def lst (N : Nat → Nat) (k : Nat) : Nat → Bool
  | 0 => true
  | i + 1 => lst N k i && decide (k ≤ it N i k)
theorem lst_t {N : Nat → Nat} {k : Nat} : ∀ n, lst N k n = true ↔ ∀ i, i < n → k ≤ it N i k := by
  intro n
  induction n with
  | zero => exact ⟨fun _ i hi => absurd hi (Nat.not_lt_zero i), fun _ => rfl⟩
  | succ n ih =>
    rw [lst, Bool.and_eq_true, ih, decide_eq_true_eq]
    constructor
    · rintro ⟨h1, h2⟩ i hi
      rcases Nat.lt_or_ge i n with q | q
      · exact h1 i q
      · have : i = n := by omega
        rw [this]; exact h2
    · intro h
      exact ⟨fun i hi => h i (by omega), h n (Nat.lt_succ_self n)⟩
/-- the ring walked: how many visits more -/
theorem tf_ring_cnt {c : Nat} {S : ow_NP} {G : Nat → Int32} (h : vn c S) {f m : Nat} (hf : f < 2 * c) (hm : ring_len S.1 f m) : ∀ (d i : Nat) (P : tf_P), i < m → m ≤ i + d → (∀ j, i ≤ j → j < m → ¬ o_gn P.gone (it S.1 j f)) → cntB (gnB (tf_ring G S.1 f d (it S.1 i f) P).gone) (2 * c) = cntB (gnB P.gone) (2 * c) + (m - i) := by
  intro d
  induction d with
  | zero => intro i P h1 h2; omega
  | succ d ih =>
    intro i P h1 h2 hno
    have hvc : cntB (gnB (tf_vis G P (it S.1 i f)).gone) (2 * c) = cntB (gnB P.gone) (2 * c) + 1 := by
      rw [cntB_add (q := gnB P.gone) (r := gnB (tf_vis G P (it S.1 i f)).gone) (w := it S.1 i f) (gnB_f.mpr (hno i (Nat.le_refl i) h1)) (2 * c) (fun k _ => gnB_or _ _ _), if_pos (it_lt h hf i)]
    rw [tf_ring]
    split
    · rename_i e
      have hmi : m = i + 1 := by
        rcases Nat.lt_or_ge (i + 1) m with q | q
        · exact absurd e (hm.2.2 (i + 1) (by omega) q)
        · omega
      rw [hvc]; omega
    · rename_i e
      have hi1 : i + 1 < m := by
        rcases Nat.lt_or_ge (i + 1) m with q | q
        · exact q
        · have hmi : m = i + 1 := by omega
          have := hm.2.1
          rw [hmi] at this
          exact absurd this e
      have hN : S.1 (it S.1 i f) = it S.1 (i + 1) f := rfl
      rw [hN, ih (i + 1) (tf_vis G P (it S.1 i f)) hi1 (by omega) (fun j h3 h4 q => by
        rcases (gn_or _ _ _).mp q with r | r
        · exact hno j (by omega) h4 r
        · exact ring_dist h hf hm (i := i) (j := j) (by omega) h4 r.symm), hvc]
      omega
theorem it_mod {N : Nat → Nat} {f m : Nat} (hm : ring_len N f m) : ∀ i, ∃ j, j < m ∧ it N i f = it N j f := by
  intro i
  induction i with
  | zero => exact ⟨0, hm.1, rfl⟩
  | succ i ih =>
    obtain ⟨j, hj, e⟩ := ih
    rcases Nat.lt_or_ge (j + 1) m with q | q
    · exact ⟨j + 1, q, congrArg N e⟩
    · have : j + 1 = m := by omega
      refine ⟨0, hm.1, ?_⟩
      show N (it N i f) = f
      rw [e]
      have := hm.2.1
      rw [← ‹j + 1 = m›] at this
      exact this
/-- each ring has one least visit -/
theorem ring_least {c : Nat} {S : ow_NP} (h : vn c S) (hc : c ≤ 12) {f m : Nat} (hf : f < 2 * c) (hm : ring_len S.1 f m) (hmc : m ≤ 2 * c) : ∃ w, w < 2 * c ∧ (∃ j, j < m ∧ w = it S.1 j f) ∧ ∀ k, (∃ j, j < m ∧ k = it S.1 j f) → (lst S.1 k 24 = true ↔ k = w) := by
  obtain ⟨w, ⟨j, hj, hw⟩, hl⟩ := pk_least (fun w => ∃ j, j < m ∧ w = it S.1 j f) ⟨f, 0, hm.1, rfl⟩
  have hmin : ∀ i, w ≤ it S.1 i f := fun i => by
    obtain ⟨j2, h2, e⟩ := it_mod hm i
    rcases Nat.lt_or_ge (it S.1 i f) w with q | q
    · exact absurd ⟨j2, h2, e⟩ (hl _ q)
    · exact q
  refine ⟨w, by rw [hw]; exact it_lt h hf j, ⟨j, hj, hw⟩, fun k ⟨jk, hk, ek⟩ => ?_⟩
  rw [lst_t]
  constructor
  · intro hk2
    -- w is on the ring of k
    have hex : ∃ i, i < m ∧ it S.1 i k = w := by
      rcases Nat.lt_or_ge j jk with q | q
      · refine ⟨m - jk + j, by omega, ?_⟩
        rw [ek, ← it_add, show m - jk + j + jk = j + m from by omega, it_add, hm.2.1, ← hw]
      · refine ⟨j - jk, by omega, ?_⟩
        rw [ek, ← it_add, show j - jk + jk = j from by omega, ← hw]
    obtain ⟨i, hi, e⟩ := hex
    have h1 := hk2 i (by omega)
    rw [e] at h1
    have h2 := hmin jk
    rw [← ek] at h2
    omega
  · intro e i _
    rw [e, hw, ← it_add]
    rw [← hw]
    exact hmin (i + j)
def rch (c : Nat) (S : ow_NP) (v k : Nat) : Prop := ∀ D : Nat → Prop, D v → (∀ j, j < 2 * c → D j → D (S.1 j)) → (∀ j, j < 2 * c → D j → D (mt j)) → D k
theorem rch_rf (c : Nat) (S : ow_NP) (v : Nat) : rch c S v v := fun _ h _ _ => h
theorem rch_tr {c : Nat} {S : ow_NP} {a b d : Nat} (h : rch c S a b) (h2 : rch c S b d) : rch c S a d := fun D h0 hn hm => h2 D (h D h0 hn hm) hn hm
theorem rch_n {c : Nat} {S : ow_NP} {v k : Nat} (h : rch c S v k) (hk : k < 2 * c) : rch c S v (S.1 k) := fun D h0 hn hm => hn k hk (h D h0 hn hm)
theorem rch_m {c : Nat} {S : ow_NP} {v k : Nat} (h : rch c S v k) (hk : k < 2 * c) : rch c S v (mt k) := fun D h0 hn hm => hm k hk (h D h0 hn hm)
theorem rch_it {c : Nat} {S : ow_NP} (hv : vn c S) {v k : Nat} (h : rch c S v k) (hk : k < 2 * c) : ∀ i, rch c S v (it S.1 i k) := by
  intro i
  induction i with
  | zero => exact h
  | succ i ih => exact rch_n ih (it_lt hv hk i)
theorem mt_mt (k : Nat) : mt (mt k) = k := by
  unfold mt
  by_cases h : k % 2 = 0
  · rw [if_pos h, if_neg (by omega)]; omega
  · rw [if_neg h, if_pos (by omega)]; omega
theorem rch_back {c : Nat} {S : ow_NP} (hv : vn c S) {k : Nat} (hk : k < 2 * c) : rch c S (S.1 k) k := by
  obtain ⟨m, _, hm⟩ := ring_ex hv hk
  have h1 : it S.1 (m - 1) (S.1 k) = k := by
    have : it S.1 (m - 1 + 1) k = it S.1 (m - 1) (it S.1 1 k) := it_add S.1 k (m - 1) 1
    rw [show m - 1 + 1 = m from by have := hm.1; omega, hm.2.1] at this
    exact this.symm
  have h2 := rch_it hv (rch_rf c S (S.1 k)) (hv k hk).1 (m - 1)
  rw [h1] at h2
  exact h2
theorem rch_sy {c : Nat} {S : ow_NP} (hv : vn c S) {a b : Nat} (ha : a < 2 * c) (h : rch c S a b) : rch c S b a := h (fun k => rch c S k a) (rch_rf c S a) (fun j hj hD => rch_tr (rch_back hv hj) hD) (fun j hj hD => by
    have h1 := rch_m (rch_rf c S (mt j)) (mt_lt hj)
    rw [mt_mt] at h1
    exact rch_tr h1 hD)
def tf_cd (P : tf_P) : Prop := (∀ x, P.num x ≠ 0 → ∃ k, k < P.names ∧ P.nam k = x) ∧ (∀ v, o_gn P.gone v → P.num (v / 2) ≠ 0) ∧ ∀ k, k < P.names → o_gn P.gone (2 * P.nam k) ∨ o_gn P.gone (2 * P.nam k + 1)
theorem tf_vis_nam {G : Nat → Int32} {P : tf_P} {v k : Nat} (hk : k < P.names) : (tf_vis G P v).nam k = P.nam k := by
  show (tf_name P (v / 2)).nam k = P.nam k
  unfold tf_name
  split
  · exact nu_ne _ _ (by omega)
  · rfl
theorem tf_vis_names {G : Nat → Int32} {P : tf_P} {v : Nat} : P.names ≤ (tf_vis G P v).names := by
  show P.names ≤ (tf_name P (v / 2)).names
  unfold tf_name
  split
  · exact Nat.le_succ _
  · exact Nat.le_refl _
theorem tf_vis_cd {G : Nat → Int32} {P : tf_P} {v : Nat} (h : tf_cd P) : tf_cd (tf_vis G P v) := by
  have hg : ∀ k, o_gn (tf_vis G P v).gone k ↔ o_gn P.gone k ∨ k = v := fun k => gn_or _ _ _
  have hv2 : v = 2 * (v / 2) ∨ v = 2 * (v / 2) + 1 := by omega
  unfold tf_cd
  have hnum : (tf_vis G P v).num = (tf_name P (v / 2)).num := rfl
  have hnam : (tf_vis G P v).nam = (tf_name P (v / 2)).nam := rfl
  have hnms : (tf_vis G P v).names = (tf_name P (v / 2)).names := rfl
  by_cases e : P.num (v / 2) = 0
  · have hn : tf_name P (v / 2) = (nu P.num (v / 2) (P.names + 1), nu P.nam P.names (v / 2), P.names + 1, P.gone, P.T, P.len) := if_pos e
    rw [hnum, hnam, hnms, hn]
    refine ⟨fun x hx => ?_, fun w hw => ?_, fun k hk => ?_⟩
    · by_cases e2 : x = v / 2
      · exact ⟨P.names, Nat.lt_succ_self _, by rw [e2]; exact nu_same _ _ _⟩
      · have hx : P.num x ≠ 0 := by
          have : nu P.num (v / 2) (P.names + 1) x = P.num x := nu_ne _ _ e2
          rw [← this]; exact hx
        obtain ⟨k, hk, hk2⟩ := h.1 x hx
        exact ⟨k, Nat.lt_succ_of_lt hk, by rw [← hk2]; exact nu_ne _ _ (by omega)⟩
    · show nu P.num (v / 2) (P.names + 1) (w / 2) ≠ 0
      by_cases e2 : w / 2 = v / 2
      · rw [e2, nu_same]; exact Nat.succ_ne_zero _
      · rw [nu_ne _ _ e2]
        rcases (hg w).mp hw with q | q
        · exact h.2.1 w q
        · exact absurd (by rw [q]) e2
    · show o_gn _ (2 * nu P.nam P.names (v / 2) k) ∨ o_gn _ (2 * nu P.nam P.names (v / 2) k + 1)
      rw [hg, hg]
      have hk : k < P.names + 1 := hk
      by_cases e2 : k = P.names
      · rw [e2, nu_same]
        rcases hv2 with q | q
        · exact Or.inl (Or.inr q.symm)
        · exact Or.inr (Or.inr q.symm)
      · rw [nu_ne _ _ e2]
        rcases h.2.2 k (by omega) with q | q
        · exact Or.inl (Or.inl q)
        · exact Or.inr (Or.inl q)
  · have hn : tf_name P (v / 2) = P := if_neg e
    rw [hnum, hnam, hnms, hn]
    refine ⟨h.1, fun w hw => ?_, fun k hk => ?_⟩
    · rcases (hg w).mp hw with q | q
      · exact h.2.1 w q
      · rw [q]; exact e
    · rw [hg, hg]
      rcases h.2.2 k hk with q | q
      · exact Or.inl (Or.inl q)
      · exact Or.inr (Or.inl q)
theorem tf_ring_cd {G : Nat → Int32} {N : Nat → Nat} {f : Nat} : ∀ (d v : Nat) (P : tf_P), tf_cd P → tf_cd (tf_ring G N f d v P) ∧ P.names ≤ (tf_ring G N f d v P).names ∧ ∀ k, k < P.names → (tf_ring G N f d v P).nam k = P.nam k := by
  intro d
  induction d with
  | zero => intro v P h; exact ⟨h, Nat.le_refl _, fun _ _ => rfl⟩
  | succ d ih =>
    intro v P h
    rw [tf_ring]
    split
    · exact ⟨tf_vis_cd h, tf_vis_names, fun k hk => tf_vis_nam hk⟩
    · obtain ⟨h1, h2, h3⟩ := ih (N v) (tf_vis G P v) (tf_vis_cd h)
      exact ⟨h1, Nat.le_trans tf_vis_names h2, fun k hk => (h3 k (Nat.lt_of_lt_of_le hk tf_vis_names)).trans (tf_vis_nam hk)⟩
/-- where the next ring begins -/
theorem tf_look_ok {P : tf_P} : ∀ (d k : Nat), (∀ j, k ≤ j → j < k + d → o_gn P.gone (2 * P.nam j) ∨ o_gn P.gone (2 * P.nam j + 1)) → ((tf_look P d k).1 = none ∧ (tf_look P d k).2 = k + d ∧ ∀ j, k ≤ j → j < k + d → o_gn P.gone (2 * P.nam j) ∧ o_gn P.gone (2 * P.nam j + 1)) ∨ ∃ f j, (tf_look P d k).1 = some f ∧ (tf_look P d k).2 = j + 1 ∧ k ≤ j ∧ j < k + d ∧ ¬ o_gn P.gone f ∧ o_gn P.gone (mt f) ∧ f / 2 = P.nam j ∧ ∀ i, k ≤ i → i < j → o_gn P.gone (2 * P.nam i) ∧ o_gn P.gone (2 * P.nam i + 1) := by
  intro d
  induction d with
  | zero => intro k _; exact Or.inl ⟨rfl, rfl, fun j h1 h2 => by omega⟩
  | succ d ih =>
    intro k h
    have h0 := h k (Nat.le_refl k) (by omega)
    rw [tf_look]
    by_cases e1 : P.gone / 2 ^ (2 * P.nam k) % 2 = 0
    · rw [if_pos e1]
      have n1 := gn_not.mpr e1
      refine Or.inr ⟨2 * P.nam k, k, rfl, rfl, Nat.le_refl k, by omega, n1, ?_, by omega, fun i h1 h2 => by omega⟩
      have : mt (2 * P.nam k) = 2 * P.nam k + 1 := if_pos (by omega)
      rw [this]
      exact h0.resolve_left n1
    · rw [if_neg e1]
      have y1 : o_gn P.gone (2 * P.nam k) := Classical.byContradiction (fun q => e1 (gn_not.mp q))
      by_cases e2 : P.gone / 2 ^ (2 * P.nam k + 1) % 2 = 0
      · rw [if_pos e2]
        refine Or.inr ⟨2 * P.nam k + 1, k, rfl, rfl, Nat.le_refl k, by omega, gn_not.mpr e2, ?_, by omega, fun i h1 h2 => by omega⟩
        have : mt (2 * P.nam k + 1) = 2 * P.nam k := by
          unfold mt
          rw [if_neg (by omega)]; omega
        rw [this]; exact y1
      · rw [if_neg e2]
        have y2 : o_gn P.gone (2 * P.nam k + 1) := Classical.byContradiction (fun q => e2 (gn_not.mp q))
        rcases ih (k + 1) (fun j h1 h2 => h j (by omega) (by omega)) with ⟨a1, a2, a3⟩ | ⟨f, j, a1, a2, a3, a4, a5, a6, a7, a8⟩
        · refine Or.inl ⟨a1, by rw [a2]; omega, fun j h1 h2 => ?_⟩
          rcases Nat.lt_or_ge k j with q | q
          · exact a3 j q (by omega)
          · have : j = k := by omega
            rw [this]; exact ⟨y1, y2⟩
        · refine Or.inr ⟨f, j, a1, a2, by omega, by omega, a5, a6, a7, fun i h1 h2 => ?_⟩
          rcases Nat.lt_or_ge k i with q | q
          · exact a8 i q h2
          · have : i = k := by omega
            rw [this]; exact ⟨y1, y2⟩
def tf_iv (c : Nat) (S : ow_NP) (v0 : Nat) (P : tf_P) : Prop := (∀ k, o_gn P.gone k → k < 2 * c ∧ rch c S v0 k) ∧ (∀ k, o_gn P.gone k → o_gn P.gone (S.1 k)) ∧ tf_cd P ∧ P.len = cntB (gnB P.gone) (2 * c) + cntB (fun k => gnB P.gone k && lst S.1 k 24) (2 * c)
theorem gn_it {S : ow_NP} {g : Nat} (h : ∀ k, o_gn g k → o_gn g (S.1 k)) {k : Nat} (hk : o_gn g k) : ∀ i, o_gn g (it S.1 i k) := by
  intro i
  induction i with
  | zero => exact hk
  | succ i ih => exact h _ ih
theorem mt_half (f : Nat) : mt f / 2 = f / 2 := by
  unfold mt
  split <;> omega
theorem mt_cases (f x : Nat) (h : f / 2 = x) : (2 * x = f ∧ 2 * x + 1 = mt f) ∨ (2 * x = mt f ∧ 2 * x + 1 = f) := by
  unfold mt
  by_cases e : f % 2 = 0
  · rw [if_pos e]; omega
  · rw [if_neg e]; omega
theorem tf_ring_iv {c : Nat} {S : ow_NP} {G : Nat → Int32} (h : vn c S) (hc : c ≤ 12) {v0 f : Nat} {P : tf_P} (hi : tf_iv c S v0 P) (hf : f < 2 * c) (hr : rch c S v0 f) (hn : ¬ o_gn P.gone f) : tf_iv c S v0 (tf_sep (tf_ring G S.1 f 24 f P)) ∧ o_gn (tf_ring G S.1 f 24 f P).gone f ∧ (∀ k, o_gn P.gone k → o_gn (tf_ring G S.1 f 24 f P).gone k) ∧ cntB (gnB P.gone) (2 * c) + 1 ≤ cntB (gnB (tf_ring G S.1 f 24 f P).gone) (2 * c) := by
  obtain ⟨i1, i2, i3, i4⟩ := hi
  obtain ⟨m, hmc, hm⟩ := ring_ex h hf
  have hm1 := hm.1
  have hno : ∀ j, 0 ≤ j → j < m → ¬ o_gn P.gone (it S.1 j f) := fun j _ hj q => by
    have h1 := gn_it i2 q (m - j)
    rw [← it_add, show m - j + j = m from by omega, hm.2.1] at h1
    exact hn h1
  have hg := tf_ring_gn (G := G) h hf hm 24 0 P (by omega) (by omega)
  have hcn := tf_ring_cnt (G := G) h hf hm 24 0 P (by omega) (by omega) hno
  have e0 : it S.1 0 f = f := rfl
  rw [e0] at hg hcn
  obtain ⟨hl, hg⟩ := hg
  obtain ⟨w, hw, ⟨jw, hjw, ew⟩, hwl⟩ := ring_least h hc hf hm hmc
  have hcd := (tf_ring_cd (G := G) (N := S.1) (f := f) 24 f P i3).1
  have hL : cntB (fun k => gnB (tf_ring G S.1 f 24 f P).gone k && lst S.1 k 24) (2 * c) = cntB (fun k => gnB P.gone k && lst S.1 k 24) (2 * c) + 1 := by
    rw [cntB_add (q := fun k => gnB P.gone k && lst S.1 k 24) (w := w) (by
      show (gnB P.gone w && lst S.1 w 24) = false
      rw [gnB_f.mpr (by rw [ew]; exact hno jw (Nat.zero_le _) hjw), Bool.false_and]) (2 * c) (fun k _ => ?_), if_pos hw]
    show (gnB (tf_ring G S.1 f 24 f P).gone k && lst S.1 k 24) = ((gnB P.gone k && lst S.1 k 24) || decide (k = w))
    rw [Bool.eq_iff_iff, Bool.or_eq_true, Bool.and_eq_true, Bool.and_eq_true, gnB_t, gnB_t, decide_eq_true_eq, hg]
    constructor
    · rintro ⟨q | ⟨j, _, hj, q⟩, r⟩
      · exact Or.inl ⟨q, r⟩
      · exact Or.inr ((hwl k ⟨j, hj, q⟩).mp r)
    · rintro (⟨q, r⟩ | q)
      · exact ⟨Or.inl q, r⟩
      · exact ⟨Or.inr ⟨jw, Nat.zero_le _, hjw, q.trans ew⟩, (hwl k ⟨jw, hjw, q.trans ew⟩).mpr q⟩
  refine ⟨⟨fun k hk => ?_, fun k hk => ?_, hcd, ?_⟩, (hg f).mpr (Or.inr ⟨0, Nat.le_refl 0, by omega, rfl⟩), fun k hk => (hg k).mpr (Or.inl hk), by rw [hcn]; omega⟩
  · rcases (hg k).mp hk with q | ⟨j, _, hj, q⟩
    · exact i1 k q
    · rw [q]; exact ⟨it_lt h hf j, rch_it h hr hf j⟩
  · refine (hg _).mpr ?_
    rcases (hg k).mp hk with q | ⟨j, _, hj, q⟩
    · exact Or.inl (i2 k q)
    · rcases Nat.lt_or_ge (j + 1) m with r | r
      · exact Or.inr ⟨j + 1, Nat.zero_le _, r, by rw [q]; rfl⟩
      · have e1 : j + 1 = m := by omega
        refine Or.inr ⟨0, Nat.le_refl 0, by omega, ?_⟩
        rw [q]
        show it S.1 (j + 1) f = f
        rw [e1]; exact hm.2.1
  · show (tf_ring G S.1 f 24 f P).len + 1 = cntB (gnB (tf_ring G S.1 f 24 f P).gone) (2 * c) + cntB (fun k => gnB (tf_ring G S.1 f 24 f P).gone k && lst S.1 k 24) (2 * c)
    rw [hl, hcn, hL, i4]; omega
theorem tf_out_iv {c : Nat} {S : ow_NP} {G : Nat → Int32} (h : vn c S) (hc : c ≤ 12) {v0 : Nat} : ∀ (d : Nat) (fo : Option Nat) (k : Nat) (P : tf_P), tf_iv c S v0 P → k ≤ P.names → 2 * c ≤ cntB (gnB P.gone) (2 * c) + d → ((fo = none ∧ k = P.names ∧ ∀ j, j < k → o_gn P.gone (2 * P.nam j) ∧ o_gn P.gone (2 * P.nam j + 1)) ∨ ∃ f, fo = some f ∧ ¬ o_gn P.gone f ∧ f < 2 * c ∧ rch c S v0 f ∧ ∀ j, j < k → (o_gn P.gone (2 * P.nam j) ∧ o_gn P.gone (2 * P.nam j + 1)) ∨ (f / 2 = P.nam j ∧ o_gn P.gone (mt f))) → tf_iv c S v0 (tf_out G S.1 d fo k P) ∧ (∀ j, o_gn (tf_out G S.1 d fo k P).gone j → o_gn (tf_out G S.1 d fo k P).gone (mt j)) ∧ (∀ j, o_gn P.gone j → o_gn (tf_out G S.1 d fo k P).gone j) ∧ ∀ f, fo = some f → o_gn (tf_out G S.1 d fo k P).gone f := by
  intro d
  induction d with
  | zero =>
    intro fo k P hi hk hm hfo
    have hall := cntB_all (q := gnB P.gone) (2 * c) (by omega)
    refine ⟨hi, fun j hj => gnB_t.mp (hall _ (mt_lt (hi.1 j hj).1)), fun j hj => hj, fun f hf => ?_⟩
    rcases hfo with ⟨q, _⟩ | ⟨f2, q, _, hf2, _⟩
    · rw [q] at hf; cases hf
    · rw [q] at hf
      rw [← Option.some.inj hf]
      exact gnB_t.mp (hall f2 hf2)
  | succ d ih =>
    intro fo k P hi hk hm hfo
    rcases hfo with ⟨q, hkn, hcm⟩ | ⟨f, q, hn, hf, hr, hcm⟩
    · rw [q]
      refine ⟨hi, fun j hj => ?_, fun j hj => hj, fun f hf => by cases hf⟩
      obtain ⟨x, hx, ex⟩ := hi.2.2.1.1 _ (hi.2.2.1.2.1 j hj)
      have hb := hcm x (by omega)
      rw [ex] at hb
      show o_gn P.gone (mt j)
      rcases mt_cases j (j / 2) rfl with ⟨_, e⟩ | ⟨e, _⟩
      · rw [← e]; exact hb.2
      · rw [← e]; exact hb.1
    · rw [q]
      obtain ⟨a1, a2, a3, a4⟩ := tf_ring_iv (G := G) h hc hi hf hr hn
      obtain ⟨_, b2, b3⟩ := tf_ring_cd (G := G) (N := S.1) (f := f) 24 f P hi.2.2.1
      have hcd2 : tf_cd (tf_sep (tf_ring G S.1 f 24 f P)) := a1.2.2.1
      have hg2 : (tf_sep (tf_ring G S.1 f 24 f P)).gone = (tf_ring G S.1 f 24 f P).gone := rfl
      have hn2 : (tf_sep (tf_ring G S.1 f 24 f P)).nam = (tf_ring G S.1 f 24 f P).nam := rfl
      have hs2 : (tf_sep (tf_ring G S.1 f 24 f P)).names = (tf_ring G S.1 f 24 f P).names := rfl
      have hdone : ∀ j, j < k → o_gn (tf_sep (tf_ring G S.1 f 24 f P)).gone (2 * (tf_sep (tf_ring G S.1 f 24 f P)).nam j) ∧ o_gn (tf_sep (tf_ring G S.1 f 24 f P)).gone (2 * (tf_sep (tf_ring G S.1 f 24 f P)).nam j + 1) := by
        intro j hj
        rw [hg2, hn2, b3 j (by omega)]
        rcases hcm j hj with r | ⟨r1, r2⟩
        · exact ⟨a3 _ r.1, a3 _ r.2⟩
        · rcases mt_cases f _ r1 with ⟨e1, e2⟩ | ⟨e1, e2⟩
          · rw [e2, e1]; exact ⟨a2, a3 _ r2⟩
          · rw [e2, e1]; exact ⟨a3 _ r2, a2⟩
      have hstep : tf_out G S.1 (d + 1) (some f) k P = tf_out G S.1 d (tf_look (tf_sep (tf_ring G S.1 f 24 f P)) ((tf_sep (tf_ring G S.1 f 24 f P)).names - k) k).1 (tf_look (tf_sep (tf_ring G S.1 f 24 f P)) ((tf_sep (tf_ring G S.1 f 24 f P)).names - k) k).2 (tf_sep (tf_ring G S.1 f 24 f P)) := rfl
      have hkn : k ≤ (tf_sep (tf_ring G S.1 f 24 f P)).names := by rw [hs2]; omega
      have hmes : 2 * c ≤ cntB (gnB (tf_sep (tf_ring G S.1 f 24 f P)).gone) (2 * c) + d := by rw [hg2]; omega
      rw [hstep]
      generalize tf_sep (tf_ring G S.1 f 24 f P) = P2 at *
      have hlk := tf_look_ok (P := P2) (P2.names - k) k (fun j _ h2 => hcd2.2.2 j (by omega))
      have fin : ∀ R : tf_P, (tf_iv c S v0 R ∧ (∀ j, o_gn R.gone j → o_gn R.gone (mt j)) ∧ (∀ j, o_gn P2.gone j → o_gn R.gone j)) → tf_iv c S v0 R ∧ (∀ j, o_gn R.gone j → o_gn R.gone (mt j)) ∧ (∀ j, o_gn P.gone j → o_gn R.gone j) ∧ ∀ f9, some f = some f9 → o_gn R.gone f9 := fun R ⟨r1, r2, r3⟩ => ⟨r1, r2, fun j hj => r3 j (by rw [hg2]; exact a3 j hj), fun f9 h9 => by rw [← Option.some.inj h9]; exact r3 f (by rw [hg2]; exact a2)⟩
      rcases hlk with ⟨c1, c2, c3⟩ | ⟨f2, j2, c1, c2, c3, c4, c5, c6, c7, c8⟩
      · obtain ⟨r1, r2, r3, _⟩ := ih (tf_look P2 (P2.names - k) k).1 (tf_look P2 (P2.names - k) k).2 P2 a1 (by rw [c2]; omega) hmes (Or.inl ⟨c1, by rw [c2]; omega, fun j hj => by
          rcases Nat.lt_or_ge j k with r | r
          · exact hdone j r
          · exact c3 j r (by rw [c2] at hj; exact hj)⟩)
        exact fin _ ⟨r1, r2, r3⟩
      · have hlt : mt f2 < 2 * c := (a1.1 _ c6).1
        have hf2 : f2 < 2 * c := by have := mt_lt hlt; rw [mt_mt] at this; exact this
        have hr2 : rch c S v0 f2 := by have := rch_m (a1.1 _ c6).2 hlt; rw [mt_mt] at this; exact this
        obtain ⟨r1, r2, r3, _⟩ := ih (tf_look P2 (P2.names - k) k).1 (tf_look P2 (P2.names - k) k).2 P2 a1 (by rw [c2]; omega) hmes (Or.inr ⟨f2, c1, c5, hf2, hr2, fun j hj => by
          rw [c2] at hj
          rcases Nat.lt_or_ge j k with r | r
          · exact Or.inl (hdone j r)
          · rcases Nat.lt_or_ge j j2 with s1 | s1
            · exact Or.inl (c8 j r s1)
            · have : j = j2 := by omega
              rw [this]; exact Or.inr ⟨c7, c6⟩⟩)
        exact fin _ ⟨r1, r2, r3⟩
theorem gn_0 (k : Nat) : ¬ o_gn 0 k := by
  unfold o_gn
  rw [Nat.zero_div]
  decide
theorem cntB_0 {q : Nat → Bool} (h : ∀ k, q k = false) : ∀ n, cntB q n = 0 := by
  intro n
  induction n with
  | zero => rfl
  | succ n ih => rw [cntB, ih, h n]; rfl
/-- the code from v sees just what can be reached from v -/
theorem tf_code_iv {c : Nat} {S : ow_NP} (G : Nat → Int32) (h : vn c S) (hc : c ≤ 12) {v : Nat} (hv : v < 2 * c) : tf_iv c S v (tf_code G S.1 v) ∧ ∀ k, o_gn (tf_code G S.1 v).gone k ↔ rch c S v k := by
  have h0 : tf_iv c S v tf_0 := by
    have e1 : cntB (gnB tf_0.gone) (2 * c) = 0 := cntB_0 (fun k => gnB_f.mpr (gn_0 k)) _
    have e2 : cntB (fun k => gnB tf_0.gone k && lst S.1 k 24) (2 * c) = 0 := cntB_0 (fun k => by show (gnB 0 k && lst S.1 k 24) = false; rw [gnB_f.mpr (gn_0 k)]; rfl) _
    refine ⟨fun k hk => absurd hk (gn_0 k), fun k hk => absurd hk (gn_0 k), ⟨fun x hx => absurd rfl hx, fun w hw => absurd hw (gn_0 w), fun k hk => absurd hk (Nat.not_lt_zero k)⟩, ?_⟩
    rw [e1, e2]; rfl
  obtain ⟨r1, r2, _, r4⟩ := tf_out_iv (G := G) h hc 24 (some v) 0 tf_0 h0 (Nat.le_refl 0) (by omega) (Or.inr ⟨v, rfl, gn_0 v, hv, rch_rf c S v, fun j hj => absurd hj (Nat.not_lt_zero j)⟩)
  exact ⟨r1, fun k => ⟨fun q => (r1.1 k q).2, fun q => q (fun k => o_gn (tf_code G S.1 v).gone k) (r4 v rfl) (fun j _ hj => r1.2.1 j hj) (fun j _ hj => r2 j hj)⟩⟩
def bf_ok (c : Nat) (S : ow_NP) (n cnt : Nat) (F : Nat → Int32) (t : ow_PQ) : Prop := (∀ j, j < t.2.2 → t.2.1 j < 2 * c ∧ rch c S n (t.2.1 j)) ∧ ∀ v, v < 2 * c → t.1 v = F v ∨ (t.1 v = nI cnt ∧ rch c S n v)
theorem mp_add_bf {c : Nat} {S : ow_NP} {n cnt v : Nat} {F : Nat → Int32} {t : ow_PQ} (h : bf_ok c S n cnt F t) (hv : v < 2 * c) (hr : rch c S n v) : bf_ok c S n cnt F (mp_add (nI cnt) t v) := by
  unfold mp_add
  split
  · refine ⟨fun j hj => ?_, fun w hw => ?_⟩
    · have hj : j < t.2.2 + 1 := hj
      show nu t.2.1 t.2.2 v j < 2 * c ∧ rch c S n (nu t.2.1 t.2.2 v j)
      by_cases e : j = t.2.2
      · rw [e, nu_same]; exact ⟨hv, hr⟩
      · rw [nu_ne _ _ e]; exact h.1 j (by omega)
    · show (if w = v then nI cnt else t.1 w) = F w ∨ ((if w = v then nI cnt else t.1 w) = nI cnt ∧ rch c S n w)
      by_cases e : w = v
      · rw [if_pos e, e]; exact Or.inr ⟨rfl, hr⟩
      · rw [if_neg e]; exact h.2 w hw
  · exact h
theorem mp_bfs_bf {c : Nat} {S : ow_NP} (hv : vn c S) {n cnt : Nat} {F : Nat → Int32} : ∀ (d i : Nat) (t : ow_PQ), bf_ok c S n cnt F t → bf_ok c S n cnt F (mp_bfs S.1 (nI cnt) d i t) := by
  intro d
  induction d with
  | zero => intro i t h; exact h
  | succ d ih =>
    intro i t h
    rw [mp_bfs]
    split
    · rename_i hi
      obtain ⟨h1, h2⟩ := h.1 i hi
      exact ih _ _ (mp_add_bf (mp_add_bf h (hv _ h1).1 (rch_n h2 h1)) (mt_lt h1) (rch_m h2 h1))
    · exact h
theorem mp_out_rch {c : Nat} {S : ow_NP} (hv : vn c S) (hc : c ≤ 12) : ∀ n, n ≤ 2 * c → (∀ k, k < 2 * c → (mp_out S.1 (2 * c) (fun _ => -1) n).1 k = -1 ∨ ∃ r, r < (mp_out S.1 (2 * c) (fun _ => -1) n).2 ∧ (mp_out S.1 (2 * c) (fun _ => -1) n).1 k = nI r) ∧ (∀ v w r, v < 2 * c → w < 2 * c → r < (mp_out S.1 (2 * c) (fun _ => -1) n).2 → (mp_out S.1 (2 * c) (fun _ => -1) n).1 v = nI r → (mp_out S.1 (2 * c) (fun _ => -1) n).1 w = nI r → rch c S v w) ∧ ∀ k, k < n → ¬ (mp_out S.1 (2 * c) (fun _ => -1) n).1 k = -1 := by
  intro n
  induction n with
  | zero => intro _; exact ⟨fun k _ => Or.inl rfl, fun v w r _ _ hr _ _ => absurd hr (Nat.not_lt_zero r), fun k hk => absurd hk (Nat.not_lt_zero k)⟩
  | succ n ih =>
    intro hn
    obtain ⟨i1, i2, i3⟩ := ih (by omega)
    have hle := mp_out_le S.1 (2 * c) (fun _ => -1) n
    rw [mp_out]
    generalize mp_out S.1 (2 * c) (fun _ => -1) n = M at *
    have hx : ¬ nI M.2 = -1 := nI_nm1 (by omega)
    split
    · rename_i h0
      have hb : bf_ok c S n M.2 (su M.1 n (nI M.2)) (mp_bfs S.1 (nI M.2) (2 * c) 0 (su M.1 n (nI M.2), (fun _ => n), 1)) := mp_bfs_bf hv _ _ _ ⟨fun j _ => ⟨(show n < 2 * c by omega), rch_rf c S n⟩, fun v _ => Or.inl rfl⟩
      have hb2 := hb.2
      generalize mp_bfs S.1 (nI M.2) (2 * c) 0 (su M.1 n (nI M.2), (fun _ => n), 1) = B at hb hb2
      have hs : ∀ v, su M.1 n (nI M.2) v = if v = n then nI M.2 else M.1 v := fun v => rfl
      have hnew : ∀ v, v < 2 * c → B.1 v = nI M.2 → rch c S n v := fun v hvc e => by
        rcases hb2 v hvc with q | q
        · rw [hs] at q
          by_cases en : v = n
          · rw [en]; exact rch_rf c S n
          · rw [if_neg en] at q
            rcases i1 v hvc with r | ⟨r, hr, e2⟩
            · rw [q, r] at e
              exact absurd e.symm hx
            · rw [q, e2] at e
              have := ow_nI_inj (by omega) (by omega) e
              omega
        · exact q.2
      have hold : ∀ x, x < 2 * c → ∀ r, r < M.2 → B.1 x = nI r → M.1 x = nI r := fun x hxc r hr e => by
        rcases hb2 x hxc with q | q
        · rw [hs] at q
          by_cases en : x = n
          · rw [if_pos en] at q
            rw [q] at e
            have := ow_nI_inj (by omega) (by omega) e
            omega
          · rw [if_neg en] at q
            rw [← q]; exact e
        · rw [q.1] at e
          have := ow_nI_inj (by omega) (by omega) e
          omega
      refine ⟨fun k hk => ?_, fun v w r h1 h2 hr e1 e2 => ?_, fun k hk => ?_⟩
      · show B.1 k = -1 ∨ ∃ r, r < M.2 + 1 ∧ B.1 k = nI r
        rcases hb2 k hk with q | q
        · rw [hs] at q
          by_cases en : k = n
          · rw [if_pos en] at q
            exact Or.inr ⟨M.2, Nat.lt_succ_self _, q⟩
          · rw [if_neg en] at q
            rcases i1 k hk with r | ⟨r, hr, e2⟩
            · exact Or.inl (q.trans r)
            · exact Or.inr ⟨r, by omega, q.trans e2⟩
        · exact Or.inr ⟨M.2, Nat.lt_succ_self _, q.1⟩
      · have hr : r < M.2 + 1 := hr
        have e1 : B.1 v = nI r := e1
        have e2 : B.1 w = nI r := e2
        by_cases er : r = M.2
        · rw [er] at e1 e2
          exact rch_tr (rch_sy hv (by omega) (hnew v h1 e1)) (hnew w h2 e2)
        · exact i2 v w r h1 h2 (by omega) (hold v h1 r (by omega) e1) (hold w h2 r (by omega) e2)
      · show ¬ B.1 k = -1
        rcases hb2 k (by omega) with q | q
        · rw [hs] at q
          rw [q]
          by_cases en : k = n
          · rw [if_pos en]; exact hx
          · rw [if_neg en]; exact i3 k (by omega)
        · rw [q.1]; exact hx
    · rename_i h0
      refine ⟨i1, i2, fun k hk => ?_⟩
      rcases Nat.lt_or_ge k n with q | q
      · exact i3 k q
      · have : k = n := by omega
        rw [this]; exact h0
theorem np_parts_rch {c : Nat} {S : ow_NP} (hv : vn c S) (hc : c ≤ 12) {v w : Nat} (h1 : v < 2 * c) (h2 : w < 2 * c) (e : (np_parts c S.1).1 v = (np_parts c S.1).1 w) : rch c S v w := by
  obtain ⟨i1, i2, i3⟩ := mp_out_rch hv hc (2 * c) (Nat.le_refl _)
  rcases i1 w h2 with q | ⟨r, hr, q⟩
  · exact absurd q (i3 w h2)
  · exact i2 v w r h1 h2 hr (Eq.trans e q) q
theorem cntB_mono {q r : Nat → Bool} : ∀ n, (∀ k, k < n → q k = true → r k = true) → cntB q n ≤ cntB r n := by
  intro n
  induction n with
  | zero => intro _; exact Nat.le_refl 0
  | succ n ih =>
    intro h
    have h1 := ih (fun k hk => h k (by omega))
    rw [cntB, cntB]
    split
    · rename_i e
      rw [if_pos (h n (Nat.lt_succ_self n) e)]; omega
    · omega
/-- how many rings a net has -/
def np_rg (c : Nat) (S : ow_NP) : Nat := cntB (fun k => lst S.1 k 24) (2 * c)
theorem tf_len_le {c : Nat} {S : ow_NP} (G : Nat → Int32) (h : vn c S) (hc : c ≤ 12) {v : Nat} (hv : v < 2 * c) : (tf_code G S.1 v).len ≤ 2 * c + np_rg c S := by
  obtain ⟨a1, _⟩ := tf_code_iv G h hc hv
  rw [a1.2.2.2]
  have h1 := cntB_le (gnB (tf_code G S.1 v).gone) (2 * c)
  have h2 := cntB_mono (q := fun k => gnB (tf_code G S.1 v).gone k && lst S.1 k 24) (r := fun k => lst S.1 k 24) (2 * c) (fun k _ e => (Bool.and_eq_true _ _ ▸ e : _ ∧ _).2)
  unfold np_rg
  omega
theorem cntB_rm {q : Nat → Bool} {w n : Nat} (hw : w < n) (hq : q w = true) : cntB q n = cntB (fun k => q k && decide (k ≠ w)) n + 1 := by
  have h := cntB_add (q := fun k => q k && decide (k ≠ w)) (r := q) (w := w) (by
    show (q w && decide (w ≠ w)) = false
    rw [decide_eq_false (fun e => e rfl), Bool.and_false]) n (fun k _ => by
    show q k = ((q k && decide (k ≠ w)) || decide (k = w))
    by_cases e : k = w
    · rw [e, hq, decide_eq_true rfl, Bool.or_true]
    · rw [decide_eq_true (show k ≠ w from e), decide_eq_false e, Bool.and_true, Bool.or_false])
  rw [h, if_pos hw]
/-- a one-to-one map makes no fewer -/
theorem cntB_inj {n : Nat} : ∀ (m : Nat) (q r : Nat → Bool) (f : Nat → Nat), (∀ k, k < m → q k = true → f k < n ∧ r (f k) = true) → (∀ k j, k < m → j < m → q k = true → q j = true → f k = f j → k = j) → cntB q m ≤ cntB r n := by
  intro m
  induction m with
  | zero => intro q r f _ _; exact Nat.zero_le _
  | succ m ih =>
    intro q r f h1 h2
    rw [cntB]
    by_cases e : q m = true
    · obtain ⟨h3, h4⟩ := h1 m (Nat.lt_succ_self m) e
      rw [if_pos e, cntB_rm h3 h4]
      have := ih q (fun k => r k && decide (k ≠ f m)) f (fun k hk hq => by
        obtain ⟨a1, a2⟩ := h1 k (by omega) hq
        refine ⟨a1, ?_⟩
        show (r (f k) && decide (f k ≠ f m)) = true
        rw [a2, decide_eq_true (show f k ≠ f m from fun e2 => by
          have := h2 k m (by omega) (Nat.lt_succ_self m) hq e e2
          omega)]
        rfl) (fun k j hk hj => h2 k j (by omega) (by omega))
      omega
    · rw [if_neg e]
      have := ih q r f (fun k hk => h1 k (by omega)) (fun k j hk hj => h2 k j (by omega) (by omega))
      omega
/-- one ring -/
def sr (N : Nat → Nat) (k j : Nat) : Prop := ∃ i, it N i k = j
theorem sr_rf (N : Nat → Nat) (k : Nat) : sr N k k := ⟨0, rfl⟩
theorem sr_tr {N : Nat → Nat} {a b d : Nat} (h : sr N a b) (h2 : sr N b d) : sr N a d := by
  obtain ⟨i, hi⟩ := h
  obtain ⟨j, hj⟩ := h2
  exact ⟨j + i, by rw [it_add, hi, hj]⟩
theorem sr_n (N : Nat → Nat) (k : Nat) : sr N k (N k) := ⟨1, rfl⟩
theorem itD {D : Nat → Prop} {S : ow_NP} (h : vD D S) {k : Nat} (hk : D k) : ∀ i, D (it S.1 i k) := by
  intro i
  induction i with
  | zero => exact hk
  | succ i ih => exact (h _ ih).1
theorem itD_inj {D : Nat → Prop} {S : ow_NP} (h : vD D S) {a b : Nat} (ha : D a) (hb : D b) : ∀ i, it S.1 i a = it S.1 i b → a = b := by
  intro i
  induction i with
  | zero => intro e; exact e
  | succ i ih => intro e; exact ih (vD_inj h (itD h ha i) (itD h hb i) e)
/-- rings close, within 24 steps -/
theorem itD_per {D : Nat → Prop} {S : ow_NP} (h : vD D S) (h24 : ∀ k, D k → k < 24) {k : Nat} (hk : D k) : ∃ m, 1 ≤ m ∧ m ≤ 24 ∧ it S.1 m k = k := by
  obtain ⟨i, j, hij, hj, he⟩ := ow_pig 24 (fun i => it S.1 i k) (fun i _ => h24 _ (itD h hk i))
  have he : it S.1 i k = it S.1 j k := he
  have h1 : it S.1 j k = it S.1 i (it S.1 (j - i) k) := by rw [← it_add]; congr 1; omega
  exact ⟨j - i, by omega, by omega, itD_inj h (itD h hk _) hk i (by rw [← h1, ← he])⟩
theorem it_mul {N : Nat → Nat} {k m : Nat} (h : it N m k = k) : ∀ q, it N (q * m) k = k := by
  intro q
  induction q with
  | zero => rw [Nat.zero_mul]; rfl
  | succ q ih => rw [Nat.succ_mul, it_add, h, ih]
theorem sr_sy {D : Nat → Prop} {S : ow_NP} (h : vD D S) (h24 : ∀ k, D k → k < 24) {a b : Nat} (ha : D a) (hr : sr S.1 a b) : sr S.1 b a := by
  obtain ⟨i, hi⟩ := hr
  obtain ⟨m, hm1, _, hm⟩ := itD_per h h24 ha
  refine ⟨(i + 1) * m - i, ?_⟩
  have hle : i ≤ (i + 1) * m := Nat.le_trans (Nat.le_succ i) (Nat.le_mul_of_pos_right _ (by omega))
  rw [← hi, ← it_add, Nat.sub_add_cancel hle]
  exact it_mul hm _
/-- within 24 steps -/
theorem sr_24 {D : Nat → Prop} {S : ow_NP} (h : vD D S) (h24 : ∀ k, D k → k < 24) {a b : Nat} (ha : D a) (hr : sr S.1 a b) : ∃ i, i < 24 ∧ it S.1 i a = b := by
  obtain ⟨i, hi⟩ := hr
  obtain ⟨m, hm1, hm2, hm⟩ := itD_per h h24 ha
  refine ⟨i % m, Nat.lt_of_lt_of_le (Nat.mod_lt _ (by omega)) hm2, ?_⟩
  have h1 : i = i % m + i / m * m := by
    have := Nat.mod_add_div i m
    rw [Nat.mul_comm] at this
    omega
  rw [← hi]
  conv => rhs; rw [h1, it_add, it_mul hm]
/-- the least of a ring -/
theorem sr_least {D : Nat → Prop} {S : ow_NP} (h : vD D S) (h24 : ∀ k, D k → k < 24) {k : Nat} (hk : D k) : ∃ w, D w ∧ sr S.1 k w ∧ lst S.1 w 24 = true := by
  obtain ⟨w, hw, hl⟩ := pk_least (fun w => sr S.1 k w) ⟨k, sr_rf _ _⟩
  obtain ⟨i, hi⟩ := hw
  have hDw : D w := by rw [← hi]; exact itD h hk i
  refine ⟨w, hDw, ⟨i, hi⟩, (lst_t 24).mpr (fun j _ => ?_)⟩
  rcases Nat.lt_or_ge (it S.1 j w) w with q | q
  · exact absurd (sr_tr ⟨i, hi⟩ ⟨j, rfl⟩) (hl _ q)
  · exact q
theorem lst_uni {D : Nat → Prop} {S : ow_NP} (h : vD D S) (h24 : ∀ k, D k → k < 24) {a b : Nat} (ha : D a) (hb : D b) (la : lst S.1 a 24 = true) (lb : lst S.1 b 24 = true) (hr : sr S.1 a b) : a = b := by
  obtain ⟨i, hi, e⟩ := sr_24 h h24 ha hr
  obtain ⟨j, hj, e2⟩ := sr_24 h h24 hb (sr_sy h h24 ha hr)
  have h1 := (lst_t 24).mp la i hi
  have h2 := (lst_t 24).mp lb j hj
  rw [e] at h1
  rw [e2] at h2
  omega
def rgD (D : Nat → Bool) (S : ow_NP) : Nat := cntB (fun k => D k && lst S.1 k 24) 24
/-- a map of visits that keeps rings apart makes no fewer rings -/
theorem rgD_le {D E : Nat → Bool} {S T : ow_NP} (h : vD (fun k => D k = true) S) (h2 : vD (fun k => E k = true) T) (hD : ∀ k, D k = true → k < 24) (hE : ∀ k, E k = true → k < 24) (f : Nat → Nat) (hf : ∀ k, D k = true → E (f k) = true) (hi : ∀ k j, D k = true → D j = true → sr T.1 (f k) (f j) → sr S.1 k j) : rgD D S ≤ rgD E T := by
  have hex : ∀ k, ∃ w, D k = true → E w = true ∧ sr T.1 (f k) w ∧ lst T.1 w 24 = true := fun k => by
    by_cases e : D k = true
    · obtain ⟨w, a1, a2, a3⟩ := sr_least h2 hE (hf k e)
      exact ⟨w, fun _ => ⟨a1, a2, a3⟩⟩
    · exact ⟨0, fun q => absurd q e⟩
  refine cntB_inj 24 _ _ (fun k => Classical.choose (hex k)) (fun k _ hk => ?_) (fun k j _ _ hk hj e => ?_)
  · have hk := (Bool.and_eq_true _ _ ▸ hk : _ ∧ _)
    obtain ⟨a1, _, a3⟩ := Classical.choose_spec (hex k) hk.1
    exact ⟨hE _ a1, by rw [a1, a3]; rfl⟩
  · have hk := (Bool.and_eq_true _ _ ▸ hk : _ ∧ _)
    have hj := (Bool.and_eq_true _ _ ▸ hj : _ ∧ _)
    obtain ⟨a1, a2, _⟩ := Classical.choose_spec (hex k) hk.1
    obtain ⟨b1, b2, _⟩ := Classical.choose_spec (hex j) hj.1
    have e : Classical.choose (hex k) = Classical.choose (hex j) := e
    rw [e] at a2
    exact lst_uni h hD hk.1 hj.1 hk.2 hj.2 (hi k j hk.1 hj.1 (sr_tr a2 (sr_sy h2 hE (hf j hj.1) b2)))
theorem rgD_cg {D : Nat → Bool} {S T : ow_NP} (h : vD (fun k => D k = true) S) (hT : ∀ k, D k = true → T.1 k = S.1 k) : rgD D T = rgD D S := by
  have key : ∀ k, D k = true → ∀ i, it T.1 i k = it S.1 i k := by
    intro k hk i
    induction i with
    | zero => rfl
    | succ i ih =>
      show T.1 (it T.1 i k) = S.1 (it S.1 i k)
      rw [ih]
      exact hT _ (itD h hk i)
  refine cntB_cg 24 (fun k _ => ?_)
  show (D k && lst T.1 k 24) = (D k && lst S.1 k 24)
  by_cases e : D k = true
  · rw [e, Bool.true_and, Bool.true_and, Bool.eq_iff_iff, lst_t, lst_t]
    exact ⟨fun q i hi => by rw [← key k e i]; exact q i hi, fun q i hi => by rw [key k e i]; exact q i hi⟩
  · rw [Bool.not_eq_true] at e
    rw [e, Bool.false_and, Bool.false_and]
theorem rgD_set {D E : Nat → Bool} {S : ow_NP} (h : ∀ k, D k = E k) : rgD D S = rgD E S := cntB_cg 24 (fun k _ => by
  show (D k && lst S.1 k 24) = (E k && lst S.1 k 24)
  rw [h k])
theorem it_swap {D : Nat → Prop} {S : ow_NP} (h : vD D S) {v w : Nat} (hv : D v) (hw : D w) {k : Nat} (hk : D k) : ∀ i, it (np_swap S v w).1 i k = np_sw (it S.1 i (np_sw k v w)) v w := by
  intro i
  induction i with
  | zero => exact (np_sw_i v w k).symm
  | succ i ih =>
    show (np_swap S v w).1 (it (np_swap S v w).1 i k) = np_sw (S.1 (it S.1 i (np_sw k v w))) v w
    rw [np_swap_1 h hv hw (itD (vD_swap h hv hw) hk i), ih, np_sw_i]
theorem rgD_swap {D : Nat → Bool} {S : ow_NP} (h : vD (fun k => D k = true) S) (hD : ∀ k, D k = true → k < 24) {v w : Nat} (hv : D v = true) (hw : D w = true) : rgD D (np_swap S v w) = rgD D S := by
  have ht := vD_swap (D := fun k => D k = true) h hv hw
  have hs : ∀ k, D k = true → D (np_sw k v w) = true := fun k hk => np_sw_D (D := fun k => D k = true) hv hw hk
  apply Nat.le_antisymm
  · refine rgD_le ht h hD hD (fun k => np_sw k v w) hs (fun k j hk hj ⟨i, hi⟩ => ⟨i, ?_⟩)
    rw [it_swap (D := fun k => D k = true) h hv hw hk, hi, np_sw_i]
  · refine rgD_le h ht hD hD (fun k => np_sw k v w) hs (fun k j hk hj ⟨i, hi⟩ => ⟨i, ?_⟩)
    rw [it_swap (D := fun k => D k = true) h hv hw (hs k hk), np_sw_i] at hi
    have := congrArg (fun x => np_sw x v w) hi
    rw [np_sw_i, np_sw_i] at this
    exact this
def o_inB (D : Nat → Bool) (v : Nat) : Nat → Bool := fun k => D k || decide (k = v)
theorem inB_t {D : Nat → Bool} {v k : Nat} : o_inB D v k = true ↔ D k = true ∨ k = v := by
  unfold o_inB
  rw [Bool.or_eq_true, decide_eq_true_eq]
theorem vD_inB {D : Nat → Bool} {v : Nat} {S : ow_NP} (h : vD (fun k => D k = true ∨ k = v) S) : vD (fun k => o_inB D v k = true) S := vD_cg h (fun k => inB_t)
theorem rgD_open {D : Nat → Bool} {S : ow_NP} (h : vD (fun k => D k = true) S) {v : Nat} (hv : ¬ D v = true) (hv24 : v < 24) : rgD (o_inB D v) (nl S v v) = rgD D S + 1 := by
  have hn : ∀ k, D k = true → (nl S v v).1 k = S.1 k := fun k hk => if_neg (fun e => hv (by rw [← e]; exact hk))
  have hvv : ∀ i, it (nl S v v).1 i v = v := by
    intro i
    induction i with
    | zero => rfl
    | succ i ih =>
      show (nl S v v).1 (it (nl S v v).1 i v) = v
      rw [ih]; exact if_pos rfl
  rw [← rgD_cg h hn]
  have := cntB_add (q := fun k => D k && lst (nl S v v).1 k 24) (r := fun k => o_inB D v k && lst (nl S v v).1 k 24) (w := v) (by
    show (D v && lst (nl S v v).1 v 24) = false
    rw [Bool.not_eq_true] at hv
    rw [hv, Bool.false_and]) 24 (fun k _ => by
    show ((D k || decide (k = v)) && lst (nl S v v).1 k 24) = ((D k && lst (nl S v v).1 k 24) || decide (k = v))
    by_cases e : k = v
    · have hl : lst (nl S v v).1 v 24 = true := (lst_t 24).mpr (fun i _ => by rw [hvv i]; exact Nat.le_refl v)
      rw [e, hl, Bool.and_true, Bool.and_true]
    · rw [decide_eq_false e, Bool.or_false, Bool.or_false])
  unfold rgD
  rw [this, if_pos hv24]
theorem rgD_put {D : Nat → Bool} {S : ow_NP} (h : vD (fun k => D k = true) S) (hD : ∀ k, D k = true → k < 24) {a v : Nat} (ha : D a = true) (hv : ¬ D v = true) (hv24 : v < 24) : rgD (o_inB D v) (np_putBehind S a v) = rgD D S := by
  have hav : ¬ a = v := fun e => hv (by rw [← e]; exact ha)
  have n1 : (np_putBehind S a v).1 v = S.1 a := by rw [put_1, if_pos rfl]
  have n2 : (np_putBehind S a v).1 a = v := by rw [put_1, if_neg hav, if_pos rfl]
  have n3 : ∀ k, ¬ k = v → ¬ k = a → (np_putBehind S a v).1 k = S.1 k := fun k x y => by rw [put_1, if_neg x, if_neg y]
  have hdv : ∀ k, D k = true → ¬ k = v := fun k hk e => hv (by rw [← e]; exact hk)
  have ht := vD_inB (vD_put (D := fun k => D k = true) h ha hv)
  have hE : ∀ k, o_inB D v k = true → k < 24 := fun k hk => by
    rcases inB_t.mp hk with q | q
    · exact hD k q
    · omega
  have up : ∀ k, D k = true → ∀ i, sr (np_putBehind S a v).1 k (it S.1 i k) := by
    intro k hk i
    induction i with
    | zero => exact sr_rf _ _
    | succ i ih =>
      refine sr_tr ih ?_
      have hx := itD (D := fun k => D k = true) h hk i
      show sr _ (it S.1 i k) (S.1 (it S.1 i k))
      by_cases e : it S.1 i k = a
      · rw [e]
        exact ⟨2, by show (np_putBehind S a v).1 ((np_putBehind S a v).1 a) = S.1 a; rw [n2, n1]⟩
      · exact ⟨1, by show (np_putBehind S a v).1 (it S.1 i k) = S.1 (it S.1 i k); exact n3 _ (hdv _ hx) e⟩
  apply Nat.le_antisymm
  · refine rgD_le ht h hE hD (fun k => if k = v then a else k) (fun k hk => ?_) (fun k j hk hj hr => ?_)
    · show D (if k = v then a else k) = true
      by_cases e : k = v
      · rw [if_pos e]; exact ha
      · rw [if_neg e]; exact (inB_t.mp hk).resolve_right e
    · have toF : ∀ x, o_inB D v x = true → sr (np_putBehind S a v).1 x (if x = v then a else x) ∧ sr (np_putBehind S a v).1 (if x = v then a else x) x ∧ D (if x = v then a else x) = true := fun x hx => by
        by_cases e : x = v
        · rw [if_pos e, e]
          have h1 : sr (np_putBehind S a v).1 a v := ⟨1, n2⟩
          exact ⟨sr_sy ht hE (inB_t.mpr (Or.inl ha)) h1, h1, ha⟩
        · rw [if_neg e]
          exact ⟨sr_rf _ _, sr_rf _ _, (inB_t.mp hx).resolve_right e⟩
      obtain ⟨a1, _, a3⟩ := toF k hk
      obtain ⟨_, b2, _⟩ := toF j hj
      have hr : sr S.1 (if k = v then a else k) (if j = v then a else j) := hr
      obtain ⟨i, hi⟩ := hr
      have := up _ a3 i
      rw [hi] at this
      exact sr_tr a1 (sr_tr this b2)
  · refine rgD_le h ht hD hE (fun k => k) (fun k hk => inB_t.mpr (Or.inl hk)) (fun k j hk hj hr => ?_)
    obtain ⟨i, hi⟩ := hr
    have key : ∀ i, (D (it (np_putBehind S a v).1 i k) = true ∧ sr S.1 k (it (np_putBehind S a v).1 i k)) ∨ (it (np_putBehind S a v).1 i k = v ∧ sr S.1 k a) := by
      intro i
      induction i with
      | zero => exact Or.inl ⟨hk, sr_rf _ _⟩
      | succ i ih =>
        show (D ((np_putBehind S a v).1 (it (np_putBehind S a v).1 i k)) = true ∧ sr S.1 k ((np_putBehind S a v).1 (it (np_putBehind S a v).1 i k))) ∨ ((np_putBehind S a v).1 (it (np_putBehind S a v).1 i k) = v ∧ sr S.1 k a)
        rcases ih with ⟨q1, q2⟩ | ⟨q1, q2⟩
        · by_cases e : it (np_putBehind S a v).1 i k = a
          · rw [e] at q2 ⊢
            exact Or.inr ⟨n2, q2⟩
          · rw [n3 _ (hdv _ q1) e]
            exact Or.inl ⟨(h _ q1).1, sr_tr q2 (sr_n _ _)⟩
        · rw [q1, n1]
          exact Or.inl ⟨(h a ha).1, sr_tr q2 (sr_n _ _)⟩
    rcases key i with ⟨_, q⟩ | ⟨q, _⟩
    · rw [hi] at q; exact q
    · rw [hi] at q; exact absurd q (hdv j hj)
def exB (D : Nat → Bool) (v : Nat) : Nat → Bool := fun k => D k && decide (k ≠ v)
theorem exB_t {D : Nat → Bool} {v k : Nat} : exB D v k = true ↔ D k = true ∧ k ≠ v := by
  unfold exB
  rw [Bool.and_eq_true, decide_eq_true_eq]
theorem vD_exB {D : Nat → Bool} {v : Nat} {S : ow_NP} (h : vD (fun k => D k = true ∧ k ≠ v) S) : vD (fun k => exB D v k = true) S := vD_cg h (fun k => exB_t)
theorem inB_exB {D : Nat → Bool} {v : Nat} (hv : D v = true) (k : Nat) : D k = o_inB (exB D v) v k := by
  rw [Bool.eq_iff_iff, inB_t, exB_t]
  constructor
  · intro h
    by_cases e : k = v
    · exact Or.inr e
    · exact Or.inl ⟨h, e⟩
  · rintro (h | h)
    · exact h.1
    · rw [h]; exact hv
theorem rgD_cut {D : Nat → Bool} {S : ow_NP} (h : vD (fun k => D k = true) S) (hD : ∀ k, D k = true → k < 24) {v : Nat} (hv : D v = true) : rgD (exB D v) (np_cut S v) + (if S.1 v = v then 1 else 0) = rgD D S := by
  have hc := vD_exB (vD_cut (D := fun k => D k = true) h hv)
  have hne : ¬ exB D v v = true := fun q => (exB_t.mp q).2 rfl
  by_cases e : S.1 v = v
  · have hcs : np_cut S v = S := if_pos e
    rw [hcs] at hc ⊢
    rw [if_pos e, ← rgD_open hc hne (hD v hv), rgD_set (inB_exB hv)]
    exact rgD_cg (D := o_inB (exB D v) v) (vD_cg h (fun k => by rw [← inB_exB hv k])) (fun k _ => by
      show (if k = v then v else S.1 k) = S.1 k
      by_cases e2 : k = v
      · rw [if_pos e2, e2, e]
      · rw [if_neg e2])
  · have hcs : np_cut S v = nl S (S.2 v) (S.1 v) := if_neg e
    have e' : ¬ S.2 v = v := fun q => e (by have := (h v hv).2.2.2; rw [q] at this; exact this)
    have ha : exB D v (S.2 v) = true := exB_t.mpr ⟨(h v hv).2.1, e'⟩
    rw [if_neg e, Nat.add_zero, ← rgD_put hc (fun k hk => hD k (exB_t.mp hk).1) ha hne (hD v hv), rgD_set (S := S) (inB_exB hv)]
    exact rgD_cg (D := o_inB (exB D v) v) (vD_cg h (fun k => by rw [← inB_exB hv k])) (fun k _ => by
      rw [put_1, hcs]
      by_cases e2 : k = v
      · rw [if_pos e2, nl_1, if_pos rfl, e2]
      · rw [if_neg e2]
        by_cases e3 : k = S.2 v
        · rw [if_pos e3, e3, (h v hv).2.2.2]
        · rw [if_neg e3, nl_1, if_neg e3])
theorem rgD_rename {D : Nat → Bool} {S : ow_NP} (h : vD (fun k => D k = true) S) (hD : ∀ k, D k = true → k < 24) {v n : Nat} (hv : D v = true) (hn : ¬ D n = true) (hn24 : n < 24) : rgD (o_inB (exB D v) n) (np_rename S v n) = rgD D S := by
  have hc := vD_exB (vD_cut (D := fun k => D k = true) h hv)
  have hne : ¬ exB D v n = true := fun q => hn (exB_t.mp q).1
  have hcut := rgD_cut h hD hv
  have hE : ∀ k, exB D v k = true → k < 24 := fun k hk => hD k (exB_t.mp hk).1
  by_cases e : S.1 v = v
  · have hcs : np_cut S v = S := if_pos e
    have hr : np_rename S v n = nl S n n := if_pos e
    rw [hcs] at hc hcut
    rw [if_pos e] at hcut
    rw [hr, rgD_open hc hne hn24, hcut]
  · have hcs : np_cut S v = nl S (S.2 v) (S.1 v) := if_neg e
    have e' : ¬ S.2 v = v := fun q => e (by have := (h v hv).2.2.2; rw [q] at this; exact this)
    have ha : exB D v (S.2 v) = true := exB_t.mpr ⟨(h v hv).2.1, e'⟩
    have hr : np_rename S v n = nl (nl S (S.2 v) n) n ((nl S (S.2 v) n).1 v) := if_neg e
    rw [if_neg e, Nat.add_zero] at hcut
    rw [← hcut, ← rgD_put hc hE ha hne hn24]
    refine rgD_cg (vD_inB (vD_put (D := fun k => exB D v k = true) hc ha hne)) (fun k _ => ?_)
    rw [put_1, hcs, hr, nl_1, nl_1, nl_1, nl_1]
    by_cases e2 : k = n
    · rw [if_pos e2, if_pos e2, if_pos rfl, if_neg (fun q => e' q.symm)]
    · rw [if_neg e2, if_neg e2]
      by_cases e3 : k = S.2 v
      · rw [if_pos e3, if_pos e3]
      · rw [if_neg e3, if_neg e3, nl_1, if_neg e3]
/-- the rings of a net of c crossings -/
def ltB (c : Nat) : Nat → Bool := fun k => decide (k < 2 * c)
theorem ltB_t {c k : Nat} : ltB c k = true ↔ k < 2 * c := decide_eq_true_iff
theorem cntB_ext {q : Nat → Bool} {n : Nat} (h : ∀ k, n ≤ k → q k = false) : ∀ d, cntB q (n + d) = cntB q n := by
  intro d
  induction d with
  | zero => rfl
  | succ d ih =>
    show cntB q (n + d) + (if q (n + d) then 1 else 0) = cntB q n
    rw [ih, h (n + d) (by omega)]
    rfl
theorem np_rg_D {c : Nat} (S : ow_NP) (hc : c ≤ 12) : np_rg c S = rgD (ltB c) S := by
  unfold rgD np_rg
  have h := cntB_ext (q := fun k => ltB c k && lst S.1 k 24) (n := 2 * c) (fun k hk => by
    show (ltB c k && lst S.1 k 24) = false
    rw [show ltB c k = false from decide_eq_false (by omega), Bool.false_and]) (24 - 2 * c)
  rw [show 2 * c + (24 - 2 * c) = 24 from by omega] at h
  rw [h]
  exact cntB_cg (2 * c) (fun k hk => by
    show lst S.1 k 24 = (ltB c k && lst S.1 k 24)
    rw [ltB_t.mpr hk, Bool.true_and])
theorem np_cutN_eq (S : ow_NP) (v k : Nat) : np_cutN S v k = k + (if S.1 v = v then 1 else 0) := by
  unfold np_cutN
  split <;> rfl
/-- a crossing taken away: rings and circles stay as many -/
theorem np_rg_rm {c x k : Nat} {S : ow_NP} (h : vn (c + 1) S) (hc : c + 1 ≤ 12) (hx : x ≤ c) : np_rg c (np_rmS S x c) + np_rmN S x k = np_rg (c + 1) S + k := by
  have h0 : vD (fun j => ltB (c + 1) j = true) S := vD_cg (vD_vn.mpr h) (fun j => ltB_t)
  have hD : ∀ j, ltB (c + 1) j = true → j < 24 := fun j hj => by have := ltB_t.mp hj; omega
  have c1 := rgD_cut h0 hD (v := 2 * x) (ltB_t.mpr (by omega))
  have v1 := vD_exB (vD_cut (D := fun j => ltB (c + 1) j = true) h0 (v := 2 * x) (ltB_t.mpr (by omega)))
  have hD1 : ∀ j, exB (ltB (c + 1)) (2 * x) j = true → j < 24 := fun j hj => hD j (exB_t.mp hj).1
  have m1 : exB (ltB (c + 1)) (2 * x) (2 * x + 1) = true := exB_t.mpr ⟨ltB_t.mpr (by omega), by omega⟩
  have c2 := rgD_cut v1 hD1 (v := 2 * x + 1) m1
  have v2 := vD_exB (vD_cut (D := fun j => exB (ltB (c + 1)) (2 * x) j = true) v1 (v := 2 * x + 1) m1)
  have hD2 : ∀ j, exB (exB (ltB (c + 1)) (2 * x)) (2 * x + 1) j = true → j < 24 := fun j hj => hD1 j (exB_t.mp hj).1
  have hN : np_rmN S x k = k + (if S.1 (2 * x) = 2 * x then 1 else 0) + (if (np_cut S (2 * x)).1 (2 * x + 1) = 2 * x + 1 then 1 else 0) := by
    unfold np_rmN
    rw [np_cutN_eq, np_cutN_eq]
  have fin : rgD (ltB c) (np_rmS S x c) = rgD (exB (exB (ltB (c + 1)) (2 * x)) (2 * x + 1)) (np_cut (np_cut S (2 * x)) (2 * x + 1)) := by
    unfold np_rmS
    by_cases e : x = c
    · rw [if_pos e]
      refine rgD_set (fun j => ?_)
      rw [Bool.eq_iff_iff, ltB_t, exB_t, exB_t, ltB_t]
      omega
    · rw [if_neg e]
      have m2 : exB (exB (ltB (c + 1)) (2 * x)) (2 * x + 1) (2 * c) = true := exB_t.mpr ⟨exB_t.mpr ⟨ltB_t.mpr (by omega), by omega⟩, by omega⟩
      have n2 : ¬ exB (exB (ltB (c + 1)) (2 * x)) (2 * x + 1) (2 * x) = true := fun q => (exB_t.mp (exB_t.mp q).1).2 rfl
      have r1 := rgD_rename v2 hD2 (v := 2 * c) (n := 2 * x) m2 n2 (by omega)
      have v3 : vD (fun j => o_inB (exB (exB (exB (ltB (c + 1)) (2 * x)) (2 * x + 1)) (2 * c)) (2 * x) j = true) (np_rename (np_cut (np_cut S (2 * x)) (2 * x + 1)) (2 * c) (2 * x)) := vD_cg (vD_rename (D := fun j => exB (exB (ltB (c + 1)) (2 * x)) (2 * x + 1) j = true) v2 m2 n2) (fun j => by rw [inB_t, exB_t])
      have m3 : o_inB (exB (exB (exB (ltB (c + 1)) (2 * x)) (2 * x + 1)) (2 * c)) (2 * x) (2 * c + 1) = true := inB_t.mpr (Or.inl (exB_t.mpr ⟨exB_t.mpr ⟨exB_t.mpr ⟨ltB_t.mpr (by omega), by omega⟩, by omega⟩, by omega⟩))
      have n3 : ¬ o_inB (exB (exB (exB (ltB (c + 1)) (2 * x)) (2 * x + 1)) (2 * c)) (2 * x) (2 * x + 1) = true := fun q => by
        rcases inB_t.mp q with r | r
        · exact (exB_t.mp (exB_t.mp r).1).2 rfl
        · omega
      have hD3 : ∀ j, o_inB (exB (exB (exB (ltB (c + 1)) (2 * x)) (2 * x + 1)) (2 * c)) (2 * x) j = true → j < 24 := fun j hj => by
        rcases inB_t.mp hj with r | r
        · exact hD2 j (exB_t.mp r).1
        · omega
      have r2 := rgD_rename v3 hD3 (v := 2 * c + 1) (n := 2 * x + 1) m3 n3 (by omega)
      rw [← r1, ← r2]
      refine rgD_set (fun j => ?_)
      rw [Bool.eq_iff_iff, ltB_t, inB_t, exB_t, inB_t, exB_t, exB_t, exB_t, ltB_t]
      omega
  rw [np_rg_D _ (by omega), np_rg_D _ hc, fin, hN, ← c1, ← c2]
  omega
def nv (R : ow_NT) : Prop := vn R.1 R.2.2.1 ∧ R.1 ≤ 12 ∧ ow_b24 R.2.2.1 ∧ np_rg R.1 R.2.2.1 + R.2.1 ≤ 6
theorem vn_ltB {c : Nat} {S : ow_NP} (h : vn c S) : vD (fun k => ltB c k = true) S := vD_cg (vD_vn.mpr h) (fun _ => ltB_t)
theorem ltB_24 {c : Nat} (hc : c ≤ 12) : ∀ k, ltB c k = true → k < 24 := fun k hk => by
  have := ltB_t.mp hk
  omega
theorem nv_copy {Q R : ow_NT} (h : nv R) (hQ : ow_b24 Q.2.2.1) : nv (nt_copy Q R) := by
  obtain ⟨h1, h2, h3, h4⟩ := h
  refine ⟨vn_copy h1, h2, nt_copy_b24 hQ h3, ?_⟩
  show np_rg R.1 (nt_copy Q R).2.2.1 + R.2.1 ≤ 6
  rw [np_rg_D _ h2, rgD_cg (D := ltB R.1) (T := (nt_copy Q R).2.2.1) (vn_ltB h1) (fun k hk => by
    show va_cpy R.2.2.1.1 Q.2.2.1.1 0 0 (2 * R.1) k = R.2.2.1.1 k
    have := ltB_t.mp hk
    rw [pk_cpy_in (Nat.zero_le k) (by omega), Nat.zero_add, Nat.sub_zero]), ← np_rg_D _ h2]
  exact h4
theorem nv_rm {R : ow_NT} {x : Nat} (h : nv R) (hx : x < R.1) : nv (nt_rm R x) := by
  obtain ⟨h1, h2, h3, h4⟩ := h
  obtain ⟨c, hc⟩ : ∃ c, R.1 = c + 1 := ⟨R.1 - 1, by omega⟩
  have hc1 : R.1 - 1 = c := by omega
  rw [hc] at h1 h4
  have hr := np_rg_rm (k := R.2.1) h1 (by omega) (show x ≤ c by omega)
  refine ⟨?_, ?_, np_rmS_b24 h3 (by omega), ?_⟩
  · show vn (R.1 - 1) (np_rmS R.2.2.1 x (R.1 - 1))
    rw [hc1]; exact vn_rm h1 (by omega)
  · show R.1 - 1 ≤ 12
    omega
  · show np_rg (R.1 - 1) (np_rmS R.2.2.1 x (R.1 - 1)) + np_rmN R.2.2.1 x R.2.1 ≤ 6
    rw [hc1, hr]; exact h4
theorem nv_swap {R : ow_NT} {v w : Nat} (h : nv R) (hv : v < 2 * R.1) (hw : w < 2 * R.1) : nv (nt_swap R v w) := by
  obtain ⟨h1, h2, h3, h4⟩ := h
  refine ⟨vD_vn.mp (vD_swap (vD_vn.mpr h1) hv hw), h2, np_swap_b24 h3 (by omega) (by omega), ?_⟩
  show np_rg R.1 (np_swap R.2.2.1 v w) + R.2.1 ≤ 6
  rw [np_rg_D _ h2, rgD_swap (vn_ltB h1) (ltB_24 h2) (ltB_t.mpr hv) (ltB_t.mpr hw), ← np_rg_D _ h2]
  exact h4
/-- two visits come: rings and circles stay as many -/
theorem rg_pair {D : Nat → Bool} {Q : ow_NT} (h : vD (fun k => D k = true) Q.2.2.1) (hD : ∀ k, D k = true → k < 24) {af : Option Nat} {f g : Nat} (ha : ∀ a, af = some a → D a = true) (hci : af = none → 1 ≤ Q.2.1) (hf : ¬ D f = true) (hg : ¬ D g = true) (hfg : ¬ f = g) (hf24 : f < 24) (hg24 : g < 24) : rgD (o_inB (o_inB D f) g) (nt_pair Q af f g).2.2.1 + (nt_pair Q af f g).2.1 = rgD D Q.2.2.1 + Q.2.1 := by
  have hD1 : ∀ k, o_inB D f k = true → k < 24 := fun k hk => by
    rcases inB_t.mp hk with q | q
    · exact hD k q
    · omega
  have hff : o_inB D f f = true := inB_t.mpr (Or.inr rfl)
  have hg1 : ¬ o_inB D f g = true := fun q => by
    rcases inB_t.mp q with r | r
    · exact hg r
    · exact hfg r.symm
  cases af with
  | none =>
    show rgD (o_inB (o_inB D f) g) (np_putBehind (nl Q.2.2.1 f f) f g) + (Q.2.1 - 1) = _
    rw [rgD_put (vD_inB (vD_open (D := fun k => D k = true) h hf)) hD1 hff hg1 hg24, rgD_open h hf hf24]
    have := hci rfl
    omega
  | some a =>
    show rgD (o_inB (o_inB D f) g) (np_putBehind (np_putBehind Q.2.2.1 a f) f g) + Q.2.1 = _
    rw [rgD_put (vD_inB (vD_put (D := fun k => D k = true) h (ha a rfl) hf)) hD1 hff hg1 hg24, rgD_put h hD (ha a rfl) hf hf24]
/-- all that a move of a kind makes is such a net -/
def mv_nvs (kd : Nat) (R : ow_NT) : Prop := ∀ (F P : Nat → Int32) (Q : ow_NT) (j : Nat), mv_mk kd R F P → ow_b24 Q.2.2.1 → j < mv_cnt R.1 kd → ow_b24 (mv_T kd j Q R F P).2.2.1 ∧ (mv_B kd j Q R F P = true → nv (mv_T kd j Q R F P))
theorem mv_nv0 {R : ow_NT} (h : nv R) : mv_nvs 0 R := by
  intro F P Q j _ hQ hj
  have hj : j < R.1 := hj
  show ow_b24 (mv_t0 Q R j).2.2.1 ∧ (mv_bs R.2.2.1.1 (2 * j) (2 * j + 1) = true → nv (mv_t0 Q R j))
  unfold mv_t0
  split
  · have := nv_rm (nv_copy h hQ) (show j < (nt_copy Q R).1 from hj)
    exact ⟨this.2.2.1, fun _ => this⟩
  · rename_i e
    exact ⟨hQ, fun q => absurd q e⟩
theorem mv_nv2 {R : ow_NT} (h : nv R) : mv_nvs 2 R := by
  intro F P Q j _ hQ hj
  have hj : j < R.1 * R.1 := hj
  have h0 : 0 < R.1 := Nat.pos_of_ne_zero (fun e => by rw [e] at hj; omega)
  have hm : j % R.1 < R.1 := Nat.mod_lt _ h0
  have hd : j / R.1 < R.1 := Nat.div_lt_of_lt_mul hj
  show ow_b24 (mv_t2 Q R (j / R.1) (j % R.1)).2.2.1 ∧ (mv_b2 R (j / R.1) (j % R.1) = true → nv (mv_t2 Q R (j / R.1) (j % R.1)))
  unfold mv_t2
  split
  · rename_i e
    have hlt : j % R.1 < j / R.1 := by
      unfold mv_b2 at e
      rw [Bool.and_eq_true, decide_eq_true_eq] at e
      exact e.1
    have h1 := nv_rm (nv_copy h hQ) (show j / R.1 < (nt_copy Q R).1 from hd)
    have := nv_rm h1 (show j % R.1 < R.1 - 1 by omega)
    exact ⟨this.2.2.1, fun _ => this⟩
  · rename_i e
    exact ⟨hQ, fun q => absurd q e⟩
theorem mv_nv4 {R : ow_NT} (h : nv R) : mv_nvs 4 R := by
  intro F P Q j _ hQ hj
  have hj : j < 2 * (2 * R.1) := hj
  have hb := fc_on_vn h.1 R.2.2.2 (show j < 4 * R.1 by omega)
  have hd := fc_on_vn h.1 R.2.2.2 hb
  show ow_b24 (mv_t4 Q R j).2.2.1 ∧ (mv_b4 R j = true → nv (mv_t4 Q R j))
  unfold mv_t4
  split
  · have sw : ∀ (T : ow_NT) (a : Nat), nv T → T.1 = R.1 → a < 4 * R.1 → nv (nt_sw R T a) ∧ (nt_sw R T a).1 = R.1 := fun T a hT he ha => ⟨nv_swap hT (by rw [he]; omega) (by rw [he]; exact (h.1 _ (by omega)).1), he⟩
    have s1 := sw (nt_copy Q R) j (nv_copy h hQ) rfl (by omega)
    have s2 := sw _ _ s1.1 s1.2 hb
    have s3 := sw _ _ s2.1 s2.2 hd
    exact ⟨s3.1.2.2.1, fun _ => s3.1⟩
  · rename_i e
    exact ⟨hQ, fun q => absurd q e⟩
theorem mv_nv1 {R : ow_NT} (h : nv R) : mv_nvs 1 R := by
  intro F P Q j _ hQ hj
  have hcc : R.1 + 1 ≤ 12 := by
    rcases Nat.lt_or_ge 12 (R.1 + 1) with q | q
    · have h9 : mv_cnt R.1 1 = 0 := if_neg (by omega)
      omega
    · exact q
  have hj : j < (2 * R.1 + 1) * 4 := by rw [show mv_cnt R.1 1 = (2 * R.1 + 1) * 4 from if_pos hcc] at hj; exact hj
  show ow_b24 (mv_t1 Q R (j / 4) (j % 4)).2.2.1 ∧ (mv_b1 R (j / 4) = true → nv (mv_t1 Q R (j / 4) (j % 4)))
  unfold mv_t1
  split
  · rename_i e
    obtain ⟨h1, h2, h3, h4⟩ := nv_copy h hQ
    have haf : ∀ a, mv_af R (j / 4) = some a → a < 2 * R.1 := fun a ha => mv_af_lt (by omega) ha
    have hci : mv_af R (j / 4) = none → 1 ≤ R.2.1 := fun hn => by
      unfold mv_af at hn
      split at hn
      · rename_i eg
        rcases Nat.eq_zero_or_pos R.2.1 with q | q
        · unfold mv_b1 at e
          rw [decide_eq_true eg, decide_eq_true q] at e
          exact absurd e (by decide)
        · exact q
      · cases hn
    have hk : (2 * R.1 + j % 4 % 2 = 2 * R.1 ∧ mt (2 * R.1 + j % 4 % 2) = 2 * R.1 + 1) ∨ (2 * R.1 + j % 4 % 2 = 2 * R.1 + 1 ∧ mt (2 * R.1 + j % 4 % 2) = 2 * R.1) := by
      unfold mt
      by_cases e2 : (2 * R.1 + j % 4 % 2) % 2 = 0
      · rw [if_pos e2]; omega
      · rw [if_neg e2]; omega
    have hv0 : vD (fun k => k < 2 * R.1) (nt_copy Q R).2.2.1 := vD_vn.mpr h1
    have hb : ow_b24 (nt_pair (nt_add (nt_copy Q R) (mv_sg (j % 4))) (mv_af R (j / 4)) (2 * R.1 + j % 4 % 2) (mt (2 * R.1 + j % 4 % 2))).2.2.1 := nt_pair_b24 (Q := nt_add (nt_copy Q R) (mv_sg (j % 4))) h3 (fun a ha => by have := haf a ha; omega) (by omega) (by rcases hk with q | q <;> omega)
    have hc1 : (nt_pair (nt_add (nt_copy Q R) (mv_sg (j % 4))) (mv_af R (j / 4)) (2 * R.1 + j % 4 % 2) (mt (2 * R.1 + j % 4 % 2))).1 = R.1 + 1 := nt_pair_c _ _ _ _
    refine ⟨hb, fun _ => ⟨?_, by rw [hc1]; exact hcc, hb, ?_⟩⟩
    · rw [hc1]
      exact vD_vn.mp (vD_cg (vD_pair (Q := nt_add (nt_copy Q R) (mv_sg (j % 4))) hv0 (fun a ha => haf a ha) (by rcases hk with q | q <;> omega) (by rcases hk with q | q <;> omega) (by rcases hk with q | q <;> omega)) (fun k => by rcases hk with q | q <;> omega))
    · rw [hc1, np_rg_D _ hcc]
      have hr := rg_pair (D := ltB R.1) (Q := nt_add (nt_copy Q R) (mv_sg (j % 4))) (af := mv_af R (j / 4)) (f := 2 * R.1 + j % 4 % 2) (g := mt (2 * R.1 + j % 4 % 2)) (vn_ltB h1) (ltB_24 (by omega)) (fun a ha => ltB_t.mpr (haf a ha)) hci (fun q => by have := ltB_t.mp q; omega) (fun q => by have := ltB_t.mp q; rcases hk with r | r <;> omega) (by rcases hk with q | q <;> omega) (by omega) (by rcases hk with q | q <;> omega)
      rw [rgD_set (D := ltB (R.1 + 1)) (E := o_inB (o_inB (ltB R.1) (2 * R.1 + j % 4 % 2)) (mt (2 * R.1 + j % 4 % 2))) (fun k => by
        rw [Bool.eq_iff_iff, inB_t, inB_t, ltB_t, ltB_t]
        rcases hk with q | q <;> omega), hr]
      have h5 : np_rg R.1 (nt_copy Q R).2.2.1 + R.2.1 ≤ 6 := h4
      rw [np_rg_D _ (by omega)] at h5
      exact h5
  · rename_i e
    exact ⟨hQ, fun q => absurd q e⟩
theorem mv_nv3 {R : ow_NT} (h : nv R) : mv_nvs 3 R := by
  intro F P Q j _ hQ hj
  have hcc : R.1 + 2 ≤ 12 := by
    rcases Nat.lt_or_ge 12 (R.1 + 2) with q | q
    · have h9 : mv_cnt R.1 3 = 0 := if_neg (by omega)
      omega
    · exact q
  have hj : j < (2 * R.1 + 1) * (2 * R.1 + 2) * 4 := by rw [show mv_cnt R.1 3 = (2 * R.1 + 1) * (2 * R.1 + 2) * 4 from if_pos hcc] at hj; exact hj
  have ho : j / 4 / (2 * R.1 + 2) ≤ 2 * R.1 := by
    have : j / 4 / (2 * R.1 + 2) < 2 * R.1 + 1 := Nat.div_lt_of_lt_mul (by rw [Nat.mul_comm]; omega)
    omega
  have hu : j / 4 % (2 * R.1 + 2) ≤ 2 * R.1 + 1 := by
    have : j / 4 % (2 * R.1 + 2) < 2 * R.1 + 2 := Nat.mod_lt _ (by omega)
    omega
  show ow_b24 (mv_t3 Q R F P (j / 4 / (2 * R.1 + 2)) (j / 4 % (2 * R.1 + 2)) (j % 4)).2.2.1 ∧ ((mv_b3 R F P (j / 4 / (2 * R.1 + 2)) (j / 4 % (2 * R.1 + 2)) && nt_plane (mv_t3b Q R (j / 4 / (2 * R.1 + 2)) (j / 4 % (2 * R.1 + 2)) (j % 4))) = true → nv (mv_t3 Q R F P (j / 4 / (2 * R.1 + 2)) (j / 4 % (2 * R.1 + 2)) (j % 4)))
  generalize j / 4 / (2 * R.1 + 2) = o at ho
  generalize j / 4 % (2 * R.1 + 2) = u at hu
  generalize j % 4 = ch
  unfold mv_t3
  split
  · rename_i e
    have hnd : mv_nd R o u ≤ R.2.1 := by
      unfold mv_b3 at e
      rw [Bool.and_eq_true, decide_eq_true_eq] at e
      exact e.1
    obtain ⟨h1, h2, h3, h4⟩ := nv_copy h hQ
    have hTa : ow_b24 (mv_t3a Q R o ch).2.2.1 := nt_pair_b24 (Q := nt_add (nt_add (nt_copy Q R) (mv_s1 ch)) (mv_s2 ch)) h3 (fun a ha => by have := mv_af_lt ho ha; omega) (by omega) (by omega)
    have hfg : ∃ f g, mv_t3b Q R o u ch = nt_pair (mv_t3a Q R o ch) (mv_au R u) f g ∧ ((f = 2 * R.1 + 1 ∧ g = 2 * R.1 + 3) ∨ (f = 2 * R.1 + 3 ∧ g = 2 * R.1 + 1)) := by
      unfold mv_t3b
      by_cases e2 : ch / 2 % 2 = 0
      · rw [if_pos e2, if_pos e2]; exact ⟨_, _, rfl, Or.inl ⟨rfl, rfl⟩⟩
      · rw [if_neg e2, if_neg e2]; exact ⟨_, _, rfl, Or.inr ⟨rfl, rfl⟩⟩
    obtain ⟨f, g, eT, hk⟩ := hfg
    have hc1 := mv_t3b_c Q R o u ch
    have hvn := vn_t3b (Q := Q) (u := u) (ch := ch) h.1 ho
    have hb : ow_b24 (mv_t3b Q R o u ch).2.2.1 := by
      rw [eT]
      exact nt_pair_b24 hTa (fun a ha => by have := mv_au_in ha; omega) (by rcases hk with q | q <;> omega) (by rcases hk with q | q <;> omega)
    refine ⟨hb, fun _ => ⟨by rw [hc1]; exact hvn, by rw [hc1]; exact hcc, hb, ?_⟩⟩
    rw [hc1, np_rg_D _ hcc]
    have r1 := rg_pair (D := ltB R.1) (Q := nt_add (nt_add (nt_copy Q R) (mv_s1 ch)) (mv_s2 ch)) (af := mv_af R o) (f := 2 * R.1) (g := 2 * R.1 + 2) (vn_ltB h1) (ltB_24 (by omega)) (fun a ha => ltB_t.mpr (mv_af_lt ho ha)) (fun hn => show 1 ≤ R.2.1 from mv_nd_1 hnd hn) (fun q => by have := ltB_t.mp q; omega) (fun q => by have := ltB_t.mp q; omega) (by omega) (by omega) (by omega)
    have r1 : rgD (o_inB (o_inB (ltB R.1) (2 * R.1)) (2 * R.1 + 2)) (mv_t3a Q R o ch).2.2.1 + (mv_t3a Q R o ch).2.1 = rgD (ltB R.1) (nt_copy Q R).2.2.1 + R.2.1 := r1
    have va : vD (fun k => o_inB (o_inB (ltB R.1) (2 * R.1)) (2 * R.1 + 2) k = true) (mv_t3a Q R o ch).2.2.1 := vD_cg (vD_t3a (Q := Q) (ch := ch) h.1 ho) (fun k => by rw [inB_t, inB_t, ltB_t])
    have r2 := rg_pair (D := o_inB (o_inB (ltB R.1) (2 * R.1)) (2 * R.1 + 2)) (Q := mv_t3a Q R o ch) (af := mv_au R u) (f := f) (g := g) va (fun k hk2 => by
      rcases inB_t.mp hk2 with q | q
      · rcases inB_t.mp q with q | q
        · have := ltB_t.mp q; omega
        · omega
      · omega) (fun a ha => by
      rcases mv_au_in ha with q | q
      · exact inB_t.mpr (Or.inl (inB_t.mpr (Or.inl (ltB_t.mpr q))))
      · exact inB_t.mpr (Or.inr q)) (fun hn => mv_nd_2 hnd hu hn) (fun q => by
      rw [inB_t, inB_t, ltB_t] at q
      rcases hk with r | r <;> omega) (fun q => by
      rw [inB_t, inB_t, ltB_t] at q
      rcases hk with r | r <;> omega) (by rcases hk with r | r <;> omega) (by rcases hk with r | r <;> omega) (by rcases hk with r | r <;> omega)
    rw [eT]
    rw [rgD_set (D := ltB (R.1 + 2)) (E := o_inB (o_inB (o_inB (o_inB (ltB R.1) (2 * R.1)) (2 * R.1 + 2)) f) g) (fun k => by
      rw [Bool.eq_iff_iff, inB_t, inB_t, inB_t, inB_t, ltB_t, ltB_t]
      rcases hk with q | q <;> omega), r2, r1]
    have h5 : np_rg R.1 (nt_copy Q R).2.2.1 + R.2.1 ≤ 6 := h4
    rw [np_rg_D _ (by omega)] at h5
    exact h5
  · rename_i e
    exact ⟨hQ, fun q => by rw [Bool.and_eq_true] at q; exact absurd q.1 e⟩
theorem mv_nv {R : ow_NT} (h : nv R) {kd : Nat} (hkd : kd < 5) : mv_nvs kd R := by
  have h5 : kd = 0 ∨ kd = 1 ∨ kd = 2 ∨ kd = 3 ∨ kd = 4 := by omega
  rcases h5 with rfl | rfl | rfl | rfl | rfl
  · exact mv_nv0 h
  · exact mv_nv1 h
  · exact mv_nv2 h
  · exact mv_nv3 h
  · exact mv_nv4 h
theorem sr_ex {D : Nat → Prop} {S : ow_NP} (h : vD D S) (h24 : ∀ k, D k → k < 24) {v w : Nat} {T : ow_NP} (hT : vD D T) (hv : D v) (hw : D w) (e1 : S.1 v = T.1 w) (e2 : S.1 w = T.1 v) (e3 : ∀ k, D k → ¬ k = v → ¬ k = w → S.1 k = T.1 k) {k j : Nat} (hk : D k) (nk : ¬ sr T.1 k w) (nj : ¬ sr T.1 j w) (hj : D j) (hr : sr S.1 k j) : sr T.1 k j := by
  obtain ⟨i, hi⟩ := hr
  have key : ∀ i, sr T.1 k (it S.1 i k) ∨ ((sr T.1 k v ∨ sr T.1 k w) ∧ (sr T.1 v (it S.1 i k) ∨ sr T.1 w (it S.1 i k))) := by
    intro i
    induction i with
    | zero => exact Or.inl (sr_rf _ _)
    | succ i ih =>
      have hx := itD h hk i
      show sr T.1 k (S.1 (it S.1 i k)) ∨ ((sr T.1 k v ∨ sr T.1 k w) ∧ (sr T.1 v (S.1 (it S.1 i k)) ∨ sr T.1 w (S.1 (it S.1 i k))))
      generalize it S.1 i k = x at ih hx
      by_cases a1 : x = v
      · rw [a1] at ih
        rw [a1, e1]
        refine Or.inr ⟨?_, Or.inr (sr_n _ _)⟩
        rcases ih with q | q
        · exact Or.inl q
        · exact q.1
      · by_cases a2 : x = w
        · rw [a2] at ih
          rw [a2, e2]
          refine Or.inr ⟨?_, Or.inl (sr_n _ _)⟩
          rcases ih with q | q
          · exact Or.inr q
          · exact q.1
        · rw [e3 x hx a1 a2]
          rcases ih with q | ⟨q1, q2 | q2⟩
          · exact Or.inl (sr_tr q (sr_n _ _))
          · exact Or.inr ⟨q1, Or.inl (sr_tr q2 (sr_n _ _))⟩
          · exact Or.inr ⟨q1, Or.inr (sr_tr q2 (sr_n _ _))⟩
  have := key i
  rw [hi] at this
  rcases this with q | ⟨q1, q2⟩
  · exact q
  · rcases q1 with q1 | q1
    · rcases q2 with q2 | q2
      · exact sr_tr q1 q2
      · exact absurd (sr_sy hT h24 hw q2) nj
    · exact absurd q1 nk
theorem rgD_ex {D : Nat → Bool} {S : ow_NP} (h : vD (fun k => D k = true) S) (hD : ∀ k, D k = true → k < 24) {v w : Nat} {T : ow_NP} (hT : vD (fun k => D k = true) T) (hv : D v = true) (hw : D w = true) (e1 : S.1 v = T.1 w) (e2 : S.1 w = T.1 v) (e3 : ∀ k, D k = true → ¬ k = v → ¬ k = w → S.1 k = T.1 k) : rgD D T ≤ rgD D S + 1 := by
  obtain ⟨w0, hw0, hs0, hl0⟩ := sr_least hT hD hw
  have hq : (D w0 && lst T.1 w0 24) = true := by rw [hw0, hl0]; rfl
  unfold rgD
  rw [cntB_rm (q := fun k => D k && lst T.1 k 24) (w := w0) (hD w0 hw0) hq]
  have hex : ∀ k, ∃ u, D k = true → D u = true ∧ sr S.1 k u ∧ lst S.1 u 24 = true := fun k => by
    by_cases e : D k = true
    · obtain ⟨u, a1, a2, a3⟩ := sr_least h hD e
      exact ⟨u, fun _ => ⟨a1, a2, a3⟩⟩
    · exact ⟨0, fun q => absurd q e⟩
  have spl : ∀ k, ((D k && lst T.1 k 24) && decide (k ≠ w0)) = true → D k = true ∧ lst T.1 k 24 = true ∧ ¬ sr T.1 k w := fun k hk => by
    rw [Bool.and_eq_true, Bool.and_eq_true, decide_eq_true_eq] at hk
    exact ⟨hk.1.1, hk.1.2, fun q => hk.2 (lst_uni hT hD hk.1.1 hw0 hk.1.2 hl0 (sr_tr q hs0))⟩
  have := cntB_inj (n := 24) 24 (fun k => (D k && lst T.1 k 24) && decide (k ≠ w0)) (fun k => D k && lst S.1 k 24) (fun k => Classical.choose (hex k)) (fun k _ hk => by
    obtain ⟨a1, a2, a3⟩ := Classical.choose_spec (hex k) (spl k hk).1
    exact ⟨hD _ a1, by show (D _ && lst S.1 _ 24) = true; rw [a1, a3]; rfl⟩) (fun k j _ _ hk hj e => by
    obtain ⟨k1, k2, k3⟩ := spl k hk
    obtain ⟨j1, j2, j3⟩ := spl j hj
    obtain ⟨a1, a2, a3⟩ := Classical.choose_spec (hex k) k1
    obtain ⟨b1, b2, b3⟩ := Classical.choose_spec (hex j) j1
    have e : Classical.choose (hex k) = Classical.choose (hex j) := e
    rw [e] at a2
    have hr : sr S.1 k j := sr_tr a2 (sr_sy h hD j1 b2)
    exact lst_uni hT hD k1 j1 k2 j2 (sr_ex h hD hT hv hw e1 e2 e3 k1 k3 j3 j1 hr))
  omega
/-- an exchange of two gaps makes at most one ring more -/
theorem np_rg_exchange {c v w : Nat} {S : ow_NP} (h : vn c S) (hc : c ≤ 12) (hv : v < 2 * c) (hw : w < 2 * c) : np_rg c (np_exchange S v w) ≤ np_rg c S + 1 := by
  rw [np_rg_D _ hc, np_rg_D _ hc]
  have hx := vn_exchange h hv hw
  by_cases e : v = w
  · rw [rgD_cg (D := ltB c) (T := np_exchange S v w) (vn_ltB h) (fun k _ => by
      rw [np_exchange_1, e]
      by_cases e2 : k = w
      · rw [if_pos e2, e2]
      · rw [if_neg e2, if_neg e2])]
    exact Nat.le_succ _
  · refine rgD_ex (vn_ltB h) (ltB_24 hc) (v := v) (w := w) (vn_ltB hx) (ltB_t.mpr hv) (ltB_t.mpr hw) ?_ ?_ (fun k _ a1 a2 => ?_)
    · rw [np_exchange_1, if_pos rfl]
    · rw [np_exchange_1, if_neg e, if_pos rfl]
    · rw [np_exchange_1, if_neg a2, if_neg a1]
end
