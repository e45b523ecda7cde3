/-! permutations: the reference makes its tables as they should be -/
def e74 (y : ow_MS) (m n : Nat) : Prop := ∀ p a, p < n → a < 4 → y.2.1 74 (96 * m + 4 * p + a) = nI (imP m p a)
def e75 (y : ow_MS) (m o x : Nat) : Prop := ∀ o' x', o' < thM m → x' < thM m → (o' < o ∨ o' = o ∧ x' < x) → y.2.1 75 (576 * m + 24 * o' + x') = nI (dnM m o' x') ∧ y.2.1 76 (576 * m + 24 * o' + x') = nI (bkM m o' x')
def eP9 (y : ow_MS) (m : Nat) : Prop := e74 y m (thM m) ∧ e75 y m (thM m) 0
def bI9 (b : Bool) : Int32 := if b = true then 1 else 0
theorem bI_and {b : Bool} {c : Prop} [Decidable c] : bI9 b &&& (if c then 1 else 0) = bI9 (b && decide c) := by
  by_cases h : c <;> cases b <;> simp [bI9, h]
theorem bI_0 {b : Bool} (e : bI9 b = 0) : b = false := by
  cases b
  · rfl
  · exact absurd e (by decide)
theorem bI_1 {b : Bool} (e : bI9 b ≠ 0) : b = true := by
  cases b
  · exact absurd rfl e
  · rfl
theorem imP_4 {m p a : Nat} : imP m p a < 4 := Nat.mod_lt _ (by omega)
theorem e74_74 {y : ow_MS} {m m' n p a : Nat} {v : Int32} (hm : m' ≠ m) (hn : n ≤ 24) (hp : p < 24) (ha : a < 4) (h : e74 y m' n) : e74 (usI y 74 (96 * m + 4 * p + a) v) m' n := fun p' a' h1 h3 => rd_ne (by omega) (h p' a' h1 h3)
theorem e74_o {y : ow_MS} {m n g i : Nat} {v : Int32} (hg : g ≠ 74) (h : e74 y m n) : e74 (usI y g i v) m n := fun p' a' h1 h3 => rd_ot (Ne.symm hg) (h p' a' h1 h3)
theorem e75_o {y : ow_MS} {m o x i : Nat} {v : Int32} (h : e75 y m o x) : e75 (usI y 74 i v) m o x := fun o' x' h1 h3 h4 => ⟨rd_ot (by omega) (h o' x' h1 h3 h4).1, rd_ot (by omega) (h o' x' h1 h3 h4).2⟩
theorem e75_7 {y : ow_MS} {m m' o x o1 x1 g : Nat} {v : Int32} (hm : m' ≠ m ∨ m' = m ∧ o1 = o ∧ x1 = x) (ho : o < 24) (hx : x < 24) (h : e75 y m' o1 x1) : e75 (usI y g (576 * m + 24 * o + x) v) m' o1 x1 := fun o' x' h1 h3 h4 => by
  have := (thM_le m').2
  have k := h o' x' h1 h3 h4
  have ne : 576 * m' + 24 * o' + x' ≠ 576 * m + 24 * o + x := by
    rcases hm with hm | ⟨rfl, rfl, rfl⟩ <;> omega
  constructor
  · by_cases e : (75 : Nat) = g
    · subst e
      exact rd_ne ne k.1
    · exact rd_ot e k.1
  · by_cases e : (76 : Nat) = g
    · subst e
      exact rd_ne ne k.2
    · exact rd_ot e k.2
theorem tp_image_e {y : ow_MS} {m n p a : Nat} (hy : e74 y m n) (hm : m ≤ 4) (hp : p < n) (hn : n ≤ 24) (ha : a < 4) : Te (fun K => qe_X13_image_a K (nI m) (nI p) (nI a) y) (fun r => r.1 = nI (imP m p a) ∧ r.2 = y) := by
  refine e_X13_image_a ?_; unfold qm_X13_image_0_a
  exact w_rdI ma74 (by rw [show (96 : Int32) * nI m = nI (96 * m) from pk_mul 96 m, show (4 : Int32) * nI p = nI (4 * p) from pk_mul 4 p, nI_add, nI_add]) (by omega) (hy p a hp ha) (w_some ⟨rfl, rfl⟩)
theorem tp_permE {z : ow_MS} : Te (fun K => qe_X13_makePermutations_a K z) (fun z1 => (∀ m, 1 ≤ m → m ≤ 4 → eP9 z1 m) ∧ fr pmP z z1) := by
  let Q : ow_MS → Prop := fun z1 => (∀ m, 1 ≤ m → m ≤ 4 → eP9 z1 m) ∧ fr pmP z z1
  have key : ∀ (dm m : Nat) (y : ow_MS), m + dm = 5 → 1 ≤ m → (∀ m', 1 ≤ m' → m' < m → eP9 y m') → fr pmP z y → Tt (fun K t => q_X13_makePermutations_a K t 1 (nI m) 0 0 0 0 0 0 0 0 0 y) Q := by
    intro dm
    induction dm with
    | zero =>
      intro m y hm h1 hy hf
      refine u_X13_makePermutations_a_1 ?_; unfold qm_X13_makePermutations_1_a
      exact w_ltT (a := 4) (by omega) (by omega) (w_some ⟨fun m' a b => hy m' a (by omega), hf⟩)
    | succ dm ihm =>
      intro m y hm h1 hy hf
      have h4 : m ≤ 4 := by omega
      have hT := thM_le m
      have ac := fun o x w => ac_n (m := m) (o := o) (x := x) (w := w) h1 h4
      have e75d : ∀ {y : ow_MS} {o x}, e75 y m o x = ∀ o' x', o' < thM m → x' < thM m → (o' < o ∨ o' = o ∧ x' < x) → y.2.1 75 (576 * m + 24 * o' + x') = nI (dnM m o' x') ∧ y.2.1 76 (576 * m + 24 * o' + x') = nI (bkM m o' x') := rfl
      have ePd : ∀ {y : ow_MS}, eP9 y m = (e74 y m (thM m) ∧ e75 y m (thM m) 0) := rfl
      generalize hTT : thM m = T at hT ac e75d ePd
      let S : Nat → Nat → ow_MS → Prop := fun o x y' => (∀ m', 1 ≤ m' → m' < m → eP9 y' m') ∧ e74 y' m T ∧ e75 y' m o x ∧ fr pmP z y'
      let R : Nat → Nat → Nat → Nat → ow_MS → Prop := fun o x w1 w2 y' => S o x y' ∧ (dnM m o x < w1 → y'.2.1 75 (576 * m + 24 * o + x) = nI (dnM m o x)) ∧ (bkM m o x < w2 → y'.2.1 76 (576 * m + 24 * o + x) = nI (bkM m o x))
      have S7 : ∀ {o x g : Nat} {v : Int32} {y' : ow_MS}, o < T → x < T → (g = 75 ∨ g = 76) → S o x y' → S o x (usI y' g (576 * m + 24 * o + x) v) := fun {o x g v y'} ho hx hg h => by
        refine ⟨fun m' a b => ⟨e74_o (by omega) (h.1 m' a b).1, e75_7 (Or.inl (by omega)) (by omega) (by omega) (h.1 m' a b).2⟩, e74_o (by omega) h.2.1, e75_7 (Or.inr ⟨rfl, rfl, rfl⟩) (by omega) (by omega) h.2.2.1, fr_I2 h.2.2.2 (by unfold pmP; omega)⟩
      -- the three loops over o, x, y
      have c12 : ∀ (o x w : Nat), o < T → x < T → w < T → (∀ y', R o x (w + 1) (w + 1) y' → Tt (fun K t => q_X13_makePermutations_a K t 11 (nI m) (nI T) (nI o) (nI x) (nI (w + 1)) 0 0 0 0 0 y') Q) → ∀ (d a : Nat) (y' : ow_MS), a + d = m → R o x w w y' → Tt (fun K t => q_X13_makePermutations_a K t 12 (nI m) (nI T) (nI o) (nI x) (nI w) (bI9 (acO m o x w a)) (bI9 (acT m o x w a)) (nI a) 0 0 y') Q := by
        intro o x w ho hx hw K11 d
        obtain ⟨ac1, ac2, ac3, ac4⟩ := ac o x w ho hx hw
        have k16 : ∀ (x6 x7 x8 : Int32) (y' : ow_MS), R o x (w + 1) (w + 1) y' → Tt (fun K t => q_X13_makePermutations_a K t 16 (nI m) (nI T) (nI o) (nI x) (nI w) x6 x7 x8 0 0 y') Q := by
          intro x6 x7 x8 y' hy'
          refine u_X13_makePermutations_a_16 ?_; unfold qm_X13_makePermutations_16_a
          rw [nI_1]
          exact K11 y' hy'
        have k15 : ∀ (x6 x8 : Int32) (y' : ow_MS), R o x (w + 1) w y' → Tt (fun K t => q_X13_makePermutations_a K t 15 (nI m) (nI T) (nI o) (nI x) (nI w) x6 (bI9 (acT m o x w m)) x8 0 0 y') Q := by
          intro x6 x8 y' hy'
          refine u_X13_makePermutations_a_15 ?_; unfold qm_X13_makePermutations_15_a
          rw [pm576]
          refine w_if (fun e => k16 _ _ _ _ ⟨hy'.1, hy'.2.1, fun h9 => hy'.2.2 ?_⟩) (fun e => w_wrI ma76 rfl (by omega) (k16 _ _ _ _ ⟨S7 ho hx (Or.inr rfl) hy'.1, fun h9 => rd_ot (by omega) (hy'.2.1 h9), fun h9 => ?_⟩))
          · have : ¬ w = bkM m o x := fun h8 => by
              rw [ac2.mpr h8] at e
              exact absurd e (by decide)
            omega
          · have := ac2.mp (bI_1 e)
            rw [← this]
            exact po_usI_at
        induction d with
        | zero =>
          intro a y' ha hy'
          have ea : a = m := by omega
          rw [ea]
          refine u_X13_makePermutations_a_12 ?_; unfold qm_X13_makePermutations_12_a
          rw [pm576]
          refine w_leT (by omega) (by omega) (w_if (fun e => k15 _ _ _ ⟨hy'.1, fun h9 => hy'.2.1 ?_, hy'.2.2⟩) (fun e => w_wrI ma75 rfl (by omega) (k15 _ _ _ ⟨S7 ho hx (Or.inl rfl) hy'.1, fun h9 => ?_, fun h9 => rd_ot (by omega) (hy'.2.2 h9)⟩)))
          · have : ¬ w = dnM m o x := fun h8 => by
              rw [ac1.mpr h8] at e
              exact absurd e (by decide)
            omega
          · have := ac1.mp (bI_1 e)
            rw [← this]
            exact po_usI_at
        | succ d ih =>
          intro a y' ha hy'
          have g74 := hy'.1.2.1
          have im : ∀ {p a : Nat}, p < T → a < 4 → Te (fun K => qe_X13_image_a K (nI m) (nI p) (nI a) y') (fun r => r.1 = nI (imP m p a) ∧ r.2 = y') := fun hp ha => tp_image_e g74 h4 hp (by omega) ha
          have i4 : ∀ {p a : Nat}, imP m p a < 2 ^ 31 := fun {p a} => by have := imP_4 (m := m) (p := p) (a := a); omega
          have k14 : ∀ (x6 t0 : Int32), x6 = bI9 (acO m o x w (a + 1)) → t0 = (if imP m o (imP m w a) = imP m x (imP m o a) then 1 else 0) → Tt (fun K t => q_X13_makePermutations_a K t 14 (nI m) (nI T) (nI o) (nI x) (nI w) x6 (bI9 (acT m o x w a)) (nI a) t0 (bI9 (acT m o x w a)) y') Q := by
            intro x6 t0 e6 e0
            subst e6
            subst e0
            refine u_X13_makePermutations_a_14 ?_; unfold qm_X13_makePermutations_14_a
            rw [nI_1, bI_and]
            exact ih (a + 1) y' (by omega) hy'
          have k13 : ∀ (t0 : Int32), t0 = (if imP m w (imP m o a) = imP m o (imP m x a) then 1 else 0) → Tt (fun K t => q_X13_makePermutations_a K t 13 (nI m) (nI T) (nI o) (nI x) (nI w) (bI9 (acO m o x w a)) (bI9 (acT m o x w a)) (nI a) t0 (bI9 (acO m o x w a)) y') Q := by
            intro t0 e0
            subst e0
            refine u_X13_makePermutations_a_13 ?_; unfold qm_X13_makePermutations_13_a
            refine w_cs1 (im hw (by omega)) ?_
            rintro v y1 ⟨e2, e1⟩
            dsimp only at e1 e2
            rw [e1, e2]
            refine w_cs1 (im ho imP_4) ?_
            rintro v y1 ⟨e2, e1⟩
            dsimp only at e1 e2
            rw [e1, e2]
            refine w_cs1 (im ho (by omega)) ?_
            rintro v y1 ⟨e2, e1⟩
            dsimp only at e1 e2
            rw [e1, e2]
            refine w_cs1 (im hx imP_4) ?_
            rintro v y1 ⟨e2, e1⟩
            dsimp only at e1 e2
            rw [e1, e2, bI_and]
            exact w_eqN i4 i4 (fun e => k14 _ _ rfl (if_pos e).symm) (fun e => k14 _ _ rfl (if_neg e).symm)
          refine u_X13_makePermutations_a_12 ?_; unfold qm_X13_makePermutations_12_a
          refine w_leF (by omega) (by omega) ?_
          refine w_cs1 (im ho (by omega)) ?_
          rintro v y1 ⟨e2, e1⟩
          dsimp only at e1 e2
          rw [e1, e2]
          refine w_cs1 (im hw imP_4) ?_
          rintro v y1 ⟨e2, e1⟩
          dsimp only at e1 e2
          rw [e1, e2]
          refine w_cs1 (im hx (by omega)) ?_
          rintro v y1 ⟨e2, e1⟩
          dsimp only at e1 e2
          rw [e1, e2]
          refine w_cs1 (im ho imP_4) ?_
          rintro v y1 ⟨e2, e1⟩
          dsimp only at e1 e2
          rw [e1, e2]
          exact w_eqN i4 i4 (fun e => k13 _ (if_pos e).symm) (fun e => k13 _ (if_neg e).symm)
      have c11 : ∀ (o x : Nat), o < T → x < T → (∀ y', S o (x + 1) y' → Tt (fun K t => q_X13_makePermutations_a K t 10 (nI m) (nI T) (nI o) (nI (x + 1)) 0 0 0 0 0 0 y') Q) → ∀ (d w : Nat) (y' : ow_MS), w + d = T → R o x w w y' → Tt (fun K t => q_X13_makePermutations_a K t 11 (nI m) (nI T) (nI o) (nI x) (nI w) 0 0 0 0 0 y') Q := by
        intro o x ho hx K10 d
        induction d with
        | zero =>
          intro w y' hw hy'
          obtain ⟨ac1, ac2, ac3, ac4⟩ := ac o x 0 ho hx (by omega)
          refine u_X13_makePermutations_a_11 ?_; unfold qm_X13_makePermutations_11_a
          rw [nI_1]
          refine w_leT (by omega) (by omega) (K10 y' ⟨hy'.1.1, hy'.1.2.1, ?_, hy'.1.2.2.2⟩)
          rw [e75d]
          intro o' x' g1 g2 g3
          by_cases e : o' = o ∧ x' = x
          · rw [e.1, e.2]
            exact ⟨hy'.2.1 (by omega), hy'.2.2 (by omega)⟩
          · have k := hy'.1.2.2.1
            rw [e75d] at k
            exact k o' x' g1 g2 (by omega)
        | succ d ih =>
          intro w y' hw hy'
          refine u_X13_makePermutations_a_11 ?_; unfold qm_X13_makePermutations_11_a
          exact w_leF (by omega) (by omega) (c12 o x w ho hx (by omega) (fun y2 h2 => ih (w + 1) y2 (by omega) h2) m 0 y' (by omega) hy')
      have c10 : ∀ (o : Nat), o < T → (∀ y', S (o + 1) 0 y' → Tt (fun K t => q_X13_makePermutations_a K t 9 (nI m) (nI T) (nI (o + 1)) 0 0 0 0 0 0 0 y') Q) → ∀ (d x : Nat) (y' : ow_MS), x + d = T → S o x y' → Tt (fun K t => q_X13_makePermutations_a K t 10 (nI m) (nI T) (nI o) (nI x) 0 0 0 0 0 0 y') Q := by
        intro o ho K9 d
        induction d with
        | zero =>
          intro x y' hx hy'
          refine u_X13_makePermutations_a_10 ?_; unfold qm_X13_makePermutations_10_a
          rw [nI_1]
          refine w_leT (by omega) (by omega) (K9 y' ⟨hy'.1, hy'.2.1, ?_, hy'.2.2.2⟩)
          rw [e75d]
          intro o' x' g1 g2 g3
          have k := hy'.2.2.1
          rw [e75d] at k
          exact k o' x' g1 g2 (by omega)
        | succ d ih =>
          intro x y' hx hy'
          refine u_X13_makePermutations_a_10 ?_; unfold qm_X13_makePermutations_10_a
          exact w_leF (by omega) (by omega) (c11 o x ho (by omega) (fun y2 h2 => ih (x + 1) y2 (by omega) h2) T 0 y' (by omega) ⟨hy', fun h9 => absurd h9 (Nat.not_lt_zero _), fun h9 => absurd h9 (Nat.not_lt_zero _)⟩)
      have c9 : ∀ (d o : Nat) (y' : ow_MS), o + d = T → S o 0 y' → Tt (fun K t => q_X13_makePermutations_a K t 9 (nI m) (nI T) (nI o) 0 0 0 0 0 0 0 y') Q := by
        intro d
        induction d with
        | zero =>
          intro o y' ho hy'
          have eo : o = T := by omega
          refine u_X13_makePermutations_a_9 ?_; unfold qm_X13_makePermutations_9_a
          rw [nI_1]
          refine w_leT (by omega) (by omega) (ihm (m + 1) y' (by omega) (by omega) (fun m' a b => ?_) hy'.2.2.2)
          by_cases em : m' = m
          · rw [em, ePd]
            exact ⟨hy'.2.1, by rw [← eo]; exact hy'.2.2.1⟩
          · exact hy'.1 m' a (by omega)
        | succ d ih =>
          intro o y' ho hy'
          refine u_X13_makePermutations_a_9 ?_; unfold qm_X13_makePermutations_9_a
          exact w_leF (by omega) (by omega) (c10 o (by omega) (fun y2 h2 => ih (o + 1) y2 (by omega) h2) T 0 y' (by omega) hy')
      let V : Nat → ow_MS → Prop := fun n y' => (∀ m', 1 ≤ m' → m' < m → eP9 y' m') ∧ e74 y' m n ∧ fr pmP z y'
      -- the codes
      have c2 : ∀ (d c : Nat) (y' : ow_MS), c + d = 256 → V (pmC m c) y' → Tt (fun K t => q_X13_makePermutations_a K t 2 (nI m) (nI (pmC m c)) (nI c) 0 0 0 0 0 0 0 y') Q := by
        intro d
        induction d with
        | zero =>
          intro c y' hc hy'
          have e : c = 256 := by omega
          subst e
          refine u_X13_makePermutations_a_2 ?_; unfold qm_X13_makePermutations_2_a
          rw [pmC_th h1 h4, hTT]
          rw [pmC_th h1 h4, hTT] at hy'
          exact w_leT (a := 256) (by omega) (by omega) (c9 T 0 y' (by omega) ⟨hy'.1, hy'.2.1, fun o' x' _ _ g3 => by omega, hy'.2.2⟩)
        | succ d ih =>
          intro c y' hc hy'
          have k8 : ∀ (x2 x4 x5 : Int32) (y2 : ow_MS), x2 = nI (pmC m (c + 1)) → V (pmC m (c + 1)) y2 → Tt (fun K t => q_X13_makePermutations_a K t 8 (nI m) x2 (nI c) x4 x5 0 0 0 0 0 y2) Q := by
            intro x2 x4 x5 y2 e h2
            subst e
            refine u_X13_makePermutations_a_8 ?_; unfold qm_X13_makePermutations_8_a
            rw [nI_1]
            exact ih (c + 1) y2 (by omega) h2
          have k7 : pmA m c = true → ∀ (dd a : Nat) (x4 : Int32) (y2 : ow_MS), a + dd = 4 → V (pmC m c) y2 → (∀ a', a' < a → y2.2.1 74 (96 * m + 4 * pmC m c + a') = nI (imP m (pmC m c) a')) → Tt (fun K t => q_X13_makePermutations_a K t 7 (nI m) (nI (pmC m c)) (nI c) x4 (nI a) 0 0 0 0 0 y2) Q := by
            intro hA dd
            have hlt := pmC_lt h1 h4 (show c < 256 by omega) hA
            rw [hTT] at hlt
            induction dd with
            | zero =>
              intro a x4 y2 ha h2 h3
              have ec : pmC m (c + 1) = pmC m c + 1 := by
                show pmC m c + (if pmA m c = true then 1 else 0) = _
                rw [if_pos hA]
              refine u_X13_makePermutations_a_7 ?_; unfold qm_X13_makePermutations_7_a
              refine w_leT (a := 4) (by omega) (by omega) (k8 _ _ _ _ ?_ ⟨h2.1, ?_, h2.2.2⟩)
              · rw [nI_1, ec]
              · rw [ec]
                intro p' a' g1 g2
                by_cases e : p' = pmC m c
                · rw [e]
                  exact h3 a' (by omega)
                · exact h2.2.1 p' a' (by omega) g2
            | succ dd ihd =>
              intro a x4 y2 ha h2 h3
              have e : sP (nI c) (nI a) = nI (c / 4 ^ a % 4) := sP_c ⟨c, by omega⟩ ⟨a, by omega⟩
              have ei : imP m (pmC m c) a = c / 4 ^ a % 4 := by
                unfold imP
                rw [pmX_at h1 h4 (by omega) hA]
              unfold sP at e
              refine u_X13_makePermutations_a_7 ?_; unfold qm_X13_makePermutations_7_a
              rw [pm96, e, nI_1 a, ← ei]
              refine w_leF (a := 4) (by omega) (by omega) (w_wrI ma74 rfl (by omega) (ihd (a + 1) x4 _ (by omega) ⟨fun m' g1 g2 => ⟨e74_74 (by omega) (thM_le m').2 (by omega) (by omega) (h2.1 m' g1 g2).1, e75_o (h2.1 m' g1 g2).2⟩, fun p' a' g1 g2 => rd_ne (by omega) (h2.2.1 p' a' g1 g2), fr_I2 h2.2.2 (Or.inl rfl)⟩ (fun a' g1 => ?_)))
              by_cases e9 : a' = a
              · rw [e9]
                exact po_usI_at
              · exact rd_ne (by omega) (h3 a' (by omega))
          have k3 : ∀ (dd a : Nat) (x4 : Int32), a + dd = 4 → pmO m c dd a x4 = pmO m c 4 0 1 → Tt (fun K t => q_X13_makePermutations_a K t 3 (nI m) (nI (pmC m c)) (nI c) x4 (nI a) 0 0 0 0 0 y') Q := by
            intro dd
            induction dd with
            | zero =>
              intro a x4 ha e
              have e : x4 = pmO m c 4 0 1 := e
              refine u_X13_makePermutations_a_3 ?_; unfold qm_X13_makePermutations_3_a
              refine w_leT (a := 4) (by omega) (by omega) (w_if (fun h0 => ?_) (fun h0 => ?_))
              · have ec : pmC m (c + 1) = pmC m c := by
                  show pmC m c + (if pmA m c = true then 1 else 0) = _
                  rw [if_neg (fun h9 => (of_decide_eq_true h9) (e ▸ h0))]
                  rfl
                exact k8 _ _ _ _ (by rw [ec]) (by rw [ec]; exact hy')
              · exact k7 (decide_eq_true (fun h9 => h0 (e.trans h9))) 4 0 _ _ (by omega) hy' (fun a' g1 => absurd g1 (Nat.not_lt_zero _))
            | succ dd ihd =>
              intro a x4 ha e
              have k5 : ∀ (e5 b : Nat) (x4' : Int32), b + e5 = a → pmO m c dd (a + 1) (pmI (nI c) (sP (nI c) (nI a)) e5 b x4') = pmO m c 4 0 1 → Tt (fun K t => q_X13_makePermutations_a K t 5 (nI m) (nI (pmC m c)) (nI c) x4' (nI a) (sP (nI c) (nI a)) (nI b) 0 0 0 y') Q := by
                intro e5
                induction e5 with
                | zero =>
                  intro b x4' hb e'
                  refine u_X13_makePermutations_a_5 ?_; unfold qm_X13_makePermutations_5_a
                  rw [nI_1]
                  exact w_leT (by omega) (by omega) (ihd (a + 1) x4' (by omega) e')
                | succ e5 ih5 =>
                  intro b x4' hb e'
                  have e' : pmO m c dd (a + 1) (pmI (nI c) (sP (nI c) (nI a)) e5 (b + 1) (x4' &&& (if sP (nI c) (nI b) = sP (nI c) (nI a) then 0 else 1))) = pmO m c 4 0 1 := e'
                  have k6 : ∀ (t0 : Int32), t0 = (if sP (nI c) (nI b) = sP (nI c) (nI a) then 0 else 1) → Tt (fun K t => q_X13_makePermutations_a K t 6 (nI m) (nI (pmC m c)) (nI c) x4' (nI a) (sP (nI c) (nI a)) (nI b) 0 t0 x4' y') Q := by
                    intro t0 ht
                    subst ht
                    refine u_X13_makePermutations_a_6 ?_; unfold qm_X13_makePermutations_6_a
                    rw [nI_1]
                    exact ih5 (b + 1) _ (by omega) e'
                  refine u_X13_makePermutations_a_5 ?_; unfold qm_X13_makePermutations_5_a
                  refine w_leF (by omega) (by omega) (w_if (fun h9 => k6 _ ?_) (fun h9 => k6 _ ?_))
                  · exact (if_pos h9).symm
                  · exact (if_neg h9).symm
              have e : pmO m c dd (a + 1) (pmI (nI c) (sP (nI c) (nI a)) a 0 (x4 &&& (if nI m ≤ nI a then (if sP (nI c) (nI a) = nI a then 1 else 0) else (if nI m ≤ sP (nI c) (nI a) then 0 else 1)))) = pmO m c 4 0 1 := e
              have k4 : ∀ (t0 : Int32), t0 = (if nI m ≤ nI a then (if sP (nI c) (nI a) = nI a then 1 else 0) else (if nI m ≤ sP (nI c) (nI a) then 0 else 1)) → Tt (fun K t => q_X13_makePermutations_a K t 4 (nI m) (nI (pmC m c)) (nI c) x4 (nI a) (sP (nI c) (nI a)) 0 0 t0 x4 y') Q := by
                intro t0 ht
                subst ht
                refine u_X13_makePermutations_a_4 ?_; unfold qm_X13_makePermutations_4_a
                exact k5 a 0 _ (by omega) e
              refine u_X13_makePermutations_a_3 ?_; unfold qm_X13_makePermutations_3_a
              refine w_leF (a := 4) (by omega) (by omega) (w_if (fun h9 => w_if (fun h8 => k4 _ ?_) (fun h8 => k4 _ ?_)) (fun h9 => w_if (fun h8 => k4 _ ?_) (fun h8 => k4 _ ?_)))
              · exact ((if_pos h9).trans (if_pos h8)).symm
              · exact ((if_pos h9).trans (if_neg h8)).symm
              · exact ((if_neg h9).trans (if_pos h8)).symm
              · exact ((if_neg h9).trans (if_neg h8)).symm
          refine u_X13_makePermutations_a_2 ?_; unfold qm_X13_makePermutations_2_a
          exact w_leF (a := 256) (by omega) (by omega) (k3 4 0 1 (by omega) rfl)
      refine u_X13_makePermutations_a_1 ?_; unfold qm_X13_makePermutations_1_a
      exact w_ltF (a := 4) (by omega) (by omega) (c2 256 0 y (by omega) ⟨hy, fun p a h9 => absurd h9 (Nat.not_lt_zero _), hf⟩)
  refine e_X13_makePermutations_a ?_
  refine u_X13_makePermutations_a_0 ?_; unfold qm_X13_makePermutations_0_a
  exact key 4 1 z (by omega) (by omega) (fun m' a b => by omega) fr_rf
