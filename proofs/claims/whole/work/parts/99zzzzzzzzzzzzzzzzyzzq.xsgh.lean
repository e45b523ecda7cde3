/-! signature: a form in squares -/
/-- the form x A y -/
def fA9 (n : Nat) (A : mQ99) (x y : Nat → Rat) : Rat := qD9 n x (qV9 n A y)
/-- a sum of a vectors -/
def cbQ9 (a : Nat) (f : Nat → Nat → Rat) (c : Nat → Rat) : Nat → Rat := fun i => qS9 (fun l => c l * f l i) a
def smQ9 (n : Nat) (A : mQ99) : Prop := ∀ i j, i < n → j < n → A i j = A j i
section XSGH
variable {n : Nat} {A : mQ99}
theorem sm_sy (h : smQ9 n A) : syG9 n (fun _ => 1) A := fun i j hi hj => by rw [h i j hi hj]
theorem qG_1 {x y : Nat → Rat} : qG9 n (fun _ => 1) x y = qD9 n x y := qS_cg (fun i _ => by grind)
theorem fA_G {x y : Nat → Rat} : qG9 n (fun _ => 1) x (qV9 n A y) = fA9 n A x y := qG_1
theorem fA_cm (h : smQ9 n A) (x y : Nat → Rat) : fA9 n A x y = fA9 n A y x := by
  rw [← fA_G, sy_adj (sm_sy h), qG_cm, fA_G]
theorem fA_cg {x y x2 y2 : Nat → Rat} (h1 : ∀ i, i < n → x i = x2 i) (h2 : ∀ i, i < n → y i = y2 i) : fA9 n A x y = fA9 n A x2 y2 := qD_cg h1 (fun i _ => qV_cg h2 i)
theorem fA_R {x : Nat → Rat} {a : Nat} {f : Nat → Nat → Rat} {c : Nat → Rat} : fA9 n A x (cbQ9 a f c) = qS9 (fun l => c l * fA9 n A x (f l)) a := by
  have e : fA9 n A x (cbQ9 a f c) = qD9 n x (fun i => qS9 (fun l => c l * qV9 n A (f l) i) a) := qD_cg (fun i _ => rfl) (fun i _ => qV_sum)
  rw [e, qD_sum]
  rfl
theorem fA_lR {x y z : Nat → Rat} {a b : Rat} : fA9 n A x (fun i => a * y i + b * z i) = a * fA9 n A x y + b * fA9 n A x z := by
  have e : fA9 n A x (fun i => a * y i + b * z i) = qD9 n x (fun i => a * qV9 n A y i + b * qV9 n A z i) := qD_cg (fun i _ => rfl) (fun i _ => qD_l2)
  rw [e, qD_l2]
  rfl
theorem fA_lL (h : smQ9 n A) {x y z : Nat → Rat} {a b : Rat} : fA9 n A (fun i => a * y i + b * z i) x = a * fA9 n A y x + b * fA9 n A z x := by
  rw [fA_cm h, fA_lR, fA_cm h x y, fA_cm h x z]
theorem fA_L (h : smQ9 n A) {x : Nat → Rat} {a : Nat} {f : Nat → Nat → Rat} {c : Nat → Rat} : fA9 n A (cbQ9 a f c) x = qS9 (fun l => c l * fA9 n A (f l) x) a := by
  rw [fA_cm h, fA_R]
  exact qS_cg (fun l _ => by rw [fA_cm h])
/-- squares alone -/
theorem fA_sq (h : smQ9 n A) {a : Nat} {f : Nat → Nat → Rat} (ho : ∀ i j, i < a → j < a → i ≠ j → fA9 n A (f i) (f j) = 0) (c : Nat → Rat) : fA9 n A (cbQ9 a f c) (cbQ9 a f c) = qS9 (fun l => c l * c l * fA9 n A (f l) (f l)) a := by
  rw [fA_R]
  refine qS_cg (fun l hl => ?_)
  rw [fA_L h]
  have e : ∀ k, k < a → c k * fA9 n A (f k) (f l) = dl9 l k * (c k * fA9 n A (f k) (f l)) := fun k hk => by
    by_cases h9 : k = l
    · rw [show dl9 l k = 1 from if_pos h9, Rat.one_mul]
    · rw [ho k l hk hl h9]
      grind
  rw [qS_cg e]
  have e2 := qD_dl (x := fun k => c k * fA9 n A (f k) (f l)) hl
  unfold qD9 at e2
  rw [e2]
  grind
theorem qS_nn {f : Nat → Rat} : ∀ {a : Nat}, (∀ i, i < a → 0 ≤ f i) → 0 ≤ qS9 f a := by
  intro a
  induction a with
  | zero => exact fun _ => Rat.le_refl
  | succ a ih => exact fun h => Rat.add_nonneg (ih (fun i hi => h i (by omega))) (h a (by omega))
theorem qS_ps {f : Nat → Rat} : ∀ {a : Nat}, (∀ i, i < a → 0 ≤ f i) → (∃ i, i < a ∧ 0 < f i) → 0 < qS9 f a := by
  intro a
  induction a with
  | zero =>
    intro _ h
    obtain ⟨i, hi, -⟩ := h
    omega
  | succ a ih =>
    intro h1 h2
    obtain ⟨i, hi, hp⟩ := h2
    show 0 < qS9 f a + f a
    by_cases h9 : i = a
    · have a1 := qS_nn (a := a) (fun i hi => h1 i (by omega))
      rw [h9] at hp
      grind
    · have a1 := ih (fun i hi => h1 i (by omega)) ⟨i, by omega, hp⟩
      have a2 := h1 a (by omega)
      grind
/-- positive on the sums of a vectors -/
theorem vP_sp (hs : smQ9 n A) {a : Nat} {f : Nat → Nat → Rat} (h : ∀ c : Nat → Rat, (∃ i, i < a ∧ c i ≠ 0) → 0 < fA9 n A (cbQ9 a f c) (cbQ9 a f c)) : a ≤ vP9 A n := by
  have f0 : ∀ z : Nat → Rat, (∀ i, i < n → z i = 0) → fA9 n A z z = 0 := fun z hz => by
    show qS9 (fun k => z k * qV9 n A z k) n = 0
    rw [qS_cg (g := fun _ => 0) (fun i hi => by rw [hz i hi, Rat.zero_mul]), qS_0]
  have ind : ∀ c : Nat → Rat, (∀ i, i < n → cbQ9 a f c i = 0) → ∀ i, i < a → c i = 0 := fun c hc i hi => by
    by_cases h9 : c i = 0
    · exact h9
    · have a1 := h c ⟨i, hi, h9⟩
      rw [f0 _ hc] at a1
      exact absurd a1 (by decide)
  have an : a ≤ n := by
    by_cases h9 : a ≤ n
    · exact h9
    · obtain ⟨c, ⟨i, hi, hc⟩, h2⟩ := lin_n (n := a) (fun e l => f l e) (m := n) (by omega)
      refine absurd (ind c (fun e he => ?_) i hi) hc
      rw [← h2 e he]
      exact qS_cg (fun l _ => Rat.mul_comm _ _)
  obtain ⟨F, -, o1, l1⟩ := ob_go (n := n) (g := fun _ => 1) f a (n - a) 0 (fun _ _ => 0) ⟨fun c hc => absurd hc (by omega), fun c d hc => absurd hc (by omega)⟩ (by omega)
  rw [Nat.zero_add] at o1 l1
  have key := vP_ge (A := A) (n := n) (g := fun _ => 1) (b := n - a) (fun _ _ => by decide) (sm_sy hs) F (by omega) (fun x hx he => by
    rw [fA_G]
    obtain ⟨u, ⟨s, hs1, hu⟩, h2⟩ := lin_n (n := n + 1) (fun e l => if l < a then f l e else if l < n then F (l - a) e else x e) (m := n) (by omega)
    -- u 0 .. a - 1, a .. n - 1, n
    have eq : ∀ e, e < n → cbQ9 a f u e + cbQ9 (n - a) F (fun j => u (a + j)) e + u n * x e = 0 := fun e he => by
      rw [← h2 e he]
      show _ = qS9 (fun l => (if l < a then f l e else if l < n then F (l - a) e else x e) * u l) n + (if n < a then f n e else if n < n then F (n - a) e else x e) * u n
      rw [if_neg (by omega), if_neg (by omega)]
      have sp : ∀ d (φ : Nat → Rat), qS9 φ (a + d) = qS9 φ a + qS9 (fun j => φ (a + j)) d := by
        intro d
        induction d with
        | zero => exact fun φ => (Rat.add_zero _).symm
        | succ d ih =>
          intro φ
          show qS9 φ (a + d) + φ (a + d) = qS9 φ a + (qS9 (fun j => φ (a + j)) d + φ (a + d))
          rw [ih]
          grind
      have e1 := sp (n - a) (fun l => (if l < a then f l e else if l < n then F (l - a) e else x e) * u l)
      rw [show a + (n - a) = n by omega] at e1
      rw [e1]
      have e2 : qS9 (fun l => (if l < a then f l e else if l < n then F (l - a) e else x e) * u l) a = cbQ9 a f u e := qS_cg (fun l hl => by
        rw [if_pos hl]
        exact Rat.mul_comm _ _)
      have e3 : qS9 (fun j => (fun l => (if l < a then f l e else if l < n then F (l - a) e else x e) * u l) (a + j)) (n - a) = cbQ9 (n - a) F (fun j => u (a + j)) e := qS_cg (fun j hj => by
        show (if a + j < a then f (a + j) e else if a + j < n then F (a + j - a) e else x e) * u (a + j) = _
        rw [if_neg (by omega), if_pos (by omega), show a + j - a = j by omega]
        exact Rat.mul_comm _ _)
      rw [e2, e3]
      grind
    -- the numbers of F are 0
    have uF : ∀ j, j < n - a → u (a + j) = 0 := fun j hj => by
      have d1 : qD9 n (F j) (fun e => cbQ9 a f u e + cbQ9 (n - a) F (fun j => u (a + j)) e + u n * x e) = 0 := by
        unfold qD9
        rw [qS_cg (g := fun _ => 0) (fun e he => by dsimp only; rw [eq e he, Rat.mul_zero]), qS_0]
      have d2 : qD9 n (F j) (fun e => cbQ9 a f u e + cbQ9 (n - a) F (fun j => u (a + j)) e + u n * x e) = (qD9 n (F j) (cbQ9 a f u) + qD9 n (F j) (cbQ9 (n - a) F (fun j => u (a + j)))) + u n * qD9 n (F j) x := by
        unfold qD9
        rw [← qS_mul, ← qS_add, ← qS_add]
        exact qS_cg (fun e _ => by grind)
      have d3 : qD9 n (F j) (cbQ9 a f u) = 0 := by
        show qD9 n (F j) (fun i => qS9 (fun l => u l * f l i) a) = 0
        rw [qD_sum, qS_cg (g := fun _ => 0) (fun l hl => by
          have := l1 j (by omega) hj l hl
          rw [qD_cm] at this
          rw [this, Rat.mul_zero]), qS_0]
      have d4 : qD9 n (F j) (cbQ9 (n - a) F (fun j => u (a + j))) = u (a + j) * qD9 n (F j) (F j) := by
        show qD9 n (F j) (fun i => qS9 (fun l => (fun j => u (a + j)) l * F l i) (n - a)) = _
        rw [qD_sum]
        have : ∀ l, l < n - a → (fun j => u (a + j)) l * qD9 n (F j) (F l) = dl9 j l * (u (a + l) * qD9 n (F j) (F l)) := fun l hl => by
          by_cases h9 : l = j
          · rw [show dl9 j l = 1 from if_pos h9, Rat.one_mul]
          · have z := o1.2 j l hj hl (fun h => h9 h.symm)
            rw [qG_1] at z
            rw [z]
            grind
        rw [qS_cg this]
        have e2 := qD_dl (x := fun l => u (a + l) * qD9 n (F j) (F l)) hj
        unfold qD9 at e2 ⊢
        exact e2
      have d5 := he j hj
      rw [d2, d3, d4, d5] at d1
      have d6 := qG_ps (g := fun _ => 1) (x := F j) (n := n) (fun _ _ => by decide) (o1.1 j hj)
      rw [qG_1] at d6
      have d7 : u (a + j) * qD9 n (F j) (F j) = 0 := by grind
      rcases Rat.mul_eq_zero.mp d7 with h9 | h9
      · exact h9
      · rw [h9] at d6
        exact absurd d6 (by decide)
    have eq2 : ∀ e, e < n → cbQ9 a f u e = -u n * x e := fun e he => by
      have a1 := eq e he
      have a2 : cbQ9 (n - a) F (fun j => u (a + j)) e = 0 := by
        show qS9 (fun l => u (a + l) * F l e) (n - a) = 0
        rw [qS_cg (g := fun _ => 0) (fun l hl => by rw [uF l hl, Rat.zero_mul]), qS_0]
      rw [a2] at a1
      grind
    have un : u n ≠ 0 := fun h0 => by
      have a1 : ∀ i, i < a → u i = 0 := ind u (fun e he => by
        rw [eq2 e he, h0]
        grind)
      by_cases h8 : s < a
      · exact hu (a1 s h8)
      · by_cases h9 : s < n
        · have := uF (s - a) (by omega)
          rw [show a + (s - a) = s by omega] at this
          exact hu this
        · exact hu (by rw [show s = n by omega]; exact h0)
    have fx : fA9 n A (cbQ9 a f u) (cbQ9 a f u) = (u n * u n) * fA9 n A x x := by
      have a1 : fA9 n A (cbQ9 a f u) (cbQ9 a f u) = fA9 n A (fun e => -u n * x e + 0 * x e) (fun e => -u n * x e + 0 * x e) := fA_cg (fun e he => by rw [eq2 e he]; grind) (fun e he => by rw [eq2 e he]; grind)
      rw [a1, fA_lR, fA_lL hs]
      grind
    have nz : ∃ i, i < a ∧ u i ≠ 0 := by
      by_cases h9 : ∃ i, i < a ∧ u i ≠ 0
      · exact h9
      · obtain ⟨i, hi, hxi⟩ := hx
        have a1 := eq2 i hi
        have a2 : cbQ9 a f u i = 0 := by
          show qS9 (fun l => u l * f l i) a = 0
          rw [qS_cg (g := fun _ => 0) (fun l hl => by
            have : u l = 0 := by
              by_cases h8 : u l = 0
              · exact h8
              · exact absurd ⟨l, hl, h8⟩ h9
            rw [this, Rat.zero_mul]), qS_0]
        rw [a2] at a1
        have a3 : u n * x i = 0 := by grind
        rcases Rat.mul_eq_zero.mp a3 with h8 | h8
        · exact absurd h8 un
        · exact absurd h8 hxi
    have a4 := h u nz
    rw [fx] at a4
    exact (Rat.mul_pos_iff_of_pos_left (sq_ps9 un)).mp a4)
  omega
theorem vM_sp (hs : smQ9 n A) {a : Nat} {f : Nat → Nat → Rat} (h : ∀ c : Nat → Rat, (∃ i, i < a ∧ c i ≠ 0) → fA9 n A (cbQ9 a f c) (cbQ9 a f c) < 0) : a ≤ vM9 A n := by
  have a1 := vP_sp (A := fun i j => -A i j) (n := n) (fun i j hi hj => by
    show -A i j = -A j i
    rw [hs i j hi hj]) (a := a) (f := f) (fun c hc => by
    have a1 := h c hc
    have a2 : fA9 n (fun i j => -A i j) (cbQ9 a f c) (cbQ9 a f c) = -fA9 n A (cbQ9 a f c) (cbQ9 a f c) := by
      unfold fA9 qD9
      rw [← qS_neg]
      refine qS_cg (fun i _ => ?_)
      have : qV9 n (fun i j => -A i j) (cbQ9 a f c) i = -qV9 n A (cbQ9 a f c) i := by
        unfold qV9
        rw [← qS_neg]
        exact qS_cg (fun k _ => by grind)
      rw [this]
      grind
    rw [a2]
    grind)
  unfold vP9 at a1
  rw [tw_neg] at a1
  exact a1
end XSGH
