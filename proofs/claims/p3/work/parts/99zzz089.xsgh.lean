section
/-! 99zzzzzzzzzzzzzzzzyzzq.xsgh -/
/-! signature: a form in squares -/
/-- the form x A y -/
def fA9 (n : Nat) (A : mQ99) (x y : Nat → Rat) : Rat := qD9 n x (qV9 n A y)
/-- a sum of a vectors -/
def cbQ9 (a : Nat) (f : Nat → Nat → Rat) (c : Nat → Rat) : Nat → Rat := fun i => qS9 (fun l => c l * f l i) a
def smQ9 (n : Nat) (A : mQ99) : Prop := ∀ i j, i < n → j < n → A i j = A j i
section XSGH
variable {n : Nat} {A : mQ99}
theorem sm_sy (h : smQ9 n A) : syG9 n (fun _ => 1) A := fun i j hi hj => by rw [h i j hi hj]
theorem qG_1 {x y : Nat → Rat} : qG9 n (fun _ => 1) x y = qD9 n x y := qS_cg (fun i _ => by grind)
theorem fA_G {x y : Nat → Rat} : qG9 n (fun _ => 1) x (qV9 n A y) = fA9 n A x y := qG_1
theorem fA_cm (h : smQ9 n A) (x y : Nat → Rat) : fA9 n A x y = fA9 n A y x := by
  rw [← fA_G, sy_adj (sm_sy h), qG_cm, fA_G]
theorem fA_cg {x y x2 y2 : Nat → Rat} (h1 : ∀ i, i < n → x i = x2 i) (h2 : ∀ i, i < n → y i = y2 i) : fA9 n A x y = fA9 n A x2 y2 := qD_cg h1 (fun i _ => qV_cg h2 i)
theorem fA_R {x : Nat → Rat} {a : Nat} {f : Nat → Nat → Rat} {c : Nat → Rat} : fA9 n A x (cbQ9 a f c) = qS9 (fun l => c l * fA9 n A x (f l)) a := by
  have e : fA9 n A x (cbQ9 a f c) = qD9 n x (fun i => qS9 (fun l => c l * qV9 n A (f l) i) a) := qD_cg (fun i _ => rfl) (fun i _ => qV_sum)
  rw [e, qD_sum]
  rfl
theorem fA_lR {x y z : Nat → Rat} {a b : Rat} : fA9 n A x (fun i => a * y i + b * z i) = a * fA9 n A x y + b * fA9 n A x z := by
  have e : fA9 n A x (fun i => a * y i + b * z i) = qD9 n x (fun i => a * qV9 n A y i + b * qV9 n A z i) := qD_cg (fun i _ => rfl) (fun i _ => qD_l2)
  rw [e, qD_l2]
  rfl
theorem fA_lL (h : smQ9 n A) {x y z : Nat → Rat} {a b : Rat} : fA9 n A (fun i => a * y i + b * z i) x = a * fA9 n A y x + b * fA9 n A z x := by
  rw [fA_cm h, fA_lR, fA_cm h x y, fA_cm h x z]
theorem fA_L (h : smQ9 n A) {x : Nat → Rat} {a : Nat} {f : Nat → Nat → Rat} {c : Nat → Rat} : fA9 n A (cbQ9 a f c) x = qS9 (fun l => c l * fA9 n A (f l) x) a := by
  rw [fA_cm h, fA_R]
  exact qS_cg (fun l _ => by rw [fA_cm h])
/-- squares alone -/
theorem fA_sq (h : smQ9 n A) {a : Nat} {f : Nat → Nat → Rat} (ho : ∀ i j, i < a → j < a → i ≠ j → fA9 n A (f i) (f j) = 0) (c : Nat → Rat) : fA9 n A (cbQ9 a f c) (cbQ9 a f c) = qS9 (fun l => c l * c l * fA9 n A (f l) (f l)) a := by
  rw [fA_R]
  refine qS_cg (fun l hl => ?_)
  rw [fA_L h]
  have e : ∀ k, k < a → c k * fA9 n A (f k) (f l) = dl9 l k * (c k * fA9 n A (f k) (f l)) := fun k hk => by
    by_cases h9 : k = l
    · rw [show dl9 l k = 1 from if_pos h9, Rat.one_mul]
    · rw [ho k l hk hl h9]
      grind
  rw [qS_cg e]
  have e2 := qD_dl (x := fun k => c k * fA9 n A (f k) (f l)) hl
  unfold qD9 at e2
  rw [e2]
  grind
theorem qS_nn {f : Nat → Rat} : ∀ {a : Nat}, (∀ i, i < a → 0 ≤ f i) → 0 ≤ qS9 f a := by
  intro a
  induction a with
  | zero => exact fun _ => Rat.le_refl
  | succ a ih => exact fun h => Rat.add_nonneg (ih (fun i hi => h i (by omega))) (h a (by omega))
theorem qS_ps {f : Nat → Rat} : ∀ {a : Nat}, (∀ i, i < a → 0 ≤ f i) → (∃ i, i < a ∧ 0 < f i) → 0 < qS9 f a := by
  intro a
  induction a with
  | zero =>
    intro _ h
    obtain ⟨i, hi, -⟩ := h
    omega
  | succ a ih =>
    intro h1 h2
    obtain ⟨i, hi, hp⟩ := h2
    show 0 < qS9 f a + f a
    by_cases h9 : i = a
    · have a1 := qS_nn (a := a) (fun i hi => h1 i (by omega))
      rw [h9] at hp
      grind
    · have a1 := ih (fun i hi => h1 i (by omega)) ⟨i, by omega, hp⟩
      have a2 := h1 a (by omega)
      grind
/-- positive on the sums of a vectors -/
theorem vP_sp (hs : smQ9 n A) {a : Nat} {f : Nat → Nat → Rat} (h : ∀ c : Nat → Rat, (∃ i, i < a ∧ c i ≠ 0) → 0 < fA9 n A (cbQ9 a f c) (cbQ9 a f c)) : a ≤ vP9 A n := by
  have f0 : ∀ z : Nat → Rat, (∀ i, i < n → z i = 0) → fA9 n A z z = 0 := fun z hz => by
    show qS9 (fun k => z k * qV9 n A z k) n = 0
    rw [qS_cg (g := fun _ => 0) (fun i hi => by rw [hz i hi, Rat.zero_mul]), qS_0]
  have ind : ∀ c : Nat → Rat, (∀ i, i < n → cbQ9 a f c i = 0) → ∀ i, i < a → c i = 0 := fun c hc i hi => by
    by_cases h9 : c i = 0
    · exact h9
    · have a1 := h c ⟨i, hi, h9⟩
      rw [f0 _ hc] at a1
      exact absurd a1 (by decide)
  have an : a ≤ n := by
    by_cases h9 : a ≤ n
    · exact h9
    · obtain ⟨c, ⟨i, hi, hc⟩, h2⟩ := lin_n (n := a) (fun e l => f l e) (m := n) (by omega)
      refine absurd (ind c (fun e he => ?_) i hi) hc
      rw [← h2 e he]
      exact qS_cg (fun l _ => Rat.mul_comm _ _)
  obtain ⟨F, -, o1, l1⟩ := ob_go (n := n) (g := fun _ => 1) f a (n - a) 0 (fun _ _ => 0) ⟨fun c hc => absurd hc (by omega), fun c d hc => absurd hc (by omega)⟩ (by omega)
  rw [Nat.zero_add] at o1 l1
  have key := vP_ge (A := A) (n := n) (g := fun _ => 1) (b := n - a) (fun _ _ => by decide) (sm_sy hs) F (by omega) (fun x hx he => by
    rw [fA_G]
    obtain ⟨u, ⟨s, hs1, hu⟩, h2⟩ := lin_n (n := n + 1) (fun e l => if l < a then f l e else if l < n then F (l - a) e else x e) (m := n) (by omega)
    -- u 0 .. a - 1, a .. n - 1, n
    have eq : ∀ e, e < n → cbQ9 a f u e + cbQ9 (n - a) F (fun j => u (a + j)) e + u n * x e = 0 := fun e he => by
      rw [← h2 e he]
      show _ = qS9 (fun l => (if l < a then f l e else if l < n then F (l - a) e else x e) * u l) n + (if n < a then f n e else if n < n then F (n - a) e else x e) * u n
      rw [if_neg (by omega), if_neg (by omega)]
      have sp : ∀ d (φ : Nat → Rat), qS9 φ (a + d) = qS9 φ a + qS9 (fun j => φ (a + j)) d := by
        intro d
        induction d with
        | zero => exact fun φ => (Rat.add_zero _).symm
        | succ d ih =>
          intro φ
          show qS9 φ (a + d) + φ (a + d) = qS9 φ a + (qS9 (fun j => φ (a + j)) d + φ (a + d))
          rw [ih]
          grind
      have e1 := sp (n - a) (fun l => (if l < a then f l e else if l < n then F (l - a) e else x e) * u l)
      rw [show a + (n - a) = n by omega] at e1
      rw [e1]
      have e2 : qS9 (fun l => (if l < a then f l e else if l < n then F (l - a) e else x e) * u l) a = cbQ9 a f u e := qS_cg (fun l hl => by
        rw [if_pos hl]
        exact Rat.mul_comm _ _)
      have e3 : qS9 (fun j => (fun l => (if l < a then f l e else if l < n then F (l - a) e else x e) * u l) (a + j)) (n - a) = cbQ9 (n - a) F (fun j => u (a + j)) e := qS_cg (fun j hj => by
        show (if a + j < a then f (a + j) e else if a + j < n then F (a + j - a) e else x e) * u (a + j) = _
        rw [if_neg (by omega), if_pos (by omega), show a + j - a = j by omega]
        exact Rat.mul_comm _ _)
      rw [e2, e3]
      grind
    -- the numbers of F are 0
    have uF : ∀ j, j < n - a → u (a + j) = 0 := fun j hj => by
      have d1 : qD9 n (F j) (fun e => cbQ9 a f u e + cbQ9 (n - a) F (fun j => u (a + j)) e + u n * x e) = 0 := by
        unfold qD9
        rw [qS_cg (g := fun _ => 0) (fun e he => by dsimp only; rw [eq e he, Rat.mul_zero]), qS_0]
      have d2 : qD9 n (F j) (fun e => cbQ9 a f u e + cbQ9 (n - a) F (fun j => u (a + j)) e + u n * x e) = (qD9 n (F j) (cbQ9 a f u) + qD9 n (F j) (cbQ9 (n - a) F (fun j => u (a + j)))) + u n * qD9 n (F j) x := by
        unfold qD9
        rw [← qS_mul, ← qS_add, ← qS_add]
        exact qS_cg (fun e _ => by grind)
      have d3 : qD9 n (F j) (cbQ9 a f u) = 0 := by
        show qD9 n (F j) (fun i => qS9 (fun l => u l * f l i) a) = 0
        rw [qD_sum, qS_cg (g := fun _ => 0) (fun l hl => by
          have := l1 j (by omega) hj l hl
          rw [qD_cm] at this
          rw [this, Rat.mul_zero]), qS_0]
      have d4 : qD9 n (F j) (cbQ9 (n - a) F (fun j => u (a + j))) = u (a + j) * qD9 n (F j) (F j) := by
        show qD9 n (F j) (fun i => qS9 (fun l => (fun j => u (a + j)) l * F l i) (n - a)) = _
        rw [qD_sum]
        have : ∀ l, l < n - a → (fun j => u (a + j)) l * qD9 n (F j) (F l) = dl9 j l * (u (a + l) * qD9 n (F j) (F l)) := fun l hl => by
          by_cases h9 : l = j
          · rw [show dl9 j l = 1 from if_pos h9, Rat.one_mul]
          · have z := o1.2 j l hj hl (fun h => h9 h.symm)
            rw [qG_1] at z
            rw [z]
            grind
        rw [qS_cg this]
        have e2 := qD_dl (x := fun l => u (a + l) * qD9 n (F j) (F l)) hj
        unfold qD9 at e2 ⊢
        exact e2
      have d5 := he j hj
      rw [d2, d3, d4, d5] at d1
      have d6 := qG_ps (g := fun _ => 1) (x := F j) (n := n) (fun _ _ => by decide) (o1.1 j hj)
      rw [qG_1] at d6
      have d7 : u (a + j) * qD9 n (F j) (F j) = 0 := by grind
      rcases Rat.mul_eq_zero.mp d7 with h9 | h9
      · exact h9
      · rw [h9] at d6
        exact absurd d6 (by decide)
    have eq2 : ∀ e, e < n → cbQ9 a f u e = -u n * x e := fun e he => by
      have a1 := eq e he
      have a2 : cbQ9 (n - a) F (fun j => u (a + j)) e = 0 := by
        show qS9 (fun l => u (a + l) * F l e) (n - a) = 0
        rw [qS_cg (g := fun _ => 0) (fun l hl => by rw [uF l hl, Rat.zero_mul]), qS_0]
      rw [a2] at a1
      grind
    have un : u n ≠ 0 := fun h0 => by
      have a1 : ∀ i, i < a → u i = 0 := ind u (fun e he => by
        rw [eq2 e he, h0]
        grind)
      by_cases h8 : s < a
      · exact hu (a1 s h8)
      · by_cases h9 : s < n
        · have := uF (s - a) (by omega)
          rw [show a + (s - a) = s by omega] at this
          exact hu this
        · exact hu (by rw [show s = n by omega]; exact h0)
    have fx : fA9 n A (cbQ9 a f u) (cbQ9 a f u) = (u n * u n) * fA9 n A x x := by
      have a1 : fA9 n A (cbQ9 a f u) (cbQ9 a f u) = fA9 n A (fun e => -u n * x e + 0 * x e) (fun e => -u n * x e + 0 * x e) := fA_cg (fun e he => by rw [eq2 e he]; grind) (fun e he => by rw [eq2 e he]; grind)
      rw [a1, fA_lR, fA_lL hs]
      grind
    have nz : ∃ i, i < a ∧ u i ≠ 0 := by
      by_cases h9 : ∃ i, i < a ∧ u i ≠ 0
      · exact h9
      · obtain ⟨i, hi, hxi⟩ := hx
        have a1 := eq2 i hi
        have a2 : cbQ9 a f u i = 0 := by
          show qS9 (fun l => u l * f l i) a = 0
          rw [qS_cg (g := fun _ => 0) (fun l hl => by
            have : u l = 0 := by
              by_cases h8 : u l = 0
              · exact h8
              · exact absurd ⟨l, hl, h8⟩ h9
            rw [this, Rat.zero_mul]), qS_0]
        rw [a2] at a1
        have a3 : u n * x i = 0 := by grind
        rcases Rat.mul_eq_zero.mp a3 with h8 | h8
        · exact absurd h8 un
        · exact absurd h8 hxi
    have a4 := h u nz
    rw [fx] at a4
    exact (Rat.mul_pos_iff_of_pos_left (sq_ps9 un)).mp a4)
  omega
theorem vM_sp (hs : smQ9 n A) {a : Nat} {f : Nat → Nat → Rat} (h : ∀ c : Nat → Rat, (∃ i, i < a ∧ c i ≠ 0) → fA9 n A (cbQ9 a f c) (cbQ9 a f c) < 0) : a ≤ vM9 A n := by
  have a1 := vP_sp (A := fun i j => -A i j) (n := n) (fun i j hi hj => by
    show -A i j = -A j i
    rw [hs i j hi hj]) (a := a) (f := f) (fun c hc => by
    have a1 := h c hc
    have a2 : fA9 n (fun i j => -A i j) (cbQ9 a f c) (cbQ9 a f c) = -fA9 n A (cbQ9 a f c) (cbQ9 a f c) := by
      unfold fA9 qD9
      rw [← qS_neg]
      refine qS_cg (fun i _ => ?_)
      have : qV9 n (fun i j => -A i j) (cbQ9 a f c) i = -qV9 n A (cbQ9 a f c) i := by
        unfold qV9
        rw [← qS_neg]
        exact qS_cg (fun k _ => by grind)
      rw [this]
      grind
    rw [a2]
    grind)
  unfold vP9 at a1
  rw [tw_neg] at a1
  exact a1
end XSGH
end
section
/-! 99zzzzzzzzzzzzzzzzyzzr.xsgi -/
/-! signature: as many squares as changes of sign -/
/-- vectors at right angles by the form: a with a positive square, b with a negative one -/
def dt9 (n : Nat) (A : mQ99) (a : Nat) (fp : Nat → Nat → Rat) (b : Nat) (fn : Nat → Nat → Rat) : Prop := (∀ i, i < a → 0 < fA9 n A (fp i) (fp i)) ∧ (∀ i, i < b → fA9 n A (fn i) (fn i) < 0) ∧ (∀ i j, i < a → j < a → i ≠ j → fA9 n A (fp i) (fp j) = 0) ∧ (∀ i j, i < b → j < b → i ≠ j → fA9 n A (fn i) (fn j) = 0) ∧ ∀ i j, i < a → j < b → fA9 n A (fp i) (fn j) = 0
section XSGI
variable {n : Nat} {A : mQ99}
theorem dt_pos (hs : smQ9 n A) {a b : Nat} {fp fn : Nat → Nat → Rat} (h : dt9 n A a fp b fn) (c : Nat → Rat) (hc : ∃ i, i < a ∧ c i ≠ 0) : 0 < fA9 n A (cbQ9 a fp c) (cbQ9 a fp c) := by
  obtain ⟨h1, h2, h3, h4, h5⟩ := h
  rw [fA_sq hs h3]
  obtain ⟨i, hi, hne⟩ := hc
  exact qS_ps (fun l hl => Rat.mul_nonneg (sq_nn9 (c l)) (Rat.le_of_lt (h1 l hl))) ⟨i, hi, Rat.mul_pos (sq_ps9 hne) (h1 i hi)⟩
theorem dt_neg (hs : smQ9 n A) {a b : Nat} {fp fn : Nat → Nat → Rat} (h : dt9 n A a fp b fn) (c : Nat → Rat) (hc : ∃ i, i < b ∧ c i ≠ 0) : fA9 n A (cbQ9 b fn c) (cbQ9 b fn c) < 0 := by
  obtain ⟨h1, h2, h3, h4, h5⟩ := h
  rw [fA_sq hs h4]
  obtain ⟨i, hi, hne⟩ := hc
  have a1 : 0 < qS9 (fun l => -(c l * c l * fA9 n A (fn l) (fn l))) b := qS_ps (fun l hl => by
    have := Rat.mul_nonneg (sq_nn9 (c l)) (show 0 ≤ -fA9 n A (fn l) (fn l) by
      have := h2 l hl
      grind)
    grind) ⟨i, hi, by
    have := Rat.mul_pos (sq_ps9 hne) (show 0 < -fA9 n A (fn i) (fn i) by
      have := h2 i hi
      grind)
    grind⟩
  rw [qS_neg] at a1
  grind
theorem dt_le (hs : smQ9 n A) {a b : Nat} {fp fn : Nat → Nat → Rat} (h : dt9 n A a fp b fn) : a ≤ vP9 A n ∧ b ≤ vM9 A n := ⟨vP_sp hs (dt_pos hs h), vM_sp hs (dt_neg hs h)⟩
/-- as many as there can be -/
theorem dt_max (hs : smQ9 n A) : ∀ (r a b : Nat) (fp fn : Nat → Nat → Rat), dt9 n A a fp b fn → n ≤ a + b + r → ∃ a2 b2 fp2 fn2, dt9 n A a2 fp2 b2 fn2 ∧ ∀ x, (∀ i, i < a2 → fA9 n A (fp2 i) x = 0) → (∀ i, i < b2 → fA9 n A (fn2 i) x = 0) → fA9 n A x x = 0 := by
  intro r
  induction r with
  | zero =>
    intro a b fp fn h hn
    refine ⟨a, b, fp, fn, h, fun x h1 h2 => ?_⟩
    have key : ∀ (a b : Nat) (fp fn : Nat → Nat → Rat), dt9 n A a fp b fn → a + b ≤ n := fun a b fp fn h => by
      have a1 := dt_le hs h
      have a2 := v_sum (A := A) (n := n)
      omega
    obtain ⟨p1, p2, p3, p4, p5⟩ := h
    by_cases h0 : fA9 n A x x = 0
    · exact h0
    · rcases Rat.le_total (a := 0) (b := fA9 n A x x) with h9 | h9
      · have hp : 0 < fA9 n A x x := Rat.lt_of_le_of_ne h9 (fun h => h0 h.symm)
        have e1 : ∀ i, i < a → (fun i => if i = a then x else fp i) i = fp i := fun i hi => if_neg (by omega)
        have e2 : (fun i => if i = a then x else fp i) a = x := if_pos rfl
        have := key (a + 1) b (fun i => if i = a then x else fp i) fn ⟨fun i hi => by
          by_cases h8 : i = a
          · rw [h8, e2]
            exact hp
          · rw [e1 i (by omega)]
            exact p1 i (by omega), p2, fun i j hi hj hij => by
          by_cases h8 : i = a
          · rw [h8, e2, e1 j (by omega), fA_cm hs]
            exact h1 j (by omega)
          · by_cases h7 : j = a
            · rw [h7, e2, e1 i (by omega)]
              exact h1 i (by omega)
            · rw [e1 i (by omega), e1 j (by omega)]
              exact p3 i j (by omega) (by omega) hij, p4, fun i j hi hj => by
          by_cases h8 : i = a
          · rw [h8, e2, fA_cm hs]
            exact h2 j hj
          · rw [e1 i (by omega)]
            exact p5 i j (by omega) hj⟩
        omega
      · have hp : fA9 n A x x < 0 := Rat.lt_of_le_of_ne h9 h0
        have e1 : ∀ i, i < b → (fun i => if i = b then x else fn i) i = fn i := fun i hi => if_neg (by omega)
        have e2 : (fun i => if i = b then x else fn i) b = x := if_pos rfl
        have := key a (b + 1) fp (fun i => if i = b then x else fn i) ⟨p1, fun i hi => by
          by_cases h8 : i = b
          · rw [h8, e2]
            exact hp
          · rw [e1 i (by omega)]
            exact p2 i (by omega), p3, fun i j hi hj hij => by
          by_cases h8 : i = b
          · rw [h8, e2, e1 j (by omega), fA_cm hs]
            exact h2 j (by omega)
          · by_cases h7 : j = b
            · rw [h7, e2, e1 i (by omega)]
              exact h2 i (by omega)
            · rw [e1 i (by omega), e1 j (by omega)]
              exact p4 i j (by omega) (by omega) hij, fun i j hi hj => by
          by_cases h8 : j = b
          · rw [h8, e2]
            exact h1 i hi
          · rw [e1 j (by omega)]
            exact p5 i j hi (by omega)⟩
        omega
  | succ r ih =>
    intro a b fp fn h hn
    by_cases hx : ∃ x, (∀ i, i < a → fA9 n A (fp i) x = 0) ∧ (∀ i, i < b → fA9 n A (fn i) x = 0) ∧ fA9 n A x x ≠ 0
    · obtain ⟨x, h1, h2, h0⟩ := hx
      obtain ⟨p1, p2, p3, p4, p5⟩ := h
      rcases Rat.le_total (a := 0) (b := fA9 n A x x) with h9 | h9
      · have hp : 0 < fA9 n A x x := Rat.lt_of_le_of_ne h9 (fun h => h0 h.symm)
        have e1 : ∀ i, i < a → (fun i => if i = a then x else fp i) i = fp i := fun i hi => if_neg (by omega)
        have e2 : (fun i => if i = a then x else fp i) a = x := if_pos rfl
        exact ih (a + 1) b (fun i => if i = a then x else fp i) fn ⟨fun i hi => by
          by_cases h8 : i = a
          · rw [h8, e2]
            exact hp
          · rw [e1 i (by omega)]
            exact p1 i (by omega), p2, fun i j hi hj hij => by
          by_cases h8 : i = a
          · rw [h8, e2, e1 j (by omega), fA_cm hs]
            exact h1 j (by omega)
          · by_cases h7 : j = a
            · rw [h7, e2, e1 i (by omega)]
              exact h1 i (by omega)
            · rw [e1 i (by omega), e1 j (by omega)]
              exact p3 i j (by omega) (by omega) hij, p4, fun i j hi hj => by
          by_cases h8 : i = a
          · rw [h8, e2, fA_cm hs]
            exact h2 j hj
          · rw [e1 i (by omega)]
            exact p5 i j (by omega) hj⟩ (by omega)
      · have hp : fA9 n A x x < 0 := Rat.lt_of_le_of_ne h9 h0
        have e1 : ∀ i, i < b → (fun i => if i = b then x else fn i) i = fn i := fun i hi => if_neg (by omega)
        have e2 : (fun i => if i = b then x else fn i) b = x := if_pos rfl
        exact ih a (b + 1) fp (fun i => if i = b then x else fn i) ⟨p1, fun i hi => by
          by_cases h8 : i = b
          · rw [h8, e2]
            exact hp
          · rw [e1 i (by omega)]
            exact p2 i (by omega), p3, fun i j hi hj hij => by
          by_cases h8 : i = b
          · rw [h8, e2, e1 j (by omega), fA_cm hs]
            exact h2 j (by omega)
          · by_cases h7 : j = b
            · rw [h7, e2, e1 i (by omega)]
              exact h2 i (by omega)
            · rw [e1 i (by omega), e1 j (by omega)]
              exact p4 i j (by omega) (by omega) hij, fun i j hi hj => by
          by_cases h8 : j = b
          · rw [h8, e2]
            exact h1 i hi
          · rw [e1 j (by omega)]
            exact p5 i j hi (by omega)⟩ (by omega)
    · refine ⟨a, b, fp, fn, h, fun x h1 h2 => ?_⟩
      by_cases h0 : fA9 n A x x = 0
      · exact h0
      · exact absurd ⟨x, h1, h2, h0⟩ hx
/-- what is left when the parts along the vectors are taken away -/
theorem dt_rest (hs : smQ9 n A) {a : Nat} {f : Nat → Nat → Rat} (ho : ∀ i j, i < a → j < a → i ≠ j → fA9 n A (f i) (f j) = 0) (hn : ∀ i, i < a → fA9 n A (f i) (f i) ≠ 0) (x : Nat → Rat) : ∀ i, i < a → fA9 n A (f i) (fun e => 1 * x e + -1 * cbQ9 a f (fun l => fA9 n A (f l) x * (fA9 n A (f l) (f l))⁻¹) e) = 0 := by
  intro i hi
  rw [fA_lR, fA_R]
  have e : ∀ l, l < a → fA9 n A (f l) x * (fA9 n A (f l) (f l))⁻¹ * fA9 n A (f i) (f l) = dl9 i l * (fA9 n A (f l) x * (fA9 n A (f l) (f l))⁻¹ * fA9 n A (f i) (f l)) := fun l hl => by
    by_cases h9 : l = i
    · rw [show dl9 i l = 1 from if_pos h9, Rat.one_mul]
    · rw [ho i l hi hl (fun h => h9 h.symm)]
      grind
  rw [qS_cg e]
  have e2 := qD_dl (x := fun l => fA9 n A (f l) x * (fA9 n A (f l) (f l))⁻¹ * fA9 n A (f i) (f l)) hi
  unfold qD9 at e2
  rw [e2]
  have e3 := Rat.inv_mul_cancel _ (hn i hi)
  grind
/-- the numbers of squares are the changes of sign -/
theorem dt_ex (hs : smQ9 n A) : ∃ fn : Nat → Nat → Rat, (∀ x, (∀ i, i < vM9 A n → fA9 n A (fn i) x = 0) → 0 ≤ fA9 n A x x) ∧ ∀ c : Nat → Rat, (∃ i, i < vM9 A n ∧ c i ≠ 0) → fA9 n A (cbQ9 (vM9 A n) fn c) (cbQ9 (vM9 A n) fn c) < 0 := by
  obtain ⟨a, b, fp, fn, hd, hm⟩ := dt_max hs n 0 0 (fun _ _ => 0) (fun _ _ => 0) ⟨fun i hi => absurd hi (by omega), fun i hi => absurd hi (by omega), fun i j hi => absurd hi (by omega), fun i j hi => absurd hi (by omega), fun i j hi => absurd hi (by omega)⟩ (by omega)
  have hle := dt_le hs hd
  have hneg := dt_neg hs hd
  obtain ⟨p1, p2, p3, p4, p5⟩ := hd
  have n1 : ∀ i, i < a → fA9 n A (fp i) (fp i) ≠ 0 := fun i hi h => by
    have := p1 i hi
    rw [h] at this
    exact absurd this (by decide)
  have n2 : ∀ i, i < b → fA9 n A (fn i) (fn i) ≠ 0 := fun i hi h => by
    have := p2 i hi
    rw [h] at this
    exact absurd this (by decide)
  -- at right angles to all: 0 with every vector
  have rad : ∀ x, (∀ i, i < a → fA9 n A (fp i) x = 0) → (∀ i, i < b → fA9 n A (fn i) x = 0) → ∀ y, fA9 n A x y = 0 := by
    intro x h1 h2 y
    have r1 := dt_rest hs p3 n1 y
    generalize hc1 : (fun l => fA9 n A (fp l) y * (fA9 n A (fp l) (fp l))⁻¹) = c1 at r1
    generalize hy1 : (fun e => 1 * y e + -1 * cbQ9 a fp c1 e) = y1 at r1
    have r2 := dt_rest hs p4 n2 y1
    generalize hc2 : (fun l => fA9 n A (fn l) y1 * (fA9 n A (fn l) (fn l))⁻¹) = c2 at r2
    have r3 : ∀ i, i < a → fA9 n A (fp i) (fun e => 1 * y1 e + -1 * cbQ9 b fn c2 e) = 0 := fun i hi => by
      rw [fA_lR, r1 i hi, fA_R, qS_cg (g := fun _ => 0) (fun l hl => by rw [p5 i l hi hl, Rat.mul_zero]), qS_0]
      grind
    generalize hy2 : (fun e => 1 * y1 e + -1 * cbQ9 b fn c2 e) = y2 at r2 r3
    have q1 := hm y2 r3 r2
    have q2 := hm x h1 h2
    have q3 := hm (fun e => 1 * x e + 1 * y2 e) (fun i hi => by rw [fA_lR, h1 i hi, r3 i hi]; grind) (fun i hi => by rw [fA_lR, h2 i hi, r2 i hi]; grind)
    rw [fA_lR, fA_lL hs, fA_lL hs, q1, q2, fA_cm hs y2 x] at q3
    have q4 : fA9 n A x y2 = 0 := by grind
    have q5 : fA9 n A x y1 = 0 := by
      rw [← hy2, fA_lR, fA_R, qS_cg (g := fun _ => 0) (fun l hl => by rw [fA_cm hs, h2 l hl, Rat.mul_zero]), qS_0] at q4
      grind
    rw [← hy1, fA_lR, fA_R, qS_cg (g := fun _ => 0) (fun l hl => by rw [fA_cm hs, h1 l hl, Rat.mul_zero]), qS_0] at q5
    grind
  have rk := rk_E (A := A) (n := n) (g := fun _ => 1) (b := a + b) (fun _ _ => by decide) (sm_sy hs) (fun e => if e < a then qV9 n A (fp e) else qV9 n A (fn (e - a))) (by
    have a2 := v_sum (A := A) (n := n)
    omega) (fun x hx i hi => by
    have h1 : ∀ i, i < a → fA9 n A (fp i) x = 0 := fun i hi => by
      have := hx i (by omega)
      rw [if_pos hi, qD_cm] at this
      rw [fA_cm hs]
      exact this
    have h2 : ∀ i, i < b → fA9 n A (fn i) x = 0 := fun i hi => by
      have := hx (a + i) (by omega)
      rw [if_neg (by omega), show a + i - a = i by omega, qD_cm] at this
      rw [fA_cm hs]
      exact this
    have := rad x h1 h2 (dl9 i)
    rw [fA_cm hs] at this
    have e : fA9 n A (dl9 i) x = qV9 n A x i := qD_dl hi
    rw [← e]
    exact this)
  have eb : vM9 A n = b := by omega
  rw [eb]
  refine ⟨fn, fun x hx => ?_, hneg⟩
  have r1 := dt_rest hs p3 n1 x
  generalize hc1 : (fun l => fA9 n A (fp l) x * (fA9 n A (fp l) (fp l))⁻¹) = c1 at r1
  have r2 : ∀ i, i < b → fA9 n A (fn i) (fun e => 1 * x e + -1 * cbQ9 a fp c1 e) = 0 := fun i hi => by
    rw [fA_lR, hx i hi, fA_R, qS_cg (g := fun _ => 0) (fun l hl => by rw [fA_cm hs, p5 l i hl hi, Rat.mul_zero]), qS_0]
    grind
  generalize hy1 : (fun e => 1 * x e + -1 * cbQ9 a fp c1 e) = y1 at r1 r2
  have q1 := hm y1 r1 r2
  have ex : fA9 n A x x = fA9 n A (fun e => 1 * y1 e + 1 * cbQ9 a fp c1 e) (fun e => 1 * y1 e + 1 * cbQ9 a fp c1 e) := by
    refine fA_cg (fun e _ => ?_) (fun e _ => ?_)
    · rw [← hy1]
      grind
    · rw [← hy1]
      grind
  have ey : fA9 n A y1 (cbQ9 a fp c1) = 0 := by
    rw [fA_R, qS_cg (g := fun _ => 0) (fun l hl => by rw [fA_cm hs, r1 l hl, Rat.mul_zero]), qS_0]
  have es : 0 ≤ fA9 n A (cbQ9 a fp c1) (cbQ9 a fp c1) := by
    rw [fA_sq hs p3]
    exact qS_nn (fun l hl => Rat.mul_nonneg (sq_nn9 (c1 l)) (Rat.le_of_lt (p1 l hl)))
  rw [ex, fA_lR, fA_lL hs, fA_lL hs, fA_cm hs (cbQ9 a fp c1) y1, q1, ey]
  grind
end XSGI
end
section
/-! 99zzzzzzzzzzzzzzzzyzzs.xsgj -/
/-! signature: two forms at right angles in a space of signs -/
/-- the form of signs t on the columns of W -/
def gF9 (c : Nat) (t : Nat → Rat) (W : mQ99) : mQ99 := fun i j => qS9 (fun e => t e * W e i * W e j) c
/-- how many of the first c signs are positive -/
def cP9 (t : Nat → Rat) : Nat → Nat
  | 0 => 0
  | c + 1 => cP9 t c + (if 0 < t c then 1 else 0)
section XSGJ
variable {n m c : Nat} {t : Nat → Rat} {W B : mQ99}
theorem gF_sm : smQ9 n (gF9 c t W) := fun i j _ _ => qS_cg (fun e _ => by grind)
theorem gF_f (x y : Nat → Rat) : fA9 n (gF9 c t W) x y = qG9 c t (qV9 n W x) (qV9 n W y) := by
  have e1 : ∀ i, i < n → qV9 n (gF9 c t W) y i = qS9 (fun e => t e * W e i * qV9 n W y e) c := fun i _ => by
    show qS9 (fun j => qS9 (fun e => t e * W e i * W e j) c * y j) n = _
    have a1 : ∀ j, j < n → qS9 (fun e => t e * W e i * W e j) c * y j = qS9 (fun e => t e * W e i * (W e j * y j)) c := fun j _ => by
      rw [Rat.mul_comm, ← qS_mul]
      exact qS_cg (fun e _ => by grind)
    rw [qS_cg a1, qS_sw]
    exact qS_cg (fun e _ => qS_mul)
  unfold fA9 qD9
  have e2 : ∀ i, i < n → x i * qV9 n (gF9 c t W) y i = qS9 (fun e => t e * qV9 n W y e * (W e i * x i)) c := fun i hi => by
    rw [e1 i hi, ← qS_mul]
    exact qS_cg (fun e _ => by grind)
  rw [qS_cg e2, qS_sw]
  refine qS_cg (fun e _ => ?_)
  rw [qS_mul]
  show t e * qV9 n W y e * qV9 n W x e = t e * qV9 n W x e * qV9 n W y e
  grind
/-- the positive places by number -/
theorem cP_ix : ∀ c, ∃ ix : Nat → Nat, ∀ e, e < c → 0 < t e → ∃ k, k < cP9 t c ∧ ix k = e := by
  intro c
  induction c with
  | zero => exact ⟨fun _ => 0, fun e he => absurd he (by omega)⟩
  | succ c ih =>
    obtain ⟨ix, h⟩ := ih
    refine ⟨fun k => if k = cP9 t c then c else ix k, fun e he hp => ?_⟩
    show ∃ k, k < cP9 t c + (if 0 < t c then 1 else 0) ∧ _
    by_cases h9 : e = c
    · rw [h9] at hp
      exact ⟨cP9 t c, by rw [if_pos hp]; omega, by dsimp only; rw [if_pos rfl, h9]⟩
    · obtain ⟨k, hk, hk2⟩ := h e (by omega) hp
      exact ⟨k, by omega, by dsimp only; rw [if_neg (by omega)]; exact hk2⟩
theorem cP_sum (ht : ∀ e, e < c → t e = 1 ∨ t e = -1) : cP9 t c + cP9 (fun e => -t e) c = c := by
  induction c with
  | zero => rfl
  | succ c ih =>
    show cP9 t c + (if 0 < t c then 1 else 0) + (cP9 (fun e => -t e) c + (if 0 < -t c then 1 else 0)) = c + 1
    have := ih (fun e he => ht e (by omega))
    rcases ht c (by omega) with h | h
    · rw [h, if_pos (show (0 : Rat) < 1 by decide), if_neg (show ¬ (0 : Rat) < -1 by decide)]
      omega
    · rw [h, if_neg (show ¬ (0 : Rat) < -1 by decide), if_pos (show (0 : Rat) < - -1 by decide)]
      omega
theorem sp_cut {a : Nat} (d : Nat) (φ : Nat → Rat) : qS9 φ (a + d) = qS9 φ a + qS9 (fun j => φ (a + j)) d := by
  induction d with
  | zero => exact (Rat.add_zero _).symm
  | succ d ih =>
    show qS9 φ (a + d) + φ (a + d) = qS9 φ a + (qS9 (fun j => φ (a + j)) d + φ (a + d))
    rw [ih]
    grind
/-- the bound: where the negative squares of W are 0, beside the negative squares of B -/
theorem il9 (ht : ∀ e, e < c → t e = 1 ∨ t e = -1) (iW : ∀ x : Nat → Rat, (∀ e, e < c → qV9 n W x e = 0) → ∀ i, i < n → x i = 0) (iB : ∀ x : Nat → Rat, (∀ e, e < c → qV9 m B x e = 0) → ∀ i, i < m → x i = 0) (hO : ∀ i j, i < n → j < m → qS9 (fun e => W e i * B e j) c = 0) : n + vM9 (gF9 c (fun e => -t e) B) m ≤ cP9 t c + vM9 (gF9 c t W) n := by
  obtain ⟨fn, f1, f2⟩ := dt_ex (n := n) (A := gF9 c t W) gF_sm
  obtain ⟨hn, h1, h2⟩ := dt_ex (n := m) (A := gF9 c (fun e => -t e) B) gF_sm
  obtain ⟨ix, hix⟩ := cP_ix (t := t) c
  generalize hb : vM9 (gF9 c t W) n = b at f1 f2 ⊢
  generalize hd : vM9 (gF9 c (fun e => -t e) B) m = d at h1 h2 ⊢
  by_cases hle : n + d ≤ cP9 t c + b
  · exact hle
  · exfalso
    -- unknowns: x (n of them), y (d of them)
    obtain ⟨u, ⟨s, hs, hu⟩, hq⟩ := lin_n (n := n + d) (fun e l => if e < cP9 t c then (if l < n then W (ix e) l else t (ix e) * qV9 m B (hn (l - n)) (ix e)) else (if l < n then qV9 n (gF9 c t W) (fn (e - cP9 t c)) l else 0)) (m := cP9 t c + b) (by omega)
    -- the vector in the space of signs
    have eU : ∀ e, e < c → qV9 m B (cbQ9 d hn (fun j => u (n + j))) e = qS9 (fun j => u (n + j) * qV9 m B (hn j) e) d := fun e _ => qV_sum
    have u0 : ∀ e, e < c → 0 < t e → qV9 n W u e + t e * qV9 m B (cbQ9 d hn (fun j => u (n + j))) e = 0 := fun e he hp => by
      obtain ⟨k, hk, hk2⟩ := hix e he hp
      have a1 := hq k (by omega)
      unfold qD9 at a1
      rw [sp_cut] at a1
      have a2 : qS9 (fun l => (fun l => if k < cP9 t c then (if l < n then W (ix k) l else t (ix k) * qV9 m B (hn (l - n)) (ix k)) else (if l < n then qV9 n (gF9 c t W) (fn (k - cP9 t c)) l else 0)) l * u l) n = qV9 n W u e := qS_cg (fun l hl => by
        show (if k < cP9 t c then (if l < n then W (ix k) l else t (ix k) * qV9 m B (hn (l - n)) (ix k)) else (if l < n then qV9 n (gF9 c t W) (fn (k - cP9 t c)) l else 0)) * u l = _
        rw [if_pos hk, if_pos hl, hk2])
      have a3 : qS9 (fun j => (fun l => if k < cP9 t c then (if l < n then W (ix k) l else t (ix k) * qV9 m B (hn (l - n)) (ix k)) else (if l < n then qV9 n (gF9 c t W) (fn (k - cP9 t c)) l else 0)) (n + j) * u (n + j)) d = t e * qV9 m B (cbQ9 d hn (fun j => u (n + j))) e := by
        rw [eU e he, ← qS_mul]
        refine qS_cg (fun j hj => ?_)
        show (if k < cP9 t c then (if n + j < n then W (ix k) (n + j) else t (ix k) * qV9 m B (hn (n + j - n)) (ix k)) else (if n + j < n then qV9 n (gF9 c t W) (fn (k - cP9 t c)) (n + j) else 0)) * u (n + j) = _
        rw [if_pos hk, if_neg (by omega), hk2, show n + j - n = j by omega]
        grind
      rw [a2, a3] at a1
      exact a1
    have uf : ∀ i, i < b → fA9 n (gF9 c t W) (fn i) u = 0 := fun i hi => by
      have a1 := hq (cP9 t c + i) (by omega)
      unfold qD9 at a1
      rw [sp_cut] at a1
      have a2 : qS9 (fun l => (fun l => if cP9 t c + i < cP9 t c then (if l < n then W (ix (cP9 t c + i)) l else t (ix (cP9 t c + i)) * qV9 m B (hn (l - n)) (ix (cP9 t c + i))) else (if l < n then qV9 n (gF9 c t W) (fn (cP9 t c + i - cP9 t c)) l else 0)) l * u l) n = qD9 n u (qV9 n (gF9 c t W) (fn i)) := qS_cg (fun l hl => by
        show (if cP9 t c + i < cP9 t c then (if l < n then W (ix (cP9 t c + i)) l else t (ix (cP9 t c + i)) * qV9 m B (hn (l - n)) (ix (cP9 t c + i))) else (if l < n then qV9 n (gF9 c t W) (fn (cP9 t c + i - cP9 t c)) l else 0)) * u l = _
        rw [if_neg (by omega), if_pos hl, show cP9 t c + i - cP9 t c = i by omega]
        exact Rat.mul_comm _ _)
      have a3 : qS9 (fun j => (fun l => if cP9 t c + i < cP9 t c then (if l < n then W (ix (cP9 t c + i)) l else t (ix (cP9 t c + i)) * qV9 m B (hn (l - n)) (ix (cP9 t c + i))) else (if l < n then qV9 n (gF9 c t W) (fn (cP9 t c + i - cP9 t c)) l else 0)) (n + j) * u (n + j)) d = 0 := by
        rw [qS_cg (g := fun _ => 0) (fun j hj => by
          show (if cP9 t c + i < cP9 t c then (if n + j < n then W (ix (cP9 t c + i)) (n + j) else t (ix (cP9 t c + i)) * qV9 m B (hn (n + j - n)) (ix (cP9 t c + i))) else (if n + j < n then qV9 n (gF9 c t W) (fn (cP9 t c + i - cP9 t c)) (n + j) else 0)) * u (n + j) = 0
          rw [if_neg (by omega), if_neg (by omega), Rat.zero_mul]), qS_0]
      rw [a2, a3, Rat.add_zero] at a1
      rw [fA_cm gF_sm]
      exact a1
    have F1 := f1 u uf
    rw [gF_f] at F1
    generalize hy : cbQ9 d hn (fun j => u (n + j)) = y at u0
    -- right angles
    have O1 : qS9 (fun e => qV9 n W u e * qV9 m B y e) c = 0 := by
      have a1 : ∀ e, e < c → qV9 n W u e * qV9 m B y e = qS9 (fun i => u i * (W e i * qV9 m B y e)) n := fun e _ => by
        show qS9 (fun i => W e i * u i) n * qV9 m B y e = _
        rw [Rat.mul_comm, ← qS_mul]
        exact qS_cg (fun i _ => by grind)
      rw [qS_cg a1, qS_sw, qS_cg (g := fun _ => 0) (fun i hi => by
        rw [qS_mul]
        have a2 : qS9 (fun e => W e i * qV9 m B y e) c = 0 := by
          have a3 : ∀ e, e < c → W e i * qV9 m B y e = qS9 (fun j => y j * (W e i * B e j)) m := fun e _ => by
            show W e i * qS9 (fun j => B e j * y j) m = _
            rw [← qS_mul]
            exact qS_cg (fun j _ => by grind)
          rw [qS_cg a3, qS_sw, qS_cg (g := fun _ => 0) (fun j hj => by rw [qS_mul, hO i j hi hj, Rat.mul_zero]), qS_0]
        rw [a2, Rat.mul_zero]), qS_0]
    have F2 : 0 ≤ qS9 (fun e => t e * qV9 m B y e * qV9 m B y e) c := by
      have a1 : fA9 m (gF9 c (fun e => -t e) B) y y ≤ 0 := by
        by_cases h9 : ∃ j, j < d ∧ (fun j => u (n + j)) j ≠ 0
        · have := h2 (fun j => u (n + j)) h9
          rw [hy] at this
          exact Rat.le_of_lt this
        · have y0 : ∀ i, i < m → y i = 0 := fun i _ => by
            rw [← hy]
            show qS9 (fun l => u (n + l) * hn l i) d = 0
            rw [qS_cg (g := fun _ => 0) (fun l hl => by
              have : u (n + l) = 0 := by
                by_cases h8 : u (n + l) = 0
                · exact h8
                · exact absurd ⟨l, hl, h8⟩ h9
              rw [this, Rat.zero_mul]), qS_0]
          have : fA9 m (gF9 c (fun e => -t e) B) y y = 0 := by
            show qS9 (fun k => y k * qV9 m (gF9 c (fun e => -t e) B) y k) m = 0
            rw [qS_cg (g := fun _ => 0) (fun i hi => by rw [y0 i hi, Rat.zero_mul]), qS_0]
          rw [this]
          exact Rat.le_refl
      rw [gF_f] at a1
      have a2 : qG9 c (fun e => -t e) (qV9 m B y) (qV9 m B y) = -qS9 (fun e => t e * qV9 m B y e * qV9 m B y e) c := by
        unfold qG9
        rw [← qS_neg]
        exact qS_cg (fun e _ => by grind)
      rw [a2] at a1
      grind
    -- the square of W u + t B y
    have sq : qS9 (fun e => t e * (qV9 n W u e + t e * qV9 m B y e) * (qV9 n W u e + t e * qV9 m B y e)) c = qG9 c t (qV9 n W u) (qV9 n W u) + qS9 (fun e => t e * qV9 m B y e * qV9 m B y e) c := by
      have a1 : ∀ e, e < c → t e * (qV9 n W u e + t e * qV9 m B y e) * (qV9 n W u e + t e * qV9 m B y e) = t e * qV9 n W u e * qV9 n W u e + t e * qV9 m B y e * qV9 m B y e + 2 * (qV9 n W u e * qV9 m B y e) := fun e he => by
        have : t e * t e = 1 := by
          rcases ht e he with h | h <;> rw [h] <;> grind
        grind
      rw [qS_cg a1, qS_add, qS_add, qS_mul, O1]
      unfold qG9
      grind
    have ng : ∀ e, e < c → 0 ≤ -(t e * (qV9 n W u e + t e * qV9 m B y e) * (qV9 n W u e + t e * qV9 m B y e)) := fun e he => by
      rcases ht e he with h | h
      · rw [u0 e he (by rw [h]; decide)]
        grind
      · rw [h]
        have := sq_nn9 (qV9 n W u e + -1 * qV9 m B y e)
        grind
    have z0 : ∀ e, e < c → qV9 n W u e + t e * qV9 m B y e = 0 := fun e he => by
      by_cases h9 : qV9 n W u e + t e * qV9 m B y e = 0
      · exact h9
      · have hp : 0 < -(t e * (qV9 n W u e + t e * qV9 m B y e) * (qV9 n W u e + t e * qV9 m B y e)) := by
          rcases ht e he with h | h
          · exact absurd (u0 e he (by rw [h]; decide)) h9
          · have := sq_ps9 h9
            rw [h] at this ⊢
            grind
        have a1 := qS_ps ng ⟨e, he, hp⟩
        rw [qS_neg, sq] at a1
        grind
    have sq0 : qG9 c t (qV9 n W u) (qV9 n W u) + qS9 (fun e => t e * qV9 m B y e * qV9 m B y e) c = 0 := by
      rw [← sq, qS_cg (g := fun _ => 0) (fun e he => by rw [z0 e he]; grind), qS_0]
    -- y = 0
    have y9 : ∀ j, j < d → u (n + j) = 0 := fun j hj => by
      by_cases h9 : u (n + j) = 0
      · exact h9
      · have a1 := h2 (fun j => u (n + j)) ⟨j, hj, h9⟩
        rw [hy, gF_f] at a1
        have a2 : qG9 c (fun e => -t e) (qV9 m B y) (qV9 m B y) = -qS9 (fun e => t e * qV9 m B y e * qV9 m B y e) c := by
          unfold qG9
          rw [← qS_neg]
          exact qS_cg (fun e _ => by grind)
        rw [a2] at a1
        grind
    have yz : ∀ i, y i = 0 := fun i => by
      rw [← hy]
      show qS9 (fun l => u (n + l) * hn l i) d = 0
      rw [qS_cg (g := fun _ => 0) (fun l hl => by rw [y9 l hl, Rat.zero_mul]), qS_0]
    have Wz : ∀ e, e < c → qV9 n W u e = 0 := fun e he => by
      have a1 := z0 e he
      have a2 : qV9 m B y e = 0 := by
        show qS9 (fun k => B e k * y k) m = 0
        rw [qS_cg (g := fun _ => 0) (fun k _ => by rw [yz k, Rat.mul_zero]), qS_0]
      rw [a2] at a1
      grind
    have xz := iW u Wz
    by_cases h9 : s < n
    · exact hu (xz s h9)
    · have := y9 (s - n) (by omega)
      rw [show n + (s - n) = s by omega] at this
      exact hu this
theorem vM_ng {A : mQ99} : vM9 (fun i j => -A i j) n = vP9 A n := by
  have := tw_neg (A := fun i j => -A i j) (n := n)
  have e : (fun i j => - (fun i j => -A i j) i j) = A := by
    funext i j
    show - -A i j = A i j
    grind
  rw [e] at this
  unfold vM9 vP9
  rw [this]
theorem gF_ng : gF9 c (fun e => -t e) W = fun i j => -gF9 c t W i j := by
  funext i j
  show qS9 (fun e => -t e * W e i * W e j) c = -qS9 (fun e => t e * W e i * W e j) c
  rw [← qS_neg]
  exact qS_cg (fun e _ => by grind)
/-- THE TWO COLOURS -/
theorem two9 (ht : ∀ e, e < c → t e = 1 ∨ t e = -1) (iW : ∀ x : Nat → Rat, (∀ e, e < c → qV9 n W x e = 0) → ∀ i, i < n → x i = 0) (iB : ∀ x : Nat → Rat, (∀ e, e < c → qV9 m B x e = 0) → ∀ i, i < m → x i = 0) (hO : ∀ i j, i < n → j < m → qS9 (fun e => W e i * B e j) c = 0) (hc : n + m = c) : vP9 (gF9 c t W) n + vM9 (gF9 c (fun e => -t e) B) m + cP9 (fun e => -t e) c = vM9 (gF9 c t W) n + vP9 (gF9 c (fun e => -t e) B) m + cP9 t c := by
  have hO2 : ∀ i j, i < m → j < n → qS9 (fun e => B e i * W e j) c = 0 := fun i j hi hj => by
    rw [← hO j i hj hi]
    exact qS_cg (fun e _ => Rat.mul_comm _ _)
  have ht2 : ∀ e, e < c → -t e = 1 ∨ -t e = -1 := fun e he => by
    rcases ht e he with h | h
    · exact Or.inr (by rw [h])
    · exact Or.inl (by rw [h]; decide)
  have nn : (fun e => - -t e) = t := by
    funext e
    grind
  have i1 := il9 ht iW iB hO
  have i2 := il9 (t := fun e => -t e) ht2 iW iB hO
  have i3 := il9 (t := t) ht iB iW hO2
  have i4 := il9 (t := fun e => -t e) ht2 iB iW hO2
  rw [nn] at i2 i4
  have cs := cP_sum ht
  have e1 : vM9 (gF9 c (fun e => -t e) W) n = vP9 (gF9 c t W) n := by rw [gF_ng, vM_ng]
  have e2 : vM9 (gF9 c t B) m = vP9 (gF9 c (fun e => -t e) B) m := by
    have := vM_ng (A := gF9 c (fun e => -t e) B) (n := m)
    rw [← gF_ng, nn] at this
    exact this
  rw [e1, e2] at i2
  rw [e1, e2] at i3
  omega
end XSGJ
end
section
/-! 99zzzzzzzzzzzzzzzzyzzt.xsgk -/
/-! signature: a part of a net, and its two colours -/
/-- the visit of a crossing that goes ahead -/
def fV9 (G : Nat → Int32) (x : Nat) : Nat := if 0 < G x then 2 * x else 2 * x + 1
def sgI9 (G : Nat → Int32) (x : Nat) : Int := if 0 < G x then 1 else -1
def tI9 (G : Nat → Int32) (w : Nat → Bool) (κ : Bool) (x : Nat) : Int := if w (fV9 G x) = κ then -sgI9 G x else sgI9 G x
/-- the faces of colour κ beside the gaps of the part q are numbered by R: k of them -/
def nbG9 (c : Nat) (S : ow_NP) (G : Nat → Int32) (w q : Nat → Bool) (κ : Bool) (R : Nat → Nat) (k : Nat) : Prop := (∀ v, v < 2 * c → q v = true → R v < k) ∧ (∀ j, j < k → ∃ v, v < 2 * c ∧ q v = true ∧ R v = j) ∧ ∀ x, x < c → q (2 * x) = true → (w (fV9 G x) = κ → R (mt (fV9 G x)) = R (fV9 G x) ∧ R (S.2 (mt (fV9 G x))) = R (S.2 (fV9 G x))) ∧ (w (fV9 G x) = !κ → R (mt (fV9 G x)) = R (S.2 (fV9 G x)) ∧ R (S.2 (mt (fV9 G x))) = R (fV9 G x))
/-- a part: closed, and it hangs together -/
def ptQ9 (c : Nat) (S : ow_NP) (q : Nat → Bool) : Prop := (∀ v, v < 2 * c → q (S.1 v) = q v ∧ q (mt v) = q v) ∧ ∀ u v, u < 2 * c → v < 2 * c → q u = true → q v = true → rch c S u v
/-- the row of a crossing -/
def rwG9 (S : ow_NP) (G : Nat → Int32) (R : Nat → Nat) (x i : Nat) : Rat := dl9 i (R (fV9 G x)) - dl9 i (R (S.2 (fV9 G x)))
/-- the matrix of a part -/
def mtG9 (c : Nat) (S : ow_NP) (G : Nat → Int32) (w q : Nat → Bool) (κ : Bool) (R : Nat → Nat) : mQ99 := fun i j => qS9 (fun x => if q (2 * x) = true then ((tI9 G w κ x : Int) : Rat) * rwG9 S G R x i * rwG9 S G R x j else 0) c
/-- the correction -/
def crG9 (G : Nat → Int32) (w q : Nat → Bool) (κ : Bool) : Nat → Int
  | 0 => 0
  | x + 1 => crG9 G w q κ x + (if q (2 * x) = true then (if w (fV9 G x) = κ then 0 else sgI9 G x) else 0)
def svG9 (c : Nat) (S : ow_NP) (G : Nat → Int32) (w q : Nat → Bool) (κ : Bool) (R : Nat → Nat) (k : Nat) : Int := (vP9 (mtG9 c S G w q κ R) (k - 1) : Int) - (vM9 (mtG9 c S G w q κ R) (k - 1) : Int) - crG9 G w q κ c
theorem enG9 (q : Nat → Bool) : ∀ c, ∃ ix : Nat → Nat, (∀ e, e < nF q c → ix e < c ∧ q (ix e) = true) ∧ (∀ x, x < c → q x = true → ∃ e, e < nF q c ∧ ix e = x) ∧ ∀ F : Nat → Rat, qS9 (fun e => F (ix e)) (nF q c) = qS9 (fun x => if q x = true then F x else 0) c := by
  intro c
  induction c with
  | zero => exact ⟨fun _ => 0, fun e he => absurd he (Nat.not_lt_zero _), fun x hx => absurd hx (Nat.not_lt_zero _), fun F => rfl⟩
  | succ c ih =>
    obtain ⟨ix, h1, h2, h3⟩ := ih
    by_cases hq : q c = true
    · have hn : nF q (c + 1) = nF q c + 1 := by
        show nF q c + (if q c = true then 1 else 0) = _
        rw [if_pos hq]
      have i1 : ∀ e, e < nF q c → (fun e => if e = nF q c then c else ix e) e = ix e := fun e he => if_neg (by omega)
      have i2 : (fun e => if e = nF q c then c else ix e) (nF q c) = c := if_pos rfl
      refine ⟨fun e => if e = nF q c then c else ix e, fun e he => ?_, fun x hx hxq => ?_, fun F => ?_⟩
      · by_cases h9 : e = nF q c
        · rw [h9, i2]
          exact ⟨by omega, hq⟩
        · rw [i1 e (by omega)]
          have := h1 e (by omega)
          exact ⟨by omega, this.2⟩
      · by_cases h9 : x = c
        · exact ⟨nF q c, by omega, by rw [i2, h9]⟩
        · obtain ⟨e, e1, e2⟩ := h2 x (by omega) hxq
          exact ⟨e, by omega, by rw [i1 e e1]; exact e2⟩
      · rw [hn]
        show qS9 (fun e => F ((fun e => if e = nF q c then c else ix e) e)) (nF q c) + F ((fun e => if e = nF q c then c else ix e) (nF q c)) = qS9 (fun x => if q x = true then F x else 0) c + (if q c = true then F c else 0)
        rw [i2, if_pos hq, ← h3 F]
        refine congrArg (fun s => s + F c) (qS_cg (fun e he => ?_))
        rw [i1 e he]
    · have hn : nF q (c + 1) = nF q c := by
        show nF q c + (if q c = true then 1 else 0) = _
        rw [if_neg hq]
        rfl
      refine ⟨ix, fun e he => ?_, fun x hx hxq => ?_, fun F => ?_⟩
      · have := h1 e (by omega)
        exact ⟨by omega, this.2⟩
      · by_cases h9 : x = c
        · rw [h9] at hxq
          exact absurd hxq hq
        · obtain ⟨e, e1, e2⟩ := h2 x (by omega) hxq
          exact ⟨e, by omega, e2⟩
      · rw [hn, h3 F]
        show _ = qS9 (fun x => if q x = true then F x else 0) c + (if q c = true then F c else 0)
        rw [if_neg hq, Rat.add_zero]
section XSGK
variable {c : Nat} {S : ow_NP} {G : Nat → Int32} {w q : Nat → Bool}
theorem fV_lt {x : Nat} (hx : x < c) : fV9 G x < 2 * c := by
  unfold fV9
  split <;> omega
theorem fV_q (hq : ptQ9 c S q) {x : Nat} (hx : x < c) : q (fV9 G x) = q (2 * x) ∧ q (mt (fV9 G x)) = q (2 * x) := by
  have h2 := (hq.1 (2 * x) (by omega)).2
  have e : mt (2 * x) = 2 * x + 1 := by
    unfold mt
    split <;> omega
  have e2 : mt (2 * x + 1) = 2 * x := by
    unfold mt
    split <;> omega
  rw [e] at h2
  unfold fV9
  split
  · exact ⟨rfl, by rw [e]; exact h2⟩
  · exact ⟨h2, by rw [e2]⟩
theorem fV_two {g : Nat → Rat} (x : Nat) : g (fV9 G x) + g (mt (fV9 G x)) = g (2 * x) + g (2 * x + 1) := by
  have e : mt (2 * x) = 2 * x + 1 := by
    unfold mt
    split <;> omega
  have e2 : mt (2 * x + 1) = 2 * x := by
    unfold mt
    split <;> omega
  unfold fV9
  split
  · rw [e]
  · rw [e2]
    exact Rat.add_comm _ _
theorem qS_pair {g : Nat → Rat} : ∀ c, qS9 (fun x => g (2 * x) + g (2 * x + 1)) c = qS9 g (2 * c) := by
  intro c
  induction c with
  | zero => rfl
  | succ c ih =>
    show qS9 (fun x => g (2 * x) + g (2 * x + 1)) c + (g (2 * c) + g (2 * c + 1)) = qS9 g (2 * (c + 1))
    rw [ih, show 2 * (c + 1) = 2 * c + 1 + 1 by omega]
    show _ = qS9 g (2 * c) + g (2 * c) + g (2 * c + 1)
    grind
/-- sums over all visits, one further back -/
theorem qS_back (hv : vn c S) (g : Nat → Rat) : qS9 (fun v => g (S.2 v)) (2 * c) = qS9 g (2 * c) := by
  have e1 : ∀ v, v < 2 * c → g (S.2 v) = qS9 (fun u => dl9 (S.1 u) v * g u) (2 * c) := fun v hv1 => by
    have a : ∀ u, u < 2 * c → dl9 (S.1 u) v * g u = dl9 (S.2 v) u * g u := fun u hu => by
      by_cases h9 : u = S.2 v
      · rw [show dl9 (S.2 v) u = 1 from if_pos h9, show dl9 (S.1 u) v = 1 from if_pos (by rw [h9, (hv v hv1).2.2.2])]
      · rw [show dl9 (S.2 v) u = 0 from if_neg h9, show dl9 (S.1 u) v = 0 from if_neg (fun h => h9 (by rw [h, (hv u hu).2.2.1]))]
    rw [qS_cg a]
    exact (qD_dl (hv v hv1).2.1).symm
  rw [qS_cg e1, qS_sw]
  refine qS_cg (fun u hu => ?_)
  have a : ∀ v, v < 2 * c → dl9 (S.1 u) v * g u = dl9 (S.1 u) v * (fun _ => g u) v := fun v _ => rfl
  rw [qS_cg a]
  exact qD_dl (x := fun _ => g u) (hv u hu).1
/-- what is the same before and behind every crossing of the part is one number -/
theorem one_G (hv : vn c S) (hq : ptQ9 c S q) {κ : Bool} {R : Nat → Nat} {k : Nat} (hR : nbG9 c S G w q κ R k) {h : Nat → Rat} (hh : ∀ x, x < c → q (2 * x) = true → h (R (fV9 G x)) = h (R (S.2 (fV9 G x)))) : ∀ u v, u < 2 * c → v < 2 * c → q u = true → q v = true → h (R u) = h (R v) := by
  have four : ∀ x, x < c → q (2 * x) = true → h (R (mt (fV9 G x))) = h (R (fV9 G x)) ∧ h (R (S.2 (mt (fV9 G x)))) = h (R (mt (fV9 G x))) := fun x hx hxq => by
    have a := hh x hx hxq
    obtain ⟨b1, b2⟩ := hR.2.2 x hx hxq
    by_cases h9 : w (fV9 G x) = κ
    · obtain ⟨c1, c2⟩ := b1 h9
      rw [c1, c2]
      exact ⟨rfl, a.symm⟩
    · obtain ⟨c1, c2⟩ := b2 (by cases hw : w (fV9 G x) <;> cases hκ : κ <;> simp_all)
      rw [c1, c2]
      exact ⟨a.symm, a⟩
  have back : ∀ v, v < 2 * c → q v = true → h (R (S.2 v)) = h (R v) ∧ h (R (mt v)) = h (R v) := fun v hv1 hvq => by
    have hx : v / 2 < c := by omega
    have e : mt (2 * (v / 2)) = 2 * (v / 2) + 1 := by
      unfold mt
      split <;> omega
    have e2 : mt (2 * (v / 2) + 1) = 2 * (v / 2) := by
      unfold mt
      split <;> omega
    have hxq : q (2 * (v / 2)) = true := by
      have := (hq.1 (2 * (v / 2)) (by omega)).2
      rw [e] at this
      by_cases h9 : v % 2 = 0
      · rw [show 2 * (v / 2) = v by omega]
        exact hvq
      · rw [← this, show 2 * (v / 2) + 1 = v by omega]
        exact hvq
    have a := hh (v / 2) hx hxq
    obtain ⟨b1, b2⟩ := four (v / 2) hx hxq
    have hcase : v = fV9 G (v / 2) ∨ v = mt (fV9 G (v / 2)) := by
      unfold fV9
      by_cases h9 : 0 < G (v / 2)
      · rw [if_pos h9, e]
        omega
      · rw [if_neg h9, e2]
        omega
    have hmm : mt (mt (fV9 G (v / 2))) = fV9 G (v / 2) := by
      unfold fV9
      split
      · rw [e, e2]
      · rw [e2, e]
    rcases hcase with h9 | h9
    · rw [h9]
      rw [← h9]
      rw [h9.symm] at a b1
      exact ⟨a.symm, b1⟩
    · have c1 : h (R (S.2 v)) = h (R v) := by
        rw [h9]
        exact b2
      refine ⟨c1, ?_⟩
      have c2 : mt v = fV9 G (v / 2) := by
        have := congrArg mt h9
        rw [hmm] at this
        exact this
      rw [c2, ← b1, ← h9]
  intro u v hu hvl huq hvq
  have r := hq.2 u v hu hvl huq hvq
  have key := r (fun x => x < 2 * c ∧ q x = true ∧ h (R x) = h (R u)) ⟨hu, huq, rfl⟩ (fun j hj ⟨_, j2, j3⟩ => by
    have q1 := (hq.1 j hj).1
    have s1 := hv j hj
    refine ⟨s1.1, by rw [q1]; exact j2, ?_⟩
    have := (back (S.1 j) s1.1 (by rw [q1]; exact j2)).1
    rw [s1.2.2.1] at this
    rw [← this]
    exact j3) (fun j hj ⟨_, j2, j3⟩ => ⟨mt_lt hj, by rw [(hq.1 j hj).2]; exact j2, by rw [(back j hj j2).2]; exact j3⟩)
  exact key.2.2.symm
theorem rw_sum {R : Nat → Nat} {x n : Nat} (z : Nat → Rat) : qS9 (fun i => rwG9 S G R x i * z i) n = (if R (fV9 G x) < n then z (R (fV9 G x)) else 0) - (if R (S.2 (fV9 G x)) < n then z (R (S.2 (fV9 G x))) else 0) := by
  have e1 : ∀ a, qS9 (fun i => dl9 i a * z i) n = if a < n then z a else 0 := fun a => by
    have b : ∀ i, i < n → dl9 i a * z i = dl9 a i * z i := fun i _ => by
      by_cases h9 : a = i
      · rw [show dl9 i a = 1 from if_pos h9, show dl9 a i = 1 from if_pos h9.symm]
      · rw [show dl9 i a = 0 from if_neg h9, show dl9 a i = 0 from if_neg (fun h => h9 h.symm)]
    rw [qS_cg b]
    by_cases h9 : a < n
    · rw [if_pos h9]
      exact qD_dl h9
    · rw [if_neg h9, qS_cg (g := fun _ => 0) (fun i hi => by rw [show dl9 a i = 0 from if_neg (by omega), Rat.zero_mul]), qS_0]
  have e2 : qS9 (fun i => rwG9 S G R x i * z i) n = qS9 (fun i => dl9 i (R (fV9 G x)) * z i + -(dl9 i (R (S.2 (fV9 G x))) * z i)) n := qS_cg (fun i _ => by
    unfold rwG9
    grind)
  rw [e2, qS_add, qS_neg, e1, e1]
  grind
theorem bnot {a b : Bool} (h : ¬ a = b) : a = !b := by cases a <;> cases b <;> simp_all
theorem tI_not {κ : Bool} (x : Nat) : tI9 G w (!κ) x = -tI9 G w κ x := by
  unfold tI9
  by_cases h : w (fV9 G x) = κ
  · rw [if_neg (by rw [h]; cases κ <;> decide), if_pos h]
    omega
  · rw [if_pos (bnot h), if_neg h]
theorem tI_pm {κ : Bool} (x : Nat) : tI9 G w κ x = 1 ∨ tI9 G w κ x = -1 := by
  unfold tI9 sgI9
  split <;> split <;> simp
theorem cP_t {t : Nat → Rat} : ∀ c, (∀ e, e < c → t e = 1 ∨ t e = -1) → ((cP9 t c : Nat) : Rat) - ((cP9 (fun e => -t e) c : Nat) : Rat) = qS9 t c := by
  intro c
  induction c with
  | zero =>
    intro _
    show ((0 : Nat) : Rat) - ((0 : Nat) : Rat) = 0
    exact Rat.sub_self
  | succ c ih =>
    intro h
    have a := ih (fun e he => h e (by omega))
    show ((cP9 t c + (if 0 < t c then 1 else 0) : Nat) : Rat) - ((cP9 (fun e => -t e) c + (if 0 < -t c then 1 else 0) : Nat) : Rat) = qS9 t c + t c
    rw [← a]
    rcases h c (by omega) with h9 | h9
    · rw [h9, if_pos (show (0 : Rat) < 1 by decide), if_neg (show ¬ (0 : Rat) < -1 by decide), cs_s, Nat.add_zero]
      grind
    · rw [h9, if_neg (show ¬ (0 : Rat) < -1 by decide), if_pos (show (0 : Rat) < - -1 by decide), cs_s, Nat.add_zero]
      grind
theorem cr_t {κ : Bool} : ∀ c, ((crG9 G w q κ c : Int) : Rat) - ((crG9 G w q (!κ) c : Int) : Rat) = qS9 (fun x => if q (2 * x) = true then ((tI9 G w κ x : Int) : Rat) else 0) c := by
  intro c
  induction c with
  | zero =>
    show ((0 : Int) : Rat) - ((0 : Int) : Rat) = 0
    exact Rat.sub_self
  | succ c ih =>
    show ((crG9 G w q κ c + (if q (2 * c) = true then (if w (fV9 G c) = κ then 0 else sgI9 G c) else 0) : Int) : Rat) - ((crG9 G w q (!κ) c + (if q (2 * c) = true then (if w (fV9 G c) = !κ then 0 else sgI9 G c) else 0) : Int) : Rat) = qS9 (fun x => if q (2 * x) = true then ((tI9 G w κ x : Int) : Rat) else 0) c + (if q (2 * c) = true then ((tI9 G w κ c : Int) : Rat) else 0)
    rw [← ih, Rat.intCast_add, Rat.intCast_add]
    by_cases hq : q (2 * c) = true
    · rw [if_pos hq, if_pos hq, if_pos hq]
      unfold tI9
      by_cases h : w (fV9 G c) = κ
      · rw [if_pos h, if_neg (show ¬ w (fV9 G c) = !κ by rw [h]; cases κ <;> decide), if_pos h, Rat.intCast_neg]
        show _ + ((0 : Int) : Rat) - _ = _
        rw [show ((0 : Int) : Rat) = 0 from rfl]
        grind
      · rw [if_neg h, if_pos (bnot h), if_neg h]
        rw [show ((0 : Int) : Rat) = 0 from rfl]
        grind
    · rw [if_neg hq, if_neg hq, if_neg hq]
      rw [show ((0 : Int) : Rat) = 0 from rfl]
      grind
end XSGK
end
section
/-! 99zzzzzzzzzzzzzzzzyzzu.xsgl -/
/-! signature: both colours of a part give the same number -/
section XSGL
variable {c : Nat} {S : ow_NP} {G : Nat → Int32} {w q : Nat → Bool}
/-- the rows of a colour have no kernel -/
theorem inj_G (hv : vn c S) (hq : ptQ9 c S q) {κ : Bool} {R : Nat → Nat} {k : Nat} (hk : 1 ≤ k) (hR : nbG9 c S G w q κ R k) {z : Nat → Rat} (hz : ∀ x, x < c → q (2 * x) = true → qS9 (fun i => rwG9 S G R x i * z i) (k - 1) = 0) : ∀ i, i < k - 1 → z i = 0 := by
  have hh : ∀ x, x < c → q (2 * x) = true → (fun a => if a < k - 1 then z a else 0) (R (fV9 G x)) = (fun a => if a < k - 1 then z a else 0) (R (S.2 (fV9 G x))) := fun x hx hxq => by
    have a := hz x hx hxq
    rw [rw_sum] at a
    show (if R (fV9 G x) < k - 1 then z (R (fV9 G x)) else 0) = (if R (S.2 (fV9 G x)) < k - 1 then z (R (S.2 (fV9 G x))) else 0)
    grind
  have one := one_G hv hq hR (h := fun a => if a < k - 1 then z a else 0) hh
  obtain ⟨v0, a1, a2, a3⟩ := hR.2.1 (k - 1) (by omega)
  intro i hi
  obtain ⟨v, b1, b2, b3⟩ := hR.2.1 i (by omega)
  have e := one v v0 b1 a1 b2 a2
  rw [b3, a3] at e
  have e2 : (if i < k - 1 then z i else 0) = (if k - 1 < k - 1 then z (k - 1) else 0) := e
  rw [if_pos hi, if_neg (by omega)] at e2
  exact e2
def dlG9 (G : Nat → Int32) (w : Nat → Bool) (κ : Bool) (x : Nat) : Rat := if w (fV9 G x) = κ then 1 else -1
def epG9 (w : Nat → Bool) (κ : Bool) (v : Nat) : Rat := if w v = κ then 1 else -1
def kG9 (w q : Nat → Bool) (κ : Bool) (R R2 : Nat → Nat) (i j v : Nat) : Rat := if q v = true then epG9 w κ v * dl9 i (R v) * dl9 j (R2 v) else 0
/-- right angles -/
theorem ort_G (hv : vn c S) (hw : gaO c S w) (hq : ptQ9 c S q) {κ : Bool} {R R2 : Nat → Nat} {k k2 : Nat} (hR : nbG9 c S G w q κ R k) (hR2 : nbG9 c S G w q (!κ) R2 k2) (i j : Nat) : qS9 (fun x => if q (2 * x) = true then rwG9 S G R x i * (dlG9 G w κ x * rwG9 S G R2 x j) else 0) c = 0 := by
  have wb : ∀ v, v < 2 * c → w (S.2 v) = !w v := fun v hv1 => by
    have := (hw (S.2 v) (hv v hv1).2.1).1
    rw [(hv v hv1).2.2.2] at this
    rw [this, Bool.not_not]
  have en : ∀ a : Bool, ∀ b : Bool, (if (!a) = b then (1 : Rat) else -1) = -(if a = b then 1 else -1) := fun a b => by
    cases a <;> cases b <;> simp
  have cross : ∀ x, x < c → (if q (2 * x) = true then rwG9 S G R x i * (dlG9 G w κ x * rwG9 S G R2 x j) else 0) = (kG9 w q κ R R2 i j (fV9 G x) + kG9 w q κ R R2 i j (mt (fV9 G x))) - (kG9 w q κ R R2 i j (S.2 (fV9 G x)) + kG9 w q κ R R2 i j (S.2 (mt (fV9 G x)))) := fun x hx => by
    have hf := fV_lt (G := G) hx
    have hm := mt_lt hf
    obtain ⟨q1, q2⟩ := fV_q (G := G) hq hx
    have qb : ∀ v, v < 2 * c → q (S.2 v) = q v := fun v hv1 => by
      have := (hq.1 (S.2 v) (hv v hv1).2.1).1
      rw [(hv v hv1).2.2.2] at this
      exact this.symm
    have qp1 := (qb _ hf).trans q1
    have qp2 := (qb _ hm).trans q2
    unfold kG9
    by_cases hxq : q (2 * x) = true
    · rw [q1, q2, qp1, qp2]
      rw [if_pos hxq, if_pos hxq, if_pos hxq, if_pos hxq, if_pos hxq]
      have w1 := (hw _ hf).2
      have w2 := wb _ hf
      have w3 := wb _ hm
      obtain ⟨b1, b2⟩ := hR.2.2 x hx hxq
      obtain ⟨d1, d2⟩ := hR2.2.2 x hx hxq
      unfold epG9 dlG9 rwG9
      rw [w3, w2, w1, Bool.not_not, en]
      by_cases h9 : w (fV9 G x) = κ
      · obtain ⟨c1, c2⟩ := b1 h9
        obtain ⟨c3, c4⟩ := d2 (by rw [h9, Bool.not_not])
        rw [c1, c2, c3, c4, if_pos h9]
        grind
      · obtain ⟨c1, c2⟩ := b2 (bnot h9)
        obtain ⟨c3, c4⟩ := d1 (bnot h9)
        rw [c1, c2, c3, c4, if_neg h9]
        grind
    · rw [q1, q2, qp1, qp2]
      rw [if_neg hxq, if_neg hxq, if_neg hxq]
      grind
  have e1 : qS9 (fun x => if q (2 * x) = true then rwG9 S G R x i * (dlG9 G w κ x * rwG9 S G R2 x j) else 0) c = qS9 (fun x => (kG9 w q κ R R2 i j (2 * x) + kG9 w q κ R R2 i j (2 * x + 1)) + -(kG9 w q κ R R2 i j (S.2 (2 * x)) + kG9 w q κ R R2 i j (S.2 (2 * x + 1)))) c := qS_cg (fun x hx => by
    have a1 := cross x hx
    have a2 := fV_two (G := G) (g := kG9 w q κ R R2 i j) x
    have a3 := fV_two (G := G) (g := fun v => kG9 w q κ R R2 i j (S.2 v)) x
    rw [a2, a3] at a1
    rw [a1]
    exact Rat.sub_eq_add_neg _ _)
  have p1 := qS_pair (g := kG9 w q κ R R2 i j) c
  have p2 := qS_pair (g := fun v => kG9 w q κ R R2 i j (S.2 v)) c
  have e2 := qS_back hv (kG9 w q κ R R2 i j)
  rw [e1, qS_add, qS_neg, p1, p2, e2]
  grind
theorem gF_mt {κ : Bool} {R : Nat → Nat} {ix : Nat → Nat} {N : Nat} {δ : Nat → Rat} (hδ : ∀ x, δ x * δ x = 1) (hF : ∀ F : Nat → Rat, qS9 (fun e => F (ix e)) N = qS9 (fun x => if q (2 * x) = true then F x else 0) c) : gF9 N (fun e => ((tI9 G w κ (ix e) : Int) : Rat)) (fun e i => δ (ix e) * rwG9 S G R (ix e) i) = mtG9 c S G w q κ R := by
  funext i j
  have a := hF (fun x => ((tI9 G w κ x : Int) : Rat) * rwG9 S G R x i * rwG9 S G R x j)
  show qS9 (fun e => ((tI9 G w κ (ix e) : Int) : Rat) * (δ (ix e) * rwG9 S G R (ix e) i) * (δ (ix e) * rwG9 S G R (ix e) j)) N = qS9 (fun x => if q (2 * x) = true then ((tI9 G w κ x : Int) : Rat) * rwG9 S G R x i * rwG9 S G R x j else 0) c
  rw [← a]
  refine qS_cg (fun e _ => ?_)
  have := hδ (ix e)
  grind
/-- fewer faces than crossings and two -/
theorem eul_G (hv : vn c S) (hw : gaO c S w) (hq : ptQ9 c S q) {κ : Bool} {R R2 : Nat → Nat} {k k2 : Nat} (hk : 1 ≤ k) (hk2 : 1 ≤ k2) (hR : nbG9 c S G w q κ R k) (hR2 : nbG9 c S G w q (!κ) R2 k2) : k + k2 ≤ nF (fun x => q (2 * x)) c + 2 := by
  obtain ⟨ix, i1, i2, i3⟩ := enG9 (fun x => q (2 * x)) c
  generalize nF (fun x => q (2 * x)) c = N at i1 i2 i3 ⊢
  by_cases hle : k + k2 ≤ N + 2
  · exact hle
  · exfalso
    obtain ⟨u, ⟨s, hs, hu⟩, hq0⟩ := lin_n (n := (k - 1) + (k2 - 1)) (fun e l => if l < k - 1 then rwG9 S G R (ix e) l else dlG9 G w κ (ix e) * rwG9 S G R2 (ix e) (l - (k - 1))) (m := N) (by omega)
    have eq : ∀ e, e < N → qS9 (fun i => rwG9 S G R (ix e) i * u i) (k - 1) + dlG9 G w κ (ix e) * qS9 (fun j => rwG9 S G R2 (ix e) j * u (k - 1 + j)) (k2 - 1) = 0 := fun e he => by
      have a := hq0 e he
      unfold qD9 at a
      rw [sp_cut] at a
      have a1 : qS9 (fun l => (fun l => if l < k - 1 then rwG9 S G R (ix e) l else dlG9 G w κ (ix e) * rwG9 S G R2 (ix e) (l - (k - 1))) l * u l) (k - 1) = qS9 (fun i => rwG9 S G R (ix e) i * u i) (k - 1) := qS_cg (fun l hl => by
        dsimp only
        rw [if_pos hl])
      have a2 : qS9 (fun j => (fun l => if l < k - 1 then rwG9 S G R (ix e) l else dlG9 G w κ (ix e) * rwG9 S G R2 (ix e) (l - (k - 1))) (k - 1 + j) * u (k - 1 + j)) (k2 - 1) = dlG9 G w κ (ix e) * qS9 (fun j => rwG9 S G R2 (ix e) j * u (k - 1 + j)) (k2 - 1) := by
        rw [← qS_mul]
        refine qS_cg (fun j hj => ?_)
        dsimp only
        rw [if_neg (by omega), show k - 1 + j - (k - 1) = j by omega]
        grind
      rw [a1, a2] at a
      exact a
    have dd : ∀ x, dlG9 G w κ x * dlG9 G w κ x = 1 := fun x => by
      unfold dlG9
      split <;> grind
    -- the cross terms are 0
    have o : qS9 (fun e => qS9 (fun i => rwG9 S G R (ix e) i * u i) (k - 1) * (dlG9 G w κ (ix e) * qS9 (fun j => rwG9 S G R2 (ix e) j * u (k - 1 + j)) (k2 - 1))) N = 0 := by
      have a1 : ∀ e, e < N → qS9 (fun i => rwG9 S G R (ix e) i * u i) (k - 1) * (dlG9 G w κ (ix e) * qS9 (fun j => rwG9 S G R2 (ix e) j * u (k - 1 + j)) (k2 - 1)) = qS9 (fun i => qS9 (fun j => u i * u (k - 1 + j) * (rwG9 S G R (ix e) i * (dlG9 G w κ (ix e) * rwG9 S G R2 (ix e) j))) (k2 - 1)) (k - 1) := fun e he => by
        rw [Rat.mul_comm, ← qS_mul]
        refine qS_cg (fun i _ => ?_)
        have b : dlG9 G w κ (ix e) * qS9 (fun j => rwG9 S G R2 (ix e) j * u (k - 1 + j)) (k2 - 1) * (rwG9 S G R (ix e) i * u i) = (dlG9 G w κ (ix e) * rwG9 S G R (ix e) i * u i) * qS9 (fun j => rwG9 S G R2 (ix e) j * u (k - 1 + j)) (k2 - 1) := by grind
        rw [b, ← qS_mul]
        exact qS_cg (fun j _ => by grind)
      rw [qS_cg a1, qS_sw, qS_cg (g := fun _ => 0) (fun i _ => by
        rw [qS_sw, qS_cg (g := fun _ => 0) (fun j _ => by
          rw [qS_mul, i3 (fun x => rwG9 S G R x i * (dlG9 G w κ x * rwG9 S G R2 x j)), ort_G hv hw hq hR hR2, Rat.mul_zero]), qS_0]), qS_0]
    have z0 : ∀ e, e < N → qS9 (fun i => rwG9 S G R (ix e) i * u i) (k - 1) = 0 := fun e he => by
      by_cases h9 : qS9 (fun i => rwG9 S G R (ix e) i * u i) (k - 1) = 0
      · exact h9
      · have a1 : ∀ e, e < N → 0 ≤ -(qS9 (fun i => rwG9 S G R (ix e) i * u i) (k - 1) * (dlG9 G w κ (ix e) * qS9 (fun j => rwG9 S G R2 (ix e) j * u (k - 1 + j)) (k2 - 1))) := fun e he => by
          have b := eq e he
          have d := sq_nn9 (qS9 (fun i => rwG9 S G R (ix e) i * u i) (k - 1))
          have b2 : dlG9 G w κ (ix e) * qS9 (fun j => rwG9 S G R2 (ix e) j * u (k - 1 + j)) (k2 - 1) = -qS9 (fun i => rwG9 S G R (ix e) i * u i) (k - 1) := by grind
          rw [b2]
          grind
        have a2 := qS_ps a1 ⟨e, he, by
          have b := eq e he
          have d := sq_ps9 h9
          have b2 : dlG9 G w κ (ix e) * qS9 (fun j => rwG9 S G R2 (ix e) j * u (k - 1 + j)) (k2 - 1) = -qS9 (fun i => rwG9 S G R (ix e) i * u i) (k - 1) := by grind
          rw [b2]
          grind⟩
        rw [qS_neg, o] at a2
        exact absurd a2 (by decide)
    have y0 : ∀ e, e < N → qS9 (fun j => rwG9 S G R2 (ix e) j * u (k - 1 + j)) (k2 - 1) = 0 := fun e he => by
      have a := eq e he
      rw [z0 e he, Rat.zero_add] at a
      have d := dd (ix e)
      grind
    have hx := inj_G hv hq hk hR (z := u) (fun x hx hxq => by
      obtain ⟨e, e1, e2⟩ := i2 x hx hxq
      rw [← e2]
      exact z0 e e1)
    have hy := inj_G hv hq hk2 hR2 (z := fun j => u (k - 1 + j)) (fun x hx hxq => by
      obtain ⟨e, e1, e2⟩ := i2 x hx hxq
      rw [← e2]
      exact y0 e e1)
    by_cases h9 : s < k - 1
    · exact hu (hx s h9)
    · have := hy (s - (k - 1)) (by omega)
      rw [show k - 1 + (s - (k - 1)) = s by omega] at this
      exact hu this
/-- BOTH COLOURS -/
theorem sv_G (hv : vn c S) (hw : gaO c S w) (hq : ptQ9 c S q) {κ : Bool} {R R2 : Nat → Nat} {k k2 : Nat} (hk : 1 ≤ k) (hk2 : 1 ≤ k2) (hR : nbG9 c S G w q κ R k) (hR2 : nbG9 c S G w q (!κ) R2 k2) (he : k + k2 = nF (fun x => q (2 * x)) c + 2) : svG9 c S G w q κ R k = svG9 c S G w q (!κ) R2 k2 := by
  obtain ⟨ix, i1, i2, i3⟩ := enG9 (fun x => q (2 * x)) c
  generalize nF (fun x => q (2 * x)) c = N at i1 i2 i3 he
  have dd : ∀ x, dlG9 G w κ x * dlG9 G w κ x = 1 := fun x => by
    unfold dlG9
    split <;> grind
  have ht : ∀ e, e < N → ((tI9 G w κ (ix e) : Int) : Rat) = 1 ∨ ((tI9 G w κ (ix e) : Int) : Rat) = -1 := fun e _ => by
    rcases tI_pm (G := G) (w := w) (κ := κ) (ix e) with h | h
    · exact Or.inl (by rw [h]; rfl)
    · exact Or.inr (by rw [h]; rfl)
  have key := two9 (c := N) (n := k - 1) (m := k2 - 1) (t := fun e => ((tI9 G w κ (ix e) : Int) : Rat)) (W := fun e i => (fun _ => (1 : Rat)) (ix e) * rwG9 S G R (ix e) i) (B := fun e i => dlG9 G w κ (ix e) * rwG9 S G R2 (ix e) i) ht (fun z hz => inj_G hv hq hk hR (fun x hx hxq => by
    obtain ⟨e, e1, e2⟩ := i2 x hx hxq
    rw [← e2, ← hz e e1]
    exact qS_cg (fun i _ => by grind))) (fun z hz => inj_G hv hq hk2 hR2 (fun x hx hxq => by
    obtain ⟨e, e1, e2⟩ := i2 x hx hxq
    have a := hz e e1
    have a2 : qV9 (k2 - 1) (fun e i => dlG9 G w κ (ix e) * rwG9 S G R2 (ix e) i) z e = dlG9 G w κ (ix e) * qS9 (fun i => rwG9 S G R2 (ix e) i * z i) (k2 - 1) := by
      rw [← qS_mul]
      exact qS_cg (fun i _ => by grind)
    rw [a2] at a
    have d := dd (ix e)
    rw [← e2]
    grind)) (fun i j _ _ => by
    have a := i3 (fun x => rwG9 S G R x i * (dlG9 G w κ x * rwG9 S G R2 x j))
    have o := ort_G hv hw hq hR hR2 i j
    rw [o] at a
    rw [← a]
    exact qS_cg (fun e _ => by grind)) (by omega)
  have m1 := gF_mt (c := c) (S := S) (G := G) (w := w) (q := q) (κ := κ) (R := R) (ix := ix) (N := N) (δ := fun _ => 1) (fun _ => by grind) i3
  have m2 := gF_mt (c := c) (S := S) (G := G) (w := w) (q := q) (κ := !κ) (R := R2) (ix := ix) (N := N) (δ := dlG9 G w κ) dd i3
  have nt : (fun e => -((tI9 G w κ (ix e) : Int) : Rat)) = fun e => ((tI9 G w (!κ) (ix e) : Int) : Rat) := by
    funext e
    rw [tI_not, Rat.intCast_neg]
  rw [m1, nt, m2] at key
  have s1 := cP_t N ht
  rw [nt, i3 (fun x => ((tI9 G w κ x : Int) : Rat)), ← cr_t] at s1
  -- into integers
  have s2 : ((cP9 (fun e => ((tI9 G w κ (ix e) : Int) : Rat)) N : Nat) : Int) - ((cP9 (fun e => ((tI9 G w (!κ) (ix e) : Int) : Rat)) N : Nat) : Int) = crG9 G w q κ c - crG9 G w q (!κ) c := by
    refine Rat.intCast_inj.mp ?_
    rw [Rat.intCast_sub, Rat.intCast_sub]
    exact s1
  unfold svG9
  omega
end XSGL
end
section
/-! 99zzzzzzzzzzzzzzzzyzzv.xsgm -/
/-! signature: the coefficients are whole numbers, and not too large -/
def zS9 (f : Nat → Int) : Nat → Int
  | 0 => 0
  | n + 1 => zS9 f n + f n
def zd9 (n i : Nat) : Int := if i = n then 1 else 0
def zn9 (k : Nat) : Int := if k % 2 = 0 then 1 else -1
/-- column j of N_k, in whole numbers -/
def zN9 (n : Nat) (M : Nat → Nat → Int) (E : Nat → Int) (j : Nat) : Nat → Nat → Int
  | 0 => zd9 j
  | k + 1 => fun i => E (k + 1) * zd9 j i - zS9 (fun m => M i m * zN9 n M E j k m) n
def cM9 (M : Nat → Nat → Int) : mQ99 := fun i j => ((M i j : Int) : Rat)
def ab9 (x : Rat) : Rat := if 0 ≤ x then x else -x
section XSGM
variable {n : Nat} {M : Nat → Nat → Int} {E : Nat → Int}
theorem zS_cs {f : Nat → Int} : ∀ n, ((zS9 f n : Int) : Rat) = qS9 (fun i => ((f i : Int) : Rat)) n := by
  intro n
  induction n with
  | zero => rfl
  | succ n ih =>
    show ((zS9 f n + f n : Int) : Rat) = qS9 (fun i => ((f i : Int) : Rat)) n + ((f n : Int) : Rat)
    rw [Rat.intCast_add, ih]
theorem zS_cg {f g : Nat → Int} : ∀ {n : Nat}, (∀ i, i < n → f i = g i) → zS9 f n = zS9 g n := by
  intro n
  induction n with
  | zero => exact fun _ => rfl
  | succ n ih =>
    intro h
    show zS9 f n + f n = zS9 g n + g n
    rw [ih (fun i hi => h i (by omega)), h n (by omega)]
theorem zd_cs {j i : Nat} : ((zd9 j i : Int) : Rat) = dl9 j i := by
  unfold zd9 dl9
  split <;> rfl
theorem zN_cs (j : Nat) : ∀ k i, ((zN9 n M E j k i : Int) : Rat) = qN9 n (cM9 M) (fun k => ((E k : Int) : Rat)) (dl9 j) k i := by
  intro k
  induction k with
  | zero => exact fun i => zd_cs
  | succ k ih =>
    intro i
    show ((E (k + 1) * zd9 j i - zS9 (fun m => M i m * zN9 n M E j k m) n : Int) : Rat) = ((E (k + 1) : Int) : Rat) * dl9 j i - qV9 n (cM9 M) (qN9 n (cM9 M) (fun k => ((E k : Int) : Rat)) (dl9 j) k) i
    rw [Rat.intCast_sub, Rat.intCast_mul, zd_cs, zS_cs]
    refine congrArg (fun s => ((E (k + 1) : Int) : Rat) * dl9 j i - s) (qS_cg (fun m _ => ?_))
    rw [Rat.intCast_mul, ih m]
    rfl
/-- whole numbers -/
theorem isZ_E : ∀ n, ∃ E : Nat → Int, ∀ k, ((E k : Int) : Rat) = qE9 (cM9 M) n k := by
  intro n
  induction n with
  | zero =>
    refine ⟨fun k => if k = 0 then 1 else 0, fun k => ?_⟩
    show (((if k = 0 then 1 else 0 : Int) : Int) : Rat) = if k = 0 then 1 else 0
    split <;> rfl
  | succ n ih =>
    obtain ⟨E, hE⟩ := ih
    have ee : qE9 (cM9 M) n = fun k => ((E k : Int) : Rat) := (funext hE).symm
    have nz : ∀ k i, ∃ z : Int, ((z : Int) : Rat) = qN9 n (cM9 M) (fun k => ((E k : Int) : Rat)) (fun i => cM9 M i n) k i := by
      intro k
      induction k with
      | zero => exact fun i => ⟨M i n, rfl⟩
      | succ k ihk =>
        intro i
        refine ⟨E (k + 1) * M i n - zS9 (fun m => M i m * Classical.choose (ihk m)) n, ?_⟩
        show _ = ((E (k + 1) : Int) : Rat) * cM9 M i n - qV9 n (cM9 M) (qN9 n (cM9 M) (fun k => ((E k : Int) : Rat)) (fun i => cM9 M i n) k) i
        rw [Rat.intCast_sub, Rat.intCast_mul, zS_cs]
        refine congrArg (fun s => ((E (k + 1) : Int) : Rat) * cM9 M i n - s) (qS_cg (fun m _ => ?_))
        rw [Rat.intCast_mul, Classical.choose_spec (ihk m)]
        rfl
    refine ⟨fun k => match k with
      | 0 => 1
      | 1 => E 1 + M n n
      | k + 2 => E (k + 2) + M n n * E (k + 1) - zS9 (fun i => M n i * Classical.choose (nz k i)) n, fun k => ?_⟩
    cases k with
    | zero => rfl
    | succ k =>
      cases k with
      | zero =>
        show ((E 1 + M n n : Int) : Rat) = qE9 (cM9 M) n 1 + cM9 M n n
        rw [Rat.intCast_add, hE]
        rfl
      | succ k =>
        show ((E (k + 2) + M n n * E (k + 1) - zS9 (fun i => M n i * Classical.choose (nz k i)) n : Int) : Rat) = qE9 (cM9 M) n (k + 2) + cM9 M n n * qE9 (cM9 M) n (k + 1) - qD9 n (cM9 M n) (qN9 n (cM9 M) (qE9 (cM9 M) n) (fun i => cM9 M i n) k)
        rw [Rat.intCast_sub, Rat.intCast_add, Rat.intCast_mul, hE, hE, zS_cs, ee]
        refine congrArg (fun s => ((E (k + 2) : Int) : Rat) + cM9 M n n * ((E (k + 1) : Int) : Rat) - s) (qS_cg (fun i _ => ?_))
        rw [Rat.intCast_mul, Classical.choose_spec (nz k i)]
        rfl
/-- the trace, in whole numbers -/
theorem zN_tr (hE : ∀ k, ((E k : Int) : Rat) = qE9 (cM9 M) n k) (k : Nat) : zS9 (fun i => E k - zN9 n M E i k i) n = (k : Int) * E k := by
  refine Rat.intCast_inj.mp ?_
  have ee : (fun k => ((E k : Int) : Rat)) = qE9 (cM9 M) n := funext hE
  rw [zS_cs]
  have e1 : qS9 (fun i => ((E k - zN9 n M E i k i : Int) : Rat)) n = qS9 (fun i => (fun _ => qE9 (cM9 M) n k) i + -qN9 n (cM9 M) (qE9 (cM9 M) n) (dl9 i) k i) n := qS_cg (fun i _ => by
    rw [Rat.intCast_sub, zN_cs, hE, ee]
    exact Rat.sub_eq_add_neg _ _)
  rw [e1, qS_add, qS_neg, tr_E, qS_c, Rat.intCast_mul, hE]
  show (n : Rat) * qE9 (cM9 M) n k + -(((n : Rat) - (k : Rat)) * qE9 (cM9 M) n k) = (k : Rat) * qE9 (cM9 M) n k
  grind
theorem ab_nn (x : Rat) : 0 ≤ ab9 x := by
  unfold ab9
  split
  · assumption
  · grind
theorem ab_le {x b : Rat} (h1 : x ≤ b) (h2 : -x ≤ b) : ab9 x ≤ b := by
  unfold ab9
  split
  · exact h1
  · exact h2
theorem ab_ge (x : Rat) : x ≤ ab9 x ∧ -x ≤ ab9 x := by
  unfold ab9
  split <;> grind
theorem abQ_add (x y : Rat) : ab9 (x + y) ≤ ab9 x + ab9 y := by
  have a := ab_ge x
  have b := ab_ge y
  exact ab_le (by grind) (by grind)
theorem ab_mul (x y : Rat) : ab9 (x * y) = ab9 x * ab9 y := by
  have key : ∀ x y : Rat, 0 ≤ x → 0 ≤ y → ab9 (x * y) = x * y := fun x y h1 h2 => if_pos (Rat.mul_nonneg h1 h2)
  have ng : ∀ x : Rat, ab9 (-x) = ab9 x := fun x => by
    unfold ab9
    by_cases h : 0 ≤ x
    · by_cases h2 : 0 ≤ -x
      · rw [if_pos h, if_pos h2]
        grind
      · rw [if_pos h, if_neg h2]
        grind
    · rw [if_neg h, if_pos (by grind)]
  rcases Rat.le_total (a := 0) (b := x) with h1 | h1 <;> rcases Rat.le_total (a := 0) (b := y) with h2 | h2
  · rw [key x y h1 h2, show ab9 x = x from if_pos h1, show ab9 y = y from if_pos h2]
  · have h3 : 0 ≤ -y := by grind
    rw [← ng y, ← ng (x * y), show -(x * y) = x * -y by grind, key x (-y) h1 h3, show ab9 x = x from if_pos h1, show ab9 (-y) = -y from if_pos h3]
  · have h3 : 0 ≤ -x := by grind
    rw [← ng x, ← ng (x * y), show -(x * y) = -x * y by grind, key (-x) y h3 h2, show ab9 (-x) = -x from if_pos h3, show ab9 y = y from if_pos h2]
  · have h3 : 0 ≤ -x := by grind
    have h4 : 0 ≤ -y := by grind
    rw [← ng x, ← ng y, show x * y = -x * -y by grind, key (-x) (-y) h3 h4, show ab9 (-x) = -x from if_pos h3, show ab9 (-y) = -y from if_pos h4]
theorem qS_le {f g : Nat → Rat} : ∀ {n : Nat}, (∀ i, i < n → f i ≤ g i) → qS9 f n ≤ qS9 g n := by
  intro n
  induction n with
  | zero => exact fun _ => Rat.le_refl
  | succ n ih =>
    intro h
    have a := ih (fun i hi => h i (by omega))
    have b := h n (by omega)
    show qS9 f n + f n ≤ qS9 g n + g n
    grind
theorem ab_sum {f : Nat → Rat} : ∀ n, ab9 (qS9 f n) ≤ qS9 (fun i => ab9 (f i)) n := by
  intro n
  induction n with
  | zero =>
    show ab9 0 ≤ 0
    exact ab_le Rat.le_refl (by grind)
  | succ n ih =>
    have a := abQ_add (qS9 f n) (f n)
    show ab9 (qS9 f n + f n) ≤ qS9 (fun i => ab9 (f i)) n + ab9 (f n)
    grind
theorem mul_le9 {a b c d : Rat} (h1 : a ≤ b) (h2 : c ≤ d) (h3 : 0 ≤ c) (h4 : 0 ≤ b) : a * c ≤ b * d := by
  have x := Rat.mul_le_mul_of_nonneg_right h1 h3
  have y := Rat.mul_le_mul_of_nonneg_left h2 h4
  grind
theorem pw_add9 (s : Rat) (a : Nat) : ∀ b, s ^ (a + b) = s ^ a * s ^ b := by
  intro b
  induction b with
  | zero => rw [Nat.add_zero, Rat.pow_zero, Rat.mul_one]
  | succ b ih => rw [show a + (b + 1) = a + b + 1 from rfl, Rat.pow_succ, ih, Rat.pow_succ, Rat.mul_assoc]
/-- powers of a matrix whose rows are small -/
theorem qA_bd {A : mQ99} {s : Rat} (hs : 0 ≤ s) (h : ∀ i, i < n → qS9 (fun j => ab9 (A i j)) n ≤ s) {w : Nat → Rat} (hw : ∀ i, i < n → ab9 (w i) ≤ 1) : ∀ l i, i < n → ab9 (qA9 n A w l i) ≤ s ^ l := by
  intro l
  induction l with
  | zero =>
    intro i hi
    rw [Rat.pow_zero]
    exact hw i hi
  | succ l ih =>
    intro i hi
    show ab9 (qS9 (fun k => A i k * qA9 n A w l k) n) ≤ s ^ (l + 1)
    have a1 := ab_sum (f := fun k => A i k * qA9 n A w l k) n
    have a2 : qS9 (fun k => ab9 (A i k * qA9 n A w l k)) n ≤ qS9 (fun k => s ^ l * ab9 (A i k)) n := qS_le (fun k hk => by
      rw [ab_mul]
      have := Rat.mul_le_mul_of_nonneg_left (ih k hk) (ab_nn (A i k))
      grind)
    rw [qS_mul] at a2
    have a3 := Rat.mul_le_mul_of_nonneg_left (h i hi) (show 0 ≤ s ^ l from Rat.pow_nonneg hs)
    rw [Rat.pow_succ]
    grind
theorem ab_1 (x : Rat) (h : x = 1 ∨ x = -1 ∨ x = 0) : ab9 x ≤ 1 := by
  rcases h with h | h | h <;> rw [h] <;> exact ab_le (by decide) (by decide)
theorem qT_bd {A : mQ99} {s t : Rat} (hs : 0 ≤ s) (h : ∀ i, i < n → qS9 (fun j => ab9 (A i j)) n ≤ s) (ht : qS9 (fun i => qS9 (fun j => ab9 (A i j)) n) n ≤ t) (l : Nat) : ab9 (qT9 n A (l + 1)) ≤ t * s ^ l := by
  unfold qT9
  have a1 := ab_sum (f := fun c => qA9 n A (dl9 c) (l + 1) c) n
  have a2 : qS9 (fun c => ab9 (qA9 n A (dl9 c) (l + 1) c)) n ≤ qS9 (fun c => s ^ l * qS9 (fun j => ab9 (A c j)) n) n := qS_le (fun c hc => by
    show ab9 (qS9 (fun k => A c k * qA9 n A (dl9 c) l k) n) ≤ _
    have b1 := ab_sum (f := fun k => A c k * qA9 n A (dl9 c) l k) n
    have b2 : qS9 (fun k => ab9 (A c k * qA9 n A (dl9 c) l k)) n ≤ qS9 (fun k => s ^ l * ab9 (A c k)) n := qS_le (fun k hk => by
      rw [ab_mul]
      have := Rat.mul_le_mul_of_nonneg_left (qA_bd hs h (w := dl9 c) (fun i _ => ab_1 _ (by unfold dl9; split <;> simp)) l k hk) (ab_nn (A c k))
      grind)
    rw [qS_mul] at b2
    grind)
  rw [qS_mul] at a2
  have a3 := Rat.mul_le_mul_of_nonneg_left ht (show 0 ≤ s ^ l from Rat.pow_nonneg hs)
  grind
/-- the coefficients -/
theorem qE_bd {A : mQ99} {s : Rat} (hs : 0 ≤ s) (h : ∀ i, i < n → qS9 (fun j => ab9 (A i j)) n ≤ s) (ht : qS9 (fun i => qS9 (fun j => ab9 (A i j)) n) n ≤ 2 * s) : ∀ k, ab9 (qE9 A n k) ≤ ((k : Rat) + 1) * s ^ k := by
  intro k
  induction k using Nat.strongRecOn with
  | _ k ih =>
    cases k with
    | zero =>
      rw [qE_0, Rat.pow_zero]
      refine ab_le ?_ ?_
      · show (1 : Rat) ≤ (((0 : Nat) : Rat) + 1) * 1
        rw [show ((0 : Nat) : Rat) = 0 from rfl]
        grind
      · show -(1 : Rat) ≤ (((0 : Nat) : Rat) + 1) * 1
        rw [show ((0 : Nat) : Rat) = 0 from rfl]
        grind
    | succ k =>
      have a := tr_E (A := A) n (k + 1)
      rw [tr_N qE_0, qS_hd, show sn9 0 = 1 from rfl, tr_0, cs_s] at a
      have b : qS9 (fun l => sn9 (l + 1) * qE9 A n (k + 1 - (l + 1)) * qT9 n A (l + 1)) (k + 1) = qS9 (fun l => sn9 (l + 1) * qE9 A n (k - l) * qT9 n A (l + 1)) (k + 1) := qS_cg (fun l _ => by rw [show k + 1 - (l + 1) = k - l by omega])
      rw [b, show k + 1 - 0 = k + 1 by omega] at a
      have e : ((k : Rat) + 1) * qE9 A n (k + 1) = -qS9 (fun l => sn9 (l + 1) * qE9 A n (k - l) * qT9 n A (l + 1)) (k + 1) := by grind
      have hk : (0 : Rat) < (k : Rat) + 1 := by
        rw [← cs_s]
        exact Rat.natCast_pos.mpr (by omega)
      have c1 : ab9 (qS9 (fun l => sn9 (l + 1) * qE9 A n (k - l) * qT9 n A (l + 1)) (k + 1)) ≤ qS9 (fun l => (2 * s ^ (k + 1)) * (((k - l : Nat) : Rat) + 1)) (k + 1) := by
        refine Rat.le_trans (ab_sum _) (qS_le (fun l hl => ?_))
        rw [ab_mul, ab_mul]
        have d1 := ih (k - l) (by omega)
        have d2 := qT_bd hs h ht l
        have d3 : ab9 (sn9 (l + 1)) ≤ 1 := ab_1 _ (by unfold sn9; split <;> simp)
        have d4 := mul_le9 d3 d1 (ab_nn _) (by decide)
        have d5 := mul_le9 d4 d2 (ab_nn _) (by
          have z1 : 0 ≤ s ^ (k - l) := Rat.pow_nonneg hs
          have z2 : (0 : Rat) ≤ ((k - l : Nat) : Rat) := Rat.natCast_nonneg
          have z3 := Rat.mul_nonneg (show (0 : Rat) ≤ ((k - l : Nat) : Rat) + 1 by grind) z1
          grind)
        have d6 : s ^ (k + 1) = s ^ (k - l) * (s * s ^ l) := by
          rw [show k + 1 = (k - l) + (l + 1) by omega, pw_add9, Rat.pow_succ]
          grind
        rw [d6]
        grind
      have c2 : ∀ m : Nat, m ≤ k → qS9 (fun l => ((k - l : Nat) : Rat) + 1) (m + 1) * 2 = ((m : Rat) + 1) * (2 * (k : Rat) + 2 - (m : Rat)) := by
        intro m
        induction m with
        | zero =>
          intro _
          show ((0 : Rat) + (((k - 0 : Nat) : Rat) + 1)) * 2 = (((0 : Nat) : Rat) + 1) * (2 * (k : Rat) + 2 - ((0 : Nat) : Rat))
          rw [show k - 0 = k by omega, show ((0 : Nat) : Rat) = 0 from rfl]
          grind
        | succ m ihm =>
          intro hm
          have f := ihm (by omega)
          show (qS9 (fun l => ((k - l : Nat) : Rat) + 1) (m + 1) + (((k - (m + 1) : Nat) : Rat) + 1)) * 2 = _
          have e5 : ((k - (m + 1) : Nat) : Rat) = (k : Rat) - ((m : Rat) + 1) := by
            have e6 : ((k - (m + 1) + (m + 1) : Nat) : Rat) = (k : Rat) := by rw [show k - (m + 1) + (m + 1) = k by omega]
            rw [← cs_s]
            have e7 : ((k - (m + 1) + (m + 1) : Nat) : Rat) = ((k - (m + 1) : Nat) : Rat) + ((m + 1 : Nat) : Rat) := Rat.natCast_add _ _
            grind
          rw [e5, cs_s]
          grind
      have c3 := c2 k (Nat.le_refl k)
      rw [qS_mul] at c1
      have c4 : ((k : Rat) + 1) * ab9 (qE9 A n (k + 1)) = ab9 (qS9 (fun l => sn9 (l + 1) * qE9 A n (k - l) * qT9 n A (l + 1)) (k + 1)) := by
        have f1 : ab9 (((k : Rat) + 1) * qE9 A n (k + 1)) = ab9 (qS9 (fun l => sn9 (l + 1) * qE9 A n (k - l) * qT9 n A (l + 1)) (k + 1)) := by
          rw [e, show -qS9 (fun l => sn9 (l + 1) * qE9 A n (k - l) * qT9 n A (l + 1)) (k + 1) = -1 * qS9 (fun l => sn9 (l + 1) * qE9 A n (k - l) * qT9 n A (l + 1)) (k + 1) by grind, ab_mul, show ab9 (-1) = 1 by unfold ab9; rw [if_neg (by decide)]; grind, Rat.one_mul]
        rw [ab_mul, show ab9 ((k : Rat) + 1) = (k : Rat) + 1 from if_pos (Rat.le_of_lt hk)] at f1
        exact f1
      rw [cs_s]
      refine Rat.le_of_mul_le_mul_left (c := (k : Rat) + 1) ?_ hk
      rw [c4]
      refine Rat.le_trans c1 ?_
      have c5 : ∀ p Q κ : Rat, Q * 2 = (κ + 1) * (2 * κ + 2 - κ) → 2 * p * Q = (κ + 1) * ((κ + 1 + 1) * p) := fun p Q κ h => by grind
      rw [c5 _ _ _ c3]
      exact Rat.le_refl
end XSGM
end
