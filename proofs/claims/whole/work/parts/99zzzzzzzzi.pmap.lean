/-! labels of darts: how many values; Euler's bound; two colours -/
def pm_dv (f : Nat → Nat) (X : List Nat) : Prop := (X.map f).Nodup
def pm_mg (f : Nat → Nat) (p q : Nat) : Nat → Nat := fun d => if f d = p then q else f d
def pm_sp (f : Nat → Nat) (P : Nat → Bool) (p : Nat) : Nat → Nat := fun d => 2 * f d + (if P d = true ∧ f d = p then 1 else 0)
theorem pm_mk {f : Nat → Nat} {X : List Nat} (hn : X.Nodup) (h : ∀ x y, x ∈ X → y ∈ X → f x = f y → x = y) : pm_dv f X := nodup_map hn h
theorem pm_inj {f : Nat → Nat} : ∀ {X : List Nat}, pm_dv f X → ∀ x y, x ∈ X → y ∈ X → f x = f y → x = y
  | [], _, x, _, hx, _, _ => by cases hx
  | a :: X, h, x, y, hx, hy, e => by
    unfold pm_dv at h
    rw [List.map_cons] at h
    obtain ⟨h1, h2⟩ := List.nodup_cons.mp h
    rcases List.mem_cons.mp hx with e1 | hx1
    · rcases List.mem_cons.mp hy with e2 | hy1
      · rw [e1, e2]
      · exact absurd (List.mem_map.mpr ⟨y, hy1, by rw [← e1]; exact e.symm⟩) h1
    · rcases List.mem_cons.mp hy with e2 | hy1
      · exact absurd (List.mem_map.mpr ⟨x, hx1, by rw [← e2]; exact e⟩) h1
      · exact pm_inj h2 x y hx1 hy1 e
theorem pm_nd {f : Nat → Nat} : ∀ {X : List Nat}, pm_dv f X → X.Nodup
  | [], _ => List.nodup_nil
  | a :: X, h => by
    unfold pm_dv at h
    rw [List.map_cons] at h
    obtain ⟨h1, h2⟩ := List.nodup_cons.mp h
    exact List.nodup_cons.mpr ⟨fun h9 => h1 (List.mem_map.mpr ⟨a, h9, rfl⟩), pm_nd h2⟩
theorem pm_fil {f : Nat → Nat} {X : List Nat} (q : Nat → Bool) (h : pm_dv f X) : pm_dv f (X.filter q) := pm_mk ((pm_nd h).filter _) (fun x y hx hy e => pm_inj h x y (List.mem_filter.mp hx).1 (List.mem_filter.mp hy).1 e)
theorem pm_one {f : Nat → Nat} {X : List Nat} (h : pm_dv f X) (p : Nat) : (X.filter (fun x => decide (f x = p))).length ≤ 1 := by
  have h1 : ((X.filter (fun x => decide (f x = p))).map f).Nodup := pm_fil _ h
  have := nodup_le _ [p] h1 (fun a ha => by
    obtain ⟨x, hx, e⟩ := List.mem_map.mp ha
    have := of_decide_eq_true (List.mem_filter.mp hx).2
    rw [← e, this]
    exact List.mem_singleton.mpr rfl)
  rw [List.length_map] at this
  exact this
theorem pm_rest {f : Nat → Nat} {X : List Nat} (h : pm_dv f X) (p : Nat) : X.length ≤ (X.filter (fun x => !decide (f x = p))).length + 1 := by
  have h1 := filt_sum (fun x => decide (f x = p)) X
  have h2 := pm_one h p
  omega
theorem pm_mg_dv {f : Nat → Nat} {X : List Nat} (h : pm_dv f X) (p q : Nat) : ∃ X', (∀ x, x ∈ X' → x ∈ X) ∧ X.length ≤ X'.length + 1 ∧ pm_dv (pm_mg f p q) X' := by
  refine ⟨X.filter (fun x => !decide (f x = p)), fun x hx => (List.mem_filter.mp hx).1, pm_rest h p, ?_⟩
  have key : ∀ x, x ∈ X.filter (fun x => !decide (f x = p)) → pm_mg f p q x = f x := fun x hx => by
    have := (List.mem_filter.mp hx).2
    have h2 : ¬ f x = p := fun e => by rw [decide_eq_true e] at this; cases this
    exact if_neg h2
  refine pm_mk ((pm_nd h).filter _) (fun x y hx hy e => ?_)
  rw [key x hx, key y hy] at e
  exact pm_inj h x y (List.mem_filter.mp hx).1 (List.mem_filter.mp hy).1 e
theorem pm_sp_dv {f : Nat → Nat} {X : List Nat} {P : Nat → Bool} {a b : Nat} (h : pm_dv f X) (ha : P a = true) (hb : P b = false) (e : f a = f b) : ∃ X', (∀ x, x ∈ X' → x = a ∨ x = b ∨ x ∈ X) ∧ X.length + 1 ≤ X'.length ∧ pm_dv (pm_sp f P (f a)) X' := by
  have hr := pm_rest h (f a)
  refine ⟨a :: b :: X.filter (fun x => !decide (f x = f a)), fun x hx => ?_, by rw [List.length_cons, List.length_cons]; omega, ?_⟩
  · rcases List.mem_cons.mp hx with h9 | hx
    · exact Or.inl h9
    · rcases List.mem_cons.mp hx with h9 | hx
      · exact Or.inr (Or.inl h9)
      · exact Or.inr (Or.inr (List.mem_filter.mp hx).1)
  have ka : pm_sp f P (f a) a = 2 * f a + 1 := by
    show 2 * f a + (if P a = true ∧ f a = f a then 1 else 0) = _
    rw [if_pos ⟨ha, rfl⟩]
  have kb : pm_sp f P (f a) b = 2 * f a := by
    show 2 * f b + (if P b = true ∧ f b = f a then 1 else 0) = _
    rw [if_neg (fun h9 => by rw [hb] at h9; cases h9.1), e]
    rfl
  have kx : ∀ x, x ∈ X.filter (fun x => !decide (f x = f a)) → pm_sp f P (f a) x = 2 * f x ∧ f x ≠ f a ∧ x ∈ X := fun x hx => by
    have := (List.mem_filter.mp hx).2
    have h2 : ¬ f x = f a := fun e => by rw [decide_eq_true e] at this; cases this
    refine ⟨?_, h2, (List.mem_filter.mp hx).1⟩
    show 2 * f x + (if P x = true ∧ f x = f a then 1 else 0) = _
    rw [if_neg (fun h9 => h2 h9.2)]
    rfl
  show (pm_sp f P (f a) a :: pm_sp f P (f a) b :: (X.filter (fun x => !decide (f x = f a))).map (pm_sp f P (f a))).Nodup
  rw [ka, kb]
  refine List.nodup_cons.mpr ⟨fun h9 => ?_, List.nodup_cons.mpr ⟨fun h9 => ?_, ?_⟩⟩
  · rcases List.mem_cons.mp h9 with h8 | h8
    · omega
    · obtain ⟨x, hx, e9⟩ := List.mem_map.mp h8
      rw [(kx x hx).1] at e9
      omega
  · obtain ⟨x, hx, e9⟩ := List.mem_map.mp h9
    obtain ⟨k1, k2, -⟩ := kx x hx
    rw [k1] at e9
    exact k2 (by omega)
  · refine pm_mk ((pm_nd h).filter _) (fun x y hx hy e9 => ?_)
    obtain ⟨k1, -, k3⟩ := kx x hx
    obtain ⟨l1, -, l3⟩ := kx y hy
    rw [k1, l1] at e9
    exact pm_inj h x y k3 l3 (by omega)
/-! pairs of darts joined -/
def pm_al : List (Nat × Nat) → Nat → Nat
  | [], d => d
  | (a, b) :: E, d => if d = a then b else if d = b then a else pm_al E d
def pm_cl (X0 : Nat → Nat) : List (Nat × Nat) → Nat → Nat
  | [] => X0
  | (a, b) :: E => pm_mg (pm_cl X0 E) (pm_cl X0 E a) (pm_cl X0 E b)
def pm_ok (n : Nat) : List (Nat × Nat) → Prop
  | [] => True
  | (a, b) :: E => a < n ∧ b < n ∧ a ≠ b ∧ (∀ p : Nat × Nat, p ∈ E → p.1 ≠ a ∧ p.2 ≠ a ∧ p.1 ≠ b ∧ p.2 ≠ b) ∧ pm_ok n E
theorem pm_al_fix {d : Nat} : ∀ {E : List (Nat × Nat)}, (∀ p : Nat × Nat, p ∈ E → p.1 ≠ d ∧ p.2 ≠ d) → pm_al E d = d
  | [], _ => rfl
  | (a, b) :: E, h => by
    have h1 := h (a, b) List.mem_cons_self
    show (if d = a then b else if d = b then a else pm_al E d) = d
    rw [if_neg (fun e => h1.1 e.symm), if_neg (fun e => h1.2 e.symm)]
    exact pm_al_fix (fun p hp => h p (List.mem_cons_of_mem _ hp))
theorem pm_al_lt {n d : Nat} : ∀ {E : List (Nat × Nat)}, pm_ok n E → d < n → pm_al E d < n
  | [], _, h => h
  | (a, b) :: E, hE, h => by
    show (if d = a then b else if d = b then a else pm_al E d) < n
    split
    · exact hE.2.1
    · split
      · exact hE.1
      · exact pm_al_lt hE.2.2.2.2 h
theorem pm_al_inv {n : Nat} : ∀ {E : List (Nat × Nat)}, pm_ok n E → ∀ d, pm_al E (pm_al E d) = d
  | [], _, _ => rfl
  | (a, b) :: E, hE, d => by
    have ih := pm_al_inv hE.2.2.2.2
    have fa : pm_al E a = a := pm_al_fix (fun p hp => ⟨(hE.2.2.2.1 p hp).1, (hE.2.2.2.1 p hp).2.1⟩)
    have fb : pm_al E b = b := pm_al_fix (fun p hp => ⟨(hE.2.2.2.1 p hp).2.2.1, (hE.2.2.2.1 p hp).2.2.2⟩)
    have u : ∀ d, pm_al ((a, b) :: E) d = if d = a then b else if d = b then a else pm_al E d := fun _ => rfl
    by_cases h1 : d = a
    · rw [u d, if_pos h1, u b, if_neg (fun e => hE.2.2.1 e.symm), if_pos rfl, h1]
    · by_cases h2 : d = b
      · rw [u d, if_neg h1, if_pos h2, u a, if_pos rfl, h2]
      · rw [u d, if_neg h1, if_neg h2, u _, if_neg (fun e => h1 ?_), if_neg (fun e => h2 ?_), ih d]
        · rw [← ih d, e, fb]
        · rw [← ih d, e, fa]
theorem pm_mg_e {f : Nat → Nat} {p q x y : Nat} (h : f x = f y) : pm_mg f p q x = pm_mg f p q y := by
  unfold pm_mg
  rw [h]
theorem pm_mg_m {f : Nat → Nat} {a b : Nat} : pm_mg f (f a) (f b) a = pm_mg f (f a) (f b) b := by
  unfold pm_mg
  rw [if_pos rfl]
  split <;> rfl
/-- a map of darts about crossings: at most K rounds, a label X0 with K values -/
def pm_rs (n K : Nat) (rot X0 : Nat → Nat) : Prop := (∀ d, d < n → rot d < n) ∧ (∀ d e, d < n → e < n → rot d = rot e → d = e) ∧ (∀ d, d < n → X0 (rot d) = X0 d) ∧ (∀ f : Nat → Nat, (∀ d, d < n → f (rot d) = f d) → ∀ X : List Nat, (∀ x, x ∈ X → x < n) → pm_dv f X → X.length ≤ K) ∧ ∃ Y : List Nat, (∀ x, x ∈ Y → x < n) ∧ pm_dv X0 Y ∧ K ≤ Y.length
section PME
variable {n K : Nat} {rot X0 : Nat → Nat}
theorem pm_cl_rot (hr : pm_rs n K rot X0) : ∀ {E : List (Nat × Nat)} {d : Nat}, d < n → pm_cl X0 E (rot d) = pm_cl X0 E d
  | [], d, h => hr.2.2.1 d h
  | (a, b) :: E, d, h => pm_mg_e (pm_cl_rot hr h)
theorem pm_cl_al : ∀ {E : List (Nat × Nat)} {d : Nat}, pm_cl X0 E (pm_al E d) = pm_cl X0 E d
  | [], d => rfl
  | (a, b) :: E, d => by
    show pm_mg (pm_cl X0 E) (pm_cl X0 E a) (pm_cl X0 E b) (if d = a then b else if d = b then a else pm_al E d) = pm_mg (pm_cl X0 E) (pm_cl X0 E a) (pm_cl X0 E b) d
    by_cases h1 : d = a
    · rw [if_pos h1, h1]
      exact pm_mg_m.symm
    · rw [if_neg h1]
      by_cases h2 : d = b
      · rw [if_pos h2, h2]
        exact pm_mg_m
      · rw [if_neg h2]
        exact pm_mg_e pm_cl_al
theorem pm_ph_lt (hr : pm_rs n K rot X0) {E : List (Nat × Nat)} (hE : pm_ok n E) {d : Nat} (h : d < n) : rot (pm_al E d) < n := hr.1 _ (pm_al_lt hE h)
theorem pm_ph_inj (hr : pm_rs n K rot X0) {E : List (Nat × Nat)} (hE : pm_ok n E) {d e : Nat} (h : d < n) (h2 : e < n) (q : rot (pm_al E d) = rot (pm_al E e)) : d = e := by
  have := hr.2.1 _ _ (pm_al_lt hE h) (pm_al_lt hE h2) q
  rw [← pm_al_inv hE d, this, pm_al_inv hE e]
theorem pm_eul (hr : pm_rs n K rot X0) : ∀ (E : List (Nat × Nat)), pm_ok n E → ∀ f : Nat → Nat, (∀ d, d < n → f (rot (pm_al E d)) = f d) → ∀ X : List Nat, (∀ x, x ∈ X → x < n) → pm_dv f X → ∃ Y : List Nat, (∀ x, x ∈ Y → x < n) ∧ pm_dv (pm_cl X0 E) Y ∧ X.length + K ≤ E.length + 2 * Y.length
  | [], _, f, hf, X, hX, hv => by
    obtain ⟨Y, y1, y2, y3⟩ := hr.2.2.2.2
    have := hr.2.2.2.1 f hf X hX hv
    refine ⟨Y, y1, y2, ?_⟩
    rw [List.length_nil]
    omega
  | (a, b) :: E, hE, f, hf, X, hX, hv => by
    obtain ⟨ha, hb, hab, hd, hE'⟩ := hE
    have fa : pm_al E a = a := pm_al_fix (fun p hp => ⟨(hd p hp).1, (hd p hp).2.1⟩)
    have fb : pm_al E b = b := pm_al_fix (fun p hp => ⟨(hd p hp).2.2.1, (hd p hp).2.2.2⟩)
    have qa : rot (pm_al ((a, b) :: E) a) = rot (pm_al E b) := by
      rw [fb]
      show rot (if a = a then b else _) = rot b
      rw [if_pos rfl]
    have qb : rot (pm_al ((a, b) :: E) b) = rot (pm_al E a) := by
      rw [fa]
      show rot (if b = a then b else if b = b then a else _) = rot a
      rw [if_neg (fun e => hab e.symm), if_pos rfl]
    have qo : ∀ s, s ≠ a → s ≠ b → rot (pm_al ((a, b) :: E) s) = rot (pm_al E s) := fun s h1 h2 => by
      show rot (if s = a then b else if s = b then a else pm_al E s) = _
      rw [if_neg h1, if_neg h2]
    by_cases hc : pm_cl X0 E a = pm_cl X0 E b
    · have hf3 : ∀ d, d < n → pm_mg f (f a) (f b) (rot (pm_al E d)) = pm_mg f (f a) (f b) d := fun d h => by
        by_cases h1 : d = a
        · rw [h1, ← qb, pm_mg_e (hf b hb)]
          exact pm_mg_m.symm
        · by_cases h2 : d = b
          · rw [h2, ← qa, pm_mg_e (hf a ha)]
            exact pm_mg_m
          · rw [← qo d h1 h2]
            exact pm_mg_e (hf d h)
      obtain ⟨X3, x1, x2, x3⟩ := pm_mg_dv hv (f a) (f b)
      obtain ⟨Y, y1, y2, y3⟩ := pm_eul hr E hE' _ hf3 X3 (fun x hx => hX x (x1 x hx)) x3
      refine ⟨Y, y1, pm_mk (pm_nd y2) (fun x y hx hy e => pm_inj y2 x y hx hy ?_), by rw [List.length_cons]; omega⟩
      have ec : ∀ d, pm_cl X0 ((a, b) :: E) d = pm_cl X0 E d := fun d => by
        show (if pm_cl X0 E d = pm_cl X0 E a then pm_cl X0 E b else pm_cl X0 E d) = _
        split
        · rename_i h9
          rw [h9, hc]
        · rfl
      rw [ec, ec] at e
      exact e
    · obtain ⟨u1, u2⟩ := untw (D := fun s => s < n) (N := n) (a := a) (b := b) (p := fun s => rot (pm_al E s)) (q := fun s => rot (pm_al ((a, b) :: E) s)) (L := f) (C := pm_cl X0 E) (fun s hs => hs) (fun s hs => pm_ph_lt hr hE' hs) (fun s t hs ht e => pm_ph_inj hr hE' hs ht e) ha hb qo qa qb (fun s hs => (pm_cl_rot hr (pm_al_lt hE' hs)).trans pm_cl_al) hc hf
      obtain ⟨X2, x1, x2, x3⟩ := pm_sp_dv (P := fun d => decide (pm_cl X0 E d = pm_cl X0 E a)) (a := a) (b := b) hv (decide_eq_true rfl) (decide_eq_false (fun e => hc e.symm)) u1
      have hf2 : ∀ d, d < n → pm_sp f (fun d => decide (pm_cl X0 E d = pm_cl X0 E a)) (f a) (rot (pm_al E d)) = pm_sp f (fun d => decide (pm_cl X0 E d = pm_cl X0 E a)) (f a) d := fun d h => by
        have e1 : pm_cl X0 E (rot (pm_al E d)) = pm_cl X0 E d := (pm_cl_rot hr (pm_al_lt hE' h)).trans pm_cl_al
        have e2 := u2 d h
        unfold pm_sp
        dsimp only at e2 ⊢
        simp only [e1, e2]
      obtain ⟨Y, y1, y2, y3⟩ := pm_eul hr E hE' _ hf2 X2 (fun x hx => by
        rcases x1 x hx with rfl | rfl | h9
        · exact ha
        · exact hb
        · exact hX x h9) x3
      obtain ⟨Y2, z1, z2, z3⟩ := pm_mg_dv y2 (pm_cl X0 E a) (pm_cl X0 E b)
      exact ⟨Y2, fun x hx => y1 x (z1 x hx), z3, by rw [List.length_cons]; omega⟩
end PME
/-! parts -/
def pm_cn (n : Nat) (rot al : Nat → Nat) (a d : Nat) : Prop := ∀ P : Nat → Prop, P a → (∀ e, e < n → P e → P (rot e)) → (∀ e, e < n → P e → P (al e)) → P d
section PMC
variable {n K : Nat} {rot X0 al : Nat → Nat}
theorem cn_rf (a : Nat) : pm_cn n rot al a a := fun _ h _ _ => h
theorem cn_tr {a b d : Nat} (h : pm_cn n rot al a b) (h2 : pm_cn n rot al b d) : pm_cn n rot al a d := fun P h0 h3 h4 => h2 P (h P h0 h3 h4) h3 h4
theorem cn_r {a d : Nat} (hd : d < n) (h : pm_cn n rot al a d) : pm_cn n rot al a (rot d) := fun P h0 h3 h4 => h3 d hd (h P h0 h3 h4)
theorem cn_a {a d : Nat} (hd : d < n) (h : pm_cn n rot al a d) : pm_cn n rot al a (al d) := fun P h0 h3 h4 => h4 d hd (h P h0 h3 h4)
theorem cn_lt (hr : ∀ d, d < n → rot d < n) (ha : ∀ d, d < n → al d < n) {a d : Nat} (h0 : a < n) (h : pm_cn n rot al a d) : d < n := h (fun d => d < n) h0 (fun e he _ => hr e he) (fun e he _ => ha e he)
theorem cn_lab {g : Nat → Nat} (h1 : ∀ d, d < n → g (rot d) = g d) (h2 : ∀ d, d < n → g (al d) = g d) {a d : Nat} (h : pm_cn n rot al a d) : g d = g a := h (fun e => g e = g a) rfl (fun e he hp => (h1 e he).trans hp) (fun e he hp => (h2 e he).trans hp)
theorem cn_sy (hr : ∀ d, d < n → rot d < n) (hi : ∀ d e, d < n → e < n → rot d = rot e → d = e) (ha : ∀ d, d < n → al d < n) (hai : ∀ d, al (al d) = d) {a d : Nat} (h0 : a < n) (h : pm_cn n rot al a d) : pm_cn n rot al d a := by
  have key := h (fun e => e < n ∧ pm_cn n rot al e a) ⟨h0, cn_rf a⟩ (fun e he hp => ⟨hr e he, cn_tr ?_ hp.2⟩) (fun e he hp => ⟨ha e he, cn_tr ?_ hp.2⟩)
  · exact key.2
  · obtain ⟨k, hk⟩ := itf_back (f := rot) (D := fun s => s < n) (N := n) (fun s hs => hs) hr (fun s t hs ht => hi s t hs ht) he
    have up : ∀ j, pm_cn n rot al (rot e) (itf rot (j + 1) e) := by
      intro j
      induction j with
      | zero => exact cn_rf _
      | succ j ih => exact cn_r (itf_in (D := fun s => s < n) hr he (j + 1)) ih
    have := up k
    rw [hk] at this
    exact this
  · have := cn_a (rot := rot) (al := al) (ha e he) (cn_rf (n := n) (al e))
    rw [hai e] at this
    exact this
/-- every dart is joined to one of R -/
def pm_cv (n : Nat) (rot al : Nat → Nat) (R : List Nat) : Prop := ∀ d, d < n → ∃ r, r ∈ R ∧ r < n ∧ pm_cn n rot al r d
theorem pm_cv_le {R : List Nat} {g : Nat → Nat} (hR : pm_cv n rot al R) (h1 : ∀ d, d < n → g (rot d) = g d) (h2 : ∀ d, d < n → g (al d) = g d) {Y : List Nat} (hY : ∀ x, x ∈ Y → x < n) (hv : pm_dv g Y) : Y.length ≤ R.length := by
  have := nodup_le (Y.map g) (R.map g) hv (fun a ha => by
    obtain ⟨y, hy, e⟩ := List.mem_map.mp ha
    obtain ⟨r, r1, -, r2⟩ := hR y (hY y hy)
    rw [← e, cn_lab h1 h2 r2]
    exact List.mem_map.mpr ⟨r, r1, rfl⟩)
  rw [List.length_map, List.length_map] at this
  exact this
theorem pm_euler (hr : pm_rs n K rot X0) {E : List (Nat × Nat)} (hE : pm_ok n E) {R : List Nat} (hR : pm_cv n rot (pm_al E) R) {f : Nat → Nat} (hf : ∀ d, d < n → f (rot (pm_al E d)) = f d) {X : List Nat} (hX : ∀ x, x ∈ X → x < n) (hv : pm_dv f X) : X.length + K ≤ E.length + 2 * R.length := by
  obtain ⟨Y, y1, y2, y3⟩ := pm_eul hr E hE f hf X hX hv
  have := pm_cv_le hR (fun d hd => pm_cl_rot hr hd) (fun d hd => pm_cl_al) y1 y2
  omega
end PMC
