section
/-! 99zzzzzzzzj.pdbl -/
/-! two colours: the map of darts twice over -/
def pm_e2 : List (Nat × Nat) → List (Nat × Nat)
  | [] => []
  | (a, b) :: E => (2 * a, 2 * b + 1) :: (2 * a + 1, 2 * b) :: pm_e2 E
def pm_r2 (rot : Nat → Nat) (s : Nat) : Nat := 2 * rot (s / 2) + (1 - s % 2)
theorem pm_e2_len : ∀ E : List (Nat × Nat), (pm_e2 E).length = 2 * E.length
  | [] => rfl
  | (a, b) :: E => by
    show (pm_e2 E).length + 1 + 1 = 2 * (E.length + 1)
    have := pm_e2_len E
    omega
theorem pm_e2_in {p : Nat × Nat} : ∀ {E : List (Nat × Nat)}, p ∈ pm_e2 E → ∃ q, q ∈ E ∧ p.1 / 2 = q.1 ∧ p.2 / 2 = q.2
  | [], h => by cases h
  | (a, b) :: E, h => by
    rcases List.mem_cons.mp h with h9 | h9
    · exact ⟨(a, b), List.mem_cons_self, by rw [h9]; show 2 * a / 2 = a; omega, by rw [h9]; show (2 * b + 1) / 2 = b; omega⟩
    · rcases List.mem_cons.mp h9 with h8 | h8
      · exact ⟨(a, b), List.mem_cons_self, by rw [h8]; show (2 * a + 1) / 2 = a; omega, by rw [h8]; show 2 * b / 2 = b; omega⟩
      · obtain ⟨q, q1, q2⟩ := pm_e2_in h8
        exact ⟨q, List.mem_cons_of_mem _ q1, q2⟩
theorem pm_ok2 {n : Nat} : ∀ {E : List (Nat × Nat)}, pm_ok n E → pm_ok (2 * n) (pm_e2 E)
  | [], _ => trivial
  | (a, b) :: E, ⟨h1, h2, h3, h4, h5⟩ => by
    have far : ∀ p : Nat × Nat, p ∈ pm_e2 E → p.1 / 2 ≠ a ∧ p.2 / 2 ≠ a ∧ p.1 / 2 ≠ b ∧ p.2 / 2 ≠ b := fun p hp => by
      obtain ⟨q, q1, q2, q3⟩ := pm_e2_in hp
      have := h4 q q1
      rw [q2, q3]
      exact this
    refine ⟨by omega, by omega, by omega, fun p hp => ?_, by omega, by omega, by omega, fun p hp => ?_, pm_ok2 h5⟩
    · rcases List.mem_cons.mp hp with h9 | h9
      · rw [h9]
        show 2 * a + 1 ≠ 2 * a ∧ 2 * b ≠ 2 * a ∧ 2 * a + 1 ≠ 2 * b + 1 ∧ 2 * b ≠ 2 * b + 1
        omega
      · have := far p h9
        omega
    · have := far p hp
      omega
theorem pm_al2 {n : Nat} : ∀ {E : List (Nat × Nat)}, pm_ok n E → ∀ s, pm_al E (s / 2) ≠ s / 2 → pm_al (pm_e2 E) s = 2 * pm_al E (s / 2) + (1 - s % 2)
  | [], _, s, h => absurd rfl h
  | (a, b) :: E, ⟨h1, h2, h3, h4, h5⟩, s, h => by
    have u : pm_al ((a, b) :: E) (s / 2) = if s / 2 = a then b else if s / 2 = b then a else pm_al E (s / 2) := rfl
    show (if s = 2 * a then 2 * b + 1 else if s = 2 * b + 1 then 2 * a else if s = 2 * a + 1 then 2 * b else if s = 2 * b then 2 * a + 1 else pm_al (pm_e2 E) s) = _
    rw [u] at h ⊢
    by_cases ea : s / 2 = a
    · rw [if_pos ea]
      by_cases e0 : s % 2 = 0
      · rw [if_pos (by omega)]
        omega
      · rw [if_neg (by omega), if_neg (by omega), if_pos (by omega)]
        omega
    · rw [if_neg ea] at h ⊢
      by_cases eb : s / 2 = b
      · rw [if_pos eb]
        by_cases e0 : s % 2 = 0
        · rw [if_neg (by omega), if_neg (by omega), if_neg (by omega), if_pos (by omega)]
          omega
        · rw [if_neg (by omega), if_pos (by omega)]
          omega
      · rw [if_neg eb] at h ⊢
        rw [if_neg (by omega), if_neg (by omega), if_neg (by omega), if_neg (by omega)]
        exact pm_al2 h5 s h
/-- each element twice -/
def pm_tw (X : List Nat) : List Nat := X.map (fun x => 2 * x) ++ X.map (fun x => 2 * x + 1)
theorem pm_tw_len (X : List Nat) : (pm_tw X).length = 2 * X.length := by
  unfold pm_tw
  rw [List.length_append, List.length_map, List.length_map]
  omega
theorem pm_tw_in {X : List Nat} {s : Nat} : s ∈ pm_tw X ↔ s / 2 ∈ X := by
  unfold pm_tw
  rw [List.mem_append, List.mem_map, List.mem_map]
  constructor
  · rintro (⟨x, hx, e⟩ | ⟨x, hx, e⟩)
    · rw [show s / 2 = x by omega]; exact hx
    · rw [show s / 2 = x by omega]; exact hx
  · intro h
    by_cases e : s % 2 = 0
    · exact Or.inl ⟨_, h, by omega⟩
    · exact Or.inr ⟨_, h, by omega⟩
theorem pm_tw_nd {X : List Nat} (h : X.Nodup) : (pm_tw X).Nodup := by
  unfold pm_tw
  refine List.nodup_append.mpr ⟨nodup_map h (fun a b _ _ e => by omega), nodup_map h (fun a b _ _ e => by omega), fun a ha b hb e => ?_⟩
  obtain ⟨x, -, e1⟩ := List.mem_map.mp ha
  obtain ⟨y, -, e2⟩ := List.mem_map.mp hb
  omega
section PD
variable {n K : Nat} {rot X0 k0 : Nat → Nat}
theorem pm_rs2 (hr : pm_rs n K rot X0) (hk : ∀ d, d < n → k0 d < 2 ∧ k0 (rot d) = 1 - k0 d) : pm_rs (2 * n) (2 * K) (pm_r2 rot) (fun s => 2 * X0 (s / 2) + (if s % 2 = k0 (s / 2) then 0 else 1)) := by
  have q2 : ∀ s, pm_r2 rot s / 2 = rot (s / 2) := fun s => by unfold pm_r2; omega
  have m2 : ∀ s, pm_r2 rot s % 2 = 1 - s % 2 := fun s => by unfold pm_r2; omega
  refine ⟨fun s hs => ?_, fun s t hs ht e => ?_, fun s hs => ?_, fun g hg X hX hv => ?_, ?_⟩
  · have := hr.1 (s / 2) (by omega)
    unfold pm_r2
    omega
  · have e1 : pm_r2 rot s / 2 = pm_r2 rot t / 2 := by rw [e]
    have e2 : pm_r2 rot s % 2 = pm_r2 rot t % 2 := by rw [e]
    rw [q2, q2] at e1
    rw [m2, m2] at e2
    have := hr.2.1 _ _ (by omega) (by omega) e1
    omega
  · dsimp only
    have h1 := hk (s / 2) (by omega)
    rw [q2, m2, hr.2.2.1 _ (by omega), h1.2]
    by_cases e : s % 2 = k0 (s / 2)
    · rw [if_pos e, if_pos (by omega)]
    · rw [if_neg e, if_neg (by omega)]
  · have inv : ∀ d e, d < n → e < 2 → g (2 * rot d + (1 - e)) = g (2 * d + e) := fun d e hd he => by
      have := hg (2 * d + e) (by omega)
      unfold pm_r2 at this
      rw [show (2 * d + e) / 2 = d by omega, show (2 * d + e) % 2 = e by omega] at this
      exact this
    have b0 := hr.2.2.2.1 (fun d => g (2 * d + k0 d)) (fun d hd => by
      rw [(hk d hd).2]
      exact inv d _ hd (hk d hd).1) ((X.filter (fun s => decide (s % 2 = k0 (s / 2)))).map (fun s => s / 2)) (fun x hx => by
      obtain ⟨s, hs, e⟩ := List.mem_map.mp hx
      have := hX s (List.mem_filter.mp hs).1
      omega) (by
      have e1 : ((X.filter (fun s => decide (s % 2 = k0 (s / 2)))).map (fun s => s / 2)).map (fun d => g (2 * d + k0 d)) = (X.filter (fun s => decide (s % 2 = k0 (s / 2)))).map g := by
        rw [List.map_map]
        refine List.map_congr_left (fun s hs => ?_)
        have := of_decide_eq_true (List.mem_filter.mp hs).2
        show g (2 * (s / 2) + k0 (s / 2)) = g s
        rw [← this]
        congr 1
        omega
      unfold pm_dv
      rw [e1]
      exact pm_fil _ hv)
    have b1 := hr.2.2.2.1 (fun d => g (2 * d + (1 - k0 d))) (fun d hd => by
      rw [(hk d hd).2]
      exact inv d _ hd (by omega)) ((X.filter (fun s => !decide (s % 2 = k0 (s / 2)))).map (fun s => s / 2)) (fun x hx => by
      obtain ⟨s, hs, e⟩ := List.mem_map.mp hx
      have := hX s (List.mem_filter.mp hs).1
      omega) (by
      have e1 : ((X.filter (fun s => !decide (s % 2 = k0 (s / 2)))).map (fun s => s / 2)).map (fun d => g (2 * d + (1 - k0 d))) = (X.filter (fun s => !decide (s % 2 = k0 (s / 2)))).map g := by
        rw [List.map_map]
        refine List.map_congr_left (fun s hs => ?_)
        have h1 := (List.mem_filter.mp hs).2
        have h2 : ¬ s % 2 = k0 (s / 2) := fun e => by rw [decide_eq_true e] at h1; cases h1
        have h3 := hX s (List.mem_filter.mp hs).1
        have h4 := (hk (s / 2) (by omega)).1
        show g (2 * (s / 2) + (1 - k0 (s / 2))) = g s
        congr 1
        omega
      unfold pm_dv
      rw [e1]
      exact pm_fil _ hv)
    have h3 := filt_sum (fun s => decide (s % 2 = k0 (s / 2))) X
    rw [List.length_map] at b0 b1
    omega
  · obtain ⟨Y, y1, y2, y3⟩ := hr.2.2.2.2
    refine ⟨pm_tw Y, fun x hx => ?_, pm_mk (pm_tw_nd (pm_nd y2)) (fun s t hs ht e => ?_), by rw [pm_tw_len]; omega⟩
    · have := y1 _ (pm_tw_in.mp hx)
      omega
    · have hs := pm_tw_in.mp hs
      have ht := pm_tw_in.mp ht
      have k1 := (hk _ (y1 _ hs)).1
      have k2 := (hk _ (y1 _ ht)).1
      have e1 : X0 (s / 2) = X0 (t / 2) := by
        split at e <;> split at e <;> omega
      have e2 := pm_inj y2 _ _ hs ht e1
      rw [e1, e2] at e
      rw [e2] at k1
      by_cases c1 : s % 2 = k0 (t / 2)
      · by_cases c2 : t % 2 = k0 (t / 2)
        · omega
        · rw [if_pos c1, if_neg c2] at e
          omega
      · by_cases c2 : t % 2 = k0 (t / 2)
        · rw [if_neg c1, if_pos c2] at e
          omega
        · omega
variable {E : List (Nat × Nat)} {R : List Nat}
theorem pm_r2_at {d e : Nat} (he : e < 2) : pm_r2 rot (2 * d + e) = 2 * rot d + (1 - e) := by
  unfold pm_r2
  rw [show (2 * d + e) / 2 = d by omega, show (2 * d + e) % 2 = e by omega]
theorem pm_al2_at (hE : pm_ok n E) {d e : Nat} (he : e < 2) (hd : pm_al E d ≠ d) : pm_al (pm_e2 E) (2 * d + e) = 2 * pm_al E d + (1 - e) := by
  have := pm_al2 hE (2 * d + e) (by rw [show (2 * d + e) / 2 = d by omega]; exact hd)
  rw [show (2 * d + e) / 2 = d by omega, show (2 * d + e) % 2 = e by omega] at this
  exact this
/-- a way of darts is a way of either copy -/
theorem cn_lift (hr : pm_rs n K rot X0) (hE : pm_ok n E) (hc : ∀ d, d < n → pm_al E d ≠ d) {r d : Nat} (h0 : r < n) (h : pm_cn n rot (pm_al E) r d) : ∃ e, e < 2 ∧ pm_cn (2 * n) (pm_r2 rot) (pm_al (pm_e2 E)) (2 * r) (2 * d + e) ∧ pm_cn (2 * n) (pm_r2 rot) (pm_al (pm_e2 E)) (2 * r + 1) (2 * d + (1 - e)) := by
  refine (h (fun d => d < n ∧ ∃ e, e < 2 ∧ pm_cn (2 * n) (pm_r2 rot) (pm_al (pm_e2 E)) (2 * r) (2 * d + e) ∧ pm_cn (2 * n) (pm_r2 rot) (pm_al (pm_e2 E)) (2 * r + 1) (2 * d + (1 - e))) ⟨h0, 0, by omega, cn_rf _, cn_rf _⟩ (fun d hd hp => ?_) (fun d hd hp => ?_)).2
  · obtain ⟨-, e, e1, e2, e3⟩ := hp
    refine ⟨hr.1 d hd, 1 - e, by omega, ?_, ?_⟩
    · have := cn_r (by omega) e2
      rw [pm_r2_at e1] at this
      exact this
    · have := cn_r (by omega) e3
      rw [pm_r2_at (by omega)] at this
      exact this
  · obtain ⟨-, e, e1, e2, e3⟩ := hp
    refine ⟨pm_al_lt hE hd, 1 - e, by omega, ?_, ?_⟩
    · have := cn_a (by omega) e2
      rw [pm_al2_at hE e1 (hc d hd)] at this
      exact this
    · have := cn_a (by omega) e3
      rw [pm_al2_at hE (by omega) (hc d hd)] at this
      exact this
/-- no dart is joined to its copy, where the faces are as many as can be -/
theorem pm_nocp (hr : pm_rs n K rot X0) (hk : ∀ d, d < n → k0 d < 2 ∧ k0 (rot d) = 1 - k0 d) (hE : pm_ok n E) (hc : ∀ d, d < n → pm_al E d ≠ d) (hR : pm_cv n rot (pm_al E) R) {f : Nat → Nat} (hf : ∀ d, d < n → f (rot (pm_al E d)) = f d) {X : List Nat} (hX : ∀ x, x ∈ X → x < n) (hv : pm_dv f X) (hpl : E.length + 2 * R.length ≤ X.length + K) {d : Nat} (hd : d < n) : ¬ pm_cn (2 * n) (pm_r2 rot) (pm_al (pm_e2 E)) (2 * d) (2 * d + 1) := by
  intro hcn
  have hr2 := pm_rs2 hr hk
  have hE2 := pm_ok2 hE
  have sy : ∀ {a b : Nat}, a < 2 * n → pm_cn (2 * n) (pm_r2 rot) (pm_al (pm_e2 E)) a b → pm_cn (2 * n) (pm_r2 rot) (pm_al (pm_e2 E)) b a := fun h1 h2 => cn_sy hr2.1 hr2.2.1 (fun s hs => pm_al_lt hE2 hs) (pm_al_inv hE2) h1 h2
  obtain ⟨r, r1, r2, r3⟩ := hR d hd
  have hrr : pm_cn (2 * n) (pm_r2 rot) (pm_al (pm_e2 E)) (2 * r) (2 * r + 1) := by
    obtain ⟨e, e1, e2, e3⟩ := cn_lift hr hE hc r2 r3
    have e4 := sy (by omega) e3
    rcases (show e = 0 ∨ e = 1 by omega) with rfl | rfl
    · exact cn_tr e2 (cn_tr hcn e4)
    · exact cn_tr e2 (cn_tr (sy (by omega) hcn) e4)
  have hR2 : pm_cv (2 * n) (pm_r2 rot) (pm_al (pm_e2 E)) (R.map (fun x => 2 * x) ++ (R.erase r).map (fun x => 2 * x + 1)) := by
    intro s hs
    obtain ⟨q, q1, q2, q3⟩ := hR (s / 2) (by omega)
    obtain ⟨e, e1, e2, e3⟩ := cn_lift hr hE hc q2 q3
    have m0 : 2 * q ∈ R.map (fun x => 2 * x) ++ (R.erase r).map (fun x => 2 * x + 1) := List.mem_append_left _ (List.mem_map.mpr ⟨q, q1, rfl⟩)
    by_cases es : s % 2 = e
    · refine ⟨2 * q, m0, by omega, ?_⟩
      rw [show s = 2 * (s / 2) + e by omega]
      exact e2
    · have e5 : s = 2 * (s / 2) + (1 - e) := by omega
      by_cases eq : q = r
      · refine ⟨2 * q, m0, by omega, ?_⟩
        rw [e5, eq]
        rw [eq] at e3
        exact cn_tr hrr e3
      · refine ⟨2 * q + 1, List.mem_append_right _ (List.mem_map.mpr ⟨q, (List.mem_erase_of_ne eq).mpr q1, rfl⟩), by omega, ?_⟩
        rw [e5]
        exact e3
  have hl := List.length_erase_of_mem r1
  have hpos : 0 < R.length := List.length_pos_of_mem r1
  have := pm_euler hr2 hE2 hR2 (f := fun s => 2 * f (s / 2) + s % 2) (fun s hs => by
    have c1 := hc (s / 2) (by omega)
    rw [pm_al2 hE s c1, pm_r2_at (by omega), show (2 * rot (pm_al E (s / 2)) + (1 - (1 - s % 2))) / 2 = rot (pm_al E (s / 2)) by omega, show (2 * rot (pm_al E (s / 2)) + (1 - (1 - s % 2))) % 2 = s % 2 by omega, hf _ (by omega)]) (X := pm_tw X) (fun x hx => by
    have := hX _ (pm_tw_in.mp hx)
    omega) (pm_mk (pm_tw_nd (pm_nd hv)) (fun s t hs ht e => by
    have := pm_inj hv _ _ (pm_tw_in.mp hs) (pm_tw_in.mp ht) (by omega)
    omega))
  rw [pm_tw_len, pm_e2_len, List.length_append, List.length_map, List.length_map, hl] at this
  omega
noncomputable def pm_rep (n : Nat) (rot al : Nat → Nat) (R : List Nat) (d : Nat) : Nat := (R.filter (fun r => @decide (r < n ∧ pm_cn n rot al r d) (Classical.propDecidable _))).headD 0
theorem pm_rep_in {al : Nat → Nat} {d : Nat} (h : ∃ r, r ∈ R ∧ r < n ∧ pm_cn n rot al r d) : pm_rep n rot al R d < n ∧ pm_cn n rot al (pm_rep n rot al R d) d := by
  obtain ⟨r, h1, h2⟩ := h
  have hm : r ∈ R.filter (fun r => @decide (r < n ∧ pm_cn n rot al r d) (Classical.propDecidable _)) := List.mem_filter.mpr ⟨h1, @decide_eq_true _ (Classical.propDecidable _) h2⟩
  unfold pm_rep
  generalize hL : R.filter (fun r => @decide (r < n ∧ pm_cn n rot al r d) (Classical.propDecidable _)) = L at *
  match L, hm with
  | q :: L, _ =>
    have : q ∈ R.filter (fun r => @decide (r < n ∧ pm_cn n rot al r d) (Classical.propDecidable _)) := by rw [hL]; exact List.mem_cons_self
    exact @of_decide_eq_true _ (Classical.propDecidable _) (List.mem_filter.mp this).2
theorem pm_rep_eq {al : Nat → Nat} {d d' : Nat} (h : ∀ r, r < n → (pm_cn n rot al r d ↔ pm_cn n rot al r d')) : pm_rep n rot al R d = pm_rep n rot al R d' := by
  unfold pm_rep
  congr 2
  funext r
  by_cases h1 : r < n ∧ pm_cn n rot al r d
  · rw [@decide_eq_true _ (Classical.propDecidable _) h1, @decide_eq_true _ (Classical.propDecidable _) ⟨h1.1, (h r h1.1).mp h1.2⟩]
  · rw [@decide_eq_false _ (Classical.propDecidable _) h1, @decide_eq_false _ (Classical.propDecidable _) (fun h9 => h1 ⟨h9.1, (h r h9.1).mpr h9.2⟩)]
/-- where the faces are as many as can be they have two colours -/
theorem pm_two (hr : pm_rs n K rot X0) (hk : ∀ d, d < n → k0 d < 2 ∧ k0 (rot d) = 1 - k0 d) (hE : pm_ok n E) (hc : ∀ d, d < n → pm_al E d ≠ d) (hR : pm_cv n rot (pm_al E) R) {f : Nat → Nat} (hf : ∀ d, d < n → f (rot (pm_al E d)) = f d) {X : List Nat} (hX : ∀ x, x ∈ X → x < n) (hv : pm_dv f X) (hpl : E.length + 2 * R.length ≤ X.length + K) : ∃ κ : Nat → Bool, ∀ d, d < n → κ (rot d) = !κ d ∧ κ (pm_al E d) = !κ d := by
  have hr2 := pm_rs2 hr hk
  have hE2 := pm_ok2 hE
  have sy2 : ∀ {a b : Nat}, a < 2 * n → pm_cn (2 * n) (pm_r2 rot) (pm_al (pm_e2 E)) a b → pm_cn (2 * n) (pm_r2 rot) (pm_al (pm_e2 E)) b a := fun h1 h2 => cn_sy hr2.1 hr2.2.1 (fun s hs => pm_al_lt hE2 hs) (pm_al_inv hE2) h1 h2
  have sy : ∀ {a b : Nat}, a < n → pm_cn n rot (pm_al E) a b → pm_cn n rot (pm_al E) b a := fun h1 h2 => cn_sy hr.1 hr.2.1 (fun s hs => pm_al_lt hE hs) (pm_al_inv hE) h1 h2
  have hno := fun {d : Nat} (hd : d < n) => pm_nocp hr hk hE hc hR hf hX hv hpl hd
  let rp := pm_rep n rot (pm_al E) R
  let C := pm_cn (2 * n) (pm_r2 rot) (pm_al (pm_e2 E))
  -- d and d' joined by one step
  have step : ∀ d d', d < n → d' < n → rp d' = rp d → (∀ e, e < 2 → C (2 * d + e) (2 * d' + (1 - e))) → (C (2 * rp d') (2 * d') ↔ ¬ C (2 * rp d) (2 * d)) := by
    intro d d' hd hd' er hs
    rw [er]
    obtain ⟨p1, p2⟩ := pm_rep_in (hR d hd)
    obtain ⟨e, e1, e2, -⟩ := cn_lift hr hE hc p1 p2
    constructor
    · intro h1 h2
      have h3 := cn_tr h2 (hs 0 (by omega))
      exact hno hd' (cn_tr (sy2 (by show 2 * rp d < 2 * n; have : rp d < n := p1; omega) h1) h3)
    · intro h1
      have e9 : e = 1 := by
        rcases (show e = 0 ∨ e = 1 by omega) with rfl | rfl
        · exact absurd e2 h1
        · rfl
      subst e9
      exact cn_tr e2 (hs 1 (by omega))
  refine ⟨fun d => @decide (C (2 * rp d) (2 * d)) (Classical.propDecidable _), fun d hd => ?_⟩
  have fin : ∀ d', (C (2 * rp d') (2 * d') ↔ ¬ C (2 * rp d) (2 * d)) → @decide (C (2 * rp d') (2 * d')) (Classical.propDecidable _) = !@decide (C (2 * rp d) (2 * d)) (Classical.propDecidable _) := by
    intro d' h
    by_cases h1 : C (2 * rp d) (2 * d)
    · rw [@decide_eq_true _ (Classical.propDecidable _) h1, @decide_eq_false _ (Classical.propDecidable _) (fun h9 => h.mp h9 h1)]
      rfl
    · rw [@decide_eq_false _ (Classical.propDecidable _) h1, @decide_eq_true _ (Classical.propDecidable _) (h.mpr h1)]
      rfl
  have back : ∀ {d'}, pm_cn n rot (pm_al E) d d' → rp d' = rp d := fun {d'} h => pm_rep_eq (fun r hr9 => ⟨fun h1 => cn_tr h1 (sy hd h), fun h1 => cn_tr h1 h⟩)
  refine ⟨fin _ (step d _ hd (hr.1 d hd) (back (cn_r hd (cn_rf d))) (fun e he => ?_)), fin _ (step d _ hd (pm_al_lt hE hd) (back (cn_a hd (cn_rf d))) (fun e he => ?_))⟩
  · have := cn_r (n := 2 * n) (rot := pm_r2 rot) (al := pm_al (pm_e2 E)) (show 2 * d + e < 2 * n by omega) (cn_rf _)
    rw [pm_r2_at he] at this
    exact this
  · have := cn_a (n := 2 * n) (rot := pm_r2 rot) (al := pm_al (pm_e2 E)) (show 2 * d + e < 2 * n by omega) (cn_rf _)
    rw [pm_al2_at hE he (hc d hd)] at this
    exact this
end PD
end
