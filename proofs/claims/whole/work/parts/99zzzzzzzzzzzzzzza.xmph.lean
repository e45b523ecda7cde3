/-! maps: the class's plan of a part -/
abbrev sT9 : Type := Nat × Nat × Nat × Nat × Bool
def tos (P : List sT9) : List Nat := P.map (fun t => t.2.1)
def cjS (s : Bool) (o x : Nat) : Nat := cjG (if s = true then ivC o else o) x
def eS9 (t : sT9) (v : Nat → Nat) : Prop := v t.2.1 = cjS t.2.2.2.2 (v t.2.2.1) (v t.2.2.2.1)
def eX9 (S : ow_NP) (ng : Nat → Bool) (lab : Nat → Nat) (x : Nat) (v : Nat → Nat) : Prop := v (lab (2 * x + 1)) = cjS (ng x) (v (lab (2 * x))) (v (lab (S.2 (2 * x + 1))))
def vS9 (R : List sT9) (t : sT9) : Prop := t.1 = 0 ∧ t.2.1 ∉ tos R ∨ (t.1 = 1 ∧ t.2.1 ∉ tos R ∨ t.1 = 2 ∧ t.2.1 ∈ tos R) ∧ t.2.2.1 ∈ tos R ∧ t.2.2.2.1 ∈ tos R
def stL (z : ow_MS) (P : List sT9) : Prop := z.1 41010 = nI P.length ∧ ∀ s t, P[s]? = some t → z.2.1 41011 s = nI t.1 ∧ z.2.1 41012 s = nI t.2.1 ∧ z.2.1 41013 s = nI t.2.2.1 ∧ z.2.1 41014 s = nI t.2.2.2.1 ∧ z.2.1 41015 s = bI9 t.2.2.2.2
def pI9 (c : Nat) (S : ow_NP) (ng : Nat → Bool) (lab pr : Nat → Nat) (p : Nat) (P : List sT9) (U : List Nat) : Prop := U.Nodup ∧ (∀ x, x ∈ U → x < c ∧ pr (2 * x) = p ∧ ∃ t, t ∈ P ∧ t.1 ≠ 0 ∧ ∀ v : Nat → Nat, (∀ b, v b < 24) → (eS9 t v ↔ eX9 S ng lab x v)) ∧ (∀ t, t ∈ P → (∃ w, w < 2 * c ∧ pr w = p ∧ lab w = t.2.1) ∧ (t.1 ≠ 0 → ∃ x, x < c ∧ pr (2 * x) = p ∧ ∀ v : Nat → Nat, (∀ b, v b < 24) → (eS9 t v ↔ eX9 S ng lab x v))) ∧ ∀ s t, P[s]? = some t → vS9 (P.take s) t
def pZ9 (z : ow_MS) (P : List sT9) (U : List Nat) (kn : Nat) : Prop := stL z P ∧ kn < 2 ^ 24 ∧ (∀ b, o_gn kn b ↔ b ∈ tos P) ∧ ∃ us, z.1 41016 = nI us ∧ us < 2 ^ 24 ∧ ∀ x, o_gn us x ↔ x ∈ U
def rdy9 (S : ow_NP) (lab : Nat → Nat) (k : Nat → Prop) (x : Nat) : Prop := (k (lab (2 * x)) ∨ lab (2 * x) = lab (S.2 (2 * x + 1)) ∨ lab (2 * x) = lab (2 * x + 1)) ∧ (k (lab (S.2 (2 * x + 1))) ∨ k (lab (2 * x + 1)))
section XMH
theorem cj_self : ∀ a : Fin 24, cjG a.val a.val = a.val ∧ cjG (ivC a.val) a.val = a.val := by decide +kernel
theorem cjS_lt {s : Bool} {o x : Nat} (ho : o < 24) (hx : x < 24) : cjS s o x < 24 := by
  have i := (ca9 (h := o) (o := o) ho ho).2.2.2.2
  cases s
  · exact (ca9 (h := o) (o := x) ho hx).2.2.2.1
  · exact (ca9 (h := ivC o) (o := x) i hx).2.2.2.1
theorem cjS_inv {s : Bool} {o a b : Nat} (ho : o < 24) (ha : a < 24) (hb : b < 24) : b = cjS s o a ↔ a = cjS (!s) o b := by
  obtain ⟨-, p2, p3, -, -⟩ := ca9 (h := o) (o := a) ho ha
  obtain ⟨-, q2, q3, -, -⟩ := ca9 (h := o) (o := b) ho hb
  cases s
  · show b = cjG o a ↔ a = cjG (ivC o) b
    exact ⟨fun e => by rw [e, p2], fun e => by rw [e, q3]⟩
  · show b = cjG (ivC o) a ↔ a = cjG o b
    exact ⟨fun e => by rw [e, p3], fun e => by rw [e, q2]⟩
theorem cjS_self {s : Bool} {a : Nat} (ha : a < 24) : cjS s a a = a := by
  cases s
  · exact (cj_self ⟨a, ha⟩).1
  · exact (cj_self ⟨a, ha⟩).2
theorem cjS_sp {s : Bool} {o a b : Nat} (ha : a < 24) (hb : b < 24) (h : o = a ∨ o = b) : b = cjS s o a ↔ a = b := by
  rcases h with h | h
  · rw [h, cjS_self ha]
    exact eq_comm
  · rw [h, cjS_inv hb ha hb, cjS_self hb]
theorem tos_app {P : List sT9} {t : sT9} {b : Nat} : b ∈ tos (P ++ [t]) ↔ b ∈ tos P ∨ b = t.2.1 := by
  unfold tos
  rw [List.map_append, List.mem_append]
  exact or_congr Iff.rfl List.mem_singleton
theorem vS9_app {P : List sT9} {t : sT9} (h : ∀ s t, P[s]? = some t → vS9 (P.take s) t) (ht : vS9 P t) : ∀ s t', (P ++ [t])[s]? = some t' → vS9 ((P ++ [t]).take s) t' := by
  intro s t' e
  have hl := (List.getElem?_eq_some_iff.mp e).1
  rw [List.length_append, List.length_singleton] at hl
  by_cases c : s < P.length
  · rw [List.getElem?_append_left c] at e
    rw [List.take_append_of_le_length (by omega)]
    exact h s t' e
  · have es : s = P.length := by omega
    rw [es, List.getElem?_append_right (Nat.le_refl _), Nat.sub_self] at e
    have e2 : t = t' := Option.some.inj e
    rw [es, List.take_append_of_le_length (Nat.le_refl _), List.take_length, ← e2]
    exact ht
variable {c : Nat} {S : ow_NP} {ng : Nat → Bool} {lab pr : Nat → Nat} {p : Nat} {P : List sT9} {U : List Nat}
theorem pI9_add {x : Nat} {t : sT9} (h : pI9 c S ng lab pr p P U) (hx : x < c) (hp : pr (2 * x) = p) (hU : x ∉ U) (ht : vS9 P t) (h0 : t.1 ≠ 0) (ha : ∃ w, w < 2 * c ∧ pr w = p ∧ lab w = t.2.1) (he : ∀ v : Nat → Nat, (∀ b, v b < 24) → (eS9 t v ↔ eX9 S ng lab x v)) : pI9 c S ng lab pr p (P ++ [t]) (x :: U) := by
  obtain ⟨h1, h2, h3, h4⟩ := h
  refine ⟨List.nodup_cons.mpr ⟨hU, h1⟩, fun x' hx' => ?_, fun t' ht' => ?_, vS9_app h4 ht⟩
  · rcases List.mem_cons.mp hx' with e | e
    · rw [e]
      exact ⟨hx, hp, t, List.mem_append_right _ List.mem_cons_self, h0, he⟩
    · obtain ⟨a1, a2, t', a3, a4⟩ := h2 x' e
      exact ⟨a1, a2, t', List.mem_append_left _ a3, a4⟩
  · rcases List.mem_append.mp ht' with e | e
    · exact h3 t' e
    · rw [List.mem_singleton.mp e]
      exact ⟨ha, fun _ => ⟨x, hx, hp, he⟩⟩
theorem pI9_seed {a : Nat} (h : pI9 c S ng lab pr p P U) (hn : a ∉ tos P) (ha : ∃ w, w < 2 * c ∧ pr w = p ∧ lab w = a) : pI9 c S ng lab pr p (P ++ [(0, a, a, a, false)]) U := by
  obtain ⟨h1, h2, h3, h4⟩ := h
  refine ⟨h1, fun x' hx' => ?_, fun t' ht' => ?_, vS9_app h4 (Or.inl ⟨rfl, hn⟩)⟩
  · obtain ⟨a1, a2, t', a3, a4⟩ := h2 x' hx'
    exact ⟨a1, a2, t', List.mem_append_left _ a3, a4⟩
  · rcases List.mem_append.mp ht' with e | e
    · exact h3 t' e
    · rw [List.mem_singleton.mp e]
      exact ⟨ha, fun h9 => absurd rfl h9⟩
theorem tos_part (h : pI9 c S ng lab pr p P U) {b : Nat} (hb : b ∈ tos P) : ∃ w, w < 2 * c ∧ pr w = p ∧ lab w = b := by
  obtain ⟨t, t1, t2⟩ := List.mem_map.mp hb
  rw [← t2]
  exact (h.2.2.1 t t1).1
variable {vl : Nat → Nat} {y : ow_MS}
theorem xc_addStep {t : sT9} (h : stL y P) (h36 : P.length < 36) : Te (fun K => ce_X0_addStep vl K 41000 (nI t.1) (nI t.2.1) (nI t.2.2.1) (nI t.2.2.2.1) (bI9 t.2.2.2.2) y) (fun y1 => stL y1 (P ++ [t]) ∧ fr (fun g => 41010 ≤ g ∧ g ≤ 41015) y y1) := by
  obtain ⟨h1, h2⟩ := id h
  refine e_X0_addStep ?_; unfold cm_X0_addStep_0
  rw [show Int32.ofNat (uw_len (cX vl) y (41000 + 11)) = nI 36 from rfl]
  refine w_rdF h1 (w_leF (by omega) h36 (w_rdF h1 (w_ctI ch_41011 rfl h36 (w_rdF (x := nI P.length) h1 (w_ctI ch_41012 rfl h36 (w_rdF (x := nI P.length) h1 (w_ctI ch_41013 rfl h36 (w_rdF (x := nI P.length) h1 (w_ctI ch_41014 rfl h36 (w_rdF (x := nI P.length) h1 (w_ctZ ch_41015 rfl h36 (w_rdF (x := nI P.length) h1 (w_wrF (w_some ⟨⟨?_, fun s t' hs => ?_⟩, ?_⟩))))))))))))))
  · rw [po_usF_at, nI_1, List.length_append]
    rfl
  · have hl := (List.getElem?_eq_some_iff.mp hs).1
    rw [List.length_append, List.length_singleton] at hl
    by_cases e : s < P.length
    · rw [List.getElem?_append_left e] at hs
      obtain ⟨b1, b2, b3, b4, b5⟩ := h2 s t' hs
      have ne : s ≠ P.length := by omega
      exact ⟨rd_ot (by omega) (rd_ot (by omega) (rd_ot (by omega) (rd_ot (by omega) (rd_ne ne b1)))), rd_ot (by omega) (rd_ot (by omega) (rd_ot (by omega) (rd_ne ne (rd_ot (by omega) b2)))), rd_ot (by omega) (rd_ot (by omega) (rd_ne ne (rd_ot (by omega) (rd_ot (by omega) b3)))), rd_ot (by omega) (rd_ne ne (rd_ot (by omega) (rd_ot (by omega) (rd_ot (by omega) b4)))), rd_ne ne (rd_ot (by omega) (rd_ot (by omega) (rd_ot (by omega) (rd_ot (by omega) b5))))⟩
    · have es : s = P.length := by omega
      rw [es, List.getElem?_append_right (Nat.le_refl _), Nat.sub_self] at hs
      have e2 : t = t' := Option.some.inj hs
      rw [es, ← e2]
      exact ⟨rd_ot (by omega) (rd_ot (by omega) (rd_ot (by omega) (rd_ot (by omega) po_usI_at))), rd_ot (by omega) (rd_ot (by omega) (rd_ot (by omega) po_usI_at)), rd_ot (by omega) (rd_ot (by omega) po_usI_at), rd_ot (by omega) po_usI_at, po_usI_at.trans (nar_b9 _)⟩
  · exact fr_F2 (fr_I2 (fr_I2 (fr_I2 (fr_I2 (fr_I (by omega)) (by omega)) (by omega)) (by omega)) (by omega)) (by omega)
variable {ci N : Nat} {G : Nat → Int32}
theorem xc_planX {x kn : Nat} (h : plN y c ci S G lab N) (hng : ng x = decide (G x ≤ 0)) (hd : ∀ w, w < 2 * c → pr (S.2 w) = pr w) (hd2 : pr (2 * x + 1) = pr (2 * x)) (hx : x < c) (hp : pr (2 * x) = p) (hU : x ∉ U) (hZ : pZ9 y P U kn) (hI : pI9 c S ng lab pr p P U) (h36 : P.length < 36) : Te (fun K => ce_X0_planCrossing vl K 41000 4000 (nI x) (nI kn) y) (fun r => fr plR y r.2 ∧ ∃ P' U' kn', r.1 = nI kn' ∧ pZ9 r.2 P' U' kn' ∧ pI9 c S ng lab pr p P' U' ∧ (P' = P ∧ U' = U ∧ kn' = kn ∧ ¬ rdy9 S lab (fun b => b ∈ tos P) x ∨ U' = x :: U ∧ P'.length = P.length + 1 ∧ ∀ b, b ∈ tos P → b ∈ tos P')) := by
  obtain ⟨h1, hv, hc, h18, h2, h3⟩ := h
  obtain ⟨z1, z2, z3, us, z4, z5, z6⟩ := id hZ
  obtain ⟨-, v2, -, -⟩ := hv (2 * x + 1) (by omega)
  obtain ⟨o1, o2⟩ := h2 (2 * x) (by omega)
  obtain ⟨u1, u2⟩ := h2 (2 * x + 1) (by omega)
  obtain ⟨i1, i2⟩ := h2 _ v2
  let Q : Int32 × ow_MS → Prop := fun r => fr plR y r.2 ∧ ∃ P' U' kn', r.1 = nI kn' ∧ pZ9 r.2 P' U' kn' ∧ pI9 c S ng lab pr p P' U' ∧ (P' = P ∧ U' = U ∧ kn' = kn ∧ ¬ rdy9 S lab (fun b => b ∈ tos P) x ∨ U' = x :: U ∧ P'.length = P.length + 1 ∧ ∀ b, b ∈ tos P → b ∈ tos P')
  generalize eO : lab (2 * x) = OV at *
  generalize eI : lab (S.2 (2 * x + 1)) = IN at *
  generalize eU : lab (2 * x + 1) = OU at *
  have aI : ∃ w, w < 2 * c ∧ pr w = p ∧ lab w = IN := ⟨_, v2, by rw [hd _ (by omega), hd2, hp], eI⟩
  have aU : ∃ w, w < 2 * c ∧ pr w = p ∧ lab w = OU := ⟨2 * x + 1, by omega, by rw [hd2, hp], eU⟩
  have eX : ∀ v, eX9 S ng lab x v ↔ v OU = cjS (ng x) (v OV) (v IN) := fun v => by
    unfold eX9
    rw [eO, eI, eU]
  have c14 : ∀ (t : sT9) (x7 x8 x9 x10 ov : Int32) (z : ow_MS), fr plR y z → stL z (P ++ [t]) → z.1 41016 = nI (us ||| 2 ^ x) → vS9 P t → t.1 ≠ 0 → (∃ w, w < 2 * c ∧ pr w = p ∧ lab w = t.2.1) → (∀ v : Nat → Nat, (∀ b, v b < 24) → (eS9 t v ↔ eX9 S ng lab x v)) → (∀ b, (b ∈ tos P ∨ b = IN) ∨ b = OU ↔ b ∈ tos P ∨ b = t.2.1) → Tt (fun K k => c_X0_planCrossing vl K k 14 (nI x) (nI kn) ov (nI IN) (nI OU) x7 x8 x9 x10 41000 4000 0 0 0 0 0 z) Q := by
    intro t x7 x8 x9 x10 ov z hf hst hu ht h0 ha he hb
    obtain ⟨g1, g2⟩ := gor9 (g := kn) (v := IN) z2 (by omega)
    obtain ⟨g3, g4⟩ := gor9 (g := kn ||| 2 ^ IN) (v := OU) g2 (by omega)
    obtain ⟨g5, g6⟩ := gor9 (g := us) (v := x) z5 (by omega)
    refine u_X0_planCrossing_14 ?_; unfold cm_X0_planCrossing_14
    refine w_some ⟨hf, P ++ [t], x :: U, (kn ||| 2 ^ IN) ||| 2 ^ OU, ?_, ⟨hst, g4, fun b => ?_, us ||| 2 ^ x, hu, g6, fun x' => ?_⟩, pI9_add hI hx hp hU ht h0 ha he, Or.inr ⟨rfl, ?_, fun b hb9 => tos_app.mpr (Or.inl hb9)⟩⟩
    · rw [g1, g3]
    · rw [gn_or, gn_or, z3, tos_app]
      exact hb b
    · rw [gn_or, z6, List.mem_cons]
      exact or_comm
    · rw [List.length_append]
      rfl
  have c9 : ∀ (o : Nat) (kI kO kV : Bool), o < 18 → (kI = true ↔ IN ∈ tos P) → (kO = true ↔ OU ∈ tos P) → (kV = true → (kI = true ∨ kO = true) → o ∈ tos P) → (kV = true ∧ (kI = true ∨ kO = true) ↔ rdy9 S lab (fun b => b ∈ tos P) x) → (∀ v : Nat → Nat, (∀ b, v b < 24) → (v OU = cjS (ng x) (v o) (v IN) ↔ eX9 S ng lab x v)) → Tt (fun K k => c_X0_planCrossing vl K k 9 (nI x) (nI kn) (nI o) (nI IN) (nI OU) (bI9 (!ng x)) (bI9 kI) (bI9 kO) (bI9 kV) 41000 4000 0 0 0 0 0 y) Q := by
    intro o kI kO kV ho hkI hkO hkV hrd hE
    have nop : ¬ rdy9 S lab (fun b => b ∈ tos P) x → Q (nI kn, y) := fun h9 => ⟨fr_rf, P, U, kn, rfl, hZ, hI, Or.inl ⟨rfl, rfl, rfl, h9⟩⟩
    have c10 : kV = true → (kI = true ∨ kO = true) → Tt (fun K k => c_X0_planCrossing vl K k 10 (nI x) (nI kn) (nI o) (nI IN) (nI OU) (bI9 (!ng x)) (bI9 kI) (bI9 kO) (bI9 kV) 41000 4000 0 0 0 0 0 y) Q := by
      intro hV hIO
      have hoK := hkV hV hIO
      obtain ⟨g5, g6⟩ := gor9 (g := us) (v := x) z5 (by omega)
      refine u_X0_planCrossing_10 ?_; unfold cm_X0_planCrossing_10
      refine w_rdF z4 (w_wrF ?_)
      rw [g5]
      have fz : fr plR y (usF y 41016 (nI (us ||| 2 ^ x))) := fr_F (by unfold plR; omega)
      have sz : stL (usF y 41016 (nI (us ||| 2 ^ x))) P := ⟨rf_ot (by omega) z1.1, z1.2⟩
      have uz : (usF y 41016 (nI (us ||| 2 ^ x))).1 41016 = nI (us ||| 2 ^ x) := po_usF_at
      generalize usF y 41016 (nI (us ||| 2 ^ x)) = z at fz sz uz
      have ad : ∀ (t : sT9), Te (fun K => ce_X0_addStep vl K 41000 (nI t.1) (nI t.2.1) (nI t.2.2.1) (nI t.2.2.2.1) (bI9 t.2.2.2.2) z) (fun y1 => stL y1 (P ++ [t]) ∧ y1.1 41016 = nI (us ||| 2 ^ x) ∧ fr plR y y1) := fun t => w_monoE (xc_addStep sz h36) (fun r hr => ⟨hr.1, (hr.2 41016 (by omega)).1.trans uz, fr_tr fz (fr_mono (fun g hg => by unfold plR; omega) hr.2)⟩)
      have e12 : ∀ s : Bool, (if (bI9 s : Int32) = 0 then (1 : Int32) else 0) = bI9 (!s) := fun s => by cases s <;> rfl
      cases kI
      · -- what goes out is known
        have hO : kO = true := by simpa using hIO
        have nI9 : IN ∉ tos P := fun h9 => by have := hkI.mpr h9; cases this
        refine w_ifT rfl ?_
        refine u_X0_planCrossing_12 ?_; unfold cm_X0_planCrossing_12
        refine w_ifT rfl (w_cs0 (ad (1, IN, o, OU, !ng x)) ?_)
        rintro y1 ⟨s1, s2, s3⟩
        refine c14 (1, IN, o, OU, !ng x) _ _ _ _ _ y1 s3 s1 s2 (Or.inr ⟨Or.inl ⟨rfl, nI9⟩, hoK, hkO.mp hO⟩) (show (1 : Nat) ≠ 0 by decide) aI (fun v hv9 => ?_) (fun b => ?_)
        · rw [← hE v hv9]
          exact (cjS_inv (hv9 _) (hv9 _) (hv9 _)).symm
        · have := hkO.mp hO
          constructor
          · rintro ((h9 | h9) | h9)
            · exact Or.inl h9
            · exact Or.inr h9
            · rw [h9]
              exact Or.inl this
          · rintro (h9 | h9)
            · exact Or.inl (Or.inl h9)
            · exact Or.inl (Or.inr h9)
      · have kI1 := hkI.mp rfl
        cases kO
        · -- what goes in is known
          have nO9 : OU ∉ tos P := fun h9 => by have := hkO.mpr h9; cases this
          have c13 : ∀ (t0 : Int32), t0 = bI9 (ng x) → Tt (fun K k => c_X0_planCrossing vl K k 13 (nI x) (nI kn) (nI o) (nI IN) (nI OU) (bI9 (!ng x)) (bI9 true) (bI9 false) (bI9 kV) 41000 4000 t0 (nI IN) (nI o) (nI OU) 1 z) Q := by
            intro t0 ht0
            subst ht0
            refine u_X0_planCrossing_13 ?_; unfold cm_X0_planCrossing_13
            refine w_cs0 (ad (1, OU, o, IN, ng x)) ?_
            rintro y1 ⟨s1, s2, s3⟩
            refine c14 (1, OU, o, IN, ng x) _ _ _ _ _ y1 s3 s1 s2 (Or.inr ⟨Or.inl ⟨rfl, nO9⟩, hoK, kI1⟩) (show (1 : Nat) ≠ 0 by decide) aU (fun v hv9 => hE v hv9) (fun b => ?_)
            constructor
            · rintro ((h9 | h9) | h9)
              · exact Or.inl h9
              · rw [h9]
                exact Or.inl kI1
              · exact Or.inr h9
            · rintro (h9 | h9)
              · exact Or.inl (Or.inl h9)
              · exact Or.inr h9
          refine w_ifF (by decide) (w_ifT rfl ?_)
          refine u_X0_planCrossing_12 ?_; unfold cm_X0_planCrossing_12
          refine w_ifF (by decide) (w_if (fun h9 => c13 _ ?_) (fun h9 => c13 _ ?_))
          · cases hn : ng x
            · rw [hn] at h9
              exact absurd h9 (by decide)
            · rfl
          · cases hn : ng x
            · rfl
            · rw [hn] at h9
              exact absurd rfl h9
        · have kO1 := hkO.mp rfl
          have c11 : ∀ (t0 : Int32), t0 = bI9 (ng x) → Tt (fun K k => c_X0_planCrossing vl K k 11 (nI x) (nI kn) (nI o) (nI IN) (nI OU) (bI9 (!ng x)) (bI9 true) (bI9 true) (bI9 kV) 41000 4000 t0 (nI IN) (nI o) (nI OU) 2 z) Q := by
            intro t0 ht0
            subst ht0
            refine u_X0_planCrossing_11 ?_; unfold cm_X0_planCrossing_11
            refine w_cs0 (ad (2, OU, o, IN, ng x)) ?_
            rintro y1 ⟨s1, s2, s3⟩
            refine c14 (2, OU, o, IN, ng x) _ _ _ _ _ y1 s3 s1 s2 (Or.inr ⟨Or.inr ⟨rfl, kO1⟩, hoK, kI1⟩) (show (2 : Nat) ≠ 0 by decide) aU (fun v hv9 => hE v hv9) (fun b => ?_)
            constructor
            · rintro ((h9 | h9) | h9)
              · exact Or.inl h9
              · rw [h9]
                exact Or.inl kI1
              · exact Or.inr h9
            · rintro (h9 | h9)
              · exact Or.inl (Or.inl h9)
              · exact Or.inr h9
          refine w_ifF (by decide) (w_ifF (by decide) (w_if (fun h9 => c11 _ ?_) (fun h9 => c11 _ ?_)))
          · cases hn : ng x
            · rw [hn] at h9
              exact absurd h9 (by decide)
            · rfl
          · cases hn : ng x
            · rfl
            · rw [hn] at h9
              exact absurd rfl h9
    cases kV
    · refine u_X0_planCrossing_9 ?_; unfold cm_X0_planCrossing_9
      exact w_ifT rfl (w_some (nop (fun h9 => by have := (hrd.mpr h9).1; cases this)))
    · cases kI
      · cases kO
        · refine u_X0_planCrossing_9 ?_; unfold cm_X0_planCrossing_9
          exact w_ifF (by decide) (w_ifT rfl (w_ifT rfl (w_some (nop (fun h9 => by rcases (hrd.mpr h9).2 with h8 | h8 <;> cases h8)))))
        · have := c10 rfl (Or.inr rfl)
          refine u_X0_planCrossing_9 ?_; unfold cm_X0_planCrossing_9
          exact w_ifF (by decide) (w_ifT rfl (w_ifF (by decide) this))
      · have := c10 rfl (Or.inl rfl)
        refine u_X0_planCrossing_9 ?_; unfold cm_X0_planCrossing_9
        exact w_ifF (by decide) (w_ifF (by decide) this)
  -- one with the arc over
  have c5 : ∀ (kI kO kV : Bool), (OV = IN ∨ OV = OU) → (kI = true ↔ IN ∈ tos P) → (kO = true ↔ OU ∈ tos P) → Tt (fun K k => c_X0_planCrossing vl K k 5 (nI x) (nI kn) (nI OV) (nI IN) (nI OU) (bI9 (!ng x)) (bI9 kI) (bI9 kO) (bI9 kV) 41000 4000 0 0 0 0 0 y) Q := by
    intro kI kO kV hsp hkI hkO
    have hE : ∀ o, o = IN ∨ o = OU → ∀ v : Nat → Nat, (∀ b, v b < 24) → (v OU = cjS (ng x) (v o) (v IN) ↔ eX9 S ng lab x v) := by
      intro o ho v hv9
      rw [eX, cjS_sp (hv9 _) (hv9 _) (ho.imp (fun e => by rw [e]) (fun e => by rw [e])), cjS_sp (hv9 _) (hv9 _) (hsp.imp (fun e => by rw [e]) (fun e => by rw [e]))]
    have hrd : (kI || kO) = true ∧ (kI = true ∨ kO = true) ↔ rdy9 S lab (fun b => b ∈ tos P) x := by
      unfold rdy9
      rw [eO, eI, eU, Bool.or_eq_true, hkI, hkO]
      exact ⟨fun h9 => ⟨Or.inr hsp, h9.2⟩, fun h9 => ⟨h9.2, h9.2⟩⟩
    have c7 : Tt (fun K k => c_X0_planCrossing vl K k 7 (nI x) (nI kn) (nI OV) (nI IN) (nI OU) (bI9 (!ng x)) (bI9 kI) (bI9 kO) (bI9 kV) 41000 4000 (bI9 (kI || kO)) 0 0 0 0 y) Q := by
      cases kI
      · refine u_X0_planCrossing_7 ?_; unfold cm_X0_planCrossing_7
        refine w_ifT rfl ?_
        refine u_X0_planCrossing_8 ?_; unfold cm_X0_planCrossing_8
        exact c9 OU false kO (false || kO) (by omega) hkI hkO (fun _ h9 => hkO.mp (by simpa using h9)) hrd (hE OU (Or.inr rfl))
      · refine u_X0_planCrossing_7 ?_; unfold cm_X0_planCrossing_7
        refine w_ifF (by decide) ?_
        refine u_X0_planCrossing_8 ?_; unfold cm_X0_planCrossing_8
        exact c9 IN true kO (true || kO) (by omega) hkI hkO (fun _ _ => hkI.mp rfl) hrd (hE IN (Or.inl rfl))
    have c6 : (kI || kO) = true → Tt (fun K k => c_X0_planCrossing vl K k 6 (nI x) (nI kn) (nI OV) (nI IN) (nI OU) (bI9 (!ng x)) (bI9 kI) (bI9 kO) (bI9 kV) 41000 4000 0 0 0 0 0 y) Q := by
      intro e
      rw [e] at c7
      refine u_X0_planCrossing_6 ?_; unfold cm_X0_planCrossing_6
      exact c7
    cases kI
    · cases kO
      · refine u_X0_planCrossing_5 ?_; unfold cm_X0_planCrossing_5
        exact w_ifT rfl (w_ifT rfl c7)
      · refine u_X0_planCrossing_5 ?_; unfold cm_X0_planCrossing_5
        exact w_ifT rfl (w_ifF (by decide) (c6 rfl))
    · refine u_X0_planCrossing_5 ?_; unfold cm_X0_planCrossing_5
      exact w_ifF (by decide) (c6 rfl)
  have c4 : ∀ (kI kO kV : Bool), (kI = true ↔ IN ∈ tos P) → (kO = true ↔ OU ∈ tos P) → (kV = true ↔ OV ∈ tos P) → Tt (fun K k => c_X0_planCrossing vl K k 4 (nI x) (nI kn) (nI OV) (nI IN) (nI OU) (bI9 (!ng x)) (bI9 kI) (bI9 kO) 0 41000 4000 (bI9 kV) 0 0 0 0 y) Q := by
    intro kI kO kV hkI hkO hkV
    refine u_X0_planCrossing_4 ?_; unfold cm_X0_planCrossing_4
    refine w_eqN (by omega) (by omega) (fun h9 => c5 kI kO kV (Or.inl h9) hkI hkO) (fun n1 => w_eqN (by omega) (by omega) (fun h9 => c5 kI kO kV (Or.inr h9) hkI hkO) (fun n2 => c9 OV kI kO kV (by omega) hkI hkO (fun h9 _ => hkV.mp h9) ?_ (fun v _ => (eX v).symm)))
    unfold rdy9
    rw [eO, eI, eU, hkI, hkO, hkV]
    constructor
    · exact fun h9 => ⟨Or.inl h9.1, h9.2⟩
    · rintro ⟨h9 | h9 | h9, h8⟩
      · exact ⟨h9, h8⟩
      · exact absurd h9 n1
      · exact absurd h9 n2
  have bt : ∀ b, b < 18 → (((nI kn >>> (nI b &&& 31)) &&& 1 = 0) ↔ ¬ b ∈ tos P) := fun b hb => by
    rw [gbit0 z2 (by omega), z3]
  have c3 : ∀ (kI kO : Bool), (kI = true ↔ IN ∈ tos P) → (kO = true ↔ OU ∈ tos P) → Tt (fun K k => c_X0_planCrossing vl K k 3 (nI x) (nI kn) (nI OV) (nI IN) (nI OU) (bI9 (!ng x)) (bI9 kI) 0 0 41000 4000 (bI9 kO) 0 0 0 0 y) Q := by
    intro kI kO hkI hkO
    refine u_X0_planCrossing_3 ?_; unfold cm_X0_planCrossing_3
    exact w_if (fun h9 => c4 kI kO false hkI hkO ⟨fun h8 => (by cases h8), fun h8 => absurd h8 ((bt OV (by omega)).mp h9)⟩) (fun h9 => c4 kI kO true hkI hkO ⟨fun _ => Classical.byContradiction (fun h8 => h9 ((bt OV (by omega)).mpr h8)), fun _ => rfl⟩)
  have c2 : ∀ (kI : Bool), (kI = true ↔ IN ∈ tos P) → Tt (fun K k => c_X0_planCrossing vl K k 2 (nI x) (nI kn) (nI OV) (nI IN) (nI OU) (bI9 (!ng x)) 0 0 0 41000 4000 (bI9 kI) 0 0 0 0 y) Q := by
    intro kI hkI
    refine u_X0_planCrossing_2 ?_; unfold cm_X0_planCrossing_2
    exact w_if (fun h9 => c3 kI false hkI ⟨fun h8 => (by cases h8), fun h8 => absurd h8 ((bt OU (by omega)).mp h9)⟩) (fun h9 => c3 kI true hkI ⟨fun _ => Classical.byContradiction (fun h8 => h9 ((bt OU (by omega)).mpr h8)), fun _ => rfl⟩)
  have c1 : ∀ (t0 : Int32), t0 = bI9 (!ng x) → Tt (fun K k => c_X0_planCrossing vl K k 1 (nI x) (nI kn) (nI OV) (nI IN) (nI OU) 0 0 0 0 41000 4000 t0 0 0 0 0 y) Q := by
    intro t0 ht0
    subst ht0
    refine u_X0_planCrossing_1 ?_; unfold cm_X0_planCrossing_1
    exact w_if (fun h9 => c2 false ⟨fun h8 => (by cases h8), fun h8 => absurd h8 ((bt IN (by omega)).mp h9)⟩) (fun h9 => c2 true ⟨fun _ => Classical.byContradiction (fun h8 => h9 ((bt IN (by omega)).mpr h8)), fun _ => rfl⟩)
  refine e_X0_planCrossing ?_
  refine u_X0_planCrossing_0 ?_; unfold cm_X0_planCrossing_0
  rw [rn_mul2, nI_1]
  refine w_crI ch_41001 rfl (show 2 * x < 24 by omega) o1 (w_crI (nH_2 nH4) rfl (show 2 * x + 1 < 24 by omega) (h1.2.2.2.1 _) (w_crI ch_41001 rfl (show S.2 (2 * x + 1) < 24 by omega) i1 (w_crI ch_41001 rfl (show 2 * x + 1 < 24 by omega) u1 (w_crI (nH_3 nH4) rfl (show x < 12 by omega) (h1.2.2.2.2 x) (w_if (fun h9 => c1 _ ?_) (fun h9 => c1 _ ?_))))))
  · rw [hng, decide_eq_true (show G x ≤ 0 from h9)]
    rfl
  · rw [hng, decide_eq_false (show ¬ G x ≤ 0 from h9)]
    rfl
end XMH
