section
/-! 99zzzzzzzzzzzzzzza.xmph -/
/-! maps: the class's plan of a part -/
abbrev sT9 : Type := Nat × Nat × Nat × Nat × Bool
def tos (P : List sT9) : List Nat := P.map (fun t => t.2.1)
def cjS (s : Bool) (o x : Nat) : Nat := cjG (if s = true then ivC o else o) x
def eS9 (t : sT9) (v : Nat → Nat) : Prop := v t.2.1 = cjS t.2.2.2.2 (v t.2.2.1) (v t.2.2.2.1)
def eX9 (S : ow_NP) (ng : Nat → Bool) (lab : Nat → Nat) (x : Nat) (v : Nat → Nat) : Prop := v (lab (2 * x + 1)) = cjS (ng x) (v (lab (2 * x))) (v (lab (S.2 (2 * x + 1))))
def vS9 (R : List sT9) (t : sT9) : Prop := t.1 = 0 ∧ t.2.1 ∉ tos R ∨ (t.1 = 1 ∧ t.2.1 ∉ tos R ∨ t.1 = 2 ∧ t.2.1 ∈ tos R) ∧ t.2.2.1 ∈ tos R ∧ t.2.2.2.1 ∈ tos R
def stL (z : ow_MS) (P : List sT9) : Prop := z.1 41010 = nI P.length ∧ ∀ s t, P[s]? = some t → z.2.1 41011 s = nI t.1 ∧ z.2.1 41012 s = nI t.2.1 ∧ z.2.1 41013 s = nI t.2.2.1 ∧ z.2.1 41014 s = nI t.2.2.2.1 ∧ z.2.1 41015 s = bI9 t.2.2.2.2
def pI9 (c : Nat) (S : ow_NP) (ng : Nat → Bool) (lab pr : Nat → Nat) (p : Nat) (P : List sT9) (U : List Nat) : Prop := U.Nodup ∧ (∀ x, x ∈ U → x < c ∧ pr (2 * x) = p ∧ ∃ t, t ∈ P ∧ t.1 ≠ 0 ∧ ∀ v : Nat → Nat, (∀ b, v b < 24) → (eS9 t v ↔ eX9 S ng lab x v)) ∧ (∀ t, t ∈ P → (∃ w, w < 2 * c ∧ pr w = p ∧ lab w = t.2.1) ∧ (t.1 ≠ 0 → ∃ x, x < c ∧ pr (2 * x) = p ∧ ∀ v : Nat → Nat, (∀ b, v b < 24) → (eS9 t v ↔ eX9 S ng lab x v))) ∧ ∀ s t, P[s]? = some t → vS9 (P.take s) t
def pZ9 (z : ow_MS) (P : List sT9) (U : List Nat) (kn : Nat) : Prop := stL z P ∧ kn < 2 ^ 24 ∧ (∀ b, o_gn kn b ↔ b ∈ tos P) ∧ ∃ us, z.1 41016 = nI us ∧ us < 2 ^ 24 ∧ ∀ x, o_gn us x ↔ x ∈ U
def rdy9 (S : ow_NP) (lab : Nat → Nat) (k : Nat → Prop) (x : Nat) : Prop := (k (lab (2 * x)) ∨ lab (2 * x) = lab (S.2 (2 * x + 1)) ∨ lab (2 * x) = lab (2 * x + 1)) ∧ (k (lab (S.2 (2 * x + 1))) ∨ k (lab (2 * x + 1)))
section XMH
theorem cj_self : ∀ a : Fin 24, cjG a.val a.val = a.val ∧ cjG (ivC a.val) a.val = a.val := by decide +kernel
theorem cjS_inv {s : Bool} {o a b : Nat} (ho : o < 24) (ha : a < 24) (hb : b < 24) : b = cjS s o a ↔ a = cjS (!s) o b := by
  obtain ⟨-, p2, p3, -, -⟩ := ca9 (h := o) (o := a) ho ha
  obtain ⟨-, q2, q3, -, -⟩ := ca9 (h := o) (o := b) ho hb
  cases s
  · show b = cjG o a ↔ a = cjG (ivC o) b
    exact ⟨fun e => by rw [e, p2], fun e => by rw [e, q3]⟩
  · show b = cjG (ivC o) a ↔ a = cjG o b
    exact ⟨fun e => by rw [e, p3], fun e => by rw [e, q2]⟩
theorem cjS_self {s : Bool} {a : Nat} (ha : a < 24) : cjS s a a = a := by
  cases s
  · exact (cj_self ⟨a, ha⟩).1
  · exact (cj_self ⟨a, ha⟩).2
theorem cjS_sp {s : Bool} {o a b : Nat} (ha : a < 24) (hb : b < 24) (h : o = a ∨ o = b) : b = cjS s o a ↔ a = b := by
  rcases h with h | h
  · rw [h, cjS_self ha]
    exact eq_comm
  · rw [h, cjS_inv hb ha hb, cjS_self hb]
theorem tos_app {P : List sT9} {t : sT9} {b : Nat} : b ∈ tos (P ++ [t]) ↔ b ∈ tos P ∨ b = t.2.1 := by
  unfold tos
  rw [List.map_append, List.mem_append]
  exact or_congr Iff.rfl List.mem_singleton
theorem vS9_app {P : List sT9} {t : sT9} (h : ∀ s t, P[s]? = some t → vS9 (P.take s) t) (ht : vS9 P t) : ∀ s t', (P ++ [t])[s]? = some t' → vS9 ((P ++ [t]).take s) t' := by
  intro s t' e
  have hl := (List.getElem?_eq_some_iff.mp e).1
  rw [List.length_append, List.length_singleton] at hl
  by_cases c : s < P.length
  · rw [List.getElem?_append_left c] at e
    rw [List.take_append_of_le_length (by omega)]
    exact h s t' e
  · have es : s = P.length := by omega
    rw [es, List.getElem?_append_right (Nat.le_refl _), Nat.sub_self] at e
    have e2 : t = t' := Option.some.inj e
    rw [es, List.take_append_of_le_length (Nat.le_refl _), List.take_length, ← e2]
    exact ht
variable {c : Nat} {S : ow_NP} {ng : Nat → Bool} {lab pr : Nat → Nat} {p : Nat} {P : List sT9} {U : List Nat}
theorem pI9_add {x : Nat} {t : sT9} (h : pI9 c S ng lab pr p P U) (hx : x < c) (hp : pr (2 * x) = p) (hU : x ∉ U) (ht : vS9 P t) (h0 : t.1 ≠ 0) (ha : ∃ w, w < 2 * c ∧ pr w = p ∧ lab w = t.2.1) (he : ∀ v : Nat → Nat, (∀ b, v b < 24) → (eS9 t v ↔ eX9 S ng lab x v)) : pI9 c S ng lab pr p (P ++ [t]) (x :: U) := by
  obtain ⟨h1, h2, h3, h4⟩ := h
  refine ⟨List.nodup_cons.mpr ⟨hU, h1⟩, fun x' hx' => ?_, fun t' ht' => ?_, vS9_app h4 ht⟩
  · rcases List.mem_cons.mp hx' with e | e
    · rw [e]
      exact ⟨hx, hp, t, List.mem_append_right _ List.mem_cons_self, h0, he⟩
    · obtain ⟨a1, a2, t', a3, a4⟩ := h2 x' e
      exact ⟨a1, a2, t', List.mem_append_left _ a3, a4⟩
  · rcases List.mem_append.mp ht' with e | e
    · exact h3 t' e
    · rw [List.mem_singleton.mp e]
      exact ⟨ha, fun _ => ⟨x, hx, hp, he⟩⟩
theorem pI9_seed {a : Nat} (h : pI9 c S ng lab pr p P U) (hn : a ∉ tos P) (ha : ∃ w, w < 2 * c ∧ pr w = p ∧ lab w = a) : pI9 c S ng lab pr p (P ++ [(0, a, a, a, false)]) U := by
  obtain ⟨h1, h2, h3, h4⟩ := h
  refine ⟨h1, fun x' hx' => ?_, fun t' ht' => ?_, vS9_app h4 (Or.inl ⟨rfl, hn⟩)⟩
  · obtain ⟨a1, a2, t', a3, a4⟩ := h2 x' hx'
    exact ⟨a1, a2, t', List.mem_append_left _ a3, a4⟩
  · rcases List.mem_append.mp ht' with e | e
    · exact h3 t' e
    · rw [List.mem_singleton.mp e]
      exact ⟨ha, fun h9 => absurd rfl h9⟩
theorem tos_part (h : pI9 c S ng lab pr p P U) {b : Nat} (hb : b ∈ tos P) : ∃ w, w < 2 * c ∧ pr w = p ∧ lab w = b := by
  obtain ⟨t, t1, t2⟩ := List.mem_map.mp hb
  rw [← t2]
  exact (h.2.2.1 t t1).1
variable {vl : Nat → Nat} {y : ow_MS}
theorem xc_addStep {t : sT9} (h : stL y P) (h36 : P.length < 36) : Te (fun K => ce_X0_addStep vl K 41000 (nI t.1) (nI t.2.1) (nI t.2.2.1) (nI t.2.2.2.1) (bI9 t.2.2.2.2) y) (fun y1 => stL y1 (P ++ [t]) ∧ fr (fun g => 41010 ≤ g ∧ g ≤ 41015) y y1) := by
  obtain ⟨h1, h2⟩ := id h
  refine e_X0_addStep ?_; unfold cm_X0_addStep_0
  rw [show Int32.ofNat (uw_len (cX vl) y (41000 + 11)) = nI 36 from rfl]
  refine w_rdF h1 (w_leF (by omega) h36 (w_rdF h1 (w_ctI ch_41011 rfl h36 (w_rdF (x := nI P.length) h1 (w_ctI ch_41012 rfl h36 (w_rdF (x := nI P.length) h1 (w_ctI ch_41013 rfl h36 (w_rdF (x := nI P.length) h1 (w_ctI ch_41014 rfl h36 (w_rdF (x := nI P.length) h1 (w_ctZ ch_41015 rfl h36 (w_rdF (x := nI P.length) h1 (w_wrF (w_some ⟨⟨?_, fun s t' hs => ?_⟩, ?_⟩))))))))))))))
  · rw [po_usF_at, nI_1, List.length_append]
    rfl
  · have hl := (List.getElem?_eq_some_iff.mp hs).1
    rw [List.length_append, List.length_singleton] at hl
    by_cases e : s < P.length
    · rw [List.getElem?_append_left e] at hs
      obtain ⟨b1, b2, b3, b4, b5⟩ := h2 s t' hs
      have ne : s ≠ P.length := by omega
      exact ⟨rd_ot (by omega) (rd_ot (by omega) (rd_ot (by omega) (rd_ot (by omega) (rd_ne ne b1)))), rd_ot (by omega) (rd_ot (by omega) (rd_ot (by omega) (rd_ne ne (rd_ot (by omega) b2)))), rd_ot (by omega) (rd_ot (by omega) (rd_ne ne (rd_ot (by omega) (rd_ot (by omega) b3)))), rd_ot (by omega) (rd_ne ne (rd_ot (by omega) (rd_ot (by omega) (rd_ot (by omega) b4)))), rd_ne ne (rd_ot (by omega) (rd_ot (by omega) (rd_ot (by omega) (rd_ot (by omega) b5))))⟩
    · have es : s = P.length := by omega
      rw [es, List.getElem?_append_right (Nat.le_refl _), Nat.sub_self] at hs
      have e2 : t = t' := Option.some.inj hs
      rw [es, ← e2]
      exact ⟨rd_ot (by omega) (rd_ot (by omega) (rd_ot (by omega) (rd_ot (by omega) po_usI_at))), rd_ot (by omega) (rd_ot (by omega) (rd_ot (by omega) po_usI_at)), rd_ot (by omega) (rd_ot (by omega) po_usI_at), rd_ot (by omega) po_usI_at, po_usI_at.trans (nar_b9 _)⟩
  · exact fr_F2 (fr_I2 (fr_I2 (fr_I2 (fr_I2 (fr_I (by omega)) (by omega)) (by omega)) (by omega)) (by omega)) (by omega)
variable {ci N : Nat} {G : Nat → Int32}
theorem xc_planX {x kn : Nat} (h : plN y c ci S G lab N) (hng : ng x = decide (G x ≤ 0)) (hd : ∀ w, w < 2 * c → pr (S.2 w) = pr w) (hd2 : pr (2 * x + 1) = pr (2 * x)) (hx : x < c) (hp : pr (2 * x) = p) (hU : x ∉ U) (hZ : pZ9 y P U kn) (hI : pI9 c S ng lab pr p P U) (h36 : P.length < 36) : Te (fun K => ce_X0_planCrossing vl K 41000 4000 (nI x) (nI kn) y) (fun r => fr plR y r.2 ∧ ∃ P' U' kn', r.1 = nI kn' ∧ pZ9 r.2 P' U' kn' ∧ pI9 c S ng lab pr p P' U' ∧ (P' = P ∧ U' = U ∧ kn' = kn ∧ ¬ rdy9 S lab (fun b => b ∈ tos P) x ∨ U' = x :: U ∧ P'.length = P.length + 1 ∧ ∀ b, b ∈ tos P → b ∈ tos P')) := by
  obtain ⟨h1, hv, hc, h18, h2, h3⟩ := h
  obtain ⟨z1, z2, z3, us, z4, z5, z6⟩ := id hZ
  obtain ⟨-, v2, -, -⟩ := hv (2 * x + 1) (by omega)
  obtain ⟨o1, o2⟩ := h2 (2 * x) (by omega)
  obtain ⟨u1, u2⟩ := h2 (2 * x + 1) (by omega)
  obtain ⟨i1, i2⟩ := h2 _ v2
  let Q : Int32 × ow_MS → Prop := fun r => fr plR y r.2 ∧ ∃ P' U' kn', r.1 = nI kn' ∧ pZ9 r.2 P' U' kn' ∧ pI9 c S ng lab pr p P' U' ∧ (P' = P ∧ U' = U ∧ kn' = kn ∧ ¬ rdy9 S lab (fun b => b ∈ tos P) x ∨ U' = x :: U ∧ P'.length = P.length + 1 ∧ ∀ b, b ∈ tos P → b ∈ tos P')
  generalize eO : lab (2 * x) = OV at *
  generalize eI : lab (S.2 (2 * x + 1)) = IN at *
  generalize eU : lab (2 * x + 1) = OU at *
  have aI : ∃ w, w < 2 * c ∧ pr w = p ∧ lab w = IN := ⟨_, v2, by rw [hd _ (by omega), hd2, hp], eI⟩
  have aU : ∃ w, w < 2 * c ∧ pr w = p ∧ lab w = OU := ⟨2 * x + 1, by omega, by rw [hd2, hp], eU⟩
  have eX : ∀ v, eX9 S ng lab x v ↔ v OU = cjS (ng x) (v OV) (v IN) := fun v => by
    unfold eX9
    rw [eO, eI, eU]
  have c14 : ∀ (t : sT9) (x7 x8 x9 x10 ov : Int32) (z : ow_MS), fr plR y z → stL z (P ++ [t]) → z.1 41016 = nI (us ||| 2 ^ x) → vS9 P t → t.1 ≠ 0 → (∃ w, w < 2 * c ∧ pr w = p ∧ lab w = t.2.1) → (∀ v : Nat → Nat, (∀ b, v b < 24) → (eS9 t v ↔ eX9 S ng lab x v)) → (∀ b, (b ∈ tos P ∨ b = IN) ∨ b = OU ↔ b ∈ tos P ∨ b = t.2.1) → Tt (fun K k => c_X0_planCrossing vl K k 14 (nI x) (nI kn) ov (nI IN) (nI OU) x7 x8 x9 x10 41000 4000 0 0 0 0 0 z) Q := by
    intro t x7 x8 x9 x10 ov z hf hst hu ht h0 ha he hb
    obtain ⟨g1, g2⟩ := gor9 (g := kn) (v := IN) z2 (by omega)
    obtain ⟨g3, g4⟩ := gor9 (g := kn ||| 2 ^ IN) (v := OU) g2 (by omega)
    obtain ⟨g5, g6⟩ := gor9 (g := us) (v := x) z5 (by omega)
    refine u_X0_planCrossing_14 ?_; unfold cm_X0_planCrossing_14
    refine w_some ⟨hf, P ++ [t], x :: U, (kn ||| 2 ^ IN) ||| 2 ^ OU, ?_, ⟨hst, g4, fun b => ?_, us ||| 2 ^ x, hu, g6, fun x' => ?_⟩, pI9_add hI hx hp hU ht h0 ha he, Or.inr ⟨rfl, ?_, fun b hb9 => tos_app.mpr (Or.inl hb9)⟩⟩
    · rw [g1, g3]
    · rw [gn_or, gn_or, z3, tos_app]
      exact hb b
    · rw [gn_or, z6, List.mem_cons]
      exact or_comm
    · rw [List.length_append]
      rfl
  have c9 : ∀ (o : Nat) (kI kO kV : Bool), o < 18 → (kI = true ↔ IN ∈ tos P) → (kO = true ↔ OU ∈ tos P) → (kV = true → (kI = true ∨ kO = true) → o ∈ tos P) → (kV = true ∧ (kI = true ∨ kO = true) ↔ rdy9 S lab (fun b => b ∈ tos P) x) → (∀ v : Nat → Nat, (∀ b, v b < 24) → (v OU = cjS (ng x) (v o) (v IN) ↔ eX9 S ng lab x v)) → Tt (fun K k => c_X0_planCrossing vl K k 9 (nI x) (nI kn) (nI o) (nI IN) (nI OU) (bI9 (!ng x)) (bI9 kI) (bI9 kO) (bI9 kV) 41000 4000 0 0 0 0 0 y) Q := by
    intro o kI kO kV ho hkI hkO hkV hrd hE
    have nop : ¬ rdy9 S lab (fun b => b ∈ tos P) x → Q (nI kn, y) := fun h9 => ⟨fr_rf, P, U, kn, rfl, hZ, hI, Or.inl ⟨rfl, rfl, rfl, h9⟩⟩
    have c10 : kV = true → (kI = true ∨ kO = true) → Tt (fun K k => c_X0_planCrossing vl K k 10 (nI x) (nI kn) (nI o) (nI IN) (nI OU) (bI9 (!ng x)) (bI9 kI) (bI9 kO) (bI9 kV) 41000 4000 0 0 0 0 0 y) Q := by
      intro hV hIO
      have hoK := hkV hV hIO
      obtain ⟨g5, g6⟩ := gor9 (g := us) (v := x) z5 (by omega)
      refine u_X0_planCrossing_10 ?_; unfold cm_X0_planCrossing_10
      refine w_rdF z4 (w_wrF ?_)
      rw [g5]
      have fz : fr plR y (usF y 41016 (nI (us ||| 2 ^ x))) := fr_F (by unfold plR; omega)
      have sz : stL (usF y 41016 (nI (us ||| 2 ^ x))) P := ⟨rf_ot (by omega) z1.1, z1.2⟩
      have uz : (usF y 41016 (nI (us ||| 2 ^ x))).1 41016 = nI (us ||| 2 ^ x) := po_usF_at
      generalize usF y 41016 (nI (us ||| 2 ^ x)) = z at fz sz uz
      have ad : ∀ (t : sT9), Te (fun K => ce_X0_addStep vl K 41000 (nI t.1) (nI t.2.1) (nI t.2.2.1) (nI t.2.2.2.1) (bI9 t.2.2.2.2) z) (fun y1 => stL y1 (P ++ [t]) ∧ y1.1 41016 = nI (us ||| 2 ^ x) ∧ fr plR y y1) := fun t => w_monoE (xc_addStep sz h36) (fun r hr => ⟨hr.1, (hr.2 41016 (by omega)).1.trans uz, fr_tr fz (fr_mono (fun g hg => by unfold plR; omega) hr.2)⟩)
      have e12 : ∀ s : Bool, (if (bI9 s : Int32) = 0 then (1 : Int32) else 0) = bI9 (!s) := fun s => by cases s <;> rfl
      cases kI
      · -- what goes out is known
        have hO : kO = true := by simpa using hIO
        have nI9 : IN ∉ tos P := fun h9 => by have := hkI.mpr h9; cases this
        refine w_ifT rfl ?_
        refine u_X0_planCrossing_12 ?_; unfold cm_X0_planCrossing_12
        refine w_ifT rfl (w_cs0 (ad (1, IN, o, OU, !ng x)) ?_)
        rintro y1 ⟨s1, s2, s3⟩
        refine c14 (1, IN, o, OU, !ng x) _ _ _ _ _ y1 s3 s1 s2 (Or.inr ⟨Or.inl ⟨rfl, nI9⟩, hoK, hkO.mp hO⟩) (show (1 : Nat) ≠ 0 by decide) aI (fun v hv9 => ?_) (fun b => ?_)
        · rw [← hE v hv9]
          exact (cjS_inv (hv9 _) (hv9 _) (hv9 _)).symm
        · have := hkO.mp hO
          constructor
          · rintro ((h9 | h9) | h9)
            · exact Or.inl h9
            · exact Or.inr h9
            · rw [h9]
              exact Or.inl this
          · rintro (h9 | h9)
            · exact Or.inl (Or.inl h9)
            · exact Or.inl (Or.inr h9)
      · have kI1 := hkI.mp rfl
        cases kO
        · -- what goes in is known
          have nO9 : OU ∉ tos P := fun h9 => by have := hkO.mpr h9; cases this
          have c13 : ∀ (t0 : Int32), t0 = bI9 (ng x) → Tt (fun K k => c_X0_planCrossing vl K k 13 (nI x) (nI kn) (nI o) (nI IN) (nI OU) (bI9 (!ng x)) (bI9 true) (bI9 false) (bI9 kV) 41000 4000 t0 (nI IN) (nI o) (nI OU) 1 z) Q := by
            intro t0 ht0
            subst ht0
            refine u_X0_planCrossing_13 ?_; unfold cm_X0_planCrossing_13
            refine w_cs0 (ad (1, OU, o, IN, ng x)) ?_
            rintro y1 ⟨s1, s2, s3⟩
            refine c14 (1, OU, o, IN, ng x) _ _ _ _ _ y1 s3 s1 s2 (Or.inr ⟨Or.inl ⟨rfl, nO9⟩, hoK, kI1⟩) (show (1 : Nat) ≠ 0 by decide) aU (fun v hv9 => hE v hv9) (fun b => ?_)
            constructor
            · rintro ((h9 | h9) | h9)
              · exact Or.inl h9
              · rw [h9]
                exact Or.inl kI1
              · exact Or.inr h9
            · rintro (h9 | h9)
              · exact Or.inl (Or.inl h9)
              · exact Or.inr h9
          refine w_ifF (by decide) (w_ifT rfl ?_)
          refine u_X0_planCrossing_12 ?_; unfold cm_X0_planCrossing_12
          refine w_ifF (by decide) (w_if (fun h9 => c13 _ ?_) (fun h9 => c13 _ ?_))
          · cases hn : ng x
            · rw [hn] at h9
              exact absurd h9 (by decide)
            · rfl
          · cases hn : ng x
            · rfl
            · rw [hn] at h9
              exact absurd rfl h9
        · have kO1 := hkO.mp rfl
          have c11 : ∀ (t0 : Int32), t0 = bI9 (ng x) → Tt (fun K k => c_X0_planCrossing vl K k 11 (nI x) (nI kn) (nI o) (nI IN) (nI OU) (bI9 (!ng x)) (bI9 true) (bI9 true) (bI9 kV) 41000 4000 t0 (nI IN) (nI o) (nI OU) 2 z) Q := by
            intro t0 ht0
            subst ht0
            refine u_X0_planCrossing_11 ?_; unfold cm_X0_planCrossing_11
            refine w_cs0 (ad (2, OU, o, IN, ng x)) ?_
            rintro y1 ⟨s1, s2, s3⟩
            refine c14 (2, OU, o, IN, ng x) _ _ _ _ _ y1 s3 s1 s2 (Or.inr ⟨Or.inr ⟨rfl, kO1⟩, hoK, kI1⟩) (show (2 : Nat) ≠ 0 by decide) aU (fun v hv9 => hE v hv9) (fun b => ?_)
            constructor
            · rintro ((h9 | h9) | h9)
              · exact Or.inl h9
              · rw [h9]
                exact Or.inl kI1
              · exact Or.inr h9
            · rintro (h9 | h9)
              · exact Or.inl (Or.inl h9)
              · exact Or.inr h9
          refine w_ifF (by decide) (w_ifF (by decide) (w_if (fun h9 => c11 _ ?_) (fun h9 => c11 _ ?_)))
          · cases hn : ng x
            · rw [hn] at h9
              exact absurd h9 (by decide)
            · rfl
          · cases hn : ng x
            · rfl
            · rw [hn] at h9
              exact absurd rfl h9
    cases kV
    · refine u_X0_planCrossing_9 ?_; unfold cm_X0_planCrossing_9
      exact w_ifT rfl (w_some (nop (fun h9 => by have := (hrd.mpr h9).1; cases this)))
    · cases kI
      · cases kO
        · refine u_X0_planCrossing_9 ?_; unfold cm_X0_planCrossing_9
          exact w_ifF (by decide) (w_ifT rfl (w_ifT rfl (w_some (nop (fun h9 => by rcases (hrd.mpr h9).2 with h8 | h8 <;> cases h8)))))
        · have := c10 rfl (Or.inr rfl)
          refine u_X0_planCrossing_9 ?_; unfold cm_X0_planCrossing_9
          exact w_ifF (by decide) (w_ifT rfl (w_ifF (by decide) this))
      · have := c10 rfl (Or.inl rfl)
        refine u_X0_planCrossing_9 ?_; unfold cm_X0_planCrossing_9
        exact w_ifF (by decide) (w_ifF (by decide) this)
  -- one with the arc over
  have c5 : ∀ (kI kO kV : Bool), (OV = IN ∨ OV = OU) → (kI = true ↔ IN ∈ tos P) → (kO = true ↔ OU ∈ tos P) → Tt (fun K k => c_X0_planCrossing vl K k 5 (nI x) (nI kn) (nI OV) (nI IN) (nI OU) (bI9 (!ng x)) (bI9 kI) (bI9 kO) (bI9 kV) 41000 4000 0 0 0 0 0 y) Q := by
    intro kI kO kV hsp hkI hkO
    have hE : ∀ o, o = IN ∨ o = OU → ∀ v : Nat → Nat, (∀ b, v b < 24) → (v OU = cjS (ng x) (v o) (v IN) ↔ eX9 S ng lab x v) := by
      intro o ho v hv9
      rw [eX, cjS_sp (hv9 _) (hv9 _) (ho.imp (fun e => by rw [e]) (fun e => by rw [e])), cjS_sp (hv9 _) (hv9 _) (hsp.imp (fun e => by rw [e]) (fun e => by rw [e]))]
    have hrd : (kI || kO) = true ∧ (kI = true ∨ kO = true) ↔ rdy9 S lab (fun b => b ∈ tos P) x := by
      unfold rdy9
      rw [eO, eI, eU, Bool.or_eq_true, hkI, hkO]
      exact ⟨fun h9 => ⟨Or.inr hsp, h9.2⟩, fun h9 => ⟨h9.2, h9.2⟩⟩
    have c7 : Tt (fun K k => c_X0_planCrossing vl K k 7 (nI x) (nI kn) (nI OV) (nI IN) (nI OU) (bI9 (!ng x)) (bI9 kI) (bI9 kO) (bI9 kV) 41000 4000 (bI9 (kI || kO)) 0 0 0 0 y) Q := by
      cases kI
      · refine u_X0_planCrossing_7 ?_; unfold cm_X0_planCrossing_7
        refine w_ifT rfl ?_
        refine u_X0_planCrossing_8 ?_; unfold cm_X0_planCrossing_8
        exact c9 OU false kO (false || kO) (by omega) hkI hkO (fun _ h9 => hkO.mp (by simpa using h9)) hrd (hE OU (Or.inr rfl))
      · refine u_X0_planCrossing_7 ?_; unfold cm_X0_planCrossing_7
        refine w_ifF (by decide) ?_
        refine u_X0_planCrossing_8 ?_; unfold cm_X0_planCrossing_8
        exact c9 IN true kO (true || kO) (by omega) hkI hkO (fun _ _ => hkI.mp rfl) hrd (hE IN (Or.inl rfl))
    have c6 : (kI || kO) = true → Tt (fun K k => c_X0_planCrossing vl K k 6 (nI x) (nI kn) (nI OV) (nI IN) (nI OU) (bI9 (!ng x)) (bI9 kI) (bI9 kO) (bI9 kV) 41000 4000 0 0 0 0 0 y) Q := by
      intro e
      rw [e] at c7
      refine u_X0_planCrossing_6 ?_; unfold cm_X0_planCrossing_6
      exact c7
    cases kI
    · cases kO
      · refine u_X0_planCrossing_5 ?_; unfold cm_X0_planCrossing_5
        exact w_ifT rfl (w_ifT rfl c7)
      · refine u_X0_planCrossing_5 ?_; unfold cm_X0_planCrossing_5
        exact w_ifT rfl (w_ifF (by decide) (c6 rfl))
    · refine u_X0_planCrossing_5 ?_; unfold cm_X0_planCrossing_5
      exact w_ifF (by decide) (c6 rfl)
  have c4 : ∀ (kI kO kV : Bool), (kI = true ↔ IN ∈ tos P) → (kO = true ↔ OU ∈ tos P) → (kV = true ↔ OV ∈ tos P) → Tt (fun K k => c_X0_planCrossing vl K k 4 (nI x) (nI kn) (nI OV) (nI IN) (nI OU) (bI9 (!ng x)) (bI9 kI) (bI9 kO) 0 41000 4000 (bI9 kV) 0 0 0 0 y) Q := by
    intro kI kO kV hkI hkO hkV
    refine u_X0_planCrossing_4 ?_; unfold cm_X0_planCrossing_4
    refine w_eqN (by omega) (by omega) (fun h9 => c5 kI kO kV (Or.inl h9) hkI hkO) (fun n1 => w_eqN (by omega) (by omega) (fun h9 => c5 kI kO kV (Or.inr h9) hkI hkO) (fun n2 => c9 OV kI kO kV (by omega) hkI hkO (fun h9 _ => hkV.mp h9) ?_ (fun v _ => (eX v).symm)))
    unfold rdy9
    rw [eO, eI, eU, hkI, hkO, hkV]
    constructor
    · exact fun h9 => ⟨Or.inl h9.1, h9.2⟩
    · rintro ⟨h9 | h9 | h9, h8⟩
      · exact ⟨h9, h8⟩
      · exact absurd h9 n1
      · exact absurd h9 n2
  have bt : ∀ b, b < 18 → (((nI kn >>> (nI b &&& 31)) &&& 1 = 0) ↔ ¬ b ∈ tos P) := fun b hb => by
    rw [gbit0 z2 (by omega), z3]
  have c3 : ∀ (kI kO : Bool), (kI = true ↔ IN ∈ tos P) → (kO = true ↔ OU ∈ tos P) → Tt (fun K k => c_X0_planCrossing vl K k 3 (nI x) (nI kn) (nI OV) (nI IN) (nI OU) (bI9 (!ng x)) (bI9 kI) 0 0 41000 4000 (bI9 kO) 0 0 0 0 y) Q := by
    intro kI kO hkI hkO
    refine u_X0_planCrossing_3 ?_; unfold cm_X0_planCrossing_3
    exact w_if (fun h9 => c4 kI kO false hkI hkO ⟨fun h8 => (by cases h8), fun h8 => absurd h8 ((bt OV (by omega)).mp h9)⟩) (fun h9 => c4 kI kO true hkI hkO ⟨fun _ => Classical.byContradiction (fun h8 => h9 ((bt OV (by omega)).mpr h8)), fun _ => rfl⟩)
  have c2 : ∀ (kI : Bool), (kI = true ↔ IN ∈ tos P) → Tt (fun K k => c_X0_planCrossing vl K k 2 (nI x) (nI kn) (nI OV) (nI IN) (nI OU) (bI9 (!ng x)) 0 0 0 41000 4000 (bI9 kI) 0 0 0 0 y) Q := by
    intro kI hkI
    refine u_X0_planCrossing_2 ?_; unfold cm_X0_planCrossing_2
    exact w_if (fun h9 => c3 kI false hkI ⟨fun h8 => (by cases h8), fun h8 => absurd h8 ((bt OU (by omega)).mp h9)⟩) (fun h9 => c3 kI true hkI ⟨fun _ => Classical.byContradiction (fun h8 => h9 ((bt OU (by omega)).mpr h8)), fun _ => rfl⟩)
  have c1 : ∀ (t0 : Int32), t0 = bI9 (!ng x) → Tt (fun K k => c_X0_planCrossing vl K k 1 (nI x) (nI kn) (nI OV) (nI IN) (nI OU) 0 0 0 0 41000 4000 t0 0 0 0 0 y) Q := by
    intro t0 ht0
    subst ht0
    refine u_X0_planCrossing_1 ?_; unfold cm_X0_planCrossing_1
    exact w_if (fun h9 => c2 false ⟨fun h8 => (by cases h8), fun h8 => absurd h8 ((bt IN (by omega)).mp h9)⟩) (fun h9 => c2 true ⟨fun _ => Classical.byContradiction (fun h8 => h9 ((bt IN (by omega)).mpr h8)), fun _ => rfl⟩)
  refine e_X0_planCrossing ?_
  refine u_X0_planCrossing_0 ?_; unfold cm_X0_planCrossing_0
  rw [rn_mul2, nI_1]
  refine w_crI ch_41001 rfl (show 2 * x < 24 by omega) o1 (w_crI (nH_2 nH4) rfl (show 2 * x + 1 < 24 by omega) (h1.2.2.2.1 _) (w_crI ch_41001 rfl (show S.2 (2 * x + 1) < 24 by omega) i1 (w_crI ch_41001 rfl (show 2 * x + 1 < 24 by omega) u1 (w_crI (nH_3 nH4) rfl (show x < 12 by omega) (h1.2.2.2.2 x) (w_if (fun h9 => c1 _ ?_) (fun h9 => c1 _ ?_))))))
  · rw [hng, decide_eq_true (show G x ≤ 0 from h9)]
    rfl
  · rw [hng, decide_eq_false (show ¬ G x ≤ 0 from h9)]
    rfl
end XMH
end
section
/-! 99zzzzzzzzzzzzzzzb.xmpi -/
/-! maps: the class's plan from seeds, and of a part -/
section XMI
variable {c : Nat} {S : ow_NP} {ng : Nat → Bool} {lab pr : Nat → Nat} {p : Nat} {vl : Nat → Nat} {y : ow_MS} {ci N : Nat} {G : Nat → Int32}
theorem gn_ext {a b : Nat} (h : ∀ i, o_gn a i ↔ o_gn b i) : a = b := by
  refine Nat.eq_of_testBit_eq (fun i => ?_)
  have := h i
  rw [gn_test, gn_test] at this
  cases h1 : a.testBit i <;> cases h2 : b.testBit i
  · rfl
  · rw [h1, h2] at this
    exact absurd (this.mpr rfl) (by decide)
  · rw [h1, h2] at this
    exact absurd (this.mp rfl) (by decide)
  · rfl
theorem xc_planFrom {se : Nat} (h : plN y c ci S G lab N) (hng : ∀ x, x < c → ng x = decide (G x ≤ 0)) (hd : ∀ w, w < 2 * c → pr (S.2 w) = pr w) (hd2 : ∀ x, x < c → pr (2 * x + 1) = pr (2 * x)) (hrow : ∀ w, w < 2 * c → y.2.1 4006 w = nI (pr w) ∧ pr w < 100) (hp : p < 100) (hc7 : c ≤ 7) (hN : N ≤ 11) (hse : se < 2 ^ 24) (hs : ∀ b, o_gn se b → ∃ w, w < 2 * c ∧ pr w = p ∧ lab w = b) : Te (fun K => ce_X0_planFrom vl K 41000 4000 (nI p) (nI se) y) (fun r => fr plR y r.2 ∧ ∃ P U kn, r.1 = nI kn ∧ pZ9 r.2 P U kn ∧ pI9 c S ng lab pr p P U ∧ P.length ≤ 18 ∧ (∀ x, x < c → pr (2 * x) = p → x ∉ U → ¬ rdy9 S lab (fun b => b ∈ tos P) x) ∧ ∀ b, b < N → o_gn se b → b ∈ tos P) := by
  let Q : Int32 × ow_MS → Prop := fun r => fr plR y r.2 ∧ ∃ P U kn, r.1 = nI kn ∧ pZ9 r.2 P U kn ∧ pI9 c S ng lab pr p P U ∧ P.length ≤ 18 ∧ (∀ x, x < c → pr (2 * x) = p → x ∉ U → ¬ rdy9 S lab (fun b => b ∈ tos P) x) ∧ ∀ b, b < N → o_gn se b → b ∈ tos P
  have hP : ∀ z, fr plR y z → plN z c ci S G lab N := fun z hf => plN_fr hf (fun g hg => plR_n hg) h
  have hR : ∀ z, fr plR y z → ∀ w, w < 2 * c → z.2.1 4006 w = nI (pr w) := fun z hf w hw => by
    rw [(hf 4006 (by unfold plR; omega)).2.1]
    exact (hrow w hw).1
  obtain ⟨-, hv, -, -, hl, -⟩ := id h
  have uc : ∀ {P : List sT9} {U : List Nat}, pI9 c S ng lab pr p P U → U.length ≤ c := fun {P} {U} hI => by
    have := nodup_le U (List.range c) hI.1 (fun x hx => List.mem_range.mpr (hI.2.1 x hx).1)
    rw [List.length_range] at this
    exact this
  have tN : ∀ {P : List sT9} {U : List Nat}, pI9 c S ng lab pr p P U → ∀ b, b ∈ tos P → b < N := fun hI b hb => by
    obtain ⟨w, w1, -, w3⟩ := tos_part hI hb
    rw [← w3]
    exact (hl w w1).2
  have c1 : ∀ (d j : Nat) (P : List sT9) (U : List Nat) (kn : Nat) (z : ow_MS), j + d = N → fr plR y z → pZ9 z P U kn → pI9 c S ng lab pr p P U → P.length ≤ j + U.length → (∀ x, x < c → pr (2 * x) = p → x ∉ U → ¬ rdy9 S lab (fun b => b ∈ tos P) x) → (∀ b, b < j → o_gn se b → b ∈ tos P) → Tt (fun K k => c_X0_planFrom vl K k 1 (nI p) (nI se) (nI kn) (nI j) 0 0 0 41000 4000 z) Q := by
    intro d
    induction d with
    | zero =>
      intro j P U kn z hj hf hZ hI hlen hcl hsd
      have := uc hI
      refine u_X0_planFrom_1 ?_; unfold cm_X0_planFrom_1
      exact w_rdF (hP z hf).2.2.2.2.2 (w_leT (by omega) (by omega) (w_some ⟨hf, P, U, kn, rfl, hZ, hI, by omega, hcl, fun b hb => hsd b (by omega)⟩))
    | succ d ih =>
      intro j P U kn z hj hf hZ hI hlen hcl hsd
      have c6 : ∀ (P : List sT9) (U : List Nat) (kn : Nat) (z : ow_MS), fr plR y z → pZ9 z P U kn → pI9 c S ng lab pr p P U → P.length ≤ j + 1 + U.length → (∀ x, x < c → pr (2 * x) = p → x ∉ U → ¬ rdy9 S lab (fun b => b ∈ tos P) x) → (∀ b, b < j + 1 → o_gn se b → b ∈ tos P) → Tt (fun K k => c_X0_planFrom vl K k 6 (nI p) (nI se) (nI kn) (nI j) 0 0 0 41000 4000 z) Q := by
        intro P U kn z hf hZ hI hlen hcl hsd
        refine u_X0_planFrom_6 ?_; unfold cm_X0_planFrom_6
        rw [nI_1]
        exact ih (j + 1) P U kn z (by omega) hf hZ hI hlen hcl hsd
      have c2 : ∀ (e i : Nat) (P : List sT9) (U : List Nat) (kn : Nat) (z : ow_MS) (M : List Nat), i + e = 12 → fr plR y z → pZ9 z P U kn → pI9 c S ng lab pr p P U → P.length ≤ j + 1 + U.length → (∀ b, b < j + 1 → o_gn se b → b ∈ tos P) → M.Nodup → (∀ b, b ∈ M → b ∈ tos P) → 1 ≤ M.length → i ≤ M.length → Tt (fun K k => c_X0_planFrom vl K k 2 (nI p) (nI se) (nI kn) (nI j) (nI i) 0 0 41000 4000 z) Q := by
        intro e
        induction e with
        | zero =>
          intro i P U kn z M hi hf hZ hI hlen hsd hM1 hM2 hM3 hM4
          exfalso
          have := nodup_le M (List.range N) hM1 (fun b hb => List.mem_range.mpr (tN hI b (hM2 b hb)))
          rw [List.length_range] at this
          omega
        | succ e ihe =>
          intro i P U kn z M hi hf hZ hI hlen hsd hM1 hM2 hM3 hM4
          have c5 : ∀ (P : List sT9) (U : List Nat) (kn : Nat) (z : ow_MS) (M : List Nat) (x7 x8 : Int32), fr plR y z → pZ9 z P U kn → pI9 c S ng lab pr p P U → P.length ≤ j + 1 + U.length → (∀ b, b < j + 1 → o_gn se b → b ∈ tos P) → M.Nodup → (∀ b, b ∈ M → b ∈ tos P) → 1 ≤ M.length → i + 1 ≤ M.length → Tt (fun K k => c_X0_planFrom vl K k 5 (nI p) (nI se) (nI kn) (nI j) (nI i) x7 x8 41000 4000 z) Q := by
            intro P U kn z M x7 x8 hf hZ hI hlen hsd hM1 hM2 hM3 hM4
            refine u_X0_planFrom_5 ?_; unfold cm_X0_planFrom_5
            rw [nI_1]
            exact ihe (i + 1) P U kn z M (by omega) hf hZ hI hlen hsd hM1 hM2 hM3 hM4
          have c3 : ∀ (g x : Nat) (P' : List sT9) (U' : List Nat) (kn' : Nat) (z : ow_MS), x + g = c → fr plR y z → pZ9 z P' U' kn' → pI9 c S ng lab pr p P' U' → P'.length ≤ j + 1 + U'.length → (∀ b, b ∈ tos P → b ∈ tos P') → ((∀ b, b ∈ tos P' → b ∈ tos P) → ∀ x', x' < x → pr (2 * x') = p → x' ∉ U' → ¬ rdy9 S lab (fun b => b ∈ tos P) x') → Tt (fun K k => c_X0_planFrom vl K k 3 (nI p) (nI se) (nI kn') (nI j) (nI i) (nI kn) (nI x) 41000 4000 z) Q := by
            intro g
            induction g with
            | zero =>
              intro x P' U' kn' z hx hf' hZ' hI' hlen' hmo hcl'
              have hsd' : ∀ b, b < j + 1 → o_gn se b → b ∈ tos P' := fun b h1 h2 => hmo b (hsd b h1 h2)
              refine u_X0_planFrom_3 ?_; unfold cm_X0_planFrom_3
              refine w_rdF (hP z hf').1.1 (w_leT (by omega) (by omega) (w_eqN (by have := hZ'.2.1; omega) (by have := hZ.2.1; omega) (fun h9 => ?_) (fun h9 => ?_)))
              · have hsub : ∀ b, b ∈ tos P' → b ∈ tos P := fun b hb => by
                  rw [← hZ.2.2.1, ← h9, hZ'.2.2.1]
                  exact hb
                have ek : (fun b => b ∈ tos P') = fun b => b ∈ tos P := funext (fun b => propext ⟨hsub b, hmo b⟩)
                refine w_le (b := 0) (by omega) (by omega) (fun h8 => c5 P' U' kn' z M _ _ hf' hZ' hI' hlen' hsd' hM1 (fun b hb => hmo b (hM2 b hb)) hM3 (by omega)) (fun h8 => c6 P' U' kn' z hf' hZ' hI' hlen' (fun x' h1 h2 h3 => ?_) hsd')
                rw [ek]
                exact hcl' hsub x' (by omega) h2 h3
              · obtain ⟨b, b1, b2⟩ : ∃ b, b ∈ tos P' ∧ b ∉ tos P := by
                  refine Classical.byContradiction (fun h8 => h9 (gn_ext (fun i => ?_)))
                  rw [hZ.2.2.1, hZ'.2.2.1]
                  exact ⟨fun h7 => Classical.byContradiction (fun h6 => h8 ⟨i, h7, h6⟩), hmo i⟩
                refine c5 P' U' kn' z (b :: M) _ _ hf' hZ' hI' hlen' hsd' (List.nodup_cons.mpr ⟨fun h7 => b2 (hM2 b h7), hM1⟩) (fun b' hb' => ?_) (by rw [List.length_cons]; omega) (by rw [List.length_cons]; omega)
                rcases List.mem_cons.mp hb' with h7 | h7
                · rw [h7]
                  exact b1
                · exact hmo b' (hM2 b' h7)
            | succ g ihg =>
              intro x P' U' kn' z hx hf' hZ' hI' hlen' hmo hcl'
              have c4 : ∀ (P' : List sT9) (U' : List Nat) (kn' : Nat) (z : ow_MS), fr plR y z → pZ9 z P' U' kn' → pI9 c S ng lab pr p P' U' → P'.length ≤ j + 1 + U'.length → (∀ b, b ∈ tos P → b ∈ tos P') → ((∀ b, b ∈ tos P' → b ∈ tos P) → ∀ x', x' < x + 1 → pr (2 * x') = p → x' ∉ U' → ¬ rdy9 S lab (fun b => b ∈ tos P) x') → Tt (fun K k => c_X0_planFrom vl K k 4 (nI p) (nI se) (nI kn') (nI j) (nI i) (nI kn) (nI x) 41000 4000 z) Q := by
                intro P' U' kn' z hf' hZ' hI' hlen' hmo hcl'
                refine u_X0_planFrom_4 ?_; unfold cm_X0_planFrom_4
                rw [nI_1]
                exact ihg (x + 1) P' U' kn' z (by omega) hf' hZ' hI' hlen' hmo hcl'
              have hxc : x < c := by omega
              have ul := uc hI'
              obtain ⟨us, u1, u2, u3⟩ := hZ'.2.2.2
              refine u_X0_planFrom_3 ?_; unfold cm_X0_planFrom_3
              rw [rn_mul2]
              refine w_rdF (hP z hf').1.1 (w_leF (by omega) (by omega) (w_crI (nH_6 nH4) rfl (show 2 * x < 24 by omega) (hR z hf' _ (by omega)) (w_eqN (by have := (hrow (2 * x) (by omega)).2; omega) (by omega) (fun hpx => w_rdF u1 (w_if (fun h9 => ?_) (fun h9 => ?_))) (fun hpx => c4 P' U' kn' z hf' hZ' hI' hlen' hmo (fun h8 x' h1 h2 h3 => ?_)))))
              · have hxU : x ∉ U' := fun h8 => ((gbit0 u2 (by omega)).mp h9) ((u3 x).mpr h8)
                refine w_cs1 (xc_planX (hP z hf') (hng x hxc) hd (hd2 x hxc) hxc hpx hxU hZ' hI' (by omega)) ?_
                rintro v z1 ⟨f1, P2, U2, kn2, e2, Z2, I2, h8⟩
                have e2 : v = nI kn2 := e2
                have f1 : fr plR z z1 := f1
                have Z2 : pZ9 z1 P2 U2 kn2 := Z2
                rw [e2]
                rcases h8 with ⟨k1, k2, k3, k4⟩ | ⟨k1, k2, k3⟩
                · rw [k1, k2, k3] at Z2
                  rw [k3]
                  refine c4 P' U' kn' z1 (fr_tr hf' f1) Z2 hI' hlen' hmo (fun h7 x' h1 h2 h3 => ?_)
                  by_cases ex : x' = x
                  · have ek : (fun b => b ∈ tos P') = fun b => b ∈ tos P := funext (fun b => propext ⟨h7 b, hmo b⟩)
                    rw [ek] at k4
                    rw [ex]
                    exact k4
                  · exact hcl' h7 x' (by omega) h2 h3
                · refine c4 P2 U2 kn2 z1 (fr_tr hf' f1) Z2 I2 (by rw [k1, List.length_cons]; omega) (fun b hb => k3 b (hmo b hb)) (fun h7 x' h1 h2 h3 => ?_)
                  rw [k1] at h3
                  have hne : x' ≠ x := fun e9 => h3 (by rw [e9]; exact List.mem_cons_self)
                  exact hcl' (fun b hb => h7 b (k3 b hb)) x' (by omega) h2 (fun h9 => h3 (List.mem_cons_of_mem _ h9))
              · have hxU : x ∈ U' := Classical.byContradiction (fun h8 => h9 ((gbit0 u2 (by omega)).mpr (fun h7 => h8 ((u3 x).mp h7))))
                refine c4 P' U' kn' z hf' hZ' hI' hlen' hmo (fun h7 x' h1 h2 h3 => ?_)
                have hne : x' ≠ x := fun e9 => h3 (by rw [e9]; exact hxU)
                exact hcl' h7 x' (by omega) h2 h3
              · have hne : x' ≠ x := fun e9 => hpx (by rw [← e9]; exact h2)
                exact hcl' h8 x' (by omega) h2 h3
          refine u_X0_planFrom_2 ?_; unfold cm_X0_planFrom_2
          exact w_leF (a := 12) (by omega) (by omega) (c3 c 0 P U kn z (by omega) hf hZ hI hlen (fun b hb => hb) (fun _ x' hx' => absurd hx' (Nat.not_lt_zero _)))
      have ul := uc hI
      refine u_X0_planFrom_1 ?_; unfold cm_X0_planFrom_1
      refine w_rdF (hP z hf).2.2.2.2.2 (w_leF (by omega) (by omega) (w_if (fun h9 => ?_) (fun h9 => w_if (fun h8 => ?_) (fun h8 => ?_))))
      · refine c6 P U kn z hf hZ hI (by omega) hcl (fun b h1 h2 => ?_)
        by_cases eb : b = j
        · rw [eb] at h2
          exact absurd h2 ((gbit0 hse (by omega)).mp h9)
        · exact hsd b (by omega) h2
      · have hj1 : o_gn se j := Classical.byContradiction (fun h7 => h9 ((gbit0 hse (by omega)).mpr h7))
        have hj2 : j ∉ tos P := fun h7 => ((gbit0 hZ.2.1 (by omega)).mp h8) ((hZ.2.2.1 j).mpr h7)
        obtain ⟨g1, g2⟩ := gor9 (g := kn) (v := j) hZ.2.1 (by omega)
        refine w_cs0 (xc_addStep (t := (0, j, j, j, false)) hZ.1 (by omega)) ?_
        rintro z1 ⟨s1, f1⟩
        have f2 : fr plR z z1 := fr_mono (fun g hg => by unfold plR; omega) f1
        rw [g1]
        obtain ⟨us, u1, u2, u3⟩ := hZ.2.2.2
        refine c2 12 0 (P ++ [(0, j, j, j, false)]) U (kn ||| 2 ^ j) z1 [j] (by omega) (fr_tr hf f2) ⟨s1, g2, fun b => ?_, us, (f1 41016 (by omega)).1.trans u1, u2, u3⟩ (pI9_seed hI hj2 (hs j hj1)) (by rw [List.length_append, List.length_singleton]; omega) (fun b h1 h2 => ?_) (List.nodup_cons.mpr ⟨List.not_mem_nil, List.nodup_nil⟩) (fun b hb => ?_) (by rw [List.length_singleton]; omega) (Nat.zero_le _)
        · rw [gn_or, hZ.2.2.1, tos_app]
        · by_cases eb : b = j
          · exact tos_app.mpr (Or.inr eb)
          · exact tos_app.mpr (Or.inl (hsd b (by omega) h2))
        · exact tos_app.mpr (Or.inr (List.mem_singleton.mp hb))
      · have hj2 : j ∈ tos P := Classical.byContradiction (fun h7 => h8 ((gbit0 hZ.2.1 (by omega)).mpr (fun h6 => h7 ((hZ.2.2.1 j).mp h6))))
        refine c6 P U kn z hf hZ hI (by omega) hcl (fun b h1 h2 => ?_)
        by_cases eb : b = j
        · rw [eb]
          exact hj2
        · exact hsd b (by omega) h2
  refine e_X0_planFrom ?_
  refine u_X0_planFrom_0 ?_; unfold cm_X0_planFrom_0
  refine w_wrF (w_wrF (c1 N 0 [] [] 0 _ (by omega) (fr_F2 (fr_F (by unfold plR; omega)) (by unfold plR; omega)) ⟨⟨rf_ot (by omega) po_usF_at, fun s t hs => (by simp at hs)⟩, by omega, fun b => ⟨fun h9 => absurd h9 (gn_z9 b), fun h9 => absurd h9 List.not_mem_nil⟩, 0, po_usF_at, by omega, fun x => ⟨fun h9 => absurd h9 (gn_z9 x), fun h9 => absurd h9 List.not_mem_nil⟩⟩ ⟨List.nodup_nil, fun x hx => absurd hx List.not_mem_nil, fun t ht => absurd ht List.not_mem_nil, fun s t hs => (by simp at hs)⟩ (Nat.zero_le _) (fun x _ _ _ h9 => ?_) (fun b hb => absurd hb (Nat.not_lt_zero _))))
  rcases h9.2 with h8 | h8
  · exact absurd h8 List.not_mem_nil
  · exact absurd h8 List.not_mem_nil
theorem sub9 {s a : Nat} (hs : s < 2 ^ 24) (ha : a < 2 ^ 24) : (nI s &&& (nI a ^^^ (-1))) = 0 ↔ ∀ b, o_gn s b → o_gn a b := by
  have key : ∀ b, b < 32 → (nI s &&& (nI a ^^^ (-1))).toBitVec.getLsbD b = (s.testBit b && !a.testBit b) := by
    intro b hb
    rw [Int32.toBitVec_and, Int32.toBitVec_xor, BitVec.getLsbD_and, BitVec.getLsbD_xor]
    have e1 : (nI s).toBitVec.getLsbD b = s.testBit b := by
      unfold BitVec.getLsbD
      rw [pk_tn (by omega)]
    have e2 : (nI a).toBitVec.getLsbD b = a.testBit b := by
      unfold BitVec.getLsbD
      rw [pk_tn (by omega)]
    have e3 : (-1 : Int32).toBitVec.getLsbD b = true := by
      have : ∀ b : Fin 32, (-1 : Int32).toBitVec.getLsbD b.val = true := by decide
      exact this ⟨b, hb⟩
    rw [e1, e2, e3, Bool.xor_true]
  constructor
  · intro e b hb
    rw [gn_test] at hb ⊢
    have hb32 : b < 32 := by
      rcases Nat.lt_or_ge b 32 with h9 | h9
      · exact h9
      · rw [Nat.testBit_lt_two_pow (Nat.lt_of_lt_of_le hs (Nat.pow_le_pow_right (by decide) (by omega)))] at hb
        cases hb
    have := key b hb32
    rw [e, hb] at this
    cases h9 : a.testBit b
    · rw [h9] at this
      have z0 : (0 : Int32).toBitVec.getLsbD b = false := BitVec.getLsbD_zero
      rw [z0] at this
      cases this
    · rfl
  · intro h
    apply Int32.toBitVec_inj.mp
    apply BitVec.eq_of_getLsbD_eq
    intro b hb
    rw [key b hb]
    have z0 : (0 : Int32).toBitVec.getLsbD b = false := BitVec.getLsbD_zero
    rw [z0]
    cases h9 : s.testBit b
    · rfl
    · have := (gn_test a b).mp (h b ((gn_test s b).mpr h9))
      rw [this]
      rfl
theorem xc_planPart (h : plN y c ci S G lab N) (hng : ∀ x, x < c → ng x = decide (G x ≤ 0)) (hd : ∀ w, w < 2 * c → pr (S.2 w) = pr w) (hd2 : ∀ x, x < c → pr (2 * x + 1) = pr (2 * x)) (hrow : ∀ w, w < 2 * c → y.2.1 4006 w = nI (pr w) ∧ pr w < 100) (hp : p < 100) (hc7 : c ≤ 7) (hN : N ≤ 11) (hne : ∃ w, w < 2 * c ∧ pr w = p) : Te (fun K => ce_X0_planPart vl K 41000 4000 (nI p) y) (fun y1 => fr plR y y1 ∧ ∃ P U, stL y1 P ∧ P.length ≤ 18 ∧ pI9 c S ng lab pr p P U ∧ (∀ x, x < c → pr (2 * x) = p → x ∈ U) ∧ ∀ w, w < 2 * c → pr w = p → lab w ∈ tos P) := by
  let Q : ow_MS → Prop := fun y1 => fr plR y y1 ∧ ∃ P U, stL y1 P ∧ P.length ≤ 18 ∧ pI9 c S ng lab pr p P U ∧ (∀ x, x < c → pr (2 * x) = p → x ∈ U) ∧ ∀ w, w < 2 * c → pr w = p → lab w ∈ tos P
  have hP : ∀ z, fr plR y z → plN z c ci S G lab N := fun z hf => plN_fr hf (fun g hg => plR_n hg) h
  have hR : ∀ z, fr plR y z → ∀ w, w < 2 * c → z.2.1 4006 w = nI (pr w) ∧ pr w < 100 := fun z hf w hw => by
    rw [(hf 4006 (by unfold plR; omega)).2.1]
    exact hrow w hw
  obtain ⟨h1, hv, -, -, h2, h3⟩ := id h
  have c3 : ∀ (al : Nat), al < 2 ^ N → (∀ b, o_gn al b ↔ ∃ w, w < 2 * c ∧ pr w = p ∧ lab w = b) → ∀ (d s : Nat) (z : ow_MS), s + d = pc al → 1 ≤ s → fr plR y z → Tt (fun K k => c_X0_planPart vl K k 3 (nI p) (nI al) (nI s) 0 41000 4000 z) Q := by
    intro al hal hbits d
    have h11 : 2 ^ N ≤ 2 ^ 11 := Nat.pow_le_pow_right (by decide) hN
    have hpc := pc_le hal
    have al1 : 1 ≤ al := by
      obtain ⟨w, w1, w2⟩ := hne
      have := (hbits (lab w)).mpr ⟨w, w1, w2, rfl⟩
      rcases Nat.eq_zero_or_pos al with h9 | h9
      · rw [h9] at this
        exact absurd this (gn_z9 _)
      · exact h9
    induction d with
    | zero =>
      intro s z hs1 hs2 hz
      have c4 : ∀ (e q : Nat) (z : ow_MS), q + e = al → 1 ≤ q → fr plR y z → Tt (fun K k => c_X0_planPart vl K k 4 (nI p) (nI al) (nI s) (nI q) 41000 4000 z) Q := by
        intro e
        induction e with
        | zero =>
          intro q z hq hq1 hz
          have eq : q = al := by omega
          subst eq
          refine u_X0_planPart_4 ?_; unfold cm_X0_planPart_4
          refine w_ltF (by omega) (by omega) (w_ifT ((sub9 (by omega) (by omega)).mpr (fun b hb => hb)) (w_ifT (by rw [bc_pc (by omega), ← hs1]; rfl) (w_cs1 (xc_planFrom (hP z hz) hng hd hd2 (hR z hz) hp hc7 hN (by omega) (fun b hb => (hbits b).mp hb)) ?_)))
          rintro v z1 ⟨g1, P, U, kn, e1, Z1, I1, hl1, hcl, hsd⟩
          have e1 : v = nI kn := e1
          have g1 : fr plR z z1 := g1
          have Z1 : pZ9 z1 P U kn := Z1
          have all : ∀ w, w < 2 * c → pr w = p → lab w ∈ tos P := fun w w1 w2 => hsd _ (h2 w w1).2 ((hbits _).mpr ⟨w, w1, w2, rfl⟩)
          have ek : kn = q := gn_ext (fun b => by
            rw [Z1.2.2.1, hbits]
            exact ⟨fun h9 => tos_part I1 h9, fun ⟨w, w1, w2, w3⟩ => by rw [← w3]; exact all w w1 w2⟩)
          rw [e1, ek]
          refine w_ifT rfl (w_some ⟨fr_tr hz g1, P, U, Z1.1, hl1, I1, fun x hx hpx => Classical.byContradiction (fun h9 => hcl x hx hpx h9 ?_), all⟩)
          exact ⟨Or.inl (all _ (by omega) hpx), Or.inr (all _ (by omega) ((hd2 x hx).trans hpx))⟩
        | succ e ihe =>
          intro q z hq hq1 hz
          have c5 : ∀ (z : ow_MS), fr plR y z → Tt (fun K k => c_X0_planPart vl K k 5 (nI p) (nI al) (nI s) (nI q) 41000 4000 z) Q := by
            intro z hz
            refine u_X0_planPart_5 ?_; unfold cm_X0_planPart_5
            rw [nI_1]
            exact ihe (q + 1) z (by omega) (by omega) hz
          refine u_X0_planPart_4 ?_; unfold cm_X0_planPart_4
          refine w_ltF (by omega) (by omega) (w_if (fun hsb => w_if (fun _ => w_cs1 (xc_planFrom (hP z hz) hng hd hd2 (hR z hz) hp hc7 hN (by omega) (fun b hb => (hbits b).mp ((sub9 (by omega) (by omega)).mp hsb b hb))) ?_) (fun _ => c5 z hz)) (fun _ => c5 z hz))
          rintro v z1 ⟨g1, P, U, kn, e1, Z1, I1, hl1, hcl, hsd⟩
          have e1 : v = nI kn := e1
          have g1 : fr plR z z1 := g1
          have Z1 : pZ9 z1 P U kn := Z1
          rw [e1]
          refine w_eqN (by have := Z1.2.1; omega) (by omega) (fun ek => w_some ⟨fr_tr hz g1, P, U, Z1.1, hl1, I1, fun x hx hpx => Classical.byContradiction (fun h9 => hcl x hx hpx h9 ?_), fun w w1 w2 => ?_⟩) (fun _ => c5 z1 (fr_tr hz g1))
          · refine ⟨Or.inl ((Z1.2.2.1 _).mp ?_), Or.inr ((Z1.2.2.1 _).mp ?_)⟩
            · rw [ek]
              exact (hbits _).mpr ⟨2 * x, by omega, hpx, rfl⟩
            · rw [ek]
              exact (hbits _).mpr ⟨2 * x + 1, by omega, (hd2 x hx).trans hpx, rfl⟩
          · refine (Z1.2.2.1 _).mp ?_
            rw [ek]
            exact (hbits _).mpr ⟨w, w1, w2, rfl⟩
      refine u_X0_planPart_3 ?_; unfold cm_X0_planPart_3
      exact w_rdF (hP z hz).2.2.2.2.2 (w_ltF (by omega) (by omega) (c4 (al - 1) 1 z (by omega) (by omega) hz))
    | succ d ih =>
      intro s z hs1 hs2 hz
      have c4 : ∀ (e q : Nat) (z : ow_MS), q + e = al + 1 → 1 ≤ q → fr plR y z → Tt (fun K k => c_X0_planPart vl K k 4 (nI p) (nI al) (nI s) (nI q) 41000 4000 z) Q := by
        intro e
        induction e with
        | zero =>
          intro q z hq hq1 hz
          refine u_X0_planPart_4 ?_; unfold cm_X0_planPart_4
          rw [nI_1]
          exact w_ltT (by omega) (by omega) (ih (s + 1) z (by omega) (by omega) hz)
        | succ e ihe =>
          intro q z hq hq1 hz
          have c5 : ∀ (z : ow_MS), fr plR y z → Tt (fun K k => c_X0_planPart vl K k 5 (nI p) (nI al) (nI s) (nI q) 41000 4000 z) Q := by
            intro z hz
            refine u_X0_planPart_5 ?_; unfold cm_X0_planPart_5
            rw [nI_1]
            exact ihe (q + 1) z (by omega) (by omega) hz
          refine u_X0_planPart_4 ?_; unfold cm_X0_planPart_4
          refine w_ltF (by omega) (by omega) (w_if (fun hsb => w_if (fun _ => w_cs1 (xc_planFrom (hP z hz) hng hd hd2 (hR z hz) hp hc7 hN (by omega) (fun b hb => (hbits b).mp ((sub9 (by omega) (by omega)).mp hsb b hb))) ?_) (fun _ => c5 z hz)) (fun _ => c5 z hz))
          rintro v z1 ⟨g1, P, U, kn, e1, Z1, I1, hl1, hcl, hsd⟩
          have e1 : v = nI kn := e1
          have g1 : fr plR z z1 := g1
          have Z1 : pZ9 z1 P U kn := Z1
          rw [e1]
          refine w_eqN (by have := Z1.2.1; omega) (by omega) (fun ek => w_some ⟨fr_tr hz g1, P, U, Z1.1, hl1, I1, fun x hx hpx => Classical.byContradiction (fun h9 => hcl x hx hpx h9 ?_), fun w w1 w2 => ?_⟩) (fun _ => c5 z1 (fr_tr hz g1))
          · refine ⟨Or.inl ((Z1.2.2.1 _).mp ?_), Or.inr ((Z1.2.2.1 _).mp ?_)⟩
            · rw [ek]
              exact (hbits _).mpr ⟨2 * x, by omega, hpx, rfl⟩
            · rw [ek]
              exact (hbits _).mpr ⟨2 * x + 1, by omega, (hd2 x hx).trans hpx, rfl⟩
          · refine (Z1.2.2.1 _).mp ?_
            rw [ek]
            exact (hbits _).mpr ⟨w, w1, w2, rfl⟩
      refine u_X0_planPart_3 ?_; unfold cm_X0_planPart_3
      exact w_rdF (hP z hz).2.2.2.2.2 (w_ltF (by omega) (by omega) (c4 al 1 z (by omega) (by omega) hz))
  have c1 : ∀ (d v m : Nat), m < 2 ^ N → (∀ b, o_gn m b ↔ ∃ w, w < v ∧ pr w = p ∧ lab w = b) → v + d = 2 * c → Tt (fun K k => c_X0_planPart vl K k 1 (nI p) (nI m) (nI v) 0 41000 4000 y) Q := by
    intro d
    have h11 : 2 ^ N ≤ 2 ^ 11 := Nat.pow_le_pow_right (by decide) hN
    induction d with
    | zero =>
      intro v m hm hb hv9
      have ev : v = 2 * c := by omega
      subst ev
      have pc1 : 1 ≤ pc m := by
        rcases Nat.eq_zero_or_pos (pc m) with h9 | h9
        · exfalso
          obtain ⟨w, w1, w2⟩ := hne
          have h8 := (hb (lab w)).mpr ⟨w, w1, w2, rfl⟩
          have key : ∀ (n k b : Nat), b < n → o_gn k b → 1 ≤ pcF n k := by
            intro n
            induction n with
            | zero => exact fun k b hb _ => absurd hb (Nat.not_lt_zero _)
            | succ n ih =>
              intro k b hb hk
              show 1 ≤ k % 2 + pcF n (k / 2)
              cases b with
              | zero =>
                unfold o_gn at hk
                rw [Nat.pow_zero, Nat.div_one] at hk
                omega
              | succ b =>
                have := ih (k / 2) b (by omega) (by
                  unfold o_gn at hk ⊢
                  rw [Nat.div_div_eq_div_mul, ← Nat.pow_succ']
                  exact hk)
                omega
          have := key 32 m (lab w) (by have := (h2 w w1).2; omega) h8
          unfold pc at h9
          omega
        · exact h9
      refine u_X0_planPart_1 ?_; unfold cm_X0_planPart_1
      exact w_rdF h1.1 (by rw [rn_mul2]; exact w_leT (by omega) (by omega) (c3 m hm hb (pc m - 1) 1 y (by omega) (by omega) fr_rf))
    | succ d ih =>
      intro v m hm hb hv9
      have c2 : ∀ (m : Nat), m < 2 ^ N → (∀ b, o_gn m b ↔ ∃ w, w < v + 1 ∧ pr w = p ∧ lab w = b) → Tt (fun K k => c_X0_planPart vl K k 2 (nI p) (nI m) (nI v) 0 41000 4000 y) Q := by
        intro m hm hb
        refine u_X0_planPart_2 ?_; unfold cm_X0_planPart_2
        rw [nI_1]
        exact ih (v + 1) m hm hb (by omega)
      obtain ⟨l1, l2⟩ := h2 v (by omega)
      refine u_X0_planPart_1 ?_; unfold cm_X0_planPart_1
      refine w_rdF h1.1 ?_
      rw [rn_mul2]
      refine w_leF (by omega) (by omega) (w_crI (nH_6 nH4) rfl (show v < 24 by omega) (hrow v (by omega)).1 (w_eqN (by have := (hrow v (by omega)).2; omega) (by omega) (fun h9 => w_crI ch_41001 rfl (show v < 24 by omega) l1 ?_) (fun h9 => c2 m hm (fun b => ?_))))
      · obtain ⟨m1, m2⟩ := gor9 (g := m) (v := lab v) (by omega) (by omega)
        rw [m1]
        refine c2 _ (Nat.or_lt_two_pow hm (Nat.pow_lt_pow_right (by decide) l2)) (fun b => ?_)
        rw [gn_or, hb]
        constructor
        · rintro (⟨w, w1, w2, w3⟩ | e)
          · exact ⟨w, by omega, w2, w3⟩
          · exact ⟨v, by omega, h9, e.symm⟩
        · rintro ⟨w, w1, w2, w3⟩
          by_cases ew : w = v
          · rw [ew] at w3
            exact Or.inr w3.symm
          · exact Or.inl ⟨w, by omega, w2, w3⟩
      · rw [hb]
        constructor
        · rintro ⟨w, w1, w2, w3⟩
          exact ⟨w, by omega, w2, w3⟩
        · rintro ⟨w, w1, w2, w3⟩
          by_cases ew : w = v
          · rw [ew] at w2
            exact absurd w2 h9
          · exact ⟨w, by omega, w2, w3⟩
  refine e_X0_planPart ?_
  refine u_X0_planPart_0 ?_; unfold cm_X0_planPart_0
  exact c1 (2 * c) 0 0 (Nat.two_pow_pos N) (fun b => ⟨fun h9 => absurd h9 (gn_z9 b), fun ⟨w, w1, _⟩ => absurd w1 (Nat.not_lt_zero _)⟩) (by omega)
end XMI
end
section
/-! 99zzzzzzzzzzzzzzzc.xmpj -/
/-! maps: the class counts along its plan -/
def sP9 (g n : Nat) (P : List sT9) (L : List Nat) : Prop := L.length = n ∧ (∀ b, b < n → at9 L b < g ∧ (b ∉ tos P → at9 L b = 0)) ∧ ∀ t, t ∈ P → t.1 ≠ 0 → eS9 t (at9 L)
def xt9 (R : List sT9) (v : Nat → Nat) (L : List Nat) : Prop := ∀ b, b ∈ tos R → at9 L b = v b
def vR9 (z : ow_MS) (v : Nat → Nat) : Prop := ∀ b, b < 18 → z.2.1 41009 b = nI (v b) ∧ v b < 24
def ud9 (v : Nat → Nat) (a q : Nat) : Nat → Nat := fun b => if b = a then q else v b
def okP9 (n : Nat) (P : List sT9) : Prop := (∀ s t, P[s]? = some t → vS9 (P.take s) t) ∧ ∀ b, b ∈ tos P → b < n
section XMJ
theorem ud9_at {v : Nat → Nat} {a q : Nat} : ud9 v a q a = q := if_pos rfl
theorem ud9_ne {v : Nat → Nat} {a q b : Nat} (h : b ≠ a) : ud9 v a q b = v b := if_neg h
theorem vR9_set {z : ow_MS} {v : Nat → Nat} {a q : Nat} (hq : q < 24) (h : vR9 z v) : vR9 (usI z 41009 a (nI q)) (ud9 v a q) := fun b hb => by
  by_cases e : b = a
  · rw [e, ud9_at]
    exact ⟨po_usI_at, hq⟩
  · rw [ud9_ne e]
    exact ⟨rd_ne e (h b hb).1, (h b hb).2⟩
theorem take_s9 {P : List sT9} {j : Nat} {t : sT9} (h : P[j]? = some t) : P.take (j + 1) = P.take j ++ [t] := by
  rw [List.take_add_one, h]
  rfl
theorem tos_take {P : List sT9} {j b : Nat} (h : b ∈ tos (P.take j)) : b ∈ tos P := by
  obtain ⟨t, t1, t2⟩ := List.mem_map.mp h
  exact List.mem_map.mpr ⟨t, List.mem_of_mem_take t1, t2⟩
theorem tos_mono {P : List sT9} {i j b : Nat} (hij : i ≤ j) (h : b ∈ tos (P.take i)) : b ∈ tos (P.take j) := by
  have e : P.take i = (P.take j).take i := by rw [List.take_take, Nat.min_eq_left hij]
  rw [e] at h
  exact tos_take h
/-- the arcs of a step that tells of others are known before it, or are it -/
theorem st_in {n : Nat} {P : List sT9} (hP : okP9 n P) {i : Nat} {t : sT9} (hi : P[i]? = some t) : t.2.1 ∈ tos (P.take (i + 1)) ∧ (t.1 ≠ 0 → t.2.2.1 ∈ tos (P.take i) ∧ t.2.2.2.1 ∈ tos (P.take i)) := by
  refine ⟨?_, fun h0 => ?_⟩
  · rw [take_s9 hi, tos_app]
    exact Or.inr rfl
  · rcases hP.1 i t hi with h9 | h9
    · exact absurd h9.1 h0
    · exact h9.2
theorem eS_cg {t : sT9} {v w : Nat → Nat} (h1 : v t.2.1 = w t.2.1) (h2 : v t.2.2.1 = w t.2.2.1) (h3 : v t.2.2.2.1 = w t.2.2.2.1) (h : eS9 t v) : eS9 t w := by
  unfold eS9 at h ⊢
  rw [← h1, ← h2, ← h3]
  exact h
theorem sm9_add {a b : Nat → Nat} : ∀ k, sm9 (fun l => a l + b l) k = sm9 a k + sm9 b k
  | 0 => rfl
  | k + 1 => by
    show sm9 _ k + (a k + b k) = (sm9 a k + a k) + (sm9 b k + b k)
    rw [sm9_add k]
    omega
theorem sm9_cg {a b : Nat → Nat} : ∀ k, (∀ l, l < k → a l = b l) → sm9 a k = sm9 b k
  | 0, _ => rfl
  | k + 1, h => by
    show sm9 a k + a k = sm9 b k + b k
    rw [sm9_cg k (fun l hl => h l (by omega)), h k (by omega)]
theorem sm9_one {F : Nat → Nat} {e : Nat} : ∀ k, sm9 (fun l => if e = l then F l else 0) k = if e < k then F e else 0
  | 0 => rfl
  | k + 1 => by
    show sm9 _ k + (if e = k then F k else 0) = _
    rw [sm9_one k]
    by_cases h : e = k
    · rw [if_neg (by omega), if_pos h, if_pos (by omega), h, Nat.zero_add]
    · rw [if_neg h, Nat.add_zero]
      by_cases h2 : e < k
      · rw [if_pos h2, if_pos (by omega)]
      · rw [if_neg h2, if_neg (by omega)]
/-- one of each class, with its class's size -/
theorem sm_cls {F : Nat → Nat} {g : Nat} (h : ∀ t, t < g → lsM t g < g) : ∀ k, k ≤ g → sm9 (fun t => F (lsM t g)) k = sm9 (fun l => csz g k l * F l) g
  | 0, _ => by
    rw [sm9_cg (b := fun _ => 0) g (fun l _ => by show 0 * F l = 0; rw [Nat.zero_mul]), sm9_c, Nat.mul_zero]
    rfl
  | k + 1, hk => by
    show sm9 (fun t => F (lsM t g)) k + F (lsM k g) = _
    rw [sm_cls h k (by omega), sm9_cg (a := fun l => csz g (k + 1) l * F l) (b := fun l => csz g k l * F l + if lsM k g = l then F l else 0) g (fun l _ => ?_), sm9_add, sm9_one, if_pos (h k (by omega))]
    show (csz g k l + if lsM k g = l then 1 else 0) * F l = _
    by_cases e : lsM k g = l
    · rw [if_pos e, if_pos e, Nat.add_mul, Nat.one_mul]
    · rw [if_neg e, if_neg e, Nat.add_zero, Nat.add_zero]
theorem csz_pos {g : Nat} : ∀ k t, t < k → 1 ≤ csz g k (lsM t g)
  | 0, t, h => absurd h (Nat.not_lt_zero _)
  | k + 1, t, h => by
    show 1 ≤ csz g k (lsM t g) + if lsM k g = lsM t g then 1 else 0
    by_cases e : t = k
    · rw [e, if_pos rfl]
      omega
    · have := csz_pos (g := g) k t (by omega)
      omega
/-- colourings may be conjugated -/
theorem sP_cj {m n h : Nat} {P : List sT9} {L : List Nat} (hm1 : 1 ≤ m) (hm4 : m ≤ 4) (hP : okP9 n P) (hh : h < thM m) (hL : sP9 (thM m) n P L) : sP9 (thM m) n P (tb9 n (fun b => if b ∈ tos P then cjG h (at9 L b) else 0)) := by
  have h24 := (thM_le m).2
  refine ⟨tb9_len, fun b hb => ?_, fun t ht h0 => ?_⟩
  · rw [tb9_at hb]
    by_cases e : b ∈ tos P
    · rw [if_pos e]
      exact ⟨(ca9_m hm1 hm4 hh (hL.2.1 b hb).1).1, fun h9 => absurd e h9⟩
    · rw [if_neg e]
      exact ⟨thM_pos m, fun _ => rfl⟩
  · obtain ⟨i, hi⟩ := List.getElem?_of_mem ht
    obtain ⟨k1, k2⟩ := st_in hP hi
    have m1 := tos_take k1
    have m2 := tos_take (k2 h0).1
    have m3 := tos_take (k2 h0).2
    have l1 := hP.2 _ m1
    have l2 := hP.2 _ m2
    have l3 := hP.2 _ m3
    have e := hL.2.2 t ht h0
    unfold eS9 at e ⊢
    rw [tb9_at l1, tb9_at l2, tb9_at l3, if_pos m1, if_pos m2, if_pos m3, e]
    have b2 : at9 L t.2.2.1 < 24 := by have := (hL.2.1 _ l2).1; omega
    have b3 : at9 L t.2.2.2.1 < 24 := by have := (hL.2.1 _ l3).1; omega
    obtain ⟨c1, -, -, -, c5⟩ := ca9 (h := h) (o := at9 L t.2.2.1) (by omega) b2
    cases t.2.2.2.2
    · exact (sd9 (by omega) b2 b3).symm
    · show cjG h (cjG (ivC (at9 L t.2.2.1)) (at9 L t.2.2.2.1)) = cjG (ivC (cjG h (at9 L t.2.2.1))) (cjG h (at9 L t.2.2.2.1))
      rw [c1]
      exact (sd9 (by omega) c5 b3).symm
theorem cnt_cj {m n h a l N : Nat} {P : List sT9} (hm1 : 1 ≤ m) (hm4 : m ≤ 4) (hP : okP9 n P) (hh : h < thM m) (ha : a ∈ tos P) (hl : l < thM m) (hc : cnt9 (fun L => sP9 (thM m) n P L ∧ at9 L a = l) N) : cnt9 (fun L => sP9 (thM m) n P L ∧ at9 L a = cjG h l) N := by
  have h24 := (thM_le m).2
  have hi := (ca9_m hm1 hm4 hh hh).2
  have back : ∀ (h h' : Nat), h < thM m → h' < thM m → (∀ x, x < 24 → cjG h' (cjG h x) = x) → ∀ L, sP9 (thM m) n P L → tb9 n (fun b => if b ∈ tos P then cjG h' (at9 (tb9 n (fun b => if b ∈ tos P then cjG h (at9 L b) else 0)) b) else 0) = L := by
    intro h h' h1 h2 hx L hL
    refine at9_ext tb9_len hL.1 (fun b hb => ?_)
    rw [tb9_at hb]
    by_cases e : b ∈ tos P
    · rw [if_pos e, tb9_at hb, if_pos e, hx _ (by have := (hL.2.1 b hb).1; omega)]
    · rw [if_neg e, (hL.2.1 b hb).2 e]
  have i1 : ∀ x, x < 24 → cjG (ivC h) (cjG h x) = x := fun x hx => (ca9 (h := h) (o := x) (by omega) hx).2.1
  have i2 : ∀ x, x < 24 → cjG h (cjG (ivC h) x) = x := fun x hx => (ca9 (h := h) (o := x) (by omega) hx).2.2.1
  have la := hP.2 a ha
  refine cnt_bij (fun L => tb9 n (fun b => if b ∈ tos P then cjG h (at9 L b) else 0)) (fun L hL => ⟨sP_cj hm1 hm4 hP hh hL.1, ?_⟩) (fun L M hL hM e => ?_) (fun M hM => ⟨tb9 n (fun b => if b ∈ tos P then cjG (ivC h) (at9 M b) else 0), ⟨sP_cj hm1 hm4 hP hi hM.1, ?_⟩, back (ivC h) h hi hh i2 M hM.1⟩) hc
  · rw [tb9_at la, if_pos ha, hL.2]
  · have e1 := back h (ivC h) hh hi i1 L hL.1
    have e2 := back h (ivC h) hh hi i1 M hM.1
    rw [← e1, ← e2]
    exact congrArg (fun R => tb9 n (fun b => if b ∈ tos P then cjG (ivC h) (at9 R b) else 0)) e
  · rw [tb9_at la, if_pos ha, hM.2, i1 _ (by omega)]
theorem i64_24 : ∀ k : Fin 25, (nI k.val).toInt64 = Int64.ofNat k.val := by decide +kernel
theorem lsM_th {m t : Nat} (hm1 : 1 ≤ m) (hm4 : m ≤ 4) (ht : t < thM m) : lsM t (thM m) < thM m := by
  rcases lsM_or (x := t) (thM m) with h | ⟨o, o1, o2⟩
  · rw [h]
    exact ht
  · rw [o2]
    exact (ca9_m hm1 hm4 o1 ht).1
variable {vl : Nat → Nat}
theorem xc_countF {m n : Nat} {P : List sT9} (hm1 : 1 ≤ m) (hm4 : m ≤ 4) (hP : okP9 n P) (hn : n ≤ 18) (hl : P.length ≤ 18) : ∀ (d q s dd : Nat) (v : Nat → Nat) (z : ow_MS), q + d = 19 → d ≤ dd → s ≤ P.length → q ≤ s → (q = 0 → s = 0) → vR9 z v → stL z P → cjT z → (∀ l, l < 24 → z.2.1 41008 l = nI (csz (thM m) (thM m) l)) → (∀ b, b ∈ tos (P.take s) → v b < thM m) → (∀ i t, i < s → P[i]? = some t → t.1 ≠ 0 → eS9 t v) → Te (fun K => cd0_X0_countFrom vl K (dd + 1) 41000 (nI s) (nI q) (nI (thM m)) z) (fun r => (∃ v', vR9 r.2 v' ∧ ∀ b, b ∈ tos (P.take s) → v' b = v b) ∧ fr (fun q => q = 41009) z r.2 ∧ ∃ M, r.1 = Int64.ofNat M ∧ cnt9 (fun L => sP9 (thM m) n P L ∧ xt9 (P.take s) v L) M) := by
  have h24 := (thM_le m).2
  intro d
  induction d with
  | zero =>
    intro q s dd v z hq hdd hs hqs
    exfalso
    omega
  | succ d ih =>
    intro q s dd v z hq hdd hs hqs hq0 hv hst hcj hcl hvs hes
    obtain ⟨dd, rfl⟩ : ∃ k, dd = k + 1 := ⟨dd - 1, by omega⟩
    let Q : Int64 × ow_MS → Prop := fun r => (∃ v', vR9 r.2 v' ∧ ∀ b, b ∈ tos (P.take s) → v' b = v b) ∧ fr (fun q => q = 41009) z r.2 ∧ ∃ M, r.1 = Int64.ofNat M ∧ cnt9 (fun L => sP9 (thM m) n P L ∧ xt9 (P.take s) v L) M
    have sf : ∀ y1, fr (fun q => q = 41009) z y1 → stL y1 P := fun y1 hf => by
      refine ⟨(hf 41010 (by decide)).1.trans hst.1, fun s t hs => ?_⟩
      rw [(hf 41011 (by decide)).2.1, (hf 41012 (by decide)).2.1, (hf 41013 (by decide)).2.1, (hf 41014 (by decide)).2.1, (hf 41015 (by decide)).2.1]
      exact hst.2 s t hs
    have cf : ∀ y1, fr (fun q => q = 41009) z y1 → cjT y1 := fun y1 hf => by
      refine ⟨fun o x ho hx => ?_, fun o ho => ?_⟩
      · rw [(hf 41006 (by decide)).2.1]
        exact hcj.1 o x ho hx
      · rw [(hf 41007 (by decide)).2.1]
        exact hcj.2 o ho
    have lf : ∀ y1, fr (fun q => q = 41009) z y1 → ∀ l, l < 24 → y1.2.1 41008 l = nI (csz (thM m) (thM m) l) := fun y1 hf l hl9 => by
      rw [(hf 41008 (by decide)).2.1]
      exact hcl l hl9
    have c1 : ∀ (e j : Nat) (w : Nat → Nat) (y1 : ow_MS), j + e = P.length → s ≤ j → (q = 0 → j = 0) → vR9 y1 w → fr (fun q => q = 41009) z y1 → (∀ b, b ∈ tos (P.take s) → w b = v b) → (∀ b, b ∈ tos (P.take j) → w b < thM m) → (∀ i t, i < j → P[i]? = some t → t.1 ≠ 0 → eS9 t w) → (∀ L, sP9 (thM m) n P L → (xt9 (P.take s) v L ↔ xt9 (P.take j) w L)) → Tt (fun K k => c_X0_countFrom vl K (cd0_X0_countFrom vl K (dd + 1)) k 1 (nI s) (nI q) (nI (thM m)) (nI j) 0 0 0 0 0 41000 0 0 0 0 y1) Q := by
      intro e
      induction e with
      | zero =>
        intro j w y1 hj hsj hqj hw hf hvw hwj hew hx
        have ej : j = P.length := by omega
        subst ej
        rw [List.take_length] at hwj hx
        refine u_X0_countFrom_1 ?_; unfold cm_X0_countFrom_1
        refine w_rdF (sf y1 hf).1 (w_leT (by omega) (by omega) (w_some ⟨⟨w, hw, hvw⟩, hf, 1, rfl, ?_⟩))
        refine cnt_1 (L0 := tb9 n (fun b => if b ∈ tos P then w b else 0)) (fun L => ⟨fun hL => ?_, fun eL => ?_⟩)
        · refine at9_ext hL.1.1 tb9_len (fun b hb => ?_)
          rw [tb9_at hb]
          by_cases e9 : b ∈ tos P
          · rw [if_pos e9]
            exact (hx L hL.1).mp hL.2 b e9
          · rw [if_neg e9]
            exact (hL.1.2.1 b hb).2 e9
        · have a9 : ∀ b, b ∈ tos P → at9 L b = w b := fun b hb => by
            rw [eL, tb9_at (hP.2 b hb), if_pos hb]
          have s9 : sP9 (thM m) n P L := by
            refine ⟨by rw [eL]; exact tb9_len, fun b hb => ?_, fun t ht h0 => ?_⟩
            · rw [eL, tb9_at hb]
              by_cases e9 : b ∈ tos P
              · rw [if_pos e9]
                exact ⟨hwj b e9, fun h9 => absurd e9 h9⟩
              · rw [if_neg e9]
                exact ⟨thM_pos m, fun _ => rfl⟩
            · obtain ⟨i, hi⟩ := List.getElem?_of_mem ht
              obtain ⟨k1, k2⟩ := st_in hP hi
              exact eS_cg (a9 _ (tos_take k1)).symm (a9 _ (tos_take (k2 h0).1)).symm (a9 _ (tos_take (k2 h0).2)).symm (hew i t (List.getElem?_eq_some_iff.mp hi).1 hi h0)
          exact ⟨s9, (hx L s9).mpr (fun b hb => a9 b hb)⟩
      | succ e ihe =>
        intro j w y1 hj hsj hqj hw hf hvw hwj hew hx
        have hjl : j < P.length := by omega
        obtain ⟨t, ht⟩ : ∃ t, P[j]? = some t := ⟨_, List.getElem?_eq_getElem hjl⟩
        obtain ⟨r1, r2, r3, r4, r5⟩ := (sf y1 hf).2 j t ht
        obtain ⟨k1, k2⟩ := st_in hP ht
        have hto := hP.2 _ (tos_take k1)
        have htk := take_s9 ht
        have c6 : ∀ (x5 x6 : Int32) (w' : Nat → Nat) (y2 : ow_MS), q ≠ 0 → vR9 y2 w' → fr (fun q => q = 41009) z y2 → (∀ b, b ∈ tos (P.take s) → w' b = v b) → (∀ b, b ∈ tos (P.take (j + 1)) → w' b < thM m) → (∀ i t, i < j + 1 → P[i]? = some t → t.1 ≠ 0 → eS9 t w') → (∀ L, sP9 (thM m) n P L → (xt9 (P.take s) v L ↔ xt9 (P.take (j + 1)) w' L)) → Tt (fun K k => c_X0_countFrom vl K (cd0_X0_countFrom vl K (dd + 1)) k 6 (nI s) (nI q) (nI (thM m)) (nI j) x5 x6 0 0 0 41000 0 0 0 0 y2) Q := by
          intro x5 x6 w' y2 hqn a1 a2 a3 a4 a5 a6
          refine u_X0_countFrom_6 ?_; unfold cm_X0_countFrom_6
          rw [nI_1]
          exact ihe (j + 1) w' y2 (by omega) (by omega) (fun h9 => absurd h9 hqn) a1 a2 a3 a4 a5 a6
        -- setting an arc that is new
        have new : t.2.1 ∉ tos (P.take j) → ∀ g, (∀ b, b ∈ tos (P.take s) → ud9 w t.2.1 g b = v b) ∧ (g < thM m → ∀ b, b ∈ tos (P.take (j + 1)) → ud9 w t.2.1 g b < thM m) ∧ (∀ i t', i < j → P[i]? = some t' → t'.1 ≠ 0 → eS9 t' (ud9 w t.2.1 g)) ∧ ∀ b, b ∈ tos (P.take j) → ud9 w t.2.1 g b = w b := by
          intro hnew g
          have n0 : ∀ b, b ∈ tos (P.take j) → ud9 w t.2.1 g b = w b := fun b hb => ud9_ne (fun e9 => hnew (by rw [← e9]; exact hb))
          refine ⟨fun b hb => (n0 b (tos_mono hsj hb)).trans (hvw b hb), fun hg b hb => ?_, fun i t' hi hi2 h0 => ?_, n0⟩
          · rw [htk, tos_app] at hb
            rcases hb with hb | hb
            · rw [n0 b hb]
              exact hwj b hb
            · rw [hb, ud9_at]
              exact hg
          · obtain ⟨l1, l2⟩ := st_in hP hi2
            exact eS_cg (n0 _ (tos_mono (by omega) l1)).symm (n0 _ (tos_mono (by omega) (l2 h0).1)).symm (n0 _ (tos_mono (by omega) (l2 h0).2)).symm (hew i t' hi hi2 h0)
        refine u_X0_countFrom_1 ?_; unfold cm_X0_countFrom_1
        refine w_rdF (sf y1 hf).1 (w_leF (by omega) hjl (w_crI ch_41011 rfl (show j < 36 by omega) r1 ?_))
        rcases hP.1 j t ht with ⟨h0, hnew⟩ | ⟨hk, hby, hfr⟩
        · -- a seed
          rw [h0]
          refine w_ifT rfl ?_
          obtain ⟨-, -, -, -⟩ := new hnew 0
          let Φ : Nat → List Nat → Prop := fun g L => sP9 (thM m) n P L ∧ xt9 (P.take (j + 1)) (ud9 w t.2.1 g) L
          have Φd : ∀ L g g', Φ g L → Φ g' L → g = g' := fun L g g' h1 h2 => by
            have e1 := h1.2 _ k1
            have e2 := h2.2 _ k1
            rw [ud9_at] at e1 e2
            exact e1.symm.trans e2
          have Φe : ∀ L, (∃ g, g < thM m ∧ Φ g L) ↔ sP9 (thM m) n P L ∧ xt9 (P.take s) v L := fun L => by
            constructor
            · rintro ⟨g, g1, g2, g3⟩
              refine ⟨g2, (hx L g2).mpr (fun b hb => ?_)⟩
              rw [← (new hnew g).2.2.2 b hb]
              exact g3 b (by rw [htk, tos_app]; exact Or.inl hb)
            · rintro ⟨g2, g3⟩
              refine ⟨at9 L t.2.1, (g2.2.1 _ hto).1, g2, fun b hb => ?_⟩
              rw [htk, tos_app] at hb
              rcases hb with hb | hb
              · rw [(new hnew _).2.2.2 b hb]
                exact (hx L g2).mp g3 b hb
              · rw [hb, ud9_at]
          let W : Nat → Nat := fun g => if q = 0 then csz (thM m) (thM m) g else 1
          have c2 : ∀ (f g : Nat) (F w2 : Nat → Nat) (y2 : ow_MS), g + f = thM m → vR9 y2 w2 → fr (fun q => q = 41009) z y2 → (∀ b, b ∈ tos (P.take j) → w2 b = w b) → (∀ g', g' < g → W g' ≠ 0 → cnt9 (Φ g') (F g')) → Tt (fun K k => c_X0_countFrom vl K (cd0_X0_countFrom vl K (dd + 1)) k 2 (nI s) (nI q) (nI (thM m)) (nI j) 0 0 (nI g) 0 (Int64.ofNat (sm9 (fun g' => W g' * F g') g)) 41000 0 0 0 0 y2) Q := by
            intro f
            induction f with
            | zero =>
              intro g F w2 y2 hg hw2 hf2 hww hF
              have eg : g = thM m := by omega
              subst eg
              refine u_X0_countFrom_2 ?_; unfold cm_X0_countFrom_2
              refine w_leT (by omega) (by omega) (w_some ⟨⟨w2, hw2, fun b hb => (hww b (tos_mono hsj hb)).trans (hvw b hb)⟩, hf2, _, rfl, ?_⟩)
              by_cases q0 : q = 0
              · have j0 := hqj q0
                have eW : W = fun g => csz (thM m) (thM m) g := funext (fun g => if_pos q0)
                have Φa : ∀ g L, Φ g L ↔ sP9 (thM m) n P L ∧ at9 L t.2.1 = g := fun g L => by
                  have e9 : tos (P.take (j + 1)) = [t.2.1] := by
                    rw [htk, j0]
                    rfl
                  constructor
                  · rintro ⟨g1, g2⟩
                    have := g2 _ k1
                    rw [ud9_at] at this
                    exact ⟨g1, this⟩
                  · rintro ⟨g1, g2⟩
                    refine ⟨g1, fun b hb => ?_⟩
                    rw [e9] at hb
                    rw [List.mem_singleton.mp hb, ud9_at]
                    exact g2
                have Fc : ∀ g, g < thM m → cnt9 (Φ g) (F (lsM g (thM m))) := fun g hg => by
                  have l1 := lsM_th hm1 hm4 hg
                  have l2 := csz_pos (g := thM m) (thM m) g hg
                  have l3 := hF (lsM g (thM m)) l1 (by rw [eW]; exact Nat.ne_of_gt l2)
                  have l4 := cnt_cg (Φa _) l3
                  refine cnt_cg (fun L => (Φa g L).symm) ?_
                  rcases lsM_or (x := g) (thM m) with h9 | ⟨o, o1, o2⟩
                  · rw [h9] at l4 ⊢
                    exact l4
                  · have oi := (ca9_m hm1 hm4 o1 o1).2
                    have := cnt_cj hm1 hm4 hP oi (tos_take k1) l1 l4
                    rw [show cjG (ivC o) (lsM g (thM m)) = g by rw [o2]; exact (ca9 (h := o) (o := g) (by omega) (by omega)).2.1] at this
                    exact this
                have := cnt_sm Φd (thM m) Fc
                rw [sm_cls (F := F) (fun t ht => lsM_th hm1 hm4 ht) (thM m) (Nat.le_refl _)] at this
                rw [eW]
                exact cnt_cg Φe this
              · have eW : ∀ g, W g = 1 := fun g => if_neg q0
                have := cnt_sm Φd (f := F) (thM m) (fun g hg => hF g hg (by rw [eW]; decide))
                rw [sm9_cg (a := fun g' => W g' * F g') (b := F) (thM m) (fun l _ => by rw [eW, Nat.one_mul])]
                exact cnt_cg Φe this
            | succ f ihf =>
              intro g F w2 y2 hg hw2 hf2 hww hF
              have hgm : g < thM m := by omega
              have c4 : ∀ (x8 : Int32) (y0 : Int64) (M : Nat) (w3 : Nat → Nat) (y3 : ow_MS), y0 = Int64.ofNat (W g * M) → vR9 y3 w3 → fr (fun q => q = 41009) z y3 → (∀ b, b ∈ tos (P.take j) → w3 b = w b) → (W g ≠ 0 → cnt9 (Φ g) M) → Tt (fun K k => c_X0_countFrom vl K (cd0_X0_countFrom vl K (dd + 1)) k 4 (nI s) (nI q) (nI (thM m)) (nI j) 0 0 (nI g) x8 (Int64.ofNat (sm9 (fun g' => W g' * F g') g)) 41000 0 0 y0 (Int64.ofNat (sm9 (fun g' => W g' * F g') g)) y3) Q := by
                intro x8 y0 M w3 y3 hy0 a1 a2 a3 a4
                refine u_X0_countFrom_4 ?_; unfold cm_X0_countFrom_4
                rw [nI_1, hy0, ← Int64.ofNat_add]
                have := ihf (g + 1) (ud9 F g M) w3 y3 (by omega) a1 a2 a3 (fun g' hg' hW => ?_)
                · have e9 : sm9 (fun g' => W g' * ud9 F g M g') (g + 1) = sm9 (fun g' => W g' * F g') g + W g * M := by
                    show sm9 (fun g' => W g' * ud9 F g M g') g + W g * ud9 F g M g = _
                    rw [ud9_at, sm9_cg (b := fun g' => W g' * F g') g (fun l hl9 => by rw [ud9_ne (by omega)])]
                  rw [e9] at this
                  exact this
                · by_cases eg : g' = g
                  · rw [eg] at hW ⊢
                    rw [ud9_at]
                    exact a4 hW
                  · rw [ud9_ne eg]
                    exact hF g' (by omega) hW
              have c3 : ∀ (t0 : Int32), t0 = nI (W g) → Tt (fun K k => c_X0_countFrom vl K (cd0_X0_countFrom vl K (dd + 1)) k 3 (nI s) (nI q) (nI (thM m)) (nI j) 0 0 (nI g) 0 (Int64.ofNat (sm9 (fun g' => W g' * F g') g)) 41000 t0 0 0 0 y2) Q := by
                intro t0 ht0
                subst ht0
                have W24 : W g ≤ 24 := by
                  show (if q = 0 then csz (thM m) (thM m) g else 1) ≤ 24
                  have := csz_le (g := thM m) (l := g) (thM m)
                  split <;> omega
                have f3 : fr (fun q => q = 41009) z (usI y2 41009 t.2.1 (nI g)) := fr_I2 hf2 rfl
                have v3 : vR9 (usI y2 41009 t.2.1 (nI g)) (ud9 w2 t.2.1 g) := vR9_set (by omega) hw2
                have e3 : ∀ b, b ∈ tos (P.take j) → ud9 w2 t.2.1 g b = w b := fun b hb => (ud9_ne (fun e9 => hnew (by rw [← e9]; exact hb))).trans (hww b hb)
                have e4 : ∀ b, b ∈ tos (P.take (j + 1)) → ud9 w2 t.2.1 g b = ud9 w t.2.1 g b := fun b hb => by
                  rw [htk, tos_app] at hb
                  rcases hb with hb | hb
                  · rw [e3 b hb, (new hnew g).2.2.2 b hb]
                  · rw [hb, ud9_at, ud9_at]
                obtain ⟨-, p2, -, -, -⟩ := (sf y2 hf2).2 j t ht
                refine u_X0_countFrom_3 ?_; unfold cm_X0_countFrom_3
                refine w_crI ch_41012 rfl (show j < 36 by omega) p2 (w_ctI ch_41009 rfl (show t.2.1 < 18 by omega) (w_if (fun h9 => ?_) (fun h9 => ?_)))
                · have W0 : W g = 0 := nI_inj9 (a := W g) (b := 0) (by omega) (by omega) h9
                  refine c4 _ 0 0 (ud9 w2 t.2.1 g) _ ?_ v3 f3 e3 (fun h8 => absurd W0 h8)
                  rw [W0]
                  rfl
                · rw [nI_1, nI_1]
                  refine w_cs1 (ih (q + 1) (j + 1) dd (ud9 w2 t.2.1 g) _ (by omega) (by omega) (by omega) (by omega) (fun h9 => by omega) v3 (sf _ f3) (cf _ f3) (lf _ f3) (fun b hb => ?_) (fun i t' hi hi2 h0' => ?_)) ?_
                  · rw [e4 b hb]
                    exact (new hnew g).2.1 hgm b hb
                  · by_cases eij : i = j
                    · rw [eij, ht] at hi2
                      rw [← Option.some.inj hi2] at h0'
                      exact absurd h0 h0'
                    · obtain ⟨l1, l2⟩ := st_in hP hi2
                      exact eS_cg (e4 _ (tos_mono (by omega) l1)).symm (e4 _ (tos_mono (by omega) (l2 h0').1)).symm (e4 _ (tos_mono (by omega) (l2 h0').2)).symm ((new hnew g).2.2.1 i t' (by omega) hi2 h0')
                  · rintro u y3 ⟨⟨w4, a1, a2⟩, a3, M, a4, a5⟩
                    have a4 : u = Int64.ofNat M := a4
                    have a3 : fr (fun q => q = 41009) (usI y2 41009 t.2.1 (nI g)) y3 := a3
                    have a1 : vR9 y3 w4 := a1
                    refine c4 _ _ M w4 y3 ?_ a1 (fr_tr f3 a3) (fun b hb => (a2 b (by rw [htk, tos_app]; exact Or.inl hb)).trans (e3 b hb)) (fun _ => cnt_cg (fun L => and_congr Iff.rfl ⟨fun h8 b hb => (h8 b hb).trans (e4 b hb), fun h8 b hb => (h8 b hb).trans (e4 b hb).symm⟩) a5)
                    rw [a4, show (nI (W g)).toInt64 = Int64.ofNat (W g) from i64_24 ⟨W g, by omega⟩, Int64.ofNat_mul]
              refine u_X0_countFrom_2 ?_; unfold cm_X0_countFrom_2
              refine w_leF (by omega) hgm (w_eqN (b := 0) (by omega) (by omega) (fun q0 => w_crI ch_41008 rfl (show g < 24 by omega) (lf y2 hf2 g (by omega)) (c3 _ ?_)) (fun q0 => c3 _ ?_))
              · show _ = nI (if q = 0 then csz (thM m) (thM m) g else 1)
                rw [if_pos q0]
              · show _ = nI (if q = 0 then csz (thM m) (thM m) g else 1)
                rw [if_neg q0]
                rfl
          exact c2 (thM m) 0 (fun _ => 0) w y1 (by omega) hw hf (fun _ _ => rfl) (fun g' hg' => absurd hg' (Nat.not_lt_zero _))
        · -- a step that tells of others
          have tk : t.1 = 1 ∨ t.1 = 2 := hk.imp (fun h9 => h9.1) (fun h9 => h9.1)
          have hqn : q ≠ 0 := fun h9 => by
            have := hqj h9
            rw [this] at hby
            exact absurd hby List.not_mem_nil
          have lby := hP.2 _ (tos_take hby)
          have lfr := hP.2 _ (tos_take hfr)
          obtain ⟨b1, b2⟩ := hw t.2.2.1 (by omega)
          obtain ⟨b3, b4⟩ := hw t.2.2.2.1 (by omega)
          obtain ⟨b5, b6⟩ := hw t.2.1 (by omega)
          have hi : cjS t.2.2.2.2 (w t.2.2.1) (w t.2.2.2.1) < thM m := by
            have g1 := hwj _ hby
            have g2 := hwj _ hfr
            cases t.2.2.2.2
            · exact (ca9_m hm1 hm4 g1 g2).1
            · exact (ca9_m hm1 hm4 (ca9_m hm1 hm4 g1 g1).2 g2).1
          have xL : ∀ L, sP9 (thM m) n P L → xt9 (P.take j) w L → at9 L t.2.1 = cjS t.2.2.2.2 (w t.2.2.1) (w t.2.2.2.1) := fun L hL hxL => by
            have := hL.2.2 t (List.mem_of_getElem? ht) (by omega)
            unfold eS9 at this
            rw [hxL _ hby, hxL _ hfr] at this
            exact this
          have c5 : ∀ (o : Nat) (x5 : Int32), o = (if t.2.2.2.2 = true then ivC (w t.2.2.1) else w t.2.2.1) → Tt (fun K k => c_X0_countFrom vl K (cd0_X0_countFrom vl K (dd + 1)) k 5 (nI s) (nI q) (nI (thM m)) (nI j) x5 0 0 0 0 41000 (nI o) 24 0 0 y1) Q := by
            intro o x5 ho
            have ho24 : o < 24 := by
              rw [ho]
              split
              · exact (ca9 (h := w t.2.2.1) (o := w t.2.2.1) b2 b2).2.2.2.2
              · exact b2
            have ei : cjG o (w t.2.2.2.1) = cjS t.2.2.2.2 (w t.2.2.1) (w t.2.2.2.1) := by
              rw [ho]
              rfl
            have q6 := (cf y1 hf).1 o (w t.2.2.2.1) ho24 b4
            rw [ei] at q6
            refine u_X0_countFrom_5 ?_; unfold cm_X0_countFrom_5
            refine w_crI ch_41014 rfl (show j < 36 by omega) r4 (w_crI ch_41009 rfl (show t.2.2.2.1 < 18 by omega) b3 (w_crI ch_41006 (i := 24 * o + w t.2.2.2.1) (by rw [show (24 : Int32) * nI o = nI (24 * o) from pk_mul 24 o, nI_add]) (by omega) q6 (w_crI ch_41011 rfl (show j < 36 by omega) r1 ?_)))
            rcases hk with ⟨t1, hnew⟩ | ⟨t2, hold⟩
            · rw [t1]
              refine w_ifT rfl (w_crI ch_41012 rfl (show j < 36 by omega) r2 (w_ctI ch_41009 rfl (show t.2.1 < 18 by omega) ?_))
              obtain ⟨n1, n2, n3, n4⟩ := new hnew (cjS t.2.2.2.2 (w t.2.2.1) (w t.2.2.2.1))
              refine c6 _ _ (ud9 w t.2.1 (cjS t.2.2.2.2 (w t.2.2.1) (w t.2.2.2.1))) _ hqn (vR9_set (by omega) hw) (fr_I2 hf rfl) n1 (n2 hi) (fun i t' hi1 hi2 h0' => ?_) (fun L hL => (hx L hL).trans ⟨fun h9 b hb => ?_, fun h9 b hb => ?_⟩)
              · by_cases eij : i = j
                · rw [eij, ht] at hi2
                  rw [← Option.some.inj hi2]
                  unfold eS9
                  rw [ud9_at, n4 _ hby, n4 _ hfr]
                · exact n3 i t' (by omega) hi2 h0'
              · rw [htk, tos_app] at hb
                rcases hb with hb | hb
                · rw [n4 b hb]
                  exact h9 b hb
                · rw [hb, ud9_at]
                  exact xL L hL h9
              · rw [← n4 b hb]
                exact h9 b (by rw [htk, tos_app]; exact Or.inl hb)
            · rw [t2]
              refine w_ifF (by decide) (w_crI ch_41012 rfl (show j < 36 by omega) r2 (w_crI ch_41009 rfl (show t.2.1 < 18 by omega) b5 (w_eqN (by omega) (by omega) (fun h9 => ?_) (fun h9 => ?_))))
              · have tj : ∀ b, b ∈ tos (P.take (j + 1)) ↔ b ∈ tos (P.take j) := fun b => by
                  rw [htk, tos_app]
                  exact ⟨fun h8 => h8.elim id (fun h7 => by rw [h7]; exact hold), Or.inl⟩
                refine c6 _ _ w y1 hqn hw hf hvw (fun b hb => hwj b ((tj b).mp hb)) (fun i t' hi1 hi2 h0' => ?_) (fun L hL => (hx L hL).trans ⟨fun h8 b hb => h8 b ((tj b).mp hb), fun h8 b hb => h8 b ((tj b).mpr hb)⟩)
                by_cases eij : i = j
                · rw [eij, ht] at hi2
                  rw [← Option.some.inj hi2]
                  exact h9
                · exact hew i t' (by omega) hi2 h0'
              · refine w_some ⟨⟨w, hw, hvw⟩, hf, 0, rfl, cnt_0 (fun L hL => ?_)⟩
                have h8 := (hx L hL.1).mp hL.2
                exact h9 ((h8 _ hold).symm.trans (xL L hL.1 h8))
          refine w_ifF (show ¬ (nI t.1 = 0) from fun h9 => by have := nI_inj9 (a := t.1) (b := 0) (by omega) (by omega) h9; omega) ?_
          refine w_crI ch_41013 rfl (show j < 36 by omega) r3 (w_crI ch_41009 rfl (show t.2.2.1 < 18 by omega) b1 (w_crI ch_41015 rfl (show j < 36 by omega) r5 ?_))
          cases hb : t.2.2.2.2
          · refine w_ifT rfl (c5 _ _ ?_)
            rw [hb]
            rfl
          · refine w_ifF (by decide) (w_crI ch_41007 rfl b2 ((cf y1 hf).2 _ b2) (c5 _ _ ?_))
            rw [hb]
            rfl
    refine w_cdM ?_
    refine u_X0_countFrom_0 ?_; unfold cm_X0_countFrom_0
    exact w_leT (b := 18) (by omega) (by omega) (c1 (P.length - s) s v z (by omega) (Nat.le_refl _) hq0 hv fr_rf (fun _ _ => rfl) hvs hes (fun L _ => Iff.rfl))
end XMJ
end
section
/-! 99zzzzzzzzzzzzzzzd.xmpk -/
/-! maps: what the class answers -/
def mxQ (g : Nat) : Prop := 4001 ≤ g ∧ g ≤ 4011 ∨ 41001 ≤ g ∧ g ≤ 41002 ∨ 41008 ≤ g ∧ g ≤ 41016
section XMK
theorem at9_24 {g n : Nat} {L : List Nat} (hg : g ≤ 24) (h1 : L.length = n) (h : ∀ b, b < n → at9 L b < g) (b : Nat) : at9 L b < 24 := by
  rcases Nat.lt_or_ge b n with h9 | h9
  · have := h b h9
    omega
  · unfold at9
    rw [List.getElem?_eq_none (by omega)]
    decide
theorem sP_ar {g n c p : Nat} {S : ow_NP} {ng : Nat → Bool} {lab pr : Nat → Nat} {P : List sT9} {U : List Nat} (hg : g ≤ 24) (hI : pI9 c S ng lab pr p P U) (hU : ∀ x, x < c → pr (2 * x) = p → x ∈ U) (hT : ∀ w, w < 2 * c → pr w = p → lab w ∈ tos P) (L : List Nat) : sP9 g n P L ↔ ar9 g (fun x o i => cjS (ng x) o i) n c S (fun w => decide (pr w = p)) lab L := by
  have us : ∀ b, b ∈ tos P ↔ us9 c (fun w => decide (pr w = p)) lab b := fun b => by
    constructor
    · intro hb
      obtain ⟨w, w1, w2, w3⟩ := tos_part hI hb
      exact ⟨w, w1, decide_eq_true w2, w3⟩
    · rintro ⟨w, w1, w2, w3⟩
      rw [← w3]
      exact hT w w1 (of_decide_eq_true w2)
  constructor
  · rintro ⟨h1, h2, h3⟩
    have b24 := at9_24 hg h1 (fun b hb => (h2 b hb).1)
    refine ⟨h1, fun b hb => ⟨(h2 b hb).1, fun h9 => (h2 b hb).2 (fun h8 => h9 ((us b).mp h8))⟩, fun x hx hp => ?_⟩
    obtain ⟨-, -, t, t1, t2, t3⟩ := hI.2.1 x (hU x hx (of_decide_eq_true hp))
    exact (t3 _ b24).mp (h3 t t1 t2)
  · rintro ⟨h1, h2, h3⟩
    have b24 := at9_24 hg h1 (fun b hb => (h2 b hb).1)
    refine ⟨h1, fun b hb => ⟨(h2 b hb).1, fun h9 => (h2 b hb).2 (fun h8 => h9 ((us b).mpr h8))⟩, fun t t1 t2 => ?_⟩
    obtain ⟨x, x1, x2, x3⟩ := (hI.2.2.1 t t1).2 t2
    exact (x3 _ b24).mpr (h3 x x1 (decide_eq_true x2))
variable {vl : Nat → Nat} {y : ow_MS} {x x' : Int32} {St : plT}
theorem xc_countMaps {A : rn_L} {sg : Nat → Bool} {c m : Nat} {S : ow_NP} {G : Nat → Int32} (hJ : jnN A sg c S G) (hy : cAt y 4000 (c, cirs A, S, G)) (hm1 : 1 ≤ m) (hm4 : m ≤ 4) (hc7 : c ≤ 7) (hA4 : A.length ≤ 4) (hcj : cjT y) (hv9 : ∃ v, vR9 y v) : Te (fun K => ce_X0_countMaps vl K 41000 4000 (nI m) y) (fun r => (∃ N, r.1 = Int64.ofNat (N * thM m ^ cirs A) ∧ cnt9 (cl9 (thM m) (fun x o i => cjS (sg x) o i) c S (fun _ => true)) N) ∧ fr mxQ y r.2) := by
  let Q : Int64 × ow_MS → Prop := fun r => (∃ N, r.1 = Int64.ofNat (N * thM m ^ cirs A) ∧ cnt9 (cl9 (thM m) (fun x o i => cjS (sg x) o i) c S (fun _ => true)) N) ∧ fr mxQ y r.2
  obtain ⟨hA, hi, hv, hG⟩ := hJ
  have hc := hA.2.2.2.1
  have h6 := hA.2.2.2.2
  have nc := neC_cirs A
  have h24 := (thM_le m).2
  obtain ⟨q, q1, q2, q3, R, q4, q5⟩ := iso_q hi hv
  obtain ⟨v0, hv0⟩ := hv9
  have c1 : Tt (fun K k => c_X0_countMaps vl K k 1 (nI m) 0 0 0 41000 4000 (nI (thM m)) y) Q := by
    refine u_X0_countMaps_1 ?_; unfold cm_X0_countMaps_1
    refine w_cs0 (xc_markArcs (m := neC A) nH4 hy hv hc (by omega) q2 q3 q4 q5 (by omega)) ?_
    rintro y1 ⟨⟨a, n, hs, n1, n2, hA9⟩, f1⟩
    have hlb := arc_lb hv q2 q3 hs hA9
    obtain ⟨s1, s2, s3, s4, s5⟩ := hs
    have hy1 : cAt y1 4000 (c, cirs A, S, G) := cAt_fr f1 (fun g hg h9 => by unfold cP at hg; unfold arP at h9; omega) hy
    refine w_cs0 (tc_markParts nH4 hy1 (fun k hk => (hv k hk).1) hc) ?_
    rintro y2 ⟨g1, g2, f2⟩
    obtain ⟨m1, m2⟩ := np_parts_of (fun a ha => (hv a ha).1) hc (y1.2.1 (4000 + 6))
    have g2 : y2.1 4011 = nI (np_parts c S.1).2 := by
      rw [← m2]
      exact g2
    have g1 : ∀ w, w < 2 * c → y2.2.1 4006 w = (np_parts c S.1).1 w := fun w hw => by
      rw [← m1 w hw]
      exact g1 w
    obtain ⟨pi1, pi2, pi3, pi4⟩ := parts_I hv hc
    have pl : (np_parts c S.1).2 ≤ 2 * c := mp_out_le S.1 (2 * c) (fun _ => -1) (2 * c)
    generalize np_parts c S.1 = PT at g1 g2 pi1 pi2 pi3 pi4 pl
    obtain ⟨pr, hpr⟩ : ∃ pr : Nat → Nat, ∀ w, w < 2 * c → pr w < PT.2 ∧ PT.1 w = nI (pr w) := by
      refine Classical.axiomOfChoice (r := fun w r => w < 2 * c → r < PT.2 ∧ PT.1 w = nI r) (fun w => ?_)
      by_cases hw : w < 2 * c
      · obtain ⟨r, r1, r2⟩ := pi2 w hw
        exact ⟨r, fun _ => ⟨r1, r2⟩⟩
      · exact ⟨0, fun h9 => absurd h9 hw⟩
    have prE : ∀ w u, w < 2 * c → u < 2 * c → PT.1 w = PT.1 u → pr w = pr u := fun w u hw hu e => by
      obtain ⟨a1, a2⟩ := hpr w hw
      obtain ⟨b1, b2⟩ := hpr u hu
      exact nI_inj9 (by omega) (by omega) (a2.symm.trans (e.trans b2))
    have hd : ∀ w, w < 2 * c → pr (S.2 w) = pr w := fun w hw => by
      obtain ⟨-, b2, -, b4⟩ := hv w hw
      refine prE _ _ b2 hw ?_
      have := (pi1 _ b2).1
      rw [b4] at this
      exact this.symm
    have hd2 : ∀ x, x < c → pr (2 * x + 1) = pr (2 * x) := fun x hx => by
      refine prE _ _ (by omega) (by omega) ?_
      have := (pi1 (2 * x) (by omega)).2
      rw [mt_ev x] at this
      exact this
    have hy2 : cAt y2 4000 (c, cirs A, S, G) := cAt_fr f2 (fun g hg h9 => by unfold cP at hg; unfold cQ at h9; omega) hy1
    have f02 : fr (fun g => 4001 ≤ g ∧ g ≤ 4011 ∨ g = 41001 ∨ g = 41002) y y2 := fr_tr (fr_mono (fun g hg => by unfold arP at hg; omega) f1) (fr_mono (fun g hg => by unfold cQ at hg; omega) f2)
    have hcj2 : cjT y2 := ⟨fun o x ho hx => by rw [(f02 41006 (by omega)).2.1]; exact hcj.1 o x ho hx, fun o ho => by rw [(f02 41007 (by omega)).2.1]; exact hcj.2 o ho⟩
    refine w_cs0 (xc_findCl h24 hcj2) ?_
    rintro y3 ⟨hcl3, f3⟩
    have f03 : fr mxQ y y3 := fr_tr (fr_mono (fun g hg => by unfold mxQ; omega) f02) (fr_mono (fun g hg => by unfold mxQ; omega) f3)
    have hN3 : plN y3 c (cirs A) S G a (n + cirs A) := by
      refine plN_fr f3 (fun g hg => by unfold cP; omega) ⟨hy2, hv, hc, by omega, fun v hv2 => ?_, ?_⟩
      · rw [(f2 41001 (by unfold cQ; omega)).2.1]
        exact ⟨(s1 v hv2).1, by have := (s1 v hv2).2; omega⟩
      · rw [(f2 41002 (by unfold cQ; omega)).1]
        exact s5
    have hcj3 : cjT y3 := ⟨fun o x ho hx => by rw [(f3 41006 (by omega)).2.1]; exact hcj2.1 o x ho hx, fun o ho => by rw [(f3 41007 (by omega)).2.1]; exact hcj2.2 o ho⟩
    have hv3 : vR9 y3 v0 := fun b hb => by
      rw [(f3 41009 (by omega)).2.1, (f02 41009 (by omega)).2.1]
      exact hv0 b hb
    have hr3 : ∀ w, w < 2 * c → y3.2.1 4006 w = nI (pr w) := fun w hw => by
      rw [(f3 4006 (by omega)).2.1, g1 w hw]
      exact (hpr w hw).2
    have e3 : y3.1 4011 = nI PT.2 := (f3 4011 (by decide)).1.trans g2
    have hng : ∀ x, x < c → sg x = decide (G x ≤ 0) := fun x hx => by
      rw [hG x hx]
      cases sg x <;> decide
    have tg : (nI (thM m)).toInt64 = Int64.ofNat (thM m) := i64_24 ⟨thM m, by omega⟩
    have c3 : ∀ (d i : Nat) (f : Nat → Nat) (v : Nat → Nat) (z : ow_MS), i + d = PT.2 → vR9 z v → fr (fun g => 41009 ≤ g ∧ g ≤ 41016) y3 z → (∀ p, p < i → cnt9 (cl9 (thM m) (fun x o i => cjS (sg x) o i) c S (fun w => decide (pr w = p))) (f p)) → Tt (fun K k => c_X0_countMaps vl K k 3 (nI m) (nI (thM m)) (nI i) (Int64.ofNat (pd9 f i * thM m ^ cirs A)) 41000 4000 0 z) Q := by
      intro d
      induction d with
      | zero =>
        intro i f v z hi2 hz hf hF
        have ei : i = PT.2 := by omega
        rw [ei] at hF
        refine u_X0_countMaps_3 ?_; unfold cm_X0_countMaps_3
        refine w_rdF ((hf 4011 (by omega)).1.trans e3) (w_leT (by omega) (by omega) (w_some ⟨⟨pd9 f i, rfl, ?_⟩, fr_tr f03 (fr_mono (fun g hg => by unfold mxQ; omega) hf)⟩))
        rw [ei]
        exact cl_prod hv (thM_pos m) (fun w hw => ⟨(hpr w hw).1, hd w hw⟩) hd2 hF
      | succ d ih =>
        intro i f v z hi2 hz hf hF
        refine u_X0_countMaps_3 ?_; unfold cm_X0_countMaps_3
        refine w_rdF ((hf 4011 (by omega)).1.trans e3) (w_leF (by omega) (by omega) (w_cs0 (xc_planPart (ng := sg) (pr := pr) (p := i) (plN_fr hf (fun g hg => by unfold cP; omega) hN3) hng hd hd2 (fun w hw => ⟨by rw [(hf 4006 (by omega)).2.1]; exact hr3 w hw, by have := (hpr w hw).1; omega⟩) (by omega) hc7 (by omega) ?_) ?_))
        · obtain ⟨w, w1, w2⟩ := pi3 i (by omega)
          exact ⟨w, w1, nI_inj9 (by have := (hpr w w1).1; omega) (by omega) ((hpr w w1).2.symm.trans w2)⟩
        · rintro z1 ⟨k1, P, U, k2, k3, k4, k5, k6⟩
          have ok : okP9 n P := ⟨k4.2.2.2, fun b hb => by
            obtain ⟨w, w1, -, w3⟩ := tos_part k4 hb
            rw [← w3]
            exact (s1 w w1).2⟩
          have f31 : fr (fun g => 41009 ≤ g ∧ g ≤ 41016) y3 z1 := fr_tr hf (fr_mono (fun g hg => by unfold plR at hg; omega) k1)
          have hz1 : vR9 z1 v := fun b hb => by
            rw [(k1 41009 (by unfold plR; omega)).2.1]
            exact hz b hb
          have hcjz : cjT z1 := ⟨fun o x ho hx => by rw [(f31 41006 (by omega)).2.1]; exact hcj3.1 o x ho hx, fun o ho => by rw [(f31 41007 (by omega)).2.1]; exact hcj3.2 o ho⟩
          refine w_cs1 (xc_countF (n := n) hm1 hm4 ok (by omega) k3 19 0 0 20 v z1 (by omega) (by omega) (Nat.zero_le _) (Nat.zero_le _) (fun _ => rfl) hz1 k2 hcjz (fun l hl => ?_) (fun b hb => absurd hb List.not_mem_nil) (fun i t hi => absurd hi (Nat.not_lt_zero _))) ?_
          · rw [(f31 41008 (by omega)).2.1]
            exact hcl3 l hl
          · rintro u z2 ⟨⟨v', a1, -⟩, a2, M, a3, a4⟩
            have a3 : u = Int64.ofNat M := a3
            have a2 : fr (fun q => q = 41009) z1 z2 := a2
            have a1 : vR9 z2 v' := a1
            rw [nI_1, a3, ← Int64.ofNat_mul]
            have hM : cnt9 (cl9 (thM m) (fun x o i => cjS (sg x) o i) c S (fun w => decide (pr w = i))) M := by
              refine ar_cl hv ⟨fun w hw => by dsimp only; rw [hd w hw], fun x hx => by dsimp only; rw [hd2 x hx]⟩ hlb (thM_pos m) (cnt_cg (fun L => ?_) a4)
              refine Iff.trans ⟨fun h9 => h9.1, fun h9 => ⟨h9, fun b hb => absurd hb List.not_mem_nil⟩⟩ (sP_ar h24 k4 k5 k6 L)
            have := ih (i + 1) (ud9 f i M) v' z2 (by omega) a1 (fr_tr f31 (fr_mono (fun g hg => by omega) a2)) (fun p hp => ?_)
            · have e9 : pd9 (ud9 f i M) (i + 1) = pd9 f i * M := by
                show pd9 (ud9 f i M) i * ud9 f i M i = _
                rw [ud9_at, pd9_cg i (fun q hq => ud9_ne (by omega))]
              rw [e9, Nat.mul_right_comm] at this
              exact this
            · by_cases ep : p = i
              · rw [ep, ud9_at]
                exact hM
              · rw [ud9_ne ep]
                exact hF p (by omega)
    have c2 : ∀ (d i : Nat), i + d = cirs A → Tt (fun K k => c_X0_countMaps vl K k 2 (nI m) (nI (thM m)) (nI i) (Int64.ofNat (thM m ^ i)) 41000 4000 0 y3) Q := by
      intro d
      induction d with
      | zero =>
        intro i hi2
        have ei : i = cirs A := by omega
        subst ei
        have := c3 PT.2 0 (fun _ => 0) v0 y3 (by omega) hv3 fr_rf (fun p hp => absurd hp (Nat.not_lt_zero _))
        rw [show pd9 (fun _ => 0) 0 * thM m ^ cirs A = thM m ^ cirs A from Nat.one_mul _] at this
        refine u_X0_countMaps_2 ?_; unfold cm_X0_countMaps_2
        exact w_rdF (x := nI (cirs A)) hN3.1.2.1 (w_leT (by omega) (by omega) this)
      | succ d ih =>
        intro i hi2
        have := ih (i + 1) (by omega)
        rw [Nat.pow_succ, Int64.ofNat_mul] at this
        refine u_X0_countMaps_2 ?_; unfold cm_X0_countMaps_2
        rw [nI_1, tg]
        exact w_rdF (x := nI (cirs A)) hN3.1.2.1 (w_leF (by omega) (by omega) this)
    exact c2 (cirs A) 0 (by omega)
  refine e_X0_countMaps ?_
  refine u_X0_countMaps_0 ?_; unfold cm_X0_countMaps_0
  have mm : m = 1 ∨ m = 2 ∨ m = 3 ∨ m = 4 := by omega
  rcases mm with rfl | rfl | rfl | rfl
  · exact w_ifF (by decide) (w_ifF (by decide) c1)
  · exact w_ifF (by decide) (w_ifF (by decide) c1)
  · exact w_ifF (by decide) (w_ifT (by decide) c1)
  · exact w_ifT (by decide) c1
def mC9 (A : rn_L) (sg : Nat → Bool) (m : Nat) (v : Int32) : Prop := ∃ c S G N, jnN A sg c S G ∧ v = nI (N * thM m ^ cirs A) ∧ cnt9 (cl9 (thM m) (fun x o i => cjS (sg x) o i) c S (fun _ => true)) N
theorem xc_maps (hM : gM y) (hC : relC y St) (hS : okS St) (hcj : cjT y) (hp : mpC y) : Te (fun K => ce_X11_maps vl K 0 x x' y) (fun r => fr mxQ y r.2.2 ∧ ((r.1 = 1 ∧ ∀ d, d < 40 → x = nI d → St d = none) ∨ ∃ d A sg, d < 40 ∧ x = nI d ∧ St d = some (A, sg) ∧ (r.1 = 2 ∧ (x' < 1 ∨ ¬ x' ≤ 4) ∨ (¬ x' < 1 ∧ x' ≤ 4) ∧ (r.1 = 4 ∧ (14 < A.flatten.length ∨ 4 < A.length) ∨ r.1 = 0 ∧ A.flatten.length ≤ 14 ∧ A.length ≤ 4 ∧ ∀ m, 1 ≤ m → m ≤ 4 → x' = nI m → mC9 A sg m r.2.1)))) := by
  refine e_X11_maps ?_; unfold cm_X11_maps_0
  refine w_tc0 (xc_need hM.1.1 hC hS) ?_ ?_
  · rintro y1 ⟨h1, rfl⟩
    rcases h1 with h1 | ⟨-, d, A, sg, c, hd, rfl, hSt, hs, hA, hne, hpl⟩
    · exact absurd (show (0 : Nat) = 1 from h1.1) (by decide)
    · have hl := okF_len hA.1
      refine w_if (fun h9 => w_some ⟨fr_rf, Or.inr ⟨d, A, sg, hd, rfl, hSt, Or.inl ⟨rfl, Or.inl h9⟩⟩⟩) (fun h0 => w_if (fun h4 => ?_) (fun h9 => w_some ⟨fr_rf, Or.inr ⟨d, A, sg, hd, rfl, hSt, Or.inl ⟨rfl, Or.inr h9⟩⟩⟩))
      refine w_cs0 (tc_ld3 nH4 hM.1 hd hs hA) ?_
      rintro y2 ⟨g1, g2, S, G, g3, g4⟩
      have hc12 := hA.2.2.2.1
      have f2 : fr mxQ y1 y2 := fr_mono (fun g hg => by unfold cL at hg; unfold mxQ; omega) g2
      have hcj2 : cjT y2 := ⟨fun o x ho hx => by rw [(g2 41006 (by unfold cL; omega)).2.1]; exact hcj.1 o x ho hx, fun o ho => by rw [(g2 41007 (by unfold cL; omega)).2.1]; exact hcj.2 o ho⟩
      have hv2 : ∃ v, vR9 y2 v := by
        obtain ⟨v, hv⟩ : ∃ v : Nat → Nat, ∀ b, b < 18 → v b < 24 ∧ y1.2.1 41009 b = nI (v b) := by
          refine Classical.axiomOfChoice (r := fun b k => b < 18 → k < 24 ∧ y1.2.1 41009 b = nI k) (fun b => ?_)
          by_cases hb : b < 18
          · obtain ⟨k, k1, k2⟩ := hp.2.2 b hb
            exact ⟨k, fun _ => ⟨k1, k2⟩⟩
          · exact ⟨0, fun h9 => absurd h9 hb⟩
        refine ⟨v, fun b hb => ?_⟩
        rw [(g2 41009 (by unfold cL; omega)).2.1]
        exact ⟨(hv b hb).2, (hv b hb).1⟩
      refine w_rdF g3.1.1 (w_lt (a := 7) (by omega) (by omega) (fun h9 => w_some ⟨f2, Or.inr ⟨d, A, sg, hd, rfl, hSt, Or.inr ⟨⟨h0, h4⟩, Or.inl ⟨rfl, Or.inl (by omega)⟩⟩⟩⟩) (fun h7 => w_rdF g3.2.2.2.2.2 (w_le (b := 4) (by have := hA.2.2.2.2; omega) (by omega) (fun h44 => ?_) (fun h9 => w_some ⟨f2, Or.inr ⟨d, A, sg, hd, rfl, hSt, Or.inr ⟨⟨h0, h4⟩, Or.inl ⟨rfl, Or.inr h9⟩⟩⟩⟩))))
      obtain ⟨m, m31, rfl⟩ := nI_of (x := x') (fun h => h0 (by
        rw [Int32.lt_iff_toInt_lt] at h ⊢
        exact Int.lt_trans h (by decide)))
      have hm4 : m ≤ 4 := (nI_leI m31 (by omega)).mp h4
      have hm1 : 1 ≤ m := by
        rcases Nat.eq_zero_or_pos m with h9 | h9
        · exact absurd (show nI m < 1 by rw [h9]; decide) h0
        · exact h9
      refine w_cs1 (xc_countMaps g4 g3.1 hm1 hm4 (by omega) h44 hcj2 hv2) ?_
      rintro v y3 ⟨⟨N, e1, e2⟩, f3⟩
      have f3 : fr mxQ y2 y3 := f3
      have e1 : v = Int64.ofNat (N * thM m ^ cirs A) := e1
      refine w_some ⟨fr_tr f2 f3, Or.inr ⟨d, A, sg, hd, rfl, hSt, Or.inr ⟨⟨h0, h4⟩, Or.inr ⟨rfl, by omega, h44, fun m' k1 k2 k3 => ?_⟩⟩⟩⟩
      rw [← nI_inj9 (a := m) (b := m') (by omega) (by omega) k3]
      refine ⟨c, S, G, N, g4, ?_, e2⟩
      show v.toInt32 = _
      rw [e1, Int64.toInt32_ofNat']
      rfl
  · rintro a y1 ha ⟨h1, rfl⟩
    rcases h1 with h1 | h1
    · exact w_some ⟨fr_rf, Or.inl ⟨h1.1, h1.2⟩⟩
    · exact absurd h1.1 ha
end XMK
end
