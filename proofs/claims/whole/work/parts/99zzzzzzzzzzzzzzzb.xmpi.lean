/-! maps: the class's plan from seeds, and of a part -/
section XMI
variable {c : Nat} {S : ow_NP} {ng : Nat → Bool} {lab pr : Nat → Nat} {p : Nat} {vl : Nat → Nat} {y : ow_MS} {ci N : Nat} {G : Nat → Int32}
theorem gn_ext {a b : Nat} (h : ∀ i, o_gn a i ↔ o_gn b i) : a = b := by
  refine Nat.eq_of_testBit_eq (fun i => ?_)
  have := h i
  rw [gn_test, gn_test] at this
  cases h1 : a.testBit i <;> cases h2 : b.testBit i
  · rfl
  · rw [h1, h2] at this
    exact absurd (this.mpr rfl) (by decide)
  · rw [h1, h2] at this
    exact absurd (this.mp rfl) (by decide)
  · rfl
theorem xc_planFrom {se : Nat} (h : plN y c ci S G lab N) (hng : ∀ x, x < c → ng x = decide (G x ≤ 0)) (hd : ∀ w, w < 2 * c → pr (S.2 w) = pr w) (hd2 : ∀ x, x < c → pr (2 * x + 1) = pr (2 * x)) (hrow : ∀ w, w < 2 * c → y.2.1 4006 w = nI (pr w) ∧ pr w < 100) (hp : p < 100) (hc7 : c ≤ 7) (hN : N ≤ 11) (hse : se < 2 ^ 24) (hs : ∀ b, o_gn se b → ∃ w, w < 2 * c ∧ pr w = p ∧ lab w = b) : Te (fun K => ce_X0_planFrom vl K 41000 4000 (nI p) (nI se) y) (fun r => fr plR y r.2 ∧ ∃ P U kn, r.1 = nI kn ∧ pZ9 r.2 P U kn ∧ pI9 c S ng lab pr p P U ∧ P.length ≤ 18 ∧ (∀ x, x < c → pr (2 * x) = p → x ∉ U → ¬ rdy9 S lab (fun b => b ∈ tos P) x) ∧ ∀ b, b < N → o_gn se b → b ∈ tos P) := by
  let Q : Int32 × ow_MS → Prop := fun r => fr plR y r.2 ∧ ∃ P U kn, r.1 = nI kn ∧ pZ9 r.2 P U kn ∧ pI9 c S ng lab pr p P U ∧ P.length ≤ 18 ∧ (∀ x, x < c → pr (2 * x) = p → x ∉ U → ¬ rdy9 S lab (fun b => b ∈ tos P) x) ∧ ∀ b, b < N → o_gn se b → b ∈ tos P
  have hP : ∀ z, fr plR y z → plN z c ci S G lab N := fun z hf => plN_fr hf (fun g hg => plR_n hg) h
  have hR : ∀ z, fr plR y z → ∀ w, w < 2 * c → z.2.1 4006 w = nI (pr w) := fun z hf w hw => by
    rw [(hf 4006 (by unfold plR; omega)).2.1]
    exact (hrow w hw).1
  obtain ⟨-, hv, -, -, hl, -⟩ := id h
  have uc : ∀ {P : List sT9} {U : List Nat}, pI9 c S ng lab pr p P U → U.length ≤ c := fun {P} {U} hI => by
    have := nodup_le U (List.range c) hI.1 (fun x hx => List.mem_range.mpr (hI.2.1 x hx).1)
    rw [List.length_range] at this
    exact this
  have tN : ∀ {P : List sT9} {U : List Nat}, pI9 c S ng lab pr p P U → ∀ b, b ∈ tos P → b < N := fun hI b hb => by
    obtain ⟨w, w1, -, w3⟩ := tos_part hI hb
    rw [← w3]
    exact (hl w w1).2
  have c1 : ∀ (d j : Nat) (P : List sT9) (U : List Nat) (kn : Nat) (z : ow_MS), j + d = N → fr plR y z → pZ9 z P U kn → pI9 c S ng lab pr p P U → P.length ≤ j + U.length → (∀ x, x < c → pr (2 * x) = p → x ∉ U → ¬ rdy9 S lab (fun b => b ∈ tos P) x) → (∀ b, b < j → o_gn se b → b ∈ tos P) → Tt (fun K k => c_X0_planFrom vl K k 1 (nI p) (nI se) (nI kn) (nI j) 0 0 0 41000 4000 z) Q := by
    intro d
    induction d with
    | zero =>
      intro j P U kn z hj hf hZ hI hlen hcl hsd
      have := uc hI
      refine u_X0_planFrom_1 ?_; unfold cm_X0_planFrom_1
      exact w_rdF (hP z hf).2.2.2.2.2 (w_leT (by omega) (by omega) (w_some ⟨hf, P, U, kn, rfl, hZ, hI, by omega, hcl, fun b hb => hsd b (by omega)⟩))
    | succ d ih =>
      intro j P U kn z hj hf hZ hI hlen hcl hsd
      have c6 : ∀ (P : List sT9) (U : List Nat) (kn : Nat) (z : ow_MS), fr plR y z → pZ9 z P U kn → pI9 c S ng lab pr p P U → P.length ≤ j + 1 + U.length → (∀ x, x < c → pr (2 * x) = p → x ∉ U → ¬ rdy9 S lab (fun b => b ∈ tos P) x) → (∀ b, b < j + 1 → o_gn se b → b ∈ tos P) → Tt (fun K k => c_X0_planFrom vl K k 6 (nI p) (nI se) (nI kn) (nI j) 0 0 0 41000 4000 z) Q := by
        intro P U kn z hf hZ hI hlen hcl hsd
        refine u_X0_planFrom_6 ?_; unfold cm_X0_planFrom_6
        rw [nI_1]
        exact ih (j + 1) P U kn z (by omega) hf hZ hI hlen hcl hsd
      have c2 : ∀ (e i : Nat) (P : List sT9) (U : List Nat) (kn : Nat) (z : ow_MS) (M : List Nat), i + e = 12 → fr plR y z → pZ9 z P U kn → pI9 c S ng lab pr p P U → P.length ≤ j + 1 + U.length → (∀ b, b < j + 1 → o_gn se b → b ∈ tos P) → M.Nodup → (∀ b, b ∈ M → b ∈ tos P) → 1 ≤ M.length → i ≤ M.length → Tt (fun K k => c_X0_planFrom vl K k 2 (nI p) (nI se) (nI kn) (nI j) (nI i) 0 0 41000 4000 z) Q := by
        intro e
        induction e with
        | zero =>
          intro i P U kn z M hi hf hZ hI hlen hsd hM1 hM2 hM3 hM4
          exfalso
          have := nodup_le M (List.range N) hM1 (fun b hb => List.mem_range.mpr (tN hI b (hM2 b hb)))
          rw [List.length_range] at this
          omega
        | succ e ihe =>
          intro i P U kn z M hi hf hZ hI hlen hsd hM1 hM2 hM3 hM4
          have c5 : ∀ (P : List sT9) (U : List Nat) (kn : Nat) (z : ow_MS) (M : List Nat) (x7 x8 : Int32), fr plR y z → pZ9 z P U kn → pI9 c S ng lab pr p P U → P.length ≤ j + 1 + U.length → (∀ b, b < j + 1 → o_gn se b → b ∈ tos P) → M.Nodup → (∀ b, b ∈ M → b ∈ tos P) → 1 ≤ M.length → i + 1 ≤ M.length → Tt (fun K k => c_X0_planFrom vl K k 5 (nI p) (nI se) (nI kn) (nI j) (nI i) x7 x8 41000 4000 z) Q := by
            intro P U kn z M x7 x8 hf hZ hI hlen hsd hM1 hM2 hM3 hM4
            refine u_X0_planFrom_5 ?_; unfold cm_X0_planFrom_5
            rw [nI_1]
            exact ihe (i + 1) P U kn z M (by omega) hf hZ hI hlen hsd hM1 hM2 hM3 hM4
          have c3 : ∀ (g x : Nat) (P' : List sT9) (U' : List Nat) (kn' : Nat) (z : ow_MS), x + g = c → fr plR y z → pZ9 z P' U' kn' → pI9 c S ng lab pr p P' U' → P'.length ≤ j + 1 + U'.length → (∀ b, b ∈ tos P → b ∈ tos P') → ((∀ b, b ∈ tos P' → b ∈ tos P) → ∀ x', x' < x → pr (2 * x') = p → x' ∉ U' → ¬ rdy9 S lab (fun b => b ∈ tos P) x') → Tt (fun K k => c_X0_planFrom vl K k 3 (nI p) (nI se) (nI kn') (nI j) (nI i) (nI kn) (nI x) 41000 4000 z) Q := by
            intro g
            induction g with
            | zero =>
              intro x P' U' kn' z hx hf' hZ' hI' hlen' hmo hcl'
              have hsd' : ∀ b, b < j + 1 → o_gn se b → b ∈ tos P' := fun b h1 h2 => hmo b (hsd b h1 h2)
              refine u_X0_planFrom_3 ?_; unfold cm_X0_planFrom_3
              refine w_rdF (hP z hf').1.1 (w_leT (by omega) (by omega) (w_eqN (by have := hZ'.2.1; omega) (by have := hZ.2.1; omega) (fun h9 => ?_) (fun h9 => ?_)))
              · have hsub : ∀ b, b ∈ tos P' → b ∈ tos P := fun b hb => by
                  rw [← hZ.2.2.1, ← h9, hZ'.2.2.1]
                  exact hb
                have ek : (fun b => b ∈ tos P') = fun b => b ∈ tos P := funext (fun b => propext ⟨hsub b, hmo b⟩)
                refine w_le (b := 0) (by omega) (by omega) (fun h8 => c5 P' U' kn' z M _ _ hf' hZ' hI' hlen' hsd' hM1 (fun b hb => hmo b (hM2 b hb)) hM3 (by omega)) (fun h8 => c6 P' U' kn' z hf' hZ' hI' hlen' (fun x' h1 h2 h3 => ?_) hsd')
                rw [ek]
                exact hcl' hsub x' (by omega) h2 h3
              · obtain ⟨b, b1, b2⟩ : ∃ b, b ∈ tos P' ∧ b ∉ tos P := by
                  refine Classical.byContradiction (fun h8 => h9 (gn_ext (fun i => ?_)))
                  rw [hZ.2.2.1, hZ'.2.2.1]
                  exact ⟨fun h7 => Classical.byContradiction (fun h6 => h8 ⟨i, h7, h6⟩), hmo i⟩
                refine c5 P' U' kn' z (b :: M) _ _ hf' hZ' hI' hlen' hsd' (List.nodup_cons.mpr ⟨fun h7 => b2 (hM2 b h7), hM1⟩) (fun b' hb' => ?_) (by rw [List.length_cons]; omega) (by rw [List.length_cons]; omega)
                rcases List.mem_cons.mp hb' with h7 | h7
                · rw [h7]
                  exact b1
                · exact hmo b' (hM2 b' h7)
            | succ g ihg =>
              intro x P' U' kn' z hx hf' hZ' hI' hlen' hmo hcl'
              have c4 : ∀ (P' : List sT9) (U' : List Nat) (kn' : Nat) (z : ow_MS), fr plR y z → pZ9 z P' U' kn' → pI9 c S ng lab pr p P' U' → P'.length ≤ j + 1 + U'.length → (∀ b, b ∈ tos P → b ∈ tos P') → ((∀ b, b ∈ tos P' → b ∈ tos P) → ∀ x', x' < x + 1 → pr (2 * x') = p → x' ∉ U' → ¬ rdy9 S lab (fun b => b ∈ tos P) x') → Tt (fun K k => c_X0_planFrom vl K k 4 (nI p) (nI se) (nI kn') (nI j) (nI i) (nI kn) (nI x) 41000 4000 z) Q := by
                intro P' U' kn' z hf' hZ' hI' hlen' hmo hcl'
                refine u_X0_planFrom_4 ?_; unfold cm_X0_planFrom_4
                rw [nI_1]
                exact ihg (x + 1) P' U' kn' z (by omega) hf' hZ' hI' hlen' hmo hcl'
              have hxc : x < c := by omega
              have ul := uc hI'
              obtain ⟨us, u1, u2, u3⟩ := hZ'.2.2.2
              refine u_X0_planFrom_3 ?_; unfold cm_X0_planFrom_3
              rw [rn_mul2]
              refine w_rdF (hP z hf').1.1 (w_leF (by omega) (by omega) (w_crI (nH_6 nH4) rfl (show 2 * x < 24 by omega) (hR z hf' _ (by omega)) (w_eqN (by have := (hrow (2 * x) (by omega)).2; omega) (by omega) (fun hpx => w_rdF u1 (w_if (fun h9 => ?_) (fun h9 => ?_))) (fun hpx => c4 P' U' kn' z hf' hZ' hI' hlen' hmo (fun h8 x' h1 h2 h3 => ?_)))))
              · have hxU : x ∉ U' := fun h8 => ((gbit0 u2 (by omega)).mp h9) ((u3 x).mpr h8)
                refine w_cs1 (xc_planX (hP z hf') (hng x hxc) hd (hd2 x hxc) hxc hpx hxU hZ' hI' (by omega)) ?_
                rintro v z1 ⟨f1, P2, U2, kn2, e2, Z2, I2, h8⟩
                have e2 : v = nI kn2 := e2
                have f1 : fr plR z z1 := f1
                have Z2 : pZ9 z1 P2 U2 kn2 := Z2
                rw [e2]
                rcases h8 with ⟨k1, k2, k3, k4⟩ | ⟨k1, k2, k3⟩
                · rw [k1, k2, k3] at Z2
                  rw [k3]
                  refine c4 P' U' kn' z1 (fr_tr hf' f1) Z2 hI' hlen' hmo (fun h7 x' h1 h2 h3 => ?_)
                  by_cases ex : x' = x
                  · have ek : (fun b => b ∈ tos P') = fun b => b ∈ tos P := funext (fun b => propext ⟨h7 b, hmo b⟩)
                    rw [ek] at k4
                    rw [ex]
                    exact k4
                  · exact hcl' h7 x' (by omega) h2 h3
                · refine c4 P2 U2 kn2 z1 (fr_tr hf' f1) Z2 I2 (by rw [k1, List.length_cons]; omega) (fun b hb => k3 b (hmo b hb)) (fun h7 x' h1 h2 h3 => ?_)
                  rw [k1] at h3
                  have hne : x' ≠ x := fun e9 => h3 (by rw [e9]; exact List.mem_cons_self)
                  exact hcl' (fun b hb => h7 b (k3 b hb)) x' (by omega) h2 (fun h9 => h3 (List.mem_cons_of_mem _ h9))
              · have hxU : x ∈ U' := Classical.byContradiction (fun h8 => h9 ((gbit0 u2 (by omega)).mpr (fun h7 => h8 ((u3 x).mp h7))))
                refine c4 P' U' kn' z hf' hZ' hI' hlen' hmo (fun h7 x' h1 h2 h3 => ?_)
                have hne : x' ≠ x := fun e9 => h3 (by rw [e9]; exact hxU)
                exact hcl' h7 x' (by omega) h2 h3
              · have hne : x' ≠ x := fun e9 => hpx (by rw [← e9]; exact h2)
                exact hcl' h8 x' (by omega) h2 h3
          refine u_X0_planFrom_2 ?_; unfold cm_X0_planFrom_2
          exact w_leF (a := 12) (by omega) (by omega) (c3 c 0 P U kn z (by omega) hf hZ hI hlen (fun b hb => hb) (fun _ x' hx' => absurd hx' (Nat.not_lt_zero _)))
      have ul := uc hI
      refine u_X0_planFrom_1 ?_; unfold cm_X0_planFrom_1
      refine w_rdF (hP z hf).2.2.2.2.2 (w_leF (by omega) (by omega) (w_if (fun h9 => ?_) (fun h9 => w_if (fun h8 => ?_) (fun h8 => ?_))))
      · refine c6 P U kn z hf hZ hI (by omega) hcl (fun b h1 h2 => ?_)
        by_cases eb : b = j
        · rw [eb] at h2
          exact absurd h2 ((gbit0 hse (by omega)).mp h9)
        · exact hsd b (by omega) h2
      · have hj1 : o_gn se j := Classical.byContradiction (fun h7 => h9 ((gbit0 hse (by omega)).mpr h7))
        have hj2 : j ∉ tos P := fun h7 => ((gbit0 hZ.2.1 (by omega)).mp h8) ((hZ.2.2.1 j).mpr h7)
        obtain ⟨g1, g2⟩ := gor9 (g := kn) (v := j) hZ.2.1 (by omega)
        refine w_cs0 (xc_addStep (t := (0, j, j, j, false)) hZ.1 (by omega)) ?_
        rintro z1 ⟨s1, f1⟩
        have f2 : fr plR z z1 := fr_mono (fun g hg => by unfold plR; omega) f1
        rw [g1]
        obtain ⟨us, u1, u2, u3⟩ := hZ.2.2.2
        refine c2 12 0 (P ++ [(0, j, j, j, false)]) U (kn ||| 2 ^ j) z1 [j] (by omega) (fr_tr hf f2) ⟨s1, g2, fun b => ?_, us, (f1 41016 (by omega)).1.trans u1, u2, u3⟩ (pI9_seed hI hj2 (hs j hj1)) (by rw [List.length_append, List.length_singleton]; omega) (fun b h1 h2 => ?_) (List.nodup_cons.mpr ⟨List.not_mem_nil, List.nodup_nil⟩) (fun b hb => ?_) (by rw [List.length_singleton]; omega) (Nat.zero_le _)
        · rw [gn_or, hZ.2.2.1, tos_app]
        · by_cases eb : b = j
          · exact tos_app.mpr (Or.inr eb)
          · exact tos_app.mpr (Or.inl (hsd b (by omega) h2))
        · exact tos_app.mpr (Or.inr (List.mem_singleton.mp hb))
      · have hj2 : j ∈ tos P := Classical.byContradiction (fun h7 => h8 ((gbit0 hZ.2.1 (by omega)).mpr (fun h6 => h7 ((hZ.2.2.1 j).mp h6))))
        refine c6 P U kn z hf hZ hI (by omega) hcl (fun b h1 h2 => ?_)
        by_cases eb : b = j
        · rw [eb]
          exact hj2
        · exact hsd b (by omega) h2
  refine e_X0_planFrom ?_
  refine u_X0_planFrom_0 ?_; unfold cm_X0_planFrom_0
  refine w_wrF (w_wrF (c1 N 0 [] [] 0 _ (by omega) (fr_F2 (fr_F (by unfold plR; omega)) (by unfold plR; omega)) ⟨⟨rf_ot (by omega) po_usF_at, fun s t hs => (by simp at hs)⟩, by omega, fun b => ⟨fun h9 => absurd h9 (gn_z9 b), fun h9 => absurd h9 List.not_mem_nil⟩, 0, po_usF_at, by omega, fun x => ⟨fun h9 => absurd h9 (gn_z9 x), fun h9 => absurd h9 List.not_mem_nil⟩⟩ ⟨List.nodup_nil, fun x hx => absurd hx List.not_mem_nil, fun t ht => absurd ht List.not_mem_nil, fun s t hs => (by simp at hs)⟩ (Nat.zero_le _) (fun x _ _ _ h9 => ?_) (fun b hb => absurd hb (Nat.not_lt_zero _))))
  rcases h9.2 with h8 | h8
  · exact absurd h8 List.not_mem_nil
  · exact absurd h8 List.not_mem_nil
theorem sub9 {s a : Nat} (hs : s < 2 ^ 24) (ha : a < 2 ^ 24) : (nI s &&& (nI a ^^^ (-1))) = 0 ↔ ∀ b, o_gn s b → o_gn a b := by
  have key : ∀ b, b < 32 → (nI s &&& (nI a ^^^ (-1))).toBitVec.getLsbD b = (s.testBit b && !a.testBit b) := by
    intro b hb
    rw [Int32.toBitVec_and, Int32.toBitVec_xor, BitVec.getLsbD_and, BitVec.getLsbD_xor]
    have e1 : (nI s).toBitVec.getLsbD b = s.testBit b := by
      unfold BitVec.getLsbD
      rw [pk_tn (by omega)]
    have e2 : (nI a).toBitVec.getLsbD b = a.testBit b := by
      unfold BitVec.getLsbD
      rw [pk_tn (by omega)]
    have e3 : (-1 : Int32).toBitVec.getLsbD b = true := by
      have : ∀ b : Fin 32, (-1 : Int32).toBitVec.getLsbD b.val = true := by decide
      exact this ⟨b, hb⟩
    rw [e1, e2, e3, Bool.xor_true]
  constructor
  · intro e b hb
    rw [gn_test] at hb ⊢
    have hb32 : b < 32 := by
      rcases Nat.lt_or_ge b 32 with h9 | h9
      · exact h9
      · rw [Nat.testBit_lt_two_pow (Nat.lt_of_lt_of_le hs (Nat.pow_le_pow_right (by decide) (by omega)))] at hb
        cases hb
    have := key b hb32
    rw [e, hb] at this
    cases h9 : a.testBit b
    · rw [h9] at this
      have z0 : (0 : Int32).toBitVec.getLsbD b = false := BitVec.getLsbD_zero
      rw [z0] at this
      cases this
    · rfl
  · intro h
    apply Int32.toBitVec_inj.mp
    apply BitVec.eq_of_getLsbD_eq
    intro b hb
    rw [key b hb]
    have z0 : (0 : Int32).toBitVec.getLsbD b = false := BitVec.getLsbD_zero
    rw [z0]
    cases h9 : s.testBit b
    · rfl
    · have := (gn_test a b).mp (h b ((gn_test s b).mpr h9))
      rw [this]
      rfl
theorem xc_planPart (h : plN y c ci S G lab N) (hng : ∀ x, x < c → ng x = decide (G x ≤ 0)) (hd : ∀ w, w < 2 * c → pr (S.2 w) = pr w) (hd2 : ∀ x, x < c → pr (2 * x + 1) = pr (2 * x)) (hrow : ∀ w, w < 2 * c → y.2.1 4006 w = nI (pr w) ∧ pr w < 100) (hp : p < 100) (hc7 : c ≤ 7) (hN : N ≤ 11) (hne : ∃ w, w < 2 * c ∧ pr w = p) : Te (fun K => ce_X0_planPart vl K 41000 4000 (nI p) y) (fun y1 => fr plR y y1 ∧ ∃ P U, stL y1 P ∧ P.length ≤ 18 ∧ pI9 c S ng lab pr p P U ∧ (∀ x, x < c → pr (2 * x) = p → x ∈ U) ∧ ∀ w, w < 2 * c → pr w = p → lab w ∈ tos P) := by
  let Q : ow_MS → Prop := fun y1 => fr plR y y1 ∧ ∃ P U, stL y1 P ∧ P.length ≤ 18 ∧ pI9 c S ng lab pr p P U ∧ (∀ x, x < c → pr (2 * x) = p → x ∈ U) ∧ ∀ w, w < 2 * c → pr w = p → lab w ∈ tos P
  have hP : ∀ z, fr plR y z → plN z c ci S G lab N := fun z hf => plN_fr hf (fun g hg => plR_n hg) h
  have hR : ∀ z, fr plR y z → ∀ w, w < 2 * c → z.2.1 4006 w = nI (pr w) ∧ pr w < 100 := fun z hf w hw => by
    rw [(hf 4006 (by unfold plR; omega)).2.1]
    exact hrow w hw
  obtain ⟨h1, hv, -, -, h2, h3⟩ := id h
  have c3 : ∀ (al : Nat), al < 2 ^ N → (∀ b, o_gn al b ↔ ∃ w, w < 2 * c ∧ pr w = p ∧ lab w = b) → ∀ (d s : Nat) (z : ow_MS), s + d = pc al → 1 ≤ s → fr plR y z → Tt (fun K k => c_X0_planPart vl K k 3 (nI p) (nI al) (nI s) 0 41000 4000 z) Q := by
    intro al hal hbits d
    have h11 : 2 ^ N ≤ 2 ^ 11 := Nat.pow_le_pow_right (by decide) hN
    have hpc := pc_le hal
    have al1 : 1 ≤ al := by
      obtain ⟨w, w1, w2⟩ := hne
      have := (hbits (lab w)).mpr ⟨w, w1, w2, rfl⟩
      rcases Nat.eq_zero_or_pos al with h9 | h9
      · rw [h9] at this
        exact absurd this (gn_z9 _)
      · exact h9
    induction d with
    | zero =>
      intro s z hs1 hs2 hz
      have c4 : ∀ (e q : Nat) (z : ow_MS), q + e = al → 1 ≤ q → fr plR y z → Tt (fun K k => c_X0_planPart vl K k 4 (nI p) (nI al) (nI s) (nI q) 41000 4000 z) Q := by
        intro e
        induction e with
        | zero =>
          intro q z hq hq1 hz
          have eq : q = al := by omega
          subst eq
          refine u_X0_planPart_4 ?_; unfold cm_X0_planPart_4
          refine w_ltF (by omega) (by omega) (w_ifT ((sub9 (by omega) (by omega)).mpr (fun b hb => hb)) (w_ifT (by rw [bc_pc (by omega), ← hs1]; rfl) (w_cs1 (xc_planFrom (hP z hz) hng hd hd2 (hR z hz) hp hc7 hN (by omega) (fun b hb => (hbits b).mp hb)) ?_)))
          rintro v z1 ⟨g1, P, U, kn, e1, Z1, I1, hl1, hcl, hsd⟩
          have e1 : v = nI kn := e1
          have g1 : fr plR z z1 := g1
          have Z1 : pZ9 z1 P U kn := Z1
          have all : ∀ w, w < 2 * c → pr w = p → lab w ∈ tos P := fun w w1 w2 => hsd _ (h2 w w1).2 ((hbits _).mpr ⟨w, w1, w2, rfl⟩)
          have ek : kn = q := gn_ext (fun b => by
            rw [Z1.2.2.1, hbits]
            exact ⟨fun h9 => tos_part I1 h9, fun ⟨w, w1, w2, w3⟩ => by rw [← w3]; exact all w w1 w2⟩)
          rw [e1, ek]
          refine w_ifT rfl (w_some ⟨fr_tr hz g1, P, U, Z1.1, hl1, I1, fun x hx hpx => Classical.byContradiction (fun h9 => hcl x hx hpx h9 ?_), all⟩)
          exact ⟨Or.inl (all _ (by omega) hpx), Or.inr (all _ (by omega) ((hd2 x hx).trans hpx))⟩
        | succ e ihe =>
          intro q z hq hq1 hz
          have c5 : ∀ (z : ow_MS), fr plR y z → Tt (fun K k => c_X0_planPart vl K k 5 (nI p) (nI al) (nI s) (nI q) 41000 4000 z) Q := by
            intro z hz
            refine u_X0_planPart_5 ?_; unfold cm_X0_planPart_5
            rw [nI_1]
            exact ihe (q + 1) z (by omega) (by omega) hz
          refine u_X0_planPart_4 ?_; unfold cm_X0_planPart_4
          refine w_ltF (by omega) (by omega) (w_if (fun hsb => w_if (fun _ => w_cs1 (xc_planFrom (hP z hz) hng hd hd2 (hR z hz) hp hc7 hN (by omega) (fun b hb => (hbits b).mp ((sub9 (by omega) (by omega)).mp hsb b hb))) ?_) (fun _ => c5 z hz)) (fun _ => c5 z hz))
          rintro v z1 ⟨g1, P, U, kn, e1, Z1, I1, hl1, hcl, hsd⟩
          have e1 : v = nI kn := e1
          have g1 : fr plR z z1 := g1
          have Z1 : pZ9 z1 P U kn := Z1
          rw [e1]
          refine w_eqN (by have := Z1.2.1; omega) (by omega) (fun ek => w_some ⟨fr_tr hz g1, P, U, Z1.1, hl1, I1, fun x hx hpx => Classical.byContradiction (fun h9 => hcl x hx hpx h9 ?_), fun w w1 w2 => ?_⟩) (fun _ => c5 z1 (fr_tr hz g1))
          · refine ⟨Or.inl ((Z1.2.2.1 _).mp ?_), Or.inr ((Z1.2.2.1 _).mp ?_)⟩
            · rw [ek]
              exact (hbits _).mpr ⟨2 * x, by omega, hpx, rfl⟩
            · rw [ek]
              exact (hbits _).mpr ⟨2 * x + 1, by omega, (hd2 x hx).trans hpx, rfl⟩
          · refine (Z1.2.2.1 _).mp ?_
            rw [ek]
            exact (hbits _).mpr ⟨w, w1, w2, rfl⟩
      refine u_X0_planPart_3 ?_; unfold cm_X0_planPart_3
      exact w_rdF (hP z hz).2.2.2.2.2 (w_ltF (by omega) (by omega) (c4 (al - 1) 1 z (by omega) (by omega) hz))
    | succ d ih =>
      intro s z hs1 hs2 hz
      have c4 : ∀ (e q : Nat) (z : ow_MS), q + e = al + 1 → 1 ≤ q → fr plR y z → Tt (fun K k => c_X0_planPart vl K k 4 (nI p) (nI al) (nI s) (nI q) 41000 4000 z) Q := by
        intro e
        induction e with
        | zero =>
          intro q z hq hq1 hz
          refine u_X0_planPart_4 ?_; unfold cm_X0_planPart_4
          rw [nI_1]
          exact w_ltT (by omega) (by omega) (ih (s + 1) z (by omega) (by omega) hz)
        | succ e ihe =>
          intro q z hq hq1 hz
          have c5 : ∀ (z : ow_MS), fr plR y z → Tt (fun K k => c_X0_planPart vl K k 5 (nI p) (nI al) (nI s) (nI q) 41000 4000 z) Q := by
            intro z hz
            refine u_X0_planPart_5 ?_; unfold cm_X0_planPart_5
            rw [nI_1]
            exact ihe (q + 1) z (by omega) (by omega) hz
          refine u_X0_planPart_4 ?_; unfold cm_X0_planPart_4
          refine w_ltF (by omega) (by omega) (w_if (fun hsb => w_if (fun _ => w_cs1 (xc_planFrom (hP z hz) hng hd hd2 (hR z hz) hp hc7 hN (by omega) (fun b hb => (hbits b).mp ((sub9 (by omega) (by omega)).mp hsb b hb))) ?_) (fun _ => c5 z hz)) (fun _ => c5 z hz))
          rintro v z1 ⟨g1, P, U, kn, e1, Z1, I1, hl1, hcl, hsd⟩
          have e1 : v = nI kn := e1
          have g1 : fr plR z z1 := g1
          have Z1 : pZ9 z1 P U kn := Z1
          rw [e1]
          refine w_eqN (by have := Z1.2.1; omega) (by omega) (fun ek => w_some ⟨fr_tr hz g1, P, U, Z1.1, hl1, I1, fun x hx hpx => Classical.byContradiction (fun h9 => hcl x hx hpx h9 ?_), fun w w1 w2 => ?_⟩) (fun _ => c5 z1 (fr_tr hz g1))
          · refine ⟨Or.inl ((Z1.2.2.1 _).mp ?_), Or.inr ((Z1.2.2.1 _).mp ?_)⟩
            · rw [ek]
              exact (hbits _).mpr ⟨2 * x, by omega, hpx, rfl⟩
            · rw [ek]
              exact (hbits _).mpr ⟨2 * x + 1, by omega, (hd2 x hx).trans hpx, rfl⟩
          · refine (Z1.2.2.1 _).mp ?_
            rw [ek]
            exact (hbits _).mpr ⟨w, w1, w2, rfl⟩
      refine u_X0_planPart_3 ?_; unfold cm_X0_planPart_3
      exact w_rdF (hP z hz).2.2.2.2.2 (w_ltF (by omega) (by omega) (c4 al 1 z (by omega) (by omega) hz))
  have c1 : ∀ (d v m : Nat), m < 2 ^ N → (∀ b, o_gn m b ↔ ∃ w, w < v ∧ pr w = p ∧ lab w = b) → v + d = 2 * c → Tt (fun K k => c_X0_planPart vl K k 1 (nI p) (nI m) (nI v) 0 41000 4000 y) Q := by
    intro d
    have h11 : 2 ^ N ≤ 2 ^ 11 := Nat.pow_le_pow_right (by decide) hN
    induction d with
    | zero =>
      intro v m hm hb hv9
      have ev : v = 2 * c := by omega
      subst ev
      have pc1 : 1 ≤ pc m := by
        rcases Nat.eq_zero_or_pos (pc m) with h9 | h9
        · exfalso
          obtain ⟨w, w1, w2⟩ := hne
          have h8 := (hb (lab w)).mpr ⟨w, w1, w2, rfl⟩
          have key : ∀ (n k b : Nat), b < n → o_gn k b → 1 ≤ pcF n k := by
            intro n
            induction n with
            | zero => exact fun k b hb _ => absurd hb (Nat.not_lt_zero _)
            | succ n ih =>
              intro k b hb hk
              show 1 ≤ k % 2 + pcF n (k / 2)
              cases b with
              | zero =>
                unfold o_gn at hk
                rw [Nat.pow_zero, Nat.div_one] at hk
                omega
              | succ b =>
                have := ih (k / 2) b (by omega) (by
                  unfold o_gn at hk ⊢
                  rw [Nat.div_div_eq_div_mul, ← Nat.pow_succ']
                  exact hk)
                omega
          have := key 32 m (lab w) (by have := (h2 w w1).2; omega) h8
          unfold pc at h9
          omega
        · exact h9
      refine u_X0_planPart_1 ?_; unfold cm_X0_planPart_1
      exact w_rdF h1.1 (by rw [rn_mul2]; exact w_leT (by omega) (by omega) (c3 m hm hb (pc m - 1) 1 y (by omega) (by omega) fr_rf))
    | succ d ih =>
      intro v m hm hb hv9
      have c2 : ∀ (m : Nat), m < 2 ^ N → (∀ b, o_gn m b ↔ ∃ w, w < v + 1 ∧ pr w = p ∧ lab w = b) → Tt (fun K k => c_X0_planPart vl K k 2 (nI p) (nI m) (nI v) 0 41000 4000 y) Q := by
        intro m hm hb
        refine u_X0_planPart_2 ?_; unfold cm_X0_planPart_2
        rw [nI_1]
        exact ih (v + 1) m hm hb (by omega)
      obtain ⟨l1, l2⟩ := h2 v (by omega)
      refine u_X0_planPart_1 ?_; unfold cm_X0_planPart_1
      refine w_rdF h1.1 ?_
      rw [rn_mul2]
      refine w_leF (by omega) (by omega) (w_crI (nH_6 nH4) rfl (show v < 24 by omega) (hrow v (by omega)).1 (w_eqN (by have := (hrow v (by omega)).2; omega) (by omega) (fun h9 => w_crI ch_41001 rfl (show v < 24 by omega) l1 ?_) (fun h9 => c2 m hm (fun b => ?_))))
      · obtain ⟨m1, m2⟩ := gor9 (g := m) (v := lab v) (by omega) (by omega)
        rw [m1]
        refine c2 _ (Nat.or_lt_two_pow hm (Nat.pow_lt_pow_right (by decide) l2)) (fun b => ?_)
        rw [gn_or, hb]
        constructor
        · rintro (⟨w, w1, w2, w3⟩ | e)
          · exact ⟨w, by omega, w2, w3⟩
          · exact ⟨v, by omega, h9, e.symm⟩
        · rintro ⟨w, w1, w2, w3⟩
          by_cases ew : w = v
          · rw [ew] at w3
            exact Or.inr w3.symm
          · exact Or.inl ⟨w, by omega, w2, w3⟩
      · rw [hb]
        constructor
        · rintro ⟨w, w1, w2, w3⟩
          exact ⟨w, by omega, w2, w3⟩
        · rintro ⟨w, w1, w2, w3⟩
          by_cases ew : w = v
          · rw [ew] at w2
            exact absurd w2 h9
          · exact ⟨w, by omega, w2, w3⟩
  refine e_X0_planPart ?_
  refine u_X0_planPart_0 ?_; unfold cm_X0_planPart_0
  exact c1 (2 * c) 0 0 (Nat.two_pow_pos N) (fun b => ⟨fun h9 => absurd h9 (gn_z9 b), fun ⟨w, w1, _⟩ => absurd w1 (Nat.not_lt_zero _)⟩) (by omega)
end XMI
