/-! maps: the reference, part by part -/
def vU9 (A : rn_L) (V : Nat → Nat → Nat) (c : Nat) : Prop := ∀ x u, x < c → u < 2 → V x u < A.flatten.length ∧ crs A (V x u) = x ∧ uns A (V x u) = u
def mR9 (A : rn_L) (sg : Nat → Bool) (V : Nat → Nat → Nat) (c m : Nat) (mm : Nat → Nat) (p : Nat) (L : List Nat) : Prop := slM m c (aK9 A A.length) sg (fun x => gA9 A (V x 0)) (fun x => gA9 A (V x 1)) (fun x => gR9 A (V x 1)) (fun x => decide (mm (rn_c A (V x 0)) = p)) L
def mQ9 (A : rn_L) (sg : Nat → Bool) (V : Nat → Nat → Nat) (c m : Nat) (mm : Nat → Nat) (p N : Nat) : Prop := (∃ v, v < A.flatten.length ∧ mm (rn_c A v) = p) ∧ cnt9 (mR9 A sg V c m mm p) N ∨ (∀ v, v < A.flatten.length → mm (rn_c A v) ≠ p) ∧ N = thM m
def mA9 (A : rn_L) (sg : Nat → Bool) (m : Nat) (v : Int32) : Prop := ∃ c V mm P f, okF A.flatten c ∧ vU9 A V c ∧ mk A mm P ∧ (∀ p, p < P → mQ9 A sg V c m mm p (f p)) ∧ v = nI (pd9 f P)
section XME
theorem pd9_cg {f f' : Nat → Nat} : ∀ p, (∀ q, q < p → f q = f' q) → pd9 f p = pd9 f' p
  | 0, _ => rfl
  | p + 1, h => by
    show pd9 f p * f p = pd9 f' p * f' p
    rw [pd9_cg p (fun q hq => h q (by omega)), h p (by omega)]
theorem vU_ex {A : rn_L} {c : Nat} (h : okF A.flatten c) : ∃ V, vU9 A V c := by
  obtain ⟨W, hW⟩ : ∃ W : Nat × Nat → Nat, ∀ q, q.1 < c → q.2 < 2 → W q < A.flatten.length ∧ crs A (W q) = q.1 ∧ uns A (W q) = q.2 := by
    refine Classical.axiomOfChoice (r := fun (q : Nat × Nat) t => q.1 < c → q.2 < 2 → t < A.flatten.length ∧ crs A t = q.1 ∧ uns A t = q.2) (fun q => ?_)
    by_cases h1 : q.1 < c
    · by_cases h2 : q.2 < 2
      · obtain ⟨t, t1, t2, t3⟩ := ok_u h h1 q.2 h2
        exact ⟨t, fun _ _ => ⟨t1, t2, t3⟩⟩
      · exact ⟨0, fun _ h9 => absurd h9 h2⟩
    · exact ⟨0, fun h9 => absurd h9 h1⟩
  exact ⟨fun x u => W (x, u), fun x u hx hu => hW (x, u) hx hu⟩
theorem vU_at {A : rn_L} {c : Nat} {V : Nat → Nat → Nat} (h : okF A.flatten c) (hV : vU9 A V c) {v : Nat} (hv : v < A.flatten.length) : crs A v < c ∧ uns A v < 2 ∧ V (crs A v) (uns A v) = v := by
  obtain ⟨a1, a2⟩ := (h.2 _).mp (vAt_mem hv)
  obtain ⟨b1, b2, b3⟩ := hV (crs A v) (uns A v) a1 a2
  exact ⟨a1, a2, vu_inj h b1 hv b2 b3⟩
theorem vU_mk {A : rn_L} {c P x : Nat} {mm : Nat → Nat} {V : Nat → Nat → Nat} (hV : vU9 A V c) (hk : mk A mm P) (hx : x < c) : mm (rn_c A (V x 1)) = mm (rn_c A (V x 0)) := by
  obtain ⟨a1, a2, a3⟩ := hV x 0 hx (by omega)
  obtain ⟨b1, b2, b3⟩ := hV x 1 hx (by omega)
  refine hk.2.1 _ _ ⟨V x 1, V x 0, ⟨fun e => ?_, vAt A (V x 1), vAt A (V x 0), vAt_of b1, vAt_of a1, b2.trans a2.symm⟩, rfl, rfl⟩
  rw [e, a3] at b3
  omega
theorem nar_b9 (b : Bool) : vp_nar .boolean (bI9 b) = bI9 b := by
  cases b <;> rfl
variable {X : (Nat → Nat → Int32) → Prop} {z : ow_MS} {St : plT}
theorem xq_maps {d k : Int32} (h : gI X z) (hR : relR z St) (hE : epA z) : Te (fun K => qe_X13_maps K d k z) (fun r => (r.2.1 1 = nI 1 ∧ ∀ e, e < 40 → d = nI e → St e = none) ∨ ∃ e A sg, e < 40 ∧ d = nI e ∧ St e = some (A, sg) ∧ (r.2.1 1 = nI 2 ∧ (k < 1 ∨ ¬ k ≤ 4) ∨ (¬ k < 1 ∧ k ≤ 4) ∧ (r.2.1 1 = nI 3 ∧ (14 < A.flatten.length ∨ 4 < A.length) ∨ r.2.1 1 = 0 ∧ A.flatten.length ≤ 14 ∧ A.length ≤ 4 ∧ ∀ m, 1 ≤ m → m ≤ 4 → k = nI m → mA9 A sg m r.1))) := by
  let Q : Int32 × ow_MS → Prop := fun r => (r.2.1 1 = nI 1 ∧ ∀ e, e < 40 → d = nI e → St e = none) ∨ ∃ e A sg, e < 40 ∧ d = nI e ∧ St e = some (A, sg) ∧ (r.2.1 1 = nI 2 ∧ (k < 1 ∨ ¬ k ≤ 4) ∨ (¬ k < 1 ∧ k ≤ 4) ∧ (r.2.1 1 = nI 3 ∧ (14 < A.flatten.length ∨ 4 < A.length) ∨ r.2.1 1 = 0 ∧ A.flatten.length ≤ 14 ∧ A.length ≤ 4 ∧ ∀ m, 1 ≤ m → m ≤ 4 → k = nI m → mA9 A sg m r.1))
  have h1 := gI_1 (c := 0) h
  have hR1 := relR_1 (c := 0) hR
  refine e_X13_maps ?_
  refine u_X13_maps_0 ?_; unfold qm_X13_maps_0
  refine w_wrF (w_hasX hR1 (fun h0 => w_ifT rfl (w_mono (w_failX h1 fr_1) (fun r hr => Or.inl ⟨hr.2.1, h0⟩))) (fun e A sg he hx hs hv hne => w_ifF (by decide) ?_))
  subst hx
  have c1 : (k < 1 ∨ ¬ k ≤ 4) → ∀ {x1 x2 : Int32}, Tt (fun K i => q_X13_maps K i 1 x1 x2 0 0 0 0 0 0 (usF z 1 0)) Q := by
    intro hk x1 x2
    refine u_X13_maps_1 ?_; unfold qm_X13_maps_1
    exact w_mono (w_failX h1 fr_1) (fun r hr => Or.inr ⟨e, A, sg, he, rfl, hs, Or.inl ⟨hr.2.1, hk⟩⟩)
  refine w_if (fun h9 => c1 (Or.inl h9)) (fun h0 => w_if (fun h4 => ?_) (fun h9 => c1 (Or.inr h9)))
  obtain ⟨m, hm1, hm4, rfl⟩ : ∃ m, 1 ≤ m ∧ m ≤ 4 ∧ k = nI m := by
    obtain ⟨a, ha, rfl⟩ := nI_of (x := k) (fun h9 => h0 (by
      rw [Int32.lt_iff_toInt_lt] at h9 ⊢
      exact Int.lt_trans h9 (by decide)))
    refine ⟨a, ?_, (nI_leI (b := 4) ha (by omega)).mp h4, rfl⟩
    rcases Nat.eq_zero_or_pos a with h9 | h9
    · exact absurd (show nI a < 1 by rw [h9]; decide) h0
    · exact h9
  refine w_cs0 (to_open pn1 he hv) (fun z2 ⟨o2, f2⟩ => ?_)
  have g2 : gI X z2 := gI_net pn1 f2 (fun g hg => by omega) h1
  have hl := o2.len
  have hC := o2.2.2.2
  have c2 : (14 < A.flatten.length ∨ 4 < A.length) → ∀ {x1 x2 : Int32}, Tt (fun K i => q_X13_maps K i 2 x1 x2 0 0 0 0 0 0 z2) Q := by
    intro hk x1 x2
    refine u_X13_maps_2 ?_; unfold qm_X13_maps_2
    exact w_mono (w_failX (z0 := z2) g2 fr_rf) (fun r hr => Or.inr ⟨e, A, sg, he, rfl, hs, Or.inr ⟨⟨h0, h4⟩, Or.inl ⟨hr.2.1, hk⟩⟩⟩)
  refine w_rdF o2.1.V (w_lt (a := 14) (by omega) (by omega) (fun h9 => c2 (Or.inl h9)) (fun h14 => w_rdF (lk_C o2.1) (w_le (b := 4) (by omega) (by omega) (fun h44 => ?_) (fun h9 => c2 (Or.inr (by omega))))))
  obtain ⟨c, hok, hc⟩ := o2.2.2.1
  have hV := okF_len hok
  refine w_cs0 (tn_split pn1 (by omega) (by omega) (wkF_ok o2.wk) o2.1) (fun z3 ⟨f3, P, hpt⟩ => ?_)
  obtain ⟨mm, hmk, hmm⟩ := mk_of (by omega) hpt
  have hPl := hpt.2.1
  have o3 : oNet z3 1000 A sg := oNet_fr f3 (fun g hg => by unfold frP at hg; omega) o2
  have e3 : epA z3 := epA_fr f3 (fun g g1 g2 hg => by unfold frP at hg; omega) (epA_fr f2 (fun g g1 g2 hg => by omega) (epA_fr (fr_F (P := fun g => g = 1) rfl) (fun g g1 g2 hg => by omega) hE))
  have t3 : z3.1 1 = 0 := by
    rw [(f3 1 (by unfold frP; omega)).1, (f2 1 (by omega)).1]
    exact po_usF_at
  refine w_cs0 (xp_arcs pn1 o3 hok) (fun z4 ⟨hA4, f4⟩ => ?_)
  have o4 : oNet z4 1000 A sg := oNet_fr f4 (fun g hg => by unfold arcH at hg; omega) o3
  have e4 : epA z4 := epA_fr f4 (fun g g1 g2 hg => by unfold arcH at hg; omega) e3
  have t4 : z4.1 1 = 0 := by rw [(f4 1 (by unfold arcH; omega)).1]; exact t3
  have hP4 : z4.1 1013 = nI P := by rw [(f4 1013 (by unfold arcH; omega)).1]; exact hpt.1
  have hm4' : ∀ t, t < A.length → z4.2.1 1012 t = nI (mm t) := fun t ht => by rw [(f4 1012 (by unfold arcH; omega)).2.1]; exact hmm t ht
  obtain ⟨V, hVU⟩ := vU_ex hok
  have kL := aK9_le (A := A) A.length
  have kU := uN_c hok
  rw [rn_b_len] at kL
  have hX4 : arX z4 c (aK9 A A.length) (fun x => gA9 A (V x 0)) (fun x => gA9 A (V x 1)) (fun x => gR9 A (V x 1)) := by
    intro x hx
    obtain ⟨a1, a2, a3⟩ := hVU x 0 hx (by omega)
    obtain ⟨b1, b2, b3⟩ := hVU x 1 hx (by omega)
    have q1 := (hA4 _ a1).1 a3
    have q2 := (hA4 _ b1).2 (by omega)
    rw [a2] at q1
    rw [b2] at q2
    have lt : ∀ v u, v < A.flatten.length → u ≤ v + 1 → gK9 A (rn_c A v) u < aK9 A A.length := fun v u hv hu => by
      obtain ⟨d1, d2, d3⟩ := rn_c_in A v hv
      exact Nat.lt_of_lt_of_le (gK9_lt (A := A) (k := rn_c A v) (u := u) (by omega)).2 (aK9_mono (A := A) (a := rn_c A v + 1) A.length (by omega))
    exact ⟨⟨q1, lt _ _ a1 (by omega)⟩, ⟨q2.1, lt _ _ b1 (by omega)⟩, q2.2, lt _ _ b1 (by omega)⟩
  let F : Nat → Prop := fun g => 77 ≤ g ∧ g ≤ 80
  have xF : ∀ {y : ow_MS} {pt : Nat → Bool}, fr F z4 y → pY9 y c pt → mcX y 1000 m A sg c (aK9 A A.length) (fun x => gA9 A (V x 0)) (fun x => gA9 A (V x 1)) (fun x => gR9 A (V x 1)) pt := fun {y} {pt} hf hp => by
    refine ⟨oNet_fr hf (fun g hg => by have hg : 77 ≤ g ∧ g ≤ 80 := hg; omega) o4, fun x hx => ?_, (fun o x ho hx hl => ?_), hp⟩
    · rw [(hf 61 (by show ¬ (77 ≤ 61 ∧ 61 ≤ 80); omega)).2.1, (hf 62 (by show ¬ (77 ≤ 62 ∧ 62 ≤ 80); omega)).2.1, (hf 63 (by show ¬ (77 ≤ 63 ∧ 63 ≤ 80); omega)).2.1]
      exact hX4 x hx
    · rw [(hf 75 (by show ¬ (77 ≤ 75 ∧ 75 ≤ 80); omega)).2.1, (hf 76 (by show ¬ (77 ≤ 76 ∧ 76 ≤ 80); omega)).2.1]
      exact (e4.1 m hm1 hm4).2 o x ho hx hl
  have f73 : ∀ {y : ow_MS}, fr F z4 y → y.2.1 73 m = nI (thM m) := fun hf => by
    rw [(hf 73 (by show ¬ (77 ≤ 73 ∧ 73 ≤ 80); omega)).2.1]
    exact e4.2 m hm4
  have oF : ∀ {y : ow_MS}, fr F z4 y → oNet y 1000 A sg := fun hf => oNet_fr hf (fun g hg => by have hg : 77 ≤ g ∧ g ≤ 80 := hg; omega) o4
  have c3 : ∀ (d p : Nat) (f : Nat → Nat) (x3 : Int32) (y : ow_MS), p + d = P → fr F z4 y → x3 = nI (pd9 f p) → (∀ q, q < p → mQ9 A sg V c m mm q (f q)) → Tt (fun K i => q_X13_maps K i 3 (nI e) (nI m) x3 (nI p) 0 0 0 0 y) Q := by
    intro d
    induction d with
    | zero =>
      intro p f x3 y hp hf hx3 hq
      have hp : p = P := by omega
      subst hp
      refine u_X13_maps_3 ?_; unfold qm_X13_maps_3
      refine w_rdF (x := nI p) (by rw [(hf (1000 + 13) (by show ¬ (77 ≤ 1013 ∧ 1013 ≤ 80); omega)).1]; exact hP4) (w_leT (by omega) (by omega) (w_some (Or.inr ⟨e, A, sg, he, rfl, hs, Or.inr ⟨⟨h0, h4⟩, Or.inr ⟨?_, by omega, h44, fun m' q1 q2 q3 => ?_⟩⟩⟩)))
      · show y.1 1 = 0
        rw [(hf 1 (by show ¬ (77 ≤ 1 ∧ 1 ≤ 80); omega)).1]
        exact t4
      · have em := nI_inj9 (a := m) (b := m') (by omega) (by omega) q3
        rw [← em]
        exact ⟨c, V, mm, p, f, hok, hVU, hmk, hq, hx3⟩
    | succ d ih =>
      intro p f x3 y hp hf hx3 hq
      have c7 : ∀ (x5 x6 : Int32) (N : Nat) (y : ow_MS), fr F z4 y → mQ9 A sg V c m mm p N → Tt (fun K i => q_X13_maps K i 7 (nI e) (nI m) x3 (nI p) x5 x6 (nI N) x3 y) Q := by
        intro x5 x6 N y hf hN
        refine u_X13_maps_7 ?_; unfold qm_X13_maps_7
        rw [nI_1]
        refine ih (p + 1) (fun q => if q = p then N else f q) _ y (by omega) hf ?_ (fun q hq9 => ?_)
        · rw [hx3, pk_mul]
          show nI (pd9 f p * N) = nI (pd9 (fun q => if q = p then N else f q) p * (if p = p then N else f p))
          rw [if_pos rfl, pd9_cg p (f' := fun q => if q = p then N else f q) (fun q hq9 => (if_neg (by omega)).symm)]
        · by_cases eq : q = p
          · rw [eq, if_pos rfl]
            exact hN
          · rw [if_neg eq]
            exact hq q (by omega)
      have c5 : ∀ (d v : Nat) (b : Bool) (y : ow_MS), v + d = A.flatten.length → fr F z4 y → (∀ b, b < 40 → y.2.1 77 b = -1) → (b = true ↔ ∃ u, u < v ∧ mm (rn_c A u) = p) → (∀ u, u < v → y.2.1 80 (crs A u) = bI9 (decide (mm (rn_c A u) = p))) → Tt (fun K i => q_X13_maps K i 5 (nI e) (nI m) x3 (nI p) (bI9 b) (nI v) 0 0 y) Q := by
        intro d
        induction d with
        | zero =>
          intro v b y hv hf h77 hb h80
          have hv : v = A.flatten.length := by omega
          subst hv
          refine u_X13_maps_5 ?_; unfold qm_X13_maps_5
          have hf2 : fr F z4 (usF y 79 0) := fr_F2 hf (by show 77 ≤ 79 ∧ 79 ≤ 80; omega)
          refine w_rdF (oF hf).1.V (w_leT (by omega) (by omega) (w_wrF ?_))
          cases b
          · refine w_ifT rfl (w_rdI ml73 rfl (by omega) (f73 hf2) (c7 _ _ (thM m) _ hf2 (Or.inr ⟨fun u hu e9 => ?_, rfl⟩)))
            exact absurd (hb.mpr ⟨u, hu, e9⟩) (by decide)
          · refine w_ifF (by decide) ?_
            have hI0 : mgI (usF y 79 0) (aK9 A A.length) m [] := ⟨po_usF_at, List.nodup_nil, fun b hb => absurd hb List.not_mem_nil, fun i b hb => (by simp at hb), fun b hb => Or.inl ⟨List.not_mem_nil, h77 b hb⟩⟩
            have h80' : pY9 (usF y 79 0) c (fun x => decide (mm (rn_c A (V x 0)) = p)) := fun x hx => by
              obtain ⟨a1, a2, a3⟩ := hVU x 0 hx (by omega)
              have := h80 _ a1
              rw [a2] at this
              exact this
            refine w_cs1 (xp_mapsOf pn1 hm1 hm4 hV (by omega) (by omega) (aK9 A A.length - ([] : List Nat).length) 42 [] _ (Nat.le_refl _) (by show aK9 A A.length - 0 < 42; omega) hI0 (xF hf2 h80') (f73 hf2) (fun b hb => absurd hb List.not_mem_nil)) ?_
            rintro v1 y1 ⟨⟨_, f5⟩, -, N, eN, hN⟩
            have eN : v1 = nI N := eN
            have f5 : fr gvH (usF y 79 0) y1 := f5
            rw [eN]
            refine c7 _ _ N y1 (fr_tr hf2 (fr_mono (fun g hg => by unfold gvH at hg; show 77 ≤ g ∧ g ≤ 80; omega) f5)) (Or.inl ⟨hb.mp rfl, ?_⟩)
            exact cnt_cg (fun L => ⟨fun h9 => h9.1, fun h9 => ⟨h9, fun b q hb => absurd hb List.not_mem_nil⟩⟩) hN
        | succ d ih5 =>
          intro v b y hv hf h77 hb h80
          have hvl : v < A.flatten.length := by omega
          have hO := oF hf
          have hcx := (hO.cx hvl).1
          have hcc := (rn_c_in A v hvl).1
          have c6 : ∀ (t : Bool), t = decide (mm (rn_c A v) = p) → Tt (fun K i => q_X13_maps K i 6 (nI e) (nI m) x3 (nI p) (bI9 b) (nI v) (bI9 t) 0 y) Q := by
            intro t ht
            refine u_X13_maps_6 ?_; unfold qm_X13_maps_6
            rw [nI_1, show bI9 b ||| bI9 t = bI9 (b || t) from by cases b <;> cases t <;> rfl]
            refine w_rdI (pl4 pn1) rfl (by omega) (lk_cu hO.1 hvl).1 (w_wrZ ml80 rfl (by omega) (ih5 (v + 1) _ _ (by omega) (fr_I2 hf (by show 77 ≤ 80 ∧ 80 ≤ 80; omega)) (fun b hb => rd_ot (by omega) (h77 b hb)) ?_ (fun u hu => ?_)))
            · rw [Bool.or_eq_true, hb, ht, decide_eq_true_eq]
              constructor
              · rintro (⟨u, u1, u2⟩ | h9)
                · exact ⟨u, by omega, u2⟩
                · exact ⟨v, by omega, h9⟩
              · rintro ⟨u, u1, u2⟩
                by_cases euv : u = v
                · rw [euv] at u2
                  exact Or.inr u2
                · exact Or.inl ⟨u, by omega, u2⟩
            · rw [nar_b9]
              by_cases ec : crs A u = crs A v
              · rw [ec, po_usI_at, ht]
                obtain ⟨a1, a2, a3⟩ := vU_at hok hVU (v := u) (by omega)
                obtain ⟨b1, b2, b3⟩ := vU_at hok hVU hvl
                have same : ∀ w, w < A.flatten.length → crs A w = crs A v → mm (rn_c A w) = mm (rn_c A (V (crs A v) 0)) := fun w hw ew => by
                  obtain ⟨d1, d2, d3⟩ := vU_at hok hVU hw
                  rw [ew] at d3
                  have := vU_mk hVU hmk b1
                  rcases (show uns A w = 0 ∨ uns A w = 1 by omega) with e9 | e9
                  · rw [e9] at d3
                    rw [d3]
                  · rw [e9] at d3
                    rw [← this, d3]
                rw [same u (by omega) ec, same v hvl rfl]
              · rw [po_usI_ne ec]
                by_cases euv : u = v
                · rw [euv] at ec
                  exact absurd rfl ec
                · exact h80 u (by omega)
          have hmv := hmk.1 _ hcc
          refine u_X13_maps_5 ?_; unfold qm_X13_maps_5
          refine w_rdF hO.1.V (w_leF (by omega) hvl (w_rdI (pl8 pn1) rfl (by omega) (lk_c hO.1 hvl) (w_rdI (pl12 pn1) rfl (by omega) ((congrFun (hf 1012 (by show ¬ (77 ≤ 1012 ∧ 1012 ≤ 80); omega)).2.1 _).trans (hm4' _ hcc)) (w_eqN (by omega) (by omega) (fun h9 => c6 true (decide_eq_true h9).symm) (fun h9 => c6 false (decide_eq_false h9).symm)))))
      have c4 : ∀ (d b : Nat) (y : ow_MS), b + d = 40 → fr F z4 y → (∀ t, t < b → y.2.1 77 t = -1) → Tt (fun K i => q_X13_maps K i 4 (nI e) (nI m) x3 (nI p) 0 (nI b) 0 0 y) Q := by
        intro d
        induction d with
        | zero =>
          intro b y hb hf h77
          refine u_X13_maps_4 ?_; unfold qm_X13_maps_4
          refine w_leT (a := 40) (by omega) (by omega) (c5 A.flatten.length 0 false y (by omega) hf (fun t ht => h77 t (by omega)) ⟨fun h9 => (by cases h9), fun ⟨u, hu, _⟩ => absurd hu (Nat.not_lt_zero _)⟩ (fun u hu => absurd hu (Nat.not_lt_zero _)))
        | succ d ih4 =>
          intro b y hb hf h77
          refine u_X13_maps_4 ?_; unfold qm_X13_maps_4
          rw [nI_1]
          refine w_leF (a := 40) (by omega) (by omega) (w_wrI ml77 rfl (by omega) (ih4 (b + 1) _ (by omega) (fr_I2 hf (by show 77 ≤ 77 ∧ 77 ≤ 80; omega)) (fun t ht => ?_)))
          by_cases htb : t = b
          · rw [htb, po_usI_at]
          · exact rd_ne htb (h77 t (by omega))
      refine u_X13_maps_3 ?_; unfold qm_X13_maps_3
      exact w_rdF (x := nI P) (by rw [(hf (1000 + 13) (by show ¬ (77 ≤ 1013 ∧ 1013 ≤ 80); omega)).1]; exact hP4) (w_leF (by omega) (by omega) (c4 40 0 y (by omega) hf (fun t ht => absurd ht (by omega))))
  exact c3 P 0 (fun _ => 0) 1 z4 (by omega) fr_rf rfl (fun q hq => absurd hq (Nat.not_lt_zero _))
end XME
