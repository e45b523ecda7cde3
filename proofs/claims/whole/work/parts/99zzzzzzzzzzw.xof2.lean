/-! the list takes offers; without: a crossing, or two, taken out -/
def snk0 (X : (Nat → Nat → Int32) → Prop) (z : ow_MS) (S : List Nat → Prop) (n : Nat) : Prop := gI X z ∧ z.1 30 = 0 ∧ ∃ Ms, lsW z Ms ∧ (∀ r, S r ↔ r ∈ Ms) ∧ Ms.length ≤ n
theorem lsW_fr {P : Nat → Prop} {z z1 : ow_MS} {Ms : List (List Nat)} (hf : fr P z z1) (hP : ¬ P 20 ∧ ¬ P 21 ∧ ¬ P 22) (h : lsW z Ms) : lsW z1 Ms := by
  obtain ⟨h1, h2, h3, h4, h5⟩ := h
  refine ⟨h1, by rw [(hf 22 hP.2.2).1]; exact h2, fun k r hk => ?_, fun j hj => dRow_fr hf hP.1 (h4 j hj), h5⟩
  obtain ⟨j, j1, j2, j3⟩ := h3 k r hk
  exact ⟨j, j1, by rw [(hf 21 hP.2.1).2.1]; exact j2, rc_fr hf hP.1 j3⟩
theorem snk0_ok {X : (Nat → Nat → Int32) → Prop} : snkF (snk0 X) := by
  refine ⟨fun P z z1 S n hf hP h => ?_, fun z S n A sg hn h hA hG hF h24 h6 => ?_, fun z S n n' hn h => ?_⟩
  · obtain ⟨h1, h2, Ms, h3, h4, h5⟩ := h
    refine ⟨gI_fr hf (fun g hg => by have := hP g hg; unfold per; omega) h1, by rw [(hf 30 (fun h9 => by have := hP _ h9; omega)).1]; exact h2, Ms, lsW_fr hf ⟨fun h9 => by have := hP _ h9; omega, fun h9 => by have := hP _ h9; omega, fun h9 => by have := hP _ h9; omega⟩ h3, h4, h5⟩
  · obtain ⟨h1, h2, Ms, h3, h4, h5⟩ := h
    refine e_X13_offer ?_; unfold qm_X13_offer_0
    refine w_cs0 (tr_pack (o := 0) pn3 (by omega) ml27 (by omega) (by omega) (by omega) (by omega) hF hA hG) (fun z1 ⟨m, P, g1, g2, g3, g4, _, _⟩ => ?_)
    have i1 : gI X z1 := gI_fr g3 (fun g hg => by unfold frQ at hg; unfold per; omega) h1
    have i2 : z1.1 30 = 0 := by rw [(g3 30 (by unfold frQ; omega)).1]; exact h2
    have i3 : lsW z1 Ms := lsW_fr g3 (by unfold frQ; omega) h3
    refine w_rdF i2 (w_ifF (by decide) (w_ifT rfl (w_cs0 (xm_offerList (by omega) i3 g2 (dRow_pack hF g1 h24 h6 g2)) (fun z2 ⟨⟨Ms', k1, k2, k3⟩, k4⟩ => w_some ⟨⟨fun r => r = pkR A sg m P ∨ S r, ⟨fun r hr => Or.inr hr, fun r hr => ?_, fun A' sg' ⟨e1, e2⟩ => ?_⟩, ?_, ?_, Ms', k1, fun r => ?_, by omega⟩, ?_⟩))))
    · rcases hr with hr | hr
      · exact Or.inr ⟨A, sg, ⟨rfl, rfl⟩, m, P, g1, hr⟩
      · exact Or.inl hr
    · rw [e1, e2]
      exact ⟨_, Or.inl rfl, m, P, g1, rfl⟩
    · obtain ⟨j1, j2, j3, j4, j5, j6, j7⟩ := i1
      refine ⟨gTape_fr k4 (by omega) j1, gRows_fr k4 (by omega) j2, ⟨Ms'.length, k1.1, k1.2.1, fun k hk => ?_, k1.2.2.2.1⟩, gSum_fr k4 (by omega) (by omega) (by omega) j4, gCash_fr k4 (by omega) (by omega) (by omega) (by omega) (by omega) j5, gBrs_fr k4 (by omega) (by omega) (by omega) j6, gX_fr k4 (fun g hg => by omega) j7⟩
      obtain ⟨j, q1, q2, -⟩ := k1.2.2.1 k _ (List.getElem?_eq_getElem hk)
      exact ⟨j, q1, q2⟩
    · rw [(k4 30 (by omega)).1]
      exact i2
    · show (r = pkR A sg m P ∨ S r) ↔ _
      rw [k3, h4]
    · exact fr_tr (fr_mono (fun g hg => by unfold frQ at hg; unfold frO; omega) g3) (fr_mono (fun g hg => Or.inl (by omega)) k4)
  · obtain ⟨h1, h2, Ms, h3, h4, h5⟩ := h
    exact ⟨h1, h2, Ms, h3, h4, by omega⟩
/-- two crossings taken out of a list -/
def woA (x y : Nat) (A : rn_L) : rn_L := A.map (fun L => L.filter (fun p => decide (p.1 ≠ x) && decide (p.1 ≠ y)))
theorem woA_fl (x y : Nat) : ∀ A : rn_L, (woA x y A).flatten = A.flatten.filter (fun p => decide (p.1 ≠ x) && decide (p.1 ≠ y))
  | [] => rfl
  | L :: A => by
    have := woA_fl x y A
    show L.filter _ ++ (woA x y A).flatten = _
    rw [this, List.flatten_cons, List.filter_append]
theorem woA_wk {x y : Nat} {A : rn_L} (h : wkF A.flatten) : wkF (woA x y A).flatten := by
  rw [woA_fl]
  refine ⟨h.1.filter _, fun p hp => ?_⟩
  obtain ⟨h1, h2⟩ := List.mem_filter.mp hp
  obtain ⟨a, b, c⟩ := h.2 p h1
  exact ⟨a, b, List.mem_filter.mpr ⟨c, h2⟩⟩
section XWO
variable {Φ : ow_MS → (List Nat → Prop) → Nat → Prop} {n L : Nat} {z : ow_MS} {A : rn_L} {sg : Nat → Bool} {S : List Nat → Prop}
theorem xr_without {x y : Nat} (hΦ : snkF Φ) (hn : mw_net n) (hn3 : n ≠ 3000) (hx : x < 40) (hy : y < 40) (hL : L < 2700) (hO : oNet z n A sg) (h : Φ z S L) : Te (fun K => qe_X13_without K n (nI x) (nI y) z) (fun z1 => (∃ S', adS S S' (fun A' sg' => A' = woA x y A ∧ sg' = sg) ∧ Φ z1 S' (L + 1)) ∧ fr frB z z1) := by
  have hmn := net_mod hn
  have hl := hO.len
  have hC := hO.2.2.2
  let Q : ow_MS → Prop := fun z1 => (∃ S', adS S S' (fun A' sg' => A' = woA x y A ∧ sg' = sg) ∧ Φ z1 S' (L + 1)) ∧ fr frB z z1
  refine e_X13_without ?_
  refine u_X13_without_0 ?_; unfold qm_X13_without_0
  refine w_cs0 (tn_clear pn3) (fun z3 ⟨b3, f3⟩ => w_cs0 (tn_signs pn3 hn (fun e => hn3 e.symm)) (fun z4 ⟨f4, s4⟩ => ?_))
  let I : ow_MS → Prop := fun y => fr (fun g => 3001 ≤ g ∧ g ≤ 3006) z y ∧ ∀ x, x < 40 → y.2.1 3006 x = z.2.1 (n + 6) x
  have oI : ∀ {y : ow_MS}, I y → oNet y n A sg := fun hI => oNet_fr hI.1 (fun g hg => by omega) hO
  have stI : ∀ {P : Nat → Prop} {y y2 : ow_MS}, I y → fr P y y2 → (∀ g, P g → 3001 ≤ g ∧ g ≤ 3005) → I y2 := fun hI hf hP => ⟨fr_tr hI.1 (fr_mono (fun g hg => by have := hP g hg; omega) hf), fun x hx => by rw [(hf 3006 (fun h9 => by have := hP _ h9; omega)).2.1]; exact hI.2 x hx⟩
  have lenT : ∀ (c : Nat), (woA x y (A.take c)).flatten.length ≤ rn_b A c := fun c => by
    rw [woA_fl]
    exact List.length_filter_le _ _
  have out : ∀ (k c : Nat) (y1 : ow_MS), c + k = A.length → I y1 → rn_At y1 3000 (woA x y (A.take c)) [] → Tt (fun K i => q_X13_without K i 1 (nI x) (nI y) (nI c) 0 n y1) Q := by
    intro k
    induction k with
    | zero =>
      intro c y1 hc hI hb
      have hce : c = A.length := by omega
      rw [hce, List.take_length] at hb
      have hlw : (woA x y A).flatten.length ≤ A.flatten.length := by
        rw [woA_fl]
        exact List.length_filter_le _ _
      have sgY : rn_sg y1 3000 (woA x y A).flatten sg := fun p hp => by
        rw [woA_fl] at hp
        have hp1 := (List.mem_filter.mp hp).1
        have h40 := (hO.wk.2 p hp1).1
        show y1.2.1 3006 p.1 = _
        rw [hI.2 _ h40]
        exact hO.2.1 p hp1
      refine u_X13_without_1 ?_; unfold qm_X13_without_1
      refine w_rdF (lk_C (oI hI).1) (w_leT (by omega) (by omega) (w_cs0 (hΦ.2.1 y1 S L (woA x y A) sg hL (hΦ.1 _ _ _ _ _ hI.1 (fun g hg => by omega) h) hb sgY (woA_wk hO.wk) (by omega) (by unfold woA; rw [List.length_map]; omega)) (fun y2 ⟨g1, g2⟩ => w_some ⟨g1, fr_tr (fr_mono (fun g hg => Or.inr (by omega)) hI.1) (fr_mono (fun g hg => by unfold frO at hg; unfold frB; omega) g2)⟩)))
    | succ k ih =>
      intro c y1 hc hI hb
      have hcA : c < A.length := by omega
      have m1 := rn_b_mono A c
      have m2 := rn_b_le A (c + 1)
      have hlT := lenT c
      have inn : ∀ (k i : Nat) (y1 : ow_MS), i + k = rn_b A (c + 1) → rn_b A c ≤ i → I y1 → rn_At y1 3000 (woA x y (A.take c)) (((A.getD c []).take (i - rn_b A c)).filter (fun p => decide (p.1 ≠ x) && decide (p.1 ≠ y))) → Tt (fun K i9 => q_X13_without K i9 2 (nI x) (nI y) (nI c) (nI i) n y1) Q := by
        intro k
        induction k with
        | zero =>
          intro i y1 hi hlo hI hb
          have hie : i = rn_b A (c + 1) := by omega
          rw [hie] at hb ⊢
          rw [cmp_all hcA] at hb
          refine u_X13_without_2 ?_; unfold qm_X13_without_2
          rw [nI_1]
          refine w_rdI (pl3 hn) rfl (by omega) (lk_b (oI hI).1 (by omega)) (w_leT (by omega) (Nat.le_refl _) (w_cs0 (tn_end pn3 hb (by unfold woA; rw [List.length_map, List.length_take]; omega)) (fun y2 ⟨g1, g2⟩ => ih (c + 1) y2 (by omega) (stI hI g2 (fun g hg => by omega)) ?_)))
          rw [tk_snoc hcA]
          unfold woA at g1 ⊢
          rw [List.map_append]
          exact g1
        | succ k ihk =>
          intro i y1 hi hlo hI hb
          have hil : i < A.flatten.length := by omega
          have hat := cmp_at hcA hlo (show i < rn_b A (c + 1) by omega)
          have hc12 := (hO.cx hil).1
          have e4 := (lk_cu (oI hI).1 hil).1
          have skip : (crs A i = x ∨ crs A i = y) → Tt (fun K i9 => q_X13_without K i9 3 (nI x) (nI y) (nI c) (nI i) n y1) Q := by
            intro hxy
            refine u_X13_without_3 ?_; unfold qm_X13_without_3
            rw [nI_1]
            refine ihk (i + 1) y1 (by omega) (by omega) hI ?_
            rw [show i + 1 - rn_b A c = (i - rn_b A c) + 1 by omega, take_s hat, List.filter_append]
            have : [vAt A i].filter (fun p => decide (p.1 ≠ x) && decide (p.1 ≠ y)) = [] := by
              have e9 : (decide ((vAt A i).1 ≠ x) && decide ((vAt A i).1 ≠ y)) = false := by
                rcases hxy with h9 | h9
                · have h9 : (vAt A i).1 = x := h9
                  rw [h9, decide_eq_false (fun h8 => h8 rfl)]
                  rfl
                · have h9 : (vAt A i).1 = y := h9
                  rw [h9, decide_eq_false (p := y ≠ y) (fun h8 => h8 rfl), Bool.and_false]
              rw [List.filter_cons, e9]
              rfl
            rw [this, List.append_nil]
            exact hb
          refine u_X13_without_2 ?_; unfold qm_X13_without_2
          rw [nI_1]
          refine w_rdI (pl3 hn) rfl (by omega) (lk_b (oI hI).1 (by omega)) (w_leF (by omega) (by omega) (w_rdI (pl4 hn) rfl (by omega) e4 (w_eqN (by omega) (by omega) (fun h9 => skip (Or.inl h9)) (fun h9 => w_rdI (pl4 hn) rfl (by omega) e4 (w_eqN (by omega) (by omega) (fun h8 => skip (Or.inr h8)) (fun h8 => w_rdI (pl4 hn) rfl (by omega) e4 (w_rdI (pl5 hn) rfl (by omega) (lk_cu (oI hI).1 hil).2 (w_cs0 (tn_add (x := crs A i) (u := uns A i) pn3 hb ?_) (fun y2 ⟨g1, g2⟩ => ?_)))))))))
          · rw [List.length_append]
            have q1 : (((A.getD c []).take (i - rn_b A c)).filter (fun p => decide (p.1 ≠ x) && decide (p.1 ≠ y))).length ≤ i - rn_b A c := Nat.le_trans (List.length_filter_le _ _) (by rw [List.length_take]; omega)
            omega
          · refine u_X13_without_3 ?_; unfold qm_X13_without_3
            rw [nI_1]
            refine ihk (i + 1) y2 (by omega) (by omega) (stI hI g2 (fun g hg => by omega)) ?_
            rw [show i + 1 - rn_b A c = (i - rn_b A c) + 1 by omega, take_s hat, List.filter_append]
            have : [vAt A i].filter (fun p => decide (p.1 ≠ x) && decide (p.1 ≠ y)) = [(crs A i, uns A i)] := by
              have e9 : (decide ((vAt A i).1 ≠ x) && decide ((vAt A i).1 ≠ y)) = true := by
                rw [decide_eq_true (show (vAt A i).1 ≠ x from h9), decide_eq_true (show (vAt A i).1 ≠ y from h8)]
                rfl
              rw [List.filter_cons, e9]
              rfl
            rw [this]
            exact g1
      refine u_X13_without_1 ?_; unfold qm_X13_without_1
      refine w_rdF (lk_C (oI hI).1) (w_leF (by omega) (by omega) (w_rdI (pl3 hn) rfl (by omega) (lk_b (oI hI).1 (by omega)) (inn (rn_b A (c + 1) - rn_b A c) (rn_b A c) y1 (by omega) (Nat.le_refl _) hI ?_)))
      rw [Nat.sub_self, List.take_zero]
      exact hb
  refine out A.length 0 z4 (by omega) ⟨fr_tr (fr_mono (fun g hg => by omega) f3) (fr_mono (fun g hg => by omega) f4), fun x hx => ?_⟩ (fr_At f4 (fun g hg => by omega) b3)
  rw [show z4.2.1 3006 x = z3.2.1 (n + 6) x from s4 x hx, (f3 (n + 6) (by omega)).2.1]
end XWO
