/-! exact: build: visits put into gaps -/
/-- what is put into the gaps g and h -/
def insG (g h : Nat) (P0 P1 : List vT) (gp : Nat) : List vT := (if gp = g then P0 else []) ++ (if gp = h then P1 else [])
def bldC (A : rn_L) (f : Nat → List vT) (c : Nat) : List vT := (if rn_b A c = rn_b A (c + 1) then f (A.flatten.length + c) else []) ++ (List.range' (rn_b A c) (rn_b A (c + 1) - rn_b A c)).flatMap (fun v => vAt A v :: f v)
def bldA (A : rn_L) (f : Nat → List vT) : rn_L := (List.range A.length).map (bldC A f)
/-- how many came so far -/
def wgB (V c i g : Nat) : Nat := if g < i ∨ V ≤ g ∧ g - V < c then 2 else 0
section XBL
variable {n : Nat} {z : ow_MS} {A : rn_L} {sg : Nat → Bool}
theorem insG_len {g h gp : Nat} {P0 P1 : List vT} (h0 : P0.length = 2) (h1 : P1.length ≤ 2) : (insG g h P0 P1 gp).length ≤ (if gp = g then 2 else 0) + (if gp = h then 2 else 0) := by
  unfold insG
  rw [List.length_append]
  have a1 : (if gp = g then P0 else []).length ≤ if gp = g then 2 else 0 := by
    split
    · omega
    · exact Nat.le_refl _
  have a2 : (if gp = h then P1 else []).length ≤ if gp = h then 2 else 0 := by
    split
    · omega
    · exact Nat.le_refl _
  omega
theorem xr_putAt {g h gp : Nat} {x3 : Int32} {A1 : rn_L} {B : List vT} {p0 p1 p2 p3 : vT} (hgp : gp < 100) (hg : g < 100) (hx3 : ∀ k, k < 100 → (nI k = x3 ↔ k = h)) (hlen : (A1.flatten ++ B).length + (if gp = g then 2 else 0) + (if gp = h then 2 else 0) ≤ 39) (c0 : z.2.1 31 0 = nI p0.1 ∧ z.2.1 32 0 = nI p0.2 ∧ z.2.1 31 1 = nI p1.1 ∧ z.2.1 32 1 = nI p1.2) (c1 : h < 100 → z.2.1 31 2 = nI p2.1 ∧ z.2.1 32 2 = nI p2.2 ∧ z.2.1 31 3 = nI p3.1 ∧ z.2.1 32 3 = nI p3.2) (hA : rn_At z 3000 A1 B) : Te (fun K => qe_X13_putAt K (nI gp) (nI g) x3 z) (fun z1 => rn_At z1 3000 A1 (B ++ insG g h [p0, p1] [p2, p3] gp) ∧ fr (fun g => g = 3001 ∨ g = 3004 ∨ g = 3005) z z1) := by
  have fin : ∀ (z1 : ow_MS) (B1 : List vT), fr (fun g => g = 3001 ∨ g = 3004 ∨ g = 3005) z z1 → (A1.flatten ++ B1).length + (if gp = h then 2 else 0) ≤ 39 → B1 = B ++ (if gp = g then [p0, p1] else []) → rn_At z1 3000 A1 B1 → Tt (fun K k => q_X13_putAt K k 1 (nI gp) (nI g) x3 z1) (fun z1 => rn_At z1 3000 A1 (B ++ insG g h [p0, p1] [p2, p3] gp) ∧ fr (fun g => g = 3001 ∨ g = 3004 ∨ g = 3005) z z1) := by
    intro z1 B1 hf hl hB1 hb1
    rw [List.length_append] at hl
    refine u_X13_putAt_1 ?_; unfold qm_X13_putAt_1
    refine w_if (fun h9 => ?_) (fun h9 => w_some ⟨?_, hf⟩)
    · have hgh := (hx3 gp hgp).mp h9
      obtain ⟨d1, d2, d3, d4⟩ := c1 (by omega)
      have e31 := (hf 31 (by omega)).2.1
      have e32 := (hf 32 (by omega)).2.1
      rw [if_pos hgh] at hl
      refine w_rdI ml31 (show (2 : Int32) = nI 2 from rfl) (by omega) (by rw [e31]; exact d1) (w_rdI ml32 (show (2 : Int32) = nI 2 from rfl) (by omega) (by rw [e32]; exact d2) (w_cs0 (tn_add (x := p2.1) (u := p2.2) pn3 hb1 (by rw [List.length_append]; omega)) (fun z2 ⟨g1, g2⟩ => ?_)))
      have e31' := (g2 31 (by omega)).2.1
      have e32' := (g2 32 (by omega)).2.1
      refine w_rdI ml31 (show (3 : Int32) = nI 3 from rfl) (by omega) (by rw [e31', e31]; exact d3) (w_rdI ml32 (show (3 : Int32) = nI 3 from rfl) (by omega) (by rw [e32', e32]; exact d4) (w_cs0 (tn_add (x := p3.1) (u := p3.2) pn3 g1 (by rw [List.length_append, List.length_append]; show _ + (_ + 1) < 40; omega)) (fun z3 ⟨k1, k2⟩ => w_some ⟨?_, fr_tr hf (fr_tr (fr_mono (fun g hg => by omega) g2) (fr_mono (fun g hg => by omega) k2))⟩)))
      have e9 : B ++ insG g h [p0, p1] [p2, p3] gp = B1 ++ [(p2.1, p2.2)] ++ [(p3.1, p3.2)] := by
        unfold insG
        rw [if_pos hgh, hB1]
        simp
      rw [e9]
      exact k1
    · have e9 : B ++ insG g h [p0, p1] [p2, p3] gp = B1 := by
        unfold insG
        rw [if_neg (fun h8 => h9 ((hx3 gp hgp).mpr h8)), hB1, List.append_nil]
      rw [e9]
      exact hb1
  obtain ⟨d1, d2, d3, d4⟩ := c0
  rw [List.length_append] at hlen
  refine e_X13_putAt ?_
  refine u_X13_putAt_0 ?_; unfold qm_X13_putAt_0
  refine w_eqN (by omega) (by omega) (fun h9 => ?_) (fun h9 => fin z B fr_rf (by rw [if_neg h9] at hlen; rw [List.length_append]; omega) (by rw [if_neg h9, List.append_nil]) hA)
  rw [if_pos h9] at hlen
  refine w_rdI ml31 nI_0.symm (by omega) d1 (w_rdI ml32 nI_0.symm (by omega) d2 (w_cs0 (tn_add (x := p0.1) (u := p0.2) pn3 hA (by rw [List.length_append]; omega)) (fun z2 ⟨g1, g2⟩ => ?_)))
  have e31 := (g2 31 (by omega)).2.1
  have e32 := (g2 32 (by omega)).2.1
  refine w_rdI ml31 (show (1 : Int32) = nI 1 from rfl) (by omega) (by rw [e31]; exact d3) (w_rdI ml32 (show (1 : Int32) = nI 1 from rfl) (by omega) (by rw [e32]; exact d4) (w_cs0 (tn_add (x := p1.1) (u := p1.2) pn3 g1 (by rw [List.length_append, List.length_append]; show _ + (_ + 1) < 40; omega)) (fun z3 ⟨k1, k2⟩ => fin z3 _ (fr_tr (fr_mono (fun g hg => by omega) g2) (fr_mono (fun g hg => by omega) k2)) ?_ ?_ k1)))
  · rw [List.length_append, List.length_append, List.length_append]
    show A1.flatten.length + (B.length + 1 + 1) + _ ≤ 39
    omega
  · rw [if_pos h9]
    simp
theorem range_s' {a i : Nat} (h : a ≤ i) : List.range' a (i + 1 - a) = List.range' a (i - a) ++ [i] := by
  rw [show i + 1 - a = (i - a) + 1 by omega, List.range'_concat]
  congr 2
  omega
theorem xr_build {g h : Nat} {x3 : Int32} {p0 p1 p2 p3 : vT} (hn : mw_net n) (hn3 : n ≠ 3000) (hO : oNet z n A sg) (hg : g < 100) (hh : h < 100 ∨ h = 1000) (hx3 : ∀ k, k < 100 → (nI k = x3 ↔ k = h)) (c0 : z.2.1 31 0 = nI p0.1 ∧ z.2.1 32 0 = nI p0.2 ∧ z.2.1 31 1 = nI p1.1 ∧ z.2.1 32 1 = nI p1.2) (c1 : h < 100 → z.2.1 31 2 = nI p2.1 ∧ z.2.1 32 2 = nI p2.2 ∧ z.2.1 31 3 = nI p3.1 ∧ z.2.1 32 3 = nI p3.2) : Te (fun K => qe_X13_build K n (nI g) x3 z) (fun z1 => rn_At z1 3000 (bldA A (insG g h [p0, p1] [p2, p3])) [] ∧ fr (fun g => 3001 ≤ g ∧ g ≤ 3006) z z1 ∧ (∀ x, x < A.flatten.length / 2 → z1.2.1 3006 x = z.2.1 (n + 6) x)) := by
  have hmn := net_mod hn
  have hl := hO.len
  have hC := hO.2.2.2
  obtain ⟨V, hV⟩ : ∃ V, V = A.flatten.length := ⟨_, rfl⟩
  obtain ⟨f, hf0⟩ : ∃ f, f = insG g h [p0, p1] [p2, p3] := ⟨_, rfl⟩
  have fl : ∀ gp, (f gp).length ≤ (if gp = g then 2 else 0) + (if gp = h then 2 else 0) := fun gp => by
    rw [hf0]
    exact insG_len rfl (Nat.le_refl _)
  let I : ow_MS → Prop := fun y => fr (fun g => 3001 ≤ g ∧ g ≤ 3005) z y
  have oI : ∀ {y : ow_MS}, I y → oNet y n A sg := fun hI => oNet_fr hI (fun g hg => by omega) hO
  have stI : ∀ {P : Nat → Prop} {y y2 : ow_MS}, I y → fr P y y2 → (∀ g, P g → 3001 ≤ g ∧ g ≤ 3005) → I y2 := fun hI hf hP => fr_tr hI (fr_mono hP hf)
  have cI0 : ∀ {y : ow_MS}, I y → y.2.1 31 0 = nI p0.1 ∧ y.2.1 32 0 = nI p0.2 ∧ y.2.1 31 1 = nI p1.1 ∧ y.2.1 32 1 = nI p1.2 := fun hI => by rw [(hI 31 (by omega)).2.1, (hI 32 (by omega)).2.1]; exact c0
  have cI1 : ∀ {y : ow_MS}, I y → h < 100 → y.2.1 31 2 = nI p2.1 ∧ y.2.1 32 2 = nI p2.2 ∧ y.2.1 31 3 = nI p3.1 ∧ y.2.1 32 3 = nI p3.2 := fun hI hh => by rw [(hI 31 (by omega)).2.1, (hI 32 (by omega)).2.1]; exact c1 hh
  let Q : ow_MS → Prop := fun z1 => rn_At z1 3000 (bldA A f) [] ∧ fr (fun g => 3001 ≤ g ∧ g ≤ 3006) z z1 ∧ (∀ x, x < A.flatten.length / 2 → z1.2.1 3006 x = z.2.1 (n + 6) x)
  -- the signs
  have l4 : ∀ (k x : Nat) (y : ow_MS), x + k = V / 2 → fr (fun g => 3001 ≤ g ∧ g ≤ 3006) z y → rn_At y 3000 (bldA A f) [] → (∀ x', x' < x → y.2.1 3006 x' = z.2.1 (n + 6) x') → Tt (fun K i => q_X13_build K i 4 (nI g) x3 (nI x) 0 n y) Q := by
    intro k
    induction k with
    | zero =>
      intro x y hx hf hb hs
      have o2 : oNet y n A sg := oNet_fr hf (fun g hg => by omega) hO
      refine u_X13_build_4 ?_; unfold qm_X13_build_4
      refine w_rdF o2.1.V (w_nzI (by decide) ?_)
      rw [← hV, show nI V / 2 = nI (V / 2) from pk_div (d := 2) (by omega) (by omega) (by omega)]
      exact w_leT (by omega) (by omega) (w_some ⟨hb, hf, fun x' hx' => hs x' (by omega)⟩)
    | succ k ih =>
      intro x y hx hf hb hs
      have o2 : oNet y n A sg := oNet_fr hf (fun g hg => by omega) hO
      refine u_X13_build_4 ?_; unfold qm_X13_build_4
      refine w_rdF o2.1.V (w_nzI (by decide) ?_)
      rw [← hV, show nI V / 2 = nI (V / 2) from pk_div (d := 2) (by omega) (by omega) (by omega), nI_1]
      refine w_leF (by omega) (by omega) (w_rdI (pl6 hn) rfl (by omega) rfl (w_wrI (pl6 pn3) rfl (by omega) ?_))
      refine ih (x + 1) _ (by omega) (fr_I2 hf (by omega)) (fr_At (P := fun g => g = 3006) (fr_I rfl) (fun g hg => by omega) hb) (fun x' hx' => ?_)
      by_cases he : x' = x
      · rw [he]
        show (usI y 3006 x (y.2.1 (n + 6) x)).2.1 3006 x = _
        rw [po_usI_at, (hf (n + 6) (by omega)).2.1]
      · exact rd_ne he (hs x' (by omega))
  have wmono : ∀ c i c' i' g, c ≤ c' → i ≤ i' → wgB V c i g ≤ wgB V c' i' g := fun c i c' i' g h1 h2 => by
    unfold wgB
    split
    · rw [if_pos (by omega)]
      exact Nat.le_refl _
    · omega
  have w2 : ∀ c i g, wgB V c i g ≤ 2 := fun c i g => by
    unfold wgB
    split <;> omega
  have out : ∀ (k c : Nat) (y : ow_MS), c + k = A.length → I y → ((List.range c).map (bldC A f)).flatten.length ≤ rn_b A c + wgB V c (rn_b A c) g + wgB V c (rn_b A c) h → rn_At y 3000 ((List.range c).map (bldC A f)) [] → Tt (fun K i => q_X13_build K i 1 (nI g) x3 (nI c) 0 n y) Q := by
    intro k
    induction k with
    | zero =>
      intro c y hc hI hlb hb
      have hce : c = A.length := by omega
      rw [hce] at hb
      refine u_X13_build_1 ?_; unfold qm_X13_build_1
      exact w_rdF (lk_C (oI hI).1) (w_leT (by omega) (by omega) (l4 (V / 2) 0 y (by omega) (fr_mono (fun g hg => by omega) hI) hb (fun x hx => by omega)))
    | succ k ih =>
      intro c y hc hI hlb hb
      have hcA : c < A.length := by omega
      have m1 := rn_b_mono A c
      have m2 := rn_b_le A (c + 1)
      have lc : ((List.range c).map (bldC A f)).length = c := by rw [List.length_map, List.length_range]
      have c3 : ∀ (k i : Nat) (y1 : ow_MS), i + k = rn_b A (c + 1) → rn_b A c ≤ i → I y1 → (((List.range c).map (bldC A f)).flatten ++ ((if rn_b A c = rn_b A (c + 1) then f (V + c) else []) ++ (List.range' (rn_b A c) (i - rn_b A c)).flatMap (fun v => vAt A v :: f v))).length ≤ i + wgB V (c + 1) i g + wgB V (c + 1) i h → rn_At y1 3000 ((List.range c).map (bldC A f)) ((if rn_b A c = rn_b A (c + 1) then f (V + c) else []) ++ (List.range' (rn_b A c) (i - rn_b A c)).flatMap (fun v => vAt A v :: f v)) → Tt (fun K i9 => q_X13_build K i9 3 (nI g) x3 (nI c) (nI i) n y1) Q := by
        intro k
        induction k with
        | zero =>
          intro i y1 hi hlo hI hlb hb
          have hie : i = rn_b A (c + 1) := by omega
          rw [hie] at hb hlb ⊢
          refine u_X13_build_3 ?_; unfold qm_X13_build_3
          rw [nI_1]
          have eC : ((List.range c).map (bldC A f)) ++ [(if rn_b A c = rn_b A (c + 1) then f (V + c) else []) ++ (List.range' (rn_b A c) (rn_b A (c + 1) - rn_b A c)).flatMap (fun v => vAt A v :: f v)] = (List.range (c + 1)).map (bldC A f) := by
            rw [List.range_succ, List.map_append, hV]
            rfl
          refine w_rdI (pl3 hn) rfl (by omega) (lk_b (oI hI).1 (by omega)) (w_leT (by omega) (Nat.le_refl _) (w_cs0 (tn_end pn3 hb (by omega)) (fun y2 ⟨g1, g2⟩ => ?_)))
          rw [eC] at g1
          refine ih (c + 1) y2 (by omega) (stI hI g2 (fun g hg => by omega)) ?_ g1
          rw [← eC, List.flatten_append, List.flatten_cons, List.flatten_nil, List.append_nil]
          exact hlb
        | succ k ihk =>
          intro i y1 hi hlo hI hlb hb
          have hil : i < A.flatten.length := by omega
          have q1 := w2 (c + 1) i g
          have q2 := w2 (c + 1) i h
          have sg1 : wgB V (c + 1) i g + (if i = g then 2 else 0) ≤ wgB V (c + 1) (i + 1) g := by
            unfold wgB
            by_cases e : i = g
            · rw [if_pos e, if_neg (by omega), if_pos (by omega)]
              exact Nat.le_refl _
            · rw [if_neg e]
              exact wmono _ _ _ _ g (Nat.le_refl _) (by omega)
          have sh1 : wgB V (c + 1) i h + (if i = h then 2 else 0) ≤ wgB V (c + 1) (i + 1) h := by
            unfold wgB
            by_cases e : i = h
            · rw [if_pos e, if_neg (by omega), if_pos (by omega)]
              exact Nat.le_refl _
            · rw [if_neg e]
              exact wmono _ _ _ _ h (Nat.le_refl _) (by omega)
          have r1 := w2 (c + 1) (i + 1) g
          have r2 := w2 (c + 1) (i + 1) h
          refine u_X13_build_3 ?_; unfold qm_X13_build_3
          rw [nI_1, nI_1]
          refine w_rdI (pl3 hn) rfl (by omega) (lk_b (oI hI).1 (by omega)) (w_leF (by omega) (by omega) (w_rdI (pl4 hn) rfl (by omega) (lk_cu (oI hI).1 hil).1 (w_rdI (pl5 hn) rfl (by omega) (lk_cu (oI hI).1 hil).2 (w_cs0 (tn_add (x := crs A i) (u := uns A i) pn3 hb (by omega)) (fun y2 ⟨g1, g2⟩ => ?_)))))
          have hI2 := stI hI g2 (fun g hg => by omega)
          refine w_cs0 (xr_putAt (gp := i) (by omega) hg hx3 ?_ (cI0 hI2) (cI1 hI2) g1) (fun y3 ⟨k1, k2⟩ => ?_)
          · rw [← List.append_assoc, List.length_append]
            show _ + 1 + _ + _ ≤ 39
            omega
          · rw [← hf0] at k1
            have e9 : ((if rn_b A c = rn_b A (c + 1) then f (V + c) else []) ++ (List.range' (rn_b A c) (i - rn_b A c)).flatMap (fun v => vAt A v :: f v)) ++ [(crs A i, uns A i)] ++ f i = (if rn_b A c = rn_b A (c + 1) then f (V + c) else []) ++ (List.range' (rn_b A c) (i + 1 - rn_b A c)).flatMap (fun v => vAt A v :: f v) := by
              rw [range_s' hlo, List.flatMap_append, List.flatMap_cons, List.flatMap_nil, List.append_nil]
              simp only [List.append_assoc]
              rfl
            rw [e9] at k1
            refine ihk (i + 1) y3 (by omega) (by omega) (stI hI2 k2 (fun g hg => by omega)) ?_ k1
            rw [← e9, ← List.append_assoc, ← List.append_assoc, List.length_append, List.length_append]
            have := fl i
            show _ + 1 + _ ≤ _
            omega
      have c2 : ∀ (y1 : ow_MS), I y1 → (((List.range c).map (bldC A f)).flatten ++ (if rn_b A c = rn_b A (c + 1) then f (V + c) else [])).length ≤ rn_b A c + wgB V (c + 1) (rn_b A c) g + wgB V (c + 1) (rn_b A c) h → rn_At y1 3000 ((List.range c).map (bldC A f)) (if rn_b A c = rn_b A (c + 1) then f (V + c) else []) → Tt (fun K i9 => q_X13_build K i9 2 (nI g) x3 (nI c) 0 n y1) Q := by
        intro y1 hI hlb hb
        refine u_X13_build_2 ?_; unfold qm_X13_build_2
        refine w_rdI (pl3 hn) rfl (by omega) (lk_b (oI hI).1 (by omega)) (c3 (rn_b A (c + 1) - rn_b A c) (rn_b A c) y1 (by omega) (Nat.le_refl _) hI ?_ ?_)
        · rw [Nat.sub_self]
          show (_ ++ (_ ++ [])).length ≤ _
          rw [List.append_nil]
          exact hlb
        · rw [Nat.sub_self]
          show rn_At y1 3000 _ (_ ++ [])
          rw [List.append_nil]
          exact hb
      have q1 := w2 c (rn_b A c) g
      have q2 := w2 c (rn_b A c) h
      refine u_X13_build_1 ?_; unfold qm_X13_build_1
      refine w_rdF (lk_C (oI hI).1) (w_leF (by omega) (by omega) (w_cs1 (tn_circle hn (by omega) (by omega) hcA (oI hI).1.1) (fun a y9 e => ?_)))
      cases e
      by_cases hcir : rn_b A c = rn_b A (c + 1)
      · rw [if_pos hcir]
        have bc := rn_b_le A c
        have sg1 : wgB V c (rn_b A c) g + (if V + c = g then 2 else 0) ≤ wgB V (c + 1) (rn_b A c) g := by
          unfold wgB
          by_cases e : V + c = g
          · rw [if_pos e, if_neg (by omega), if_pos (by omega)]
            exact Nat.le_refl _
          · rw [if_neg e]
            exact wmono _ _ _ _ g (by omega) (Nat.le_refl _)
        have sh1 : wgB V c (rn_b A c) h + (if V + c = h then 2 else 0) ≤ wgB V (c + 1) (rn_b A c) h := by
          unfold wgB
          by_cases e : V + c = h
          · rw [if_pos e, if_neg (by omega), if_pos (by omega)]
            exact Nat.le_refl _
          · rw [if_neg e]
            exact wmono _ _ _ _ h (by omega) (Nat.le_refl _)
        refine w_ifF (by decide) (w_rdF (oI hI).1.V ?_)
        rw [← hV, nI_add]
        have r1 := w2 (c + 1) (rn_b A c) g
        have r2 := w2 (c + 1) (rn_b A c) h
        refine w_cs0 (xr_putAt (gp := V + c) (by omega) hg hx3 (by rw [List.append_nil]; omega) (cI0 hI) (cI1 hI) hb) (fun y3 ⟨k1, k2⟩ => ?_)
        rw [← hf0, List.nil_append] at k1
        refine c2 y3 (stI hI k2 (fun g hg => by omega)) ?_ (by rw [if_pos hcir]; exact k1)
        rw [if_pos hcir, List.length_append]
        have := fl (V + c)
        omega
      · rw [if_neg hcir]
        refine w_ifT rfl (c2 y hI ?_ (by rw [if_neg hcir]; exact hb))
        rw [if_neg hcir, List.append_nil]
        have s1' := wmono c (rn_b A c) (c + 1) (rn_b A c) g (by omega) (Nat.le_refl _)
        have s2' := wmono c (rn_b A c) (c + 1) (rn_b A c) h (by omega) (Nat.le_refl _)
        omega
  rw [← hf0]
  refine e_X13_build ?_
  refine u_X13_build_0 ?_; unfold qm_X13_build_0
  exact w_cs0 (tn_clear pn3) (fun y ⟨g1, g2⟩ => out A.length 0 y (by omega) (fr_mono (fun g hg => by omega) g2) (Nat.zero_le _) g1)
end XBL
