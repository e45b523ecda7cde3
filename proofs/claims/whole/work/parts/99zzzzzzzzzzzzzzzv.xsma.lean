/-! summit: the class gathers the whole set -/
def suQ9 (h g : Nat) : Prop := h + 4 ≤ g ∧ g ≤ h + 10 ∨ h + 1001 ≤ g ∧ g ≤ h + 1006
section XSAB
variable {m : N5} {vl : Nat → Nat} {y : ow_MS} {h : Nat}
theorem xc_goesOn {s t9 : Nat} {T : List Nat} (hh : sO h) (h4 : m.1 ≤ 4) (hs : s < 24) (ht : T.length ≤ 24) (hT : okT m.1 T) (ht9 : t9 < gNN m.1) (e9 : y.2.1 (h + 9) s = chG9 m.1 t9) (eT : ∀ j c, T[j]? = some c → y.2.1 (h + 10) j = chG9 m.1 c) : Te (fun K => ce_X10_goesOn vl K h (nI s) (nI T.length) y) (fun r => (r.1 = 1 ∧ (∃ t, t ∈ T ∧ ddG m.1 t9 t = 0) ∨ r.1 = 0 ∧ ∀ t, t ∈ T → ddG m.1 t9 t ≠ 0) ∧ r.2 = y) := by
  let Q : Int32 × ow_MS → Prop := fun r => (r.1 = 1 ∧ (∃ t, t ∈ T ∧ ddG m.1 t9 t = 0) ∨ r.1 = 0 ∧ ∀ t, t ∈ T → ddG m.1 t9 t ≠ 0) ∧ r.2 = y
  have c1 : ∀ (d j : Nat), j + d = T.length → (∀ i c, i < j → T[i]? = some c → ddG m.1 t9 c ≠ 0) → Tt (fun K k => c_X10_goesOn vl K k 1 (nI s) (nI T.length) (nI j) h y) Q := by
    intro d
    induction d with
    | zero =>
      intro j hj hn
      refine u_X10_goesOn_1 ?_; unfold cm_X10_goesOn_1
      refine w_leT (by omega) (by omega) (w_okZ (Or.inl rfl) (w_some ⟨Or.inr ⟨rfl, fun t ht => ?_⟩, rfl⟩))
      obtain ⟨i, hi⟩ := List.getElem?_of_mem ht
      exact hn i t (by have := (List.getElem?_eq_some_iff.mp hi).1; omega) hi
    | succ d ih =>
      intro j hj hn
      have ej : T[j]? = some (T[j]'(by omega)) := List.getElem?_eq_getElem (by omega)
      have hjk := hT _ (List.mem_of_getElem? ej)
      have gq := go_n m.2.1 h4 hjk ht9
      refine u_X10_goesOn_1 ?_; unfold cm_X10_goesOn_1
      rw [nI_1]
      refine w_leF (by omega) (by omega) (w_crI (sO_10 hh) rfl (show j < 24 by omega) (eT j _ ej) (w_crI (sO_9 hh) rfl hs e9 (w_if (fun e => w_okZ (Or.inr rfl) (w_some ⟨Or.inl ⟨rfl, _, List.mem_of_getElem? ej, gq.mp e⟩, rfl⟩)) (fun e => ih (j + 1) (by omega) (fun i c hi hc => ?_)))))
      by_cases ei : i = j
      · rw [ei, ej] at hc
        rw [← Option.some.inj hc]
        exact fun h9 => e (gq.mpr h9)
      · exact hn i c (by omega) hc
  refine e_X10_goesOn ?_
  refine u_X10_goesOn_0 ?_; unfold cm_X10_goesOn_0
  exact c1 T.length 0 (by omega) (fun i c hi => absurd hi (Nat.not_lt_zero _))
/-- what of the work form stays -/
def wkF9 (y : ow_MS) (h n : Nat) : Prop := y.1 (h + 1000 + 1) = nI n ∧ y.1 (h + 1000 + 5) = foE n ∧ y.1 (h + 1000 + 6) = foD n n
theorem suL_fr {P : Nat → Prop} {y1 : ow_MS} {k : Int} {R : Nat} {Ls W : List (List Nat)} (hf : fr P y y1) (hP : ∀ g, h + 2 ≤ g → g ≤ h + 6 → ¬ P g) (h0 : suL y h m k R Ls W) : suL y1 h m k R Ls W := by
  obtain ⟨⟨s2, s3, s4, l201, r16⟩, hrow, wl, hord, hpw, hmem, hnd⟩ := h0
  refine ⟨⟨(hf _ (hP _ (by omega) (by omega))).1.trans s2, (hf _ (hP _ (by omega) (by omega))).1.trans s3, (hf _ (hP _ (by omega) (by omega))).1.trans s4, l201, r16⟩, fun j F hj => ?_, wl, fun i F hi => ?_, hpw, hmem, hnd⟩
  · rw [(hf (h + 5) (hP _ (by omega) (by omega))).2.1]
    exact hrow j F hj
  · rw [(hf (h + 6) (hP _ (by omega) (by omega))).2.1]
    exact hord i F hi
theorem lsR_fr {P : Nat → Prop} {y1 : ow_MS} {L : List (Int32 × Int32)} (hf : fr P y y1) (hP : ∀ g, h + 8 ≤ g → g ≤ h + 11 → g ≠ h + 10 → ¬ P g) (h0 : lsR y h L) : lsR y1 h L := by
  obtain ⟨a1, a2, a3⟩ := h0
  refine ⟨(hf _ (hP _ (by omega) (by omega) (by omega))).1.trans a1, a2, fun s p hs => ?_⟩
  rw [(hf (h + 8) (hP _ (by omega) (by omega) (by omega))).2.1, (hf (h + 9) (hP _ (by omega) (by omega) (by omega))).2.1]
  exact a3 s p hs
def pcl (m : N5) (k : Int) (R : Nat) (Ls : List (List Nat)) (i t : Nat) : Prop := ∀ F hF (ht : okT m.1 [t]), Ls[i]? = some F → gle (gD m k) (cnj (gL m [t] ht) (gF m k F hF)) → gle (cnj (gL m [t] ht) (gF m k F hF)) (gD m (k + (R : Int))) → (∃ G hG, G ∈ Ls ∧ cnj (gL m [t] ht) (gF m k F hF) = gF m k G hG) ∨ ∃ t' h', t' < gNN m.1 ∧ t' ≠ 0 ∧ t' ≠ t ∧ ddG m.1 t t' = 0 ∧ gle (gD m k) (cnj (gL m [t'] h') (gF m k F hF)) ∧ gle (cnj (gL m [t'] h') (gF m k F hF)) (gD m (k + (R : Int)))
theorem pcl_m {k : Int} {R : Nat} {Ls : List (List Nat)} {i t : Nat} {G : List Nat} (hi : i < Ls.length) (h : pcl m k R Ls i t) : pcl m k R (Ls ++ [G]) i t := fun F hF ht e l u => by
  rw [List.getElem?_append_left hi] at e
  rcases h F hF ht e l u with ⟨G', hG, g1, g2⟩ | h9
  · exact Or.inl ⟨G', hG, List.mem_append_left _ g1, g2⟩
  · exact Or.inr h9
theorem pcl_all {a : Gn m} {k : Int} {R : Nat} {Ls : List (List Nat)} (h0 : ∃ F, F ∈ Ls) (hs : ∀ F, F ∈ Ls → sss a k R F) (hc : ∀ i t, i < Ls.length → t < gNN m.1 → t ≠ 0 → pcl m k R Ls i t) (F : List Nat) (hF : sss a k R F) : F ∈ Ls := by
  obtain ⟨F0, m0⟩ := h0
  obtain ⟨n0, l0, h0, x0, e0⟩ := hs F0 m0
  obtain ⟨n1, l1, h1, x1, e1⟩ := hF
  have pr := sss_pr (m := m) (k := k) (S := k + (R : Int)) (C := fun b => ∃ G h, G ∈ Ls ∧ b = gF m k G h) (fun b t ht ⟨G, hG, mG, eG⟩ t1 t0 lo up => by
    obtain ⟨i, hi⟩ := List.getElem?_of_mem mG
    rw [eG] at lo up ⊢
    rcases hc i t (List.getElem?_eq_some_iff.mp hi).1 t1 t0 G hG ht hi lo up with ⟨G', hG', g1, g2⟩ | h9
    · exact Or.inl ⟨G', hG', g1, g2⟩
    · exact Or.inr h9)
  have k1 := sss_all (m := m) (k := k) (S := k + (R : Int)) (C := fun b => ∃ G h, G ∈ Ls ∧ b = gF m k G h) pr (b := gF m k F0 h0) ⟨F0, h0, m0, rfl⟩ ((inf_F n0).mpr (Int.le_refl _)) ((sup_F n0).mpr (by omega)) (x := gm (gi x0) x1) (by
    rw [e0, ← cnj_all rfl x1, ← e1]
    exact (inf_F n1).mpr (Int.le_refl _)) (by
    rw [e0, ← cnj_all rfl x1, ← e1]
    exact (sup_F n1).mpr (by omega))
  obtain ⟨G, hG, mG, eG⟩ := k1
  rw [e0, ← cnj_all rfl x1, ← e1] at eG
  rw [(F_uni n1 (hs G mG).1 eG).2]
  exact mG
theorem xc_gather {a : Gn m} {k : Int} {R : Nat} {Ls0 W0 : List (List Nat)} (hh : sO h) (h4 : m.1 ≤ 4) (k1 : -16 ≤ k) (k2 : k + (R : Int) ≤ 16) (hr : nrs a k) (hu : nls a (k + (R : Int))) (s0 : suL y h m k R Ls0 W0) (l0 : 1 ≤ Ls0.length) (i0 : ∀ F, F ∈ Ls0 → sss a k R F) (w0 : wkF9 y h m.1) (t0 : lsR y h (lsF m.1 6)) : Te (fun K => ce_X10_gather vl K h y) (fun r => (r.1 = 1 ∧ ∃ Ls W, suL r.2 h m k R Ls W ∧ (∀ F, F ∈ Ls → sss a k R F) ∧ (Ls.length = 201 ∨ Ls.length ≤ 200 ∧ ∀ F, F ∈ Ls ↔ sss a k R F)) ∧ fr (suQ9 h) y r.2) := by
  have h2 := m.2.1
  have h5 := m.2.2
  let Q : Int32 × ow_MS → Prop := fun r => (r.1 = 1 ∧ ∃ Ls W, suL r.2 h m k R Ls W ∧ (∀ F, F ∈ Ls → sss a k R F) ∧ (Ls.length = 201 ∨ Ls.length ≤ 200 ∧ ∀ F, F ∈ Ls ↔ sss a k R F)) ∧ fr (suQ9 h) y r.2
  obtain ⟨or1, or2, or3⟩ := or_n h2 h4
  rw [ls_n h2 h4] at t0
  have tl := t0.2.1
  rw [List.length_map] at tl
  have hst : ∀ {z : ow_MS}, lsR z h ((orG m.1).map (fun t => (pkG m.1 t, chG9 m.1 t))) → z.1 (h + 11) = nI (orG m.1).length ∧ ∀ s t, (orG m.1)[s]? = some t → z.2.1 (h + 8) s = pkG m.1 t ∧ z.2.1 (h + 9) s = chG9 m.1 t := fun {z} q => by
    obtain ⟨q1, q2, q3⟩ := q
    rw [List.length_map] at q1
    exact ⟨q1, fun s t hs => q3 s (pkG m.1 t, chG9 m.1 t) (by rw [List.getElem?_map, hs]; rfl)⟩
  have c1 : ∀ (d i : Nat) (z : ow_MS) (Ls W : List (List Nat)), i + d = 202 → i ≤ Ls.length → 1 ≤ Ls.length → suL z h m k R Ls W → (∀ F, F ∈ Ls → sss a k R F) → (∀ i' t, i' < i → t < gNN m.1 → t ≠ 0 → Ls.length ≤ 200 → pcl m k R Ls i' t) → wkF9 z h m.1 → lsR z h ((orG m.1).map (fun t => (pkG m.1 t, chG9 m.1 t))) → fr (suQ9 h) y z → Tt (fun K t => c_X10_gather vl K t 1 (nI i) 0 0 h z) Q := by
    intro d
    induction d with
    | zero =>
      intro i z Ls W hi hiL
      have : i ≤ Ls.length := hiL
      intro q0 q1
      have := q1.1.2.2.2.1
      omega
    | succ d ih =>
      intro i z Ls W hi hiL hL1 q1 q2 q3 q4 q5 q6
      have hm := q1.1.2.2.2.1
      have sz := q1.1.2.2.1
      have fin : (i = Ls.length ∨ 200 < Ls.length) → Q (1, z) := fun h9 => by
        refine ⟨⟨rfl, Ls, W, q1, q2, ?_⟩, q6⟩
        by_cases c : Ls.length ≤ 200
        · have ei : i = Ls.length := by omega
          exact Or.inr ⟨c, fun F => ⟨q2 F, pcl_all ⟨Ls[0], List.getElem_mem (by omega)⟩ q2 (fun i' t a1 a2 a3 => q3 i' t (by omega) a2 a3 c) F⟩⟩
        · exact Or.inl (by omega)
      -- the simple ones
      have c2 : ∀ (e s : Nat) (T : List Nat) (z : ow_MS) (Ls W : List (List Nat)), s + e = (orG m.1).length + 1 → i < Ls.length → suL z h m k R Ls W → (∀ F, F ∈ Ls → sss a k R F) → (∀ i' t, i' < i → t < gNN m.1 → t ≠ 0 → Ls.length ≤ 200 → pcl m k R Ls i' t) → wkF9 z h m.1 → lsR z h ((orG m.1).map (fun t => (pkG m.1 t, chG9 m.1 t))) → fr (suQ9 h) y z → T.length ≤ s → (∀ j c, T[j]? = some c → z.2.1 (h + 10) j = chG9 m.1 c) → (∀ c, c ∈ T → (∃ j, j < s ∧ (orG m.1)[j]? = some c) ∧ ∀ F hF hc, Ls[i]? = some F → gle (gD m k) (cnj (gL m [c] hc) (gF m k F hF)) ∧ gle (cnj (gL m [c] hc) (gF m k F hF)) (gD m (k + (R : Int)))) → (∀ j t, j < s → (orG m.1)[j]? = some t → Ls.length ≤ 200 → pcl m k R Ls i t) → Tt (fun K k => c_X10_gather vl K k 2 (nI i) (nI T.length) (nI s) h z) Q := by
        intro e
        induction e with
        | zero =>
          intro s T z Ls W hs hiL q1 q2 q3 q4 q5 q6 p1 p2 p3 p4
          have hm := q1.1.2.2.2.1
          refine u_X10_gather_2 ?_; unfold cm_X10_gather_2
          refine w_rdF (hst q5).1 (w_leT (by omega) (by omega) ?_)
          refine u_X10_gather_5 ?_; unfold cm_X10_gather_5
          rw [nI_1]
          refine ih (i + 1) z Ls W (by omega) (by omega) (by omega) q1 q2 (fun i' t a1 a2 a3 a4 => ?_) q4 q5 q6
          by_cases ei : i' = i
          · obtain ⟨j, hj⟩ := List.getElem?_of_mem (or2 t a2 a3)
            rw [ei]
            exact p4 j t (by have := (List.getElem?_eq_some_iff.mp hj).1; omega) hj a4
          · exact q3 i' t (by omega) a2 a3 a4
        | succ e ihe =>
          intro s T z Ls W hs hiL q1 q2 q3 q4 q5 q6 p1 p2 p3 p4
          have hm := q1.1.2.2.2.1
          have sz := q1.1.2.2.1
          have c5 : (s = (orG m.1).length ∨ 200 < Ls.length) → Tt (fun K k => c_X10_gather vl K k 5 (nI i) (nI T.length) (nI s) h z) Q := by
            intro h9
            refine u_X10_gather_5 ?_; unfold cm_X10_gather_5
            rw [nI_1]
            refine ih (i + 1) z Ls W (by omega) (by omega) (by omega) q1 q2 (fun i' t a1 a2 a3 a4 => ?_) q4 q5 q6
            by_cases ei : i' = i
            · obtain ⟨j, hj⟩ := List.getElem?_of_mem (or2 t a2 a3)
              rw [ei]
              exact p4 j t (by have := (List.getElem?_eq_some_iff.mp hj).1; omega) hj a4
            · exact q3 i' t (by omega) a2 a3 a4
          refine u_X10_gather_2 ?_; unfold cm_X10_gather_2
          refine w_rdF (hst q5).1 (w_le (by omega) (by omega) (fun h9 => c5 (Or.inl (by omega))) (fun hsc => w_rdF sz (w_lt (a := 200) (by omega) (by omega) (fun h9 => c5 (Or.inr h9)) (fun h200 => ?_))))
          obtain ⟨t9, et9⟩ : ∃ t9, (orG m.1)[s]? = some t9 := ⟨_, List.getElem?_eq_getElem hsc⟩
          obtain ⟨t90, t91⟩ := or3 t9 (List.mem_of_getElem? et9)
          obtain ⟨r8, r9⟩ := (hst q5).2 s t9 et9
          have ht9k : okT m.1 [t9] := okT_c.mpr ⟨t91, okT_n⟩
          have hTk : okT m.1 T := fun c hc => by
            obtain ⟨⟨j, -, hj⟩, -⟩ := p3 c hc
            exact (or3 c (List.mem_of_getElem? hj)).2
          have c4 : ∀ (T' : List Nat) (z' : ow_MS) (Ls' W' : List (List Nat)), i < Ls'.length → suL z' h m k R Ls' W' → (∀ F, F ∈ Ls' → sss a k R F) → (∀ i' t, i' < i → t < gNN m.1 → t ≠ 0 → Ls'.length ≤ 200 → pcl m k R Ls' i' t) → wkF9 z' h m.1 → lsR z' h ((orG m.1).map (fun t => (pkG m.1 t, chG9 m.1 t))) → fr (suQ9 h) y z' → T'.length ≤ s + 1 → (∀ j c, T'[j]? = some c → z'.2.1 (h + 10) j = chG9 m.1 c) → (∀ c, c ∈ T' → (∃ j, j < s + 1 ∧ (orG m.1)[j]? = some c) ∧ ∀ F hF hc, Ls'[i]? = some F → gle (gD m k) (cnj (gL m [c] hc) (gF m k F hF)) ∧ gle (cnj (gL m [c] hc) (gF m k F hF)) (gD m (k + (R : Int)))) → (∀ j t, j < s + 1 → (orG m.1)[j]? = some t → Ls'.length ≤ 200 → pcl m k R Ls' i t) → Tt (fun K k => c_X10_gather vl K k 4 (nI i) (nI T'.length) (nI s) h z') Q := by
            intro T' z' Ls' W' b1 b2 b3 b4 b5 b6 b7 b8 b9 b10 b11
            refine u_X10_gather_4 ?_; unfold cm_X10_gather_4
            rw [nI_1]
            exact ihe (s + 1) T' z' Ls' W' (by omega) b1 b2 b3 b4 b5 b6 b7 b8 b9 b10 b11
          -- nothing is added
          have same : ∀ (z' : ow_MS), suL z' h m k R Ls W → wkF9 z' h m.1 → lsR z' h ((orG m.1).map (fun t => (pkG m.1 t, chG9 m.1 t))) → fr (suQ9 h) y z' → z'.2.1 (h + 10) = z.2.1 (h + 10) → pcl m k R Ls i t9 → Tt (fun K k => c_X10_gather vl K k 4 (nI i) (nI T.length) (nI s) h z') Q := by
            intro z' b1 b2 b3 b4 b5 b6
            refine c4 T z' Ls W hiL b1 q2 q3 b2 b3 b4 (by omega) (fun j c hc => by rw [b5]; exact p2 j c hc) (fun c hc => ?_) (fun j t hj ht a4 => ?_)
            · obtain ⟨⟨j, j1, j2⟩, r⟩ := p3 c hc
              exact ⟨⟨j, by omega, j2⟩, r⟩
            · by_cases ej : j = s
              · rw [ej, et9] at ht
                rw [← Option.some.inj ht]
                exact b6
              · exact p4 j t (by omega) ht a4
          refine w_cs1 (xc_goesOn hh h4 (show s < 24 by omega) (show T.length ≤ 24 by omega) hTk t91 r9 p2) ?_
          rintro v z1 ⟨ev, e2⟩
          dsimp only at ev e2
          rw [e2]
          rcases ev with ⟨rfl, t', t1', t2'⟩ | ⟨rfl, hno⟩
          · refine w_ifF (by decide) (same z q1 q4 q5 q6 rfl (fun F hF ht eF l u => Or.inr ?_))
            obtain ⟨⟨j, j1, j2⟩, r⟩ := p3 t' t1'
            obtain ⟨w0, w1⟩ := or3 t' (List.mem_of_getElem? j2)
            refine ⟨t', okT_c.mpr ⟨w1, okT_n⟩, w1, w0, fun e9 => ?_, t2', r F hF _ eF⟩
            rw [e9] at j2
            have := (List.getElem?_inj (List.getElem?_eq_some_iff.mp j2).1 or1).mp (j2.trans et9.symm)
            omega
          · obtain ⟨F, eF⟩ : ∃ F, Ls[i]? = some F := ⟨_, List.getElem?_eq_getElem hiL⟩
            obtain ⟨rF1, rF2, rF3⟩ := q1.2.1 i F eF
            obtain ⟨nF, lF, hF, xF, exF⟩ := q2 F (List.mem_of_getElem? eF)
            have r16 := q1.1.2.2.2.2
            refine w_ifT rfl (w_rdF q1.1.1 (w_wrF ?_))
            have e3 : ∀ w : Int32, (usF z (h + 1000 + 2) w).1 (h + 3) = nI R := fun w => rf_ot (by omega) q1.1.2.1
            refine w_rdF (e3 _) (w_wrF (w_rdF (rf_ot (by omega) (e3 _)) ?_))
            rw [m20]
            refine w_cpI (a := 20 * i) (b := 0) (n := R) (sO_5 hh) (fO_4 (sO_f hh)) rfl rfl rfl (by omega) (by omega) (w_crI (sO_8 hh) rfl (show s < 24 by omega) ((congrFun (usR_ot (by omega)) s).trans r8) ?_)
            obtain ⟨wk1, wk5, wk6⟩ := q4
            have u1 : (usF (usF z (h + 1000 + 2) (iI k)) (h + 1000 + 3) (nI R)).1 (h + 1000 + 1) = nI m.1 := rf_ot (by omega) (rf_ot (by omega) wk1)
            have u2 : (usF (usF z (h + 1000 + 2) (iI k)) (h + 1000 + 3) (nI R)).1 (h + 1000 + 2) = iI k := rf_ot (by omega) po_usF_at
            have u3 : (usF (usF z (h + 1000 + 2) (iI k)) (h + 1000 + 3) (nI R)).1 (h + 1000 + 3) = nI R := po_usF_at
            have u5 : (usF (usF z (h + 1000 + 2) (iI k)) (h + 1000 + 3) (nI R)).1 (h + 1000 + 5) = foE m.1 := rf_ot (by omega) (rf_ot (by omega) wk5)
            have u6 : (usF (usF z (h + 1000 + 2) (iI k)) (h + 1000 + 3) (nI R)).1 (h + 1000 + 6) = foD m.1 m.1 := rf_ot (by omega) (rf_ot (by omega) wk6)
            have u45 : (usF (usF z (h + 1000 + 2) (iI k)) (h + 1000 + 3) (nI R)).2.1 = z.2.1 := rfl
            have fzz : fr (foP (h + 1000)) z (usF (usF z (h + 1000 + 2) (iI k)) (h + 1000 + 3) (nI R)) := fr_F2 (fr_F (by unfold foP; omega)) (by unfold foP; omega)
            generalize usF (usF z (h + 1000 + 2) (iI k)) (h + 1000 + 3) (nI R) = zz at u1 u2 u3 u5 u6 u45 fzz ⊢
            rw [u45]
            have hC : foC (usR zz (h + 1000 + 4) (va_cpy (z.2.1 (h + 5)) (z.2.1 (h + 1000 + 4)) (20 * i) 0 R)) (h + 1000) m k F := by
              refine ⟨⟨u1, u2, ?_, by rw [List.length_map]; omega, fun j c hc => ?_, u5, u6⟩, nF, by omega, by omega⟩
              · rw [List.length_map, lF]
                exact u3
              · have hjl := (List.getElem?_eq_some_iff.mp hc).1
                rw [List.length_map] at hjl
                rw [usR_at, pk_cpy_in (by omega) (by omega), Nat.sub_zero]
                exact rF3 j c hc
            refine w_cs0 (xc_conjBy (sO_f hh) h4 t91 (by omega) hC) ?_
            rintro z2 ⟨⟨d2, F', g1, g2, g3, g4⟩, g5⟩
            have hf2 : fr (foP (h + 1000)) z z2 := fr_tr (fr_R2 fzz (by unfold foP; omega)) g5
            have np : ∀ g, g ≤ h + 1000 → ¬ foP (h + 1000) g := fun g hg h9 => by unfold foP at h9; omega
            have q12 : suL z2 h m k R Ls W := suL_fr hf2 (fun g a1 a2 => np _ (by omega)) q1
            have q52 : lsR z2 h ((orG m.1).map (fun t => (pkG m.1 t, chG9 m.1 t))) := lsR_fr hf2 (fun g a1 a2 _ => np _ (by omega)) q5
            have q62 : fr (suQ9 h) y z2 := fr_tr q6 (fr_mono (fun g hg => by unfold foP at hg; unfold suQ9; omega) hf2)
            have q42 : wkF9 z2 h m.1 := ⟨g1.1, g1.2.2.2.2.2.1, g1.2.2.2.2.2.2⟩
            have e10 : z2.2.1 (h + 10) = z.2.1 (h + 10) := (hf2 _ (np _ (by omega))).2.1
            have hUk : okT m.1 (tuG m.1 k (ahG m.1 t9) :: F ++ [t9]) := okT_a.mpr ⟨okT_c.mpr ⟨tu_lt h2 h5 (f_one h2 h5 t91).2.1, nF.1⟩, ht9k⟩
            have eG : cnj (gL m [t9] ht9k) (gF m k F hF) = gF m (k - 1 + (d2 : Int)) F' g2.1 := (cj_F t91 (h3 := hUk)).trans (F_eq g4)
            have ecn : cnj (gL m [t9] ht9k) (gF m k F hF) = cnj (gm xF (gL m [t9] ht9k)) a := by
              rw [cnj_m, ← exF]
            have a1 : k - 1 + (d2 : Int) ≤ k := by
              rcases Int.lt_or_le k (k - 1 + (d2 : Int)) with h9 | h9
              · exfalso
                refine hr (gm xF (gL m [t9] ht9k)) ?_
                rw [← ecn, eG]
                exact (inf_F g2).mpr (by omega)
              · exact h9
            have a2 : (R : Int) ≤ k - 1 + (d2 : Int) - k + (F'.length : Int) := by
              rcases Int.lt_or_le (k - 1 + (d2 : Int) + (F'.length : Int)) (k + (R : Int)) with h9 | h9
              · exfalso
                refine hu (gm xF (gL m [t9] ht9k)) ?_
                rw [← ecn, eG]
                exact (sup_F g2).mpr (by omega)
              · omega
            obtain ⟨l3', -⟩ := fo_len g1
            have out : (k - 1 + (d2 : Int) ≠ k ∨ F'.length ≠ R) → pcl m k R Ls i t9 := fun hne F9 hF9 ht eF9 l u => by
              exfalso
              have e9 : F9 = F := Option.some.inj (eF9.symm.trans eF)
              subst e9
              have l : gle (gD m k) (cnj (gL m [t9] ht9k) (gF m k F9 hF)) := l
              have u : gle (cnj (gL m [t9] ht9k) (gF m k F9 hF)) (gD m (k + (R : Int))) := u
              rw [eG] at l u
              have l1 := (inf_F g2).mp l
              have u1 := (sup_F g2).mp u
              omega
            have go4 : (k - 1 + (d2 : Int) ≠ k ∨ F'.length ≠ R) → Tt (fun K k => c_X10_gather vl K k 4 (nI i) (nI T.length) (nI s) h z2) Q := fun hne => same z2 q12 q42 q52 q62 e10 (out hne)
            have c3 : Tt (fun K k => c_X10_gather vl K k 3 (nI i) (nI T.length) (nI s) h z2) Q := by
              refine u_X10_gather_3 ?_; unfold cm_X10_gather_3
              refine w_rdF g1.2.1 (w_rdF q12.1.1 (w_if (fun ek => w_rdF l3' (w_rdF q12.1.2.1 (w_eqN (by omega) (by omega) (fun el => ?_) (fun el => go4 (Or.inr el))))) (fun ek => go4 (Or.inl (fun e9 => ek (by rw [e9]))))))
              have ekk : k - 1 + (d2 : Int) = k := (iI_eq (by omega) (by omega) (by omega) (by omega)).mp ek
              have sF' : sss a k R F' := by
                rw [ekk] at eG
                exact ⟨g2, el, g2.1, gm xF (gL m [t9] ht9k), by rw [← eG, ecn]⟩
              have lo9 : gle (gD m k) (cnj (gL m [t9] ht9k) (gF m k F hF)) ∧ gle (cnj (gL m [t9] ht9k) (gF m k F hF)) (gD m (k + (R : Int))) := by
                rw [eG, ekk]
                exact ⟨(inf_F g2).mpr (Int.le_refl _), (sup_F g2).mpr (by omega)⟩
              refine w_cs0 (xc_add hh q12 g2.1 el (fun i c hc => g1.2.2.2.2.1 i c hc)) ?_
              rintro z3 ⟨hres, f3⟩
              obtain ⟨Ls', W', hL', hsub, hin, hs3, hgr⟩ : ∃ Ls' W', Ls'.length ≤ 201 ∧ (∀ j, j < Ls.length → Ls'[j]? = Ls[j]?) ∧ F' ∈ Ls' ∧ suL z3 h m k R Ls' W' ∧ (Ls' = Ls ∨ Ls' = Ls ++ [F']) := by
                rcases hres with ⟨u1, u2⟩ | ⟨u1, ⟨u2, u3⟩ | ⟨u2, W', u3⟩⟩
                · exact ⟨Ls, W, hm, fun _ _ => rfl, u1, u2, Or.inl rfl⟩
                · omega
                · exact ⟨Ls ++ [F'], W', by rw [List.length_append]; show Ls.length + 1 ≤ 201; omega, fun j hj => List.getElem?_append_left hj, List.mem_append_right _ List.mem_cons_self, u3, Or.inr rfl⟩
              have hm3 : ∀ G, G ∈ Ls' → sss a k R G := fun G hG => by
                rcases hgr with e9 | e9
                · rw [e9] at hG
                  exact q2 G hG
                · rw [e9] at hG
                  exact (List.mem_append.mp hG).elim (q2 G) (fun h9 => by rw [List.mem_singleton.mp h9]; exact sF')
              have hpl : ∀ {i' t : Nat}, i' < Ls.length → pcl m k R Ls i' t → pcl m k R Ls' i' t := fun hi' hp => by
                rcases hgr with e9 | e9
                · rw [e9]
                  exact hp
                · rw [e9]
                  exact pcl_m hi' hp
              have hll : Ls.length ≤ Ls'.length := by
                rcases hgr with e9 | e9
                · rw [e9]
                  exact Nat.le_refl _
                · rw [e9, List.length_append]
                  omega
              have f3n : ∀ g, h + 7 ≤ g → ¬ (h + 4 ≤ g ∧ g ≤ h + 6) := fun g hg => by omega
              have q53 : lsR z3 h ((orG m.1).map (fun t => (pkG m.1 t, chG9 m.1 t))) := lsR_fr f3 (fun g a1 a2 _ => f3n _ (by omega)) q52
              obtain ⟨-, r93⟩ := (hst q53).2 s t9 et9
              refine w_crI (sO_9 hh) rfl (show s < 24 by omega) r93 (w_ctI (sO_10 hh) rfl (show T.length < 24 by omega) ?_)
              rw [nI_1]
              have lT : (T ++ [t9]).length = T.length + 1 := by rw [List.length_append]; rfl
              rw [← lT]
              have f34 : fr (fun g => g = h + 10) z3 (usI z3 (h + 10) T.length (chG9 m.1 t9)) := fr_I rfl
              refine c4 (T ++ [t9]) _ Ls' W' (by omega) (suL_fr f34 (fun g a1 a2 => by omega) hs3) hm3 (fun i' t b1 b2 b3 b4 => hpl (by omega) (q3 i' t b1 b2 b3 (by omega))) ⟨(f3 _ (f3n _ (by omega))).1.trans q42.1, (f3 _ (f3n _ (by omega))).1.trans q42.2.1, (f3 _ (f3n _ (by omega))).1.trans q42.2.2⟩ (lsR_fr f34 (fun g a1 a2 a3 => a3) q53) (fr_tr (fr_tr q62 (fr_mono (fun g hg => by unfold suQ9; omega) f3)) (fr_mono (fun g hg => by unfold suQ9; omega) f34)) (by omega) (fun j c hc => ?_) (fun c hc => ?_) (fun j t hj ht b4 => ?_)
              · have hjl := (List.getElem?_eq_some_iff.mp hc).1
                rw [lT] at hjl
                by_cases ej : j = T.length
                · rw [ej, List.getElem?_append_right (Nat.le_refl _), Nat.sub_self] at hc
                  have : t9 = c := Option.some.inj hc
                  rw [ej, ← this]
                  exact po_usI_at
                · rw [List.getElem?_append_left (by omega)] at hc
                  refine rd_ne ej ?_
                  rw [(f3 _ (f3n _ (by omega))).2.1, e10]
                  exact p2 j c hc
              · rcases List.mem_append.mp hc with h9 | h9
                · obtain ⟨⟨j, j1, j2⟩, r⟩ := p3 c h9
                  refine ⟨⟨j, by omega, j2⟩, fun F9 hF9 hc9 eF9 => ?_⟩
                  rw [hsub i hiL] at eF9
                  exact r F9 hF9 hc9 eF9
                · have ec := List.mem_singleton.mp h9
                  subst ec
                  refine ⟨⟨s, by omega, et9⟩, fun F9 hF9 hc9 eF9 => ?_⟩
                  rw [hsub i hiL] at eF9
                  have e9 : F9 = F := Option.some.inj (eF9.symm.trans eF)
                  subst e9
                  exact lo9
              · by_cases ej : j = s
                · rw [ej, et9] at ht
                  rw [← Option.some.inj ht]
                  intro F9 hF9 ht99 eF9 l u
                  rw [hsub i hiL] at eF9
                  have e9 : F9 = F := Option.some.inj (eF9.symm.trans eF)
                  subst e9
                  refine Or.inl ⟨F', g2.1, hin, ?_⟩
                  have := eG
                  rw [ekk] at this
                  exact this
                · exact hpl hiL (p4 j t (by omega) ht (by omega))
            refine w_rdF g1.2.1 (w_rdF q12.1.1 (w_ifF (by rw [iI_lt (by omega) (by omega) (by omega) (by omega)]; omega) (w_rdF g1.2.1 (w_rdF q12.1.1 (w_if (fun ek => w_rdF l3' (w_rdF q12.1.2.1 (w_leT (by omega) (by
              have ekk : k - 1 + (d2 : Int) = k := (iI_eq (by omega) (by omega) (by omega) (by omega)).mp ek
              omega) c3))) (fun _ => c3))))))
      refine u_X10_gather_1 ?_; unfold cm_X10_gather_1
      exact w_rdF sz (w_le (by omega) (by omega) (fun h9 => w_okZ (Or.inr rfl) (w_some (fin (Or.inl (by omega))))) (fun him => w_rdF sz (w_lt (a := 200) (by omega) (by omega) (fun h9 => w_okZ (Or.inr rfl) (w_some (fin (Or.inr h9)))) (fun h200 => c2 ((orG m.1).length + 1) 0 [] z Ls W (by omega) him q1 q2 q3 q4 q5 q6 (Nat.zero_le _) (fun j c hc => (by simp at hc)) (fun c hc => absurd hc List.not_mem_nil) (fun j t hj => absurd hj (Nat.not_lt_zero _))))))
  refine e_X10_gather ?_
  refine u_X10_gather_0 ?_; unfold cm_X10_gather_0
  exact c1 202 0 y Ls0 W0 (by omega) (Nat.zero_le _) l0 s0 i0 (fun i' t hi => absurd hi (Nat.not_lt_zero _)) w0 t0 fr_rf
end XSAB
