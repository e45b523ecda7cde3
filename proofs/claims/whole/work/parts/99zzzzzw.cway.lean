/-! the class: reach, surround; moves, simplify, way, moved, summand -/
/-- the tables that calls leave -/
def tbs (y : ow_MS) : Prop := (∃ Cs os, tbO y 2000 1848 Cs os) ∧ (∃ Cs os, tbO y 3000 12 Cs os) ∧ byR y 13001 ∧ byR y 14001 ∧ byR y 15001
def gM (y : ow_MS) : Prop := gN y ∧ tbs y
theorem tH2 : tH 2000 1848 := by unfold tH; decide
theorem tH3 : tH 3000 12 := by unfold tH; decide
theorem tH13 : tH 13000 301 := by unfold tH; decide
theorem tH14 : tH 14000 480 := by unfold tH; decide
theorem tH15 : tH 15000 480 := by unfold tH; decide
theorem tbs_fr {P : Nat → Prop} {y y1 : ow_MS} (hf : fr P y y1) (hP : ∀ g, P g → ¬ (2001 ≤ g ∧ g ≤ 2005 ∨ 3001 ≤ g ∧ g ≤ 3005 ∨ g = 13001 ∨ g = 14001 ∨ g = 15001)) (h : tbs y) : tbs y1 := by
  obtain ⟨⟨C2, o2, h2⟩, ⟨C3, o3, h3⟩, h4, h5, h6⟩ := h
  refine ⟨⟨C2, o2, tbO_fr hf (fun q hq h9 => hP q h9 (by unfold cV at hq; omega)) h2⟩, ⟨C3, o3, tbO_fr hf (fun q hq h9 => hP q h9 (by unfold cV at hq; omega)) h3⟩, byR_fr hf (fun h9 => hP _ h9 (by omega)) h4, byR_fr hf (fun h9 => hP _ h9 (by omega)) h5, byR_fr hf (fun h9 => hP _ h9 (by omega)) h6⟩
theorem gM_u {y y1 : ow_MS} (hf : fr uP y y1) (hN : gN y1) (h : gM y) : gM y1 := ⟨hN, tbs_fr hf (fun g hg => by unfold uP at hg; omega) h.2⟩
theorem tbO_0 {y : ow_MS} {g p : Nat} (hb : byR y (g + 1)) : tbO (usF y (g + 5) 0) g p [] [] := ⟨⟨po_usF_at, rfl, fun s C e => (by rw [List.getElem?_nil] at e; cases e), fun k s e => (by rw [List.getElem?_nil] at e; cases e)⟩, fun i j _ hj => absurd hj (Nat.not_lt_zero _), fun C hC => (by cases hC), Nat.zero_le _, hb⟩
theorem tb_at {y : ow_MS} {g p s : Nat} {Cs : List cdT} {os : List Nat} (h : tbO y g p Cs os) (hs : s < Cs.length) : ∃ A sg c, okL A c ∧ slC y g s (clC sg A) := by
  obtain ⟨A, sg, c, h1, h2⟩ := h.2.2.1 Cs[s] (List.getElem_mem hs)
  have h3 := (h.1.2.2.1 s _ (List.getElem?_eq_getElem hs)).1
  rw [h2] at h3
  exact ⟨A, sg, c, h1, h3⟩
theorem gN_F {y : ow_MS} {g : Nat} {x : Int32} (hg : ∀ h, nH h → ¬ cP h g) (h : gN y) : gN (usF y g x) := by
  refine ⟨h.1, nsC_fr (P := fun q => q = g) (fr_F rfl) (fun h' hh' q hq h9 => hg h' hh' (by rw [← h9]; exact hq)) h.2.1, h.2.2⟩
theorem far_cP {g : Nat} (hg : g < 4001 ∨ 5011 < g ∧ g < 16001) : ∀ h, nH h → ¬ cP h g := by
  intro h hh h9
  have key : ∀ a, a ∈ nHL → a = 4000 ∨ a = 5000 ∨ 16000 ≤ a := by decide
  have := key h hh
  unfold cP at h9
  omega
/-- a code with a place: what stays -/
theorem gN_put {y y1 : ow_MS} {d : Nat} {C : cdT} (hN : gN y) (hC : okC C) (w1 : slC y1 1000 d C) (w2 : ∀ t D, t ≠ d → cOK D → slC y 1000 t D → slC y1 1000 t D) (w3 : byR y 1001 → byR y1 1001) (w4 : fr (cW 1000) y y1) : gN y1 := by
  refine ⟨⟨w3 hN.1.1, fun e he => ?_⟩, nsC_fr w4 (fun h' hh' g hg h9 => ?_) hN.2.1, kdC_fr w4 (fun g h9 => ?_) hN.2.2⟩
  · by_cases ed : e = d
    · rw [ed]
      by_cases el : C.2 = []
      · refine Or.inl ⟨C.1, (okC_ok hC).1, ?_⟩
        have : C = (C.1, []) := Prod.ext rfl el
        rw [← this]
        exact w1
      · exact Or.inr ⟨_, w1, hC, List.length_pos_iff.mpr el⟩
    · rcases hN.1.2 e he with ⟨c, c1, c2⟩ | ⟨D, c1, c2, c3⟩
      · exact Or.inl ⟨c, c1, w2 e _ ed ⟨c1, Nat.zero_le _, fun a ha => by cases ha⟩ c2⟩
      · exact Or.inr ⟨D, w2 e D ed (okC_ok c2) c1, c2, c3⟩
  · have h4 : 4000 ≤ h' := nH_all (P := fun h => 4000 ≤ h) (by decide) hh'
    unfold cP at hg
    unfold cW at h9
    omega
  · unfold cW at h9
    omega
def vP (g : Nat) : Prop := 1001 ≤ g ∧ g ≤ 1005 ∨ 2001 ≤ g ∧ g ≤ 2005 ∨ 13001 ≤ g ∧ g ≤ 19002 ∨ 20004 ≤ g ∧ g ≤ 23005
section CW2
variable {vl : Nat → Nat} {y : ow_MS} {x x' : Int32}
theorem co_v {g' : Nat} {y1 : ow_MS} (h : g' = 2000 ∨ g' = 13000 ∨ g' = 14000 ∨ g' = 15000) (hf : fr (coP g') y y1) : fr vP y y1 := fr_mono (fun g hg => by unfold coP cV at hg; unfold vP; omega) hf
theorem tgk {g' : Nat} (h : g' = 2000 ∨ g' = 13000 ∨ g' = 14000 ∨ g' = 15000) : ∀ q, cV g' q → q ≠ 8001 ∧ q ≠ 9001 ∧ q ≠ 10001 ∧ (q < 4001 ∨ 5011 < q) := by
  intro q hq
  unfold cV at hq
  omega
theorem e_X11_moves {vl : Nat → Nat} {r0 : Nat} {x1 : Int32} {x2 : Int32} {z : ow_MS} {Q : (Nat × Int32 × ow_MS) → Prop} (H : Tt (fun K _ => cm_X11_moves_0 vl K x1 x2 r0 z) Q) : Te (fun K => ce_X11_moves vl K r0 x1 x2 z) Q := w_te0 H
theorem tc_moves (hN : gM y) : Te (fun K => ce_X11_moves vl K 0 x x' y) (fun r => gM r.2.2 ∧ fr vP y r.2.2) := by
  refine e_X11_moves ?_; unfold cm_X11_moves_0
  refine w_tc0 (tc_need hN.1.1) ?_ ?_
  · rintro y1 ⟨h1, rfl⟩
    rcases h1 with ⟨-, d, A, sg, c, hd, rfl, hs, hA, hne⟩ | h1
    · refine w_if (fun _ => w_some ⟨hN, fr_rf⟩) (fun e0 => ?_)
      obtain ⟨kd, k31, rfl⟩ := nI_of e0
      refine w_lt (b := 5) k31 (by omega) (fun hk => ?_) (fun _ => w_some ⟨hN, fr_rf⟩)
      obtain ⟨⟨C2, o2, t2⟩, t3, t4, t5, t6⟩ := id hN.2
      refine w_wrF (w_cs0 (tc_collect ch_1000 hd (by omega) hs hA tH2 (by omega) (Nat.le_refl _) (tgk (Or.inl rfl)) hk (gN_F (far_cP (by omega)) hN.1) (tbO_0 t2.2.2.2.2)) ?_)
      rintro y2 ⟨g1, g2, R, X, os', g3, g4, g5, g6, g7⟩
      refine w_rdF rfl (w_some ⟨⟨g1, ⟨_, os', g5⟩, ?_⟩, ?_⟩)
      · have hf : fr (coP 2000) y1 y2 := fr_tr (fr_F (by unfold coP cV; omega)) g2
        obtain ⟨C3, o3, h3⟩ := t3
        exact ⟨⟨C3, o3, tbO_fr hf (fun q hq h9 => by unfold cV at hq; unfold coP cV at h9; omega) h3⟩, byR_fr hf (by unfold coP cV; omega) t4, byR_fr hf (by unfold coP cV; omega) t5, byR_fr hf (by unfold coP cV; omega) t6⟩
      · exact fr_tr (fr_F (by unfold vP; omega)) (co_v (Or.inl rfl) g2)
    · exact absurd (show (0 : Nat) = 1 from h1.1) (by decide)
  · rintro a y1 ha ⟨h1, rfl⟩
    exact w_some ⟨hN, fr_rf⟩
/-- what a call of the mover leaves of the tables it does not name -/
theorem tbs_co {g' : Nat} {y1 : ow_MS} (h : g' = 13000 ∨ g' = 14000 ∨ g' = 15000) (hf : fr (coP g') y y1) (hb : byR y1 (g' + 1)) (ht : tbs y) : tbs y1 := by
  obtain ⟨⟨C2, o2, h2⟩, ⟨C3, o3, h3⟩, h4, h5, h6⟩ := ht
  refine ⟨⟨C2, o2, tbO_fr hf (fun q hq h9 => by unfold cV at hq; unfold coP cV at h9; omega) h2⟩, ⟨C3, o3, tbO_fr hf (fun q hq h9 => by unfold cV at hq; unfold coP cV at h9; omega) h3⟩, ?_⟩
  rcases h with rfl | rfl | rfl
  · exact ⟨hb, byR_fr hf (by unfold coP cV; omega) h5, byR_fr hf (by unfold coP cV; omega) h6⟩
  · exact ⟨byR_fr hf (by unfold coP cV; omega) h4, hb, byR_fr hf (by unfold coP cV; omega) h6⟩
  · exact ⟨byR_fr hf (by unfold coP cV; omega) h4, byR_fr hf (by unfold coP cV; omega) h5, hb⟩
theorem u_X6_surround_1 {vl : Nat → Nat} {x2 : Int32} {x4 : Int32} {r0 : Nat} {r1 : Nat} {r3 : Nat} {z : ow_MS} {Q : ow_MS → Prop} (H : Tt (fun K k => cm_X6_surround_1 vl K (c_X6_surround vl K k) x2 x4 r0 r1 r3 z) Q) : Tt (fun K k => c_X6_surround vl K k 1 x2 x4 r0 r1 r3 z) Q := w_un (fun _ _ => rfl) H
theorem e_X6_surround {vl : Nat → Nat} {r0 : Nat} {r1 : Nat} {x2 : Int32} {r3 : Nat} {z : ow_MS} {Q : ow_MS → Prop} (H : Tt (fun K k => c_X6_surround vl K k 0 x2 0 r0 r1 r3 z) Q) : Te (fun K => ce_X6_surround vl K r0 r1 x2 r3 z) Q := w_te H
theorem u_X6_surround_0 {vl : Nat → Nat} {x2 : Int32} {x4 : Int32} {r0 : Nat} {r1 : Nat} {r3 : Nat} {z : ow_MS} {Q : ow_MS → Prop} (H : Tt (fun K k => cm_X6_surround_0 vl K (c_X6_surround vl K k) x2 x4 r0 r1 r3 z) Q) : Tt (fun K k => c_X6_surround vl K k 0 x2 x4 r0 r1 r3 z) Q := w_un (fun _ _ => rfl) H
theorem tc_surround {g' d c : Nat} {A : rn_L} {sg : Nat → Bool} (hg : g' = 14000 ∨ g' = 15000) (hN : gM y) (hd : d < 40) (hs : slC y 1000 d (clC sg A)) (hA : okL A c) : Te (fun K => ce_X6_surround vl K 12000 1000 (nI d) g' y) (fun y1 => gM y1 ∧ fr (coP g') y y1 ∧ ∃ Cs os, tbO y1 g' 480 Cs os) := by
  have hg3 : g' = 13000 ∨ g' = 14000 ∨ g' = 15000 := Or.inr hg
  have hg4 : g' = 2000 ∨ g' = 13000 ∨ g' = 14000 ∨ g' = 15000 := Or.inr hg3
  have htH : tH g' 480 := by
    rcases hg with rfl | rfl
    · exact tH14
    · exact tH15
  have hby : byR y (g' + 1) := by
    rcases hg with rfl | rfl
    · exact hN.2.2.2.2.1
    · exact hN.2.2.2.2.2
  let Q0 : ow_MS → Prop := fun y1 => gM y1 ∧ fr (coP g') y y1 ∧ ∃ Cs os, tbO y1 g' 480 Cs os
  have c1 : ∀ (k i : Nat) (z : ow_MS) (Cs : List cdT) (os : List Nat), i + k = 5 → gN z → fr (coP g') y z → tbO z g' 480 Cs os → Tt (fun K t => c_X6_surround vl K t 1 (nI d) (nI i) 12000 1000 g' z) Q0 := by
    intro k
    induction k with
    | zero =>
      intro i z Cs os hi q1 q2 q3
      refine u_X6_surround_1 ?_; unfold cm_X6_surround_1
      exact w_leT (a := 5) (by omega) (by omega) (w_some ⟨⟨q1, tbs_co hg3 q2 q3.2.2.2.2 hN.2⟩, q2, Cs, os, q3⟩)
    | succ k ih =>
      intro i z Cs os hi q1 q2 q3
      have hs1 : slC z 1000 d (clC sg A) := slC_fr q2 (fun q hq h9 => by unfold cW at hq; unfold coP cV at h9; omega) hs
      refine u_X6_surround_1 ?_; unfold cm_X6_surround_1
      refine w_leF (a := 5) (by omega) (by omega) (w_cs0 (tc_collect ch_1000 hd (by omega) hs1 hA htH (by omega) (by omega) (tgk hg4) (show i < 5 by omega) q1 q3) ?_)
      rintro z1 ⟨g1, g2, R, X, os', g3, g4, g5, -, -⟩
      rw [nI_1]
      exact ih (i + 1) z1 _ os' (by omega) g1 (fr_tr q2 g2) g5
  refine e_X6_surround ?_
  refine u_X6_surround_0 ?_; unfold cm_X6_surround_0
  refine w_wrF (c1 5 0 _ [] [] (by omega) (gN_F (far_cP (by omega)) hN.1) (fr_F (by unfold coP cV; omega)) (tbO_0 hby))
theorem u_X6_reach_1 {vl : Nat → Nat} {x2 : Int32} {x3 : Int32} {r0 : Nat} {r1 : Nat} {z : ow_MS} {Q : ow_MS → Prop} (H : Tt (fun K k => cm_X6_reach_1 vl K (c_X6_reach vl K k) x2 x3 r0 r1 z) Q) : Tt (fun K k => c_X6_reach vl K k 1 x2 x3 r0 r1 z) Q := w_un (fun _ _ => rfl) H
theorem e_X6_reach {vl : Nat → Nat} {r0 : Nat} {r1 : Nat} {x2 : Int32} {z : ow_MS} {Q : ow_MS → Prop} (H : Tt (fun K k => c_X6_reach vl K k 0 x2 0 r0 r1 z) Q) : Te (fun K => ce_X6_reach vl K r0 r1 x2 z) Q := w_te H
theorem u_X6_reach_0 {vl : Nat → Nat} {x2 : Int32} {x3 : Int32} {r0 : Nat} {r1 : Nat} {z : ow_MS} {Q : ow_MS → Prop} (H : Tt (fun K k => cm_X6_reach_0 vl K (c_X6_reach vl K k) x2 x3 r0 r1 z) Q) : Tt (fun K k => c_X6_reach vl K k 0 x2 x3 r0 r1 z) Q := w_un (fun _ _ => rfl) H
theorem tc_reach {d c : Nat} {A : rn_L} {sg : Nat → Bool} (hN : gM y) (hd : d < 40) (hs : slC y 1000 d (clC sg A)) (hA : okL A c) : Te (fun K => ce_X6_reach vl K 12000 1000 (nI d) y) (fun y1 => gM y1 ∧ fr (coP 13000) y y1 ∧ ∃ Cs os, tbO y1 13000 301 Cs os ∧ 0 < os.length) := by
  let Q0 : ow_MS → Prop := fun y1 => gM y1 ∧ fr (coP 13000) y y1 ∧ ∃ Cs os, tbO y1 13000 301 Cs os ∧ 0 < os.length
  have hg4 : 13000 = 2000 ∨ 13000 = 13000 ∨ 13000 = 14000 ∨ 13000 = 15000 := Or.inr (Or.inl rfl)
  have c1 : ∀ (k i : Nat) (z : ow_MS) (Cs : List cdT) (os : List Nat), i + k = 302 → gN z → fr (coP 13000) y z → tbO z 13000 301 Cs os → 0 < os.length → Tt (fun K t => c_X6_reach vl K t 1 (nI d) (nI i) 12000 1000 z) Q0 := by
    intro k
    induction k with
    | zero =>
      intro i z Cs os hi q1 q2 q3 q4
      have hl := q3.2.2.2.1
      refine u_X6_reach_1 ?_; unfold cm_X6_reach_1
      exact w_rdF q3.1.1 (w_leT (by omega) (by omega) (w_some ⟨⟨q1, tbs_co (Or.inl rfl) q2 q3.2.2.2.2 hN.2⟩, q2, Cs, os, q3, q4⟩))
    | succ k ih =>
      intro i z Cs os hi q1 q2 q3 q4
      have hl := q3.2.2.2.1
      have fin : Tt (fun _ _ => some z) Q0 := w_some ⟨⟨q1, tbs_co (Or.inl rfl) q2 q3.2.2.2.2 hN.2⟩, q2, Cs, os, q3, q4⟩
      refine u_X6_reach_1 ?_; unfold cm_X6_reach_1
      refine w_rdF q3.1.1 (w_le (by omega) (by omega) (fun _ => fin) (fun hio => w_rdF q3.1.1 (w_lt (a := 300) (by omega) (by omega) (fun _ => fin) (fun _ => ?_))))
      have hCl : Cs.length = os.length := q3.1.2.1
      obtain ⟨B, sgB, cB, b1, b2⟩ := tb_at q3 (show i < Cs.length by omega)
      refine w_cs0 (tc_collect (kd := 0) tH13 (show i < 301 by omega) (by omega) b2 b1 tH13 (by omega) (by omega) (tgk hg4) (by omega) q1 q3) ?_
      rintro z1 ⟨g1, g2, R1, X1, os1, -, -, g5, -, -⟩
      have hl1 : (Cs ++ X1).length = os1.length := g5.1.2.1
      rw [List.length_append] at hl1
      obtain ⟨B1, sgB1, cB1, b11, b12⟩ := tb_at g5 (show i < (Cs ++ X1).length by rw [List.length_append]; omega)
      refine w_cs0 (tc_collect (kd := 2) tH13 (show i < 301 by omega) (by omega) b12 b11 tH13 (by omega) (by omega) (tgk hg4) (by omega) g1 g5) ?_
      rintro z2 ⟨g1', g2', R2, X2, os2, -, -, g5', -, -⟩
      have hl2 : (Cs ++ X1 ++ X2).length = os2.length := g5'.1.2.1
      rw [List.length_append, List.length_append] at hl2
      obtain ⟨B2, sgB2, cB2, b21, b22⟩ := tb_at g5' (show i < (Cs ++ X1 ++ X2).length by rw [List.length_append, List.length_append]; omega)
      refine w_cs0 (tc_collect (kd := 4) tH13 (show i < 301 by omega) (by omega) b22 b21 tH13 (by omega) (by omega) (tgk hg4) (by omega) g1' g5') ?_
      rintro z3 ⟨g1'', g2'', R3, X3, os3, -, -, g5'', -, -⟩
      have hl3 : (Cs ++ X1 ++ X2 ++ X3).length = os3.length := g5''.1.2.1
      rw [List.length_append, List.length_append, List.length_append] at hl3
      rw [nI_1]
      exact ih (i + 1) z3 _ os3 (by omega) g1'' (fr_tr q2 (fr_tr g2 (fr_tr g2' g2''))) g5'' (by omega)
  refine e_X6_reach ?_
  refine u_X6_reach_0 ?_; unfold cm_X6_reach_0
  have t0 := tbO_0 (p := 301) (show byR y (13000 + 1) from hN.2.2.2.1)
  have oC := (okL_c (sg := sg) hA).2
  refine w_wrF (w_cs0 (tc_addNew tH13 ch_1000 (by omega) hd t0.1 (Nat.zero_le _) (B := clC sg A) hs oC hN.1.1.1) ?_)
  rintro z1 ⟨a1, a2, a3⟩
  have f1 : fr (coP 13000) y z1 := fr_tr (fr_F (by unfold coP cV; omega)) (fr_mono (fun q hq => Or.inr (Or.inr hq)) a3)
  have n1 : gN z1 := by
    have hk := (gN_F (x := 0) (far_cP (g := 13005) (by omega)) hN.1)
    refine ⟨dgC_fr a3 (fun q q1 q2 h9 => by unfold cV at h9; omega) hk.1, nsC_fr a3 (fun h hh q hq h9 => far_cP (g := q) (by unfold cV at h9; omega) h hh hq) hk.2.1, kdC_fr a3 (fun q h9 => by unfold cV at h9; omega) hk.2.2⟩
  rcases a1 with ⟨⟨k, k1, k2⟩, -⟩ | ⟨k, k1, k2, k3⟩
  · exact absurd k1 (Nat.not_lt_zero _)
  · rw [if_pos (show ([] : List Nat).length < 301 from by show 0 < 301; omega)] at k3
    have k0 : k = 0 := Nat.le_zero.mp k1
    refine c1 302 0 z1 [clC sg A] (insO [] k ([] : List Nat).length) (by omega) n1 f1 ⟨k3, ?_, fun C hC => ?_, ?_, a2 t0.2.2.2.2⟩ ?_
    · intro i j hij hj
      rw [insO_len k1] at hj
      have : j < 1 := hj
      omega
    · rw [List.mem_singleton.mp hC]
      exact ⟨A, sg, c, hA, rfl⟩
    · rw [insO_len k1]
      show 0 + 1 ≤ 301
      omega
    · rw [insO_len k1]
      exact Nat.succ_pos _
theorem e_X11_simplify {vl : Nat → Nat} {r0 : Nat} {x1 : Int32} {z : ow_MS} {Q : (Nat × Int32 × ow_MS) → Prop} (H : Tt (fun K _ => cm_X11_simplify_0 vl K x1 r0 z) Q) : Te (fun K => ce_X11_simplify vl K r0 x1 z) Q := w_te0 H
theorem tc_simplify (hN : gM y) : Te (fun K => ce_X11_simplify vl K 0 x y) (fun r => gM r.2.2 ∧ fr vP y r.2.2) := by
  refine e_X11_simplify ?_; unfold cm_X11_simplify_0
  refine w_tc0 (tc_need hN.1.1) ?_ ?_
  · rintro y1 ⟨h1, rfl⟩
    rcases h1 with ⟨-, d, A, sg, c, hd, rfl, hs, hA, hne⟩ | h1
    · refine w_tc1 (tc_freeDiagram (dgC_E hN.1.1)) ?_ ?_
      · rintro v y2 ⟨h2, rfl⟩
        rcases h2 with ⟨e, he, -, rfl, h3, h4⟩ | h2
        · refine w_cs0 (tc_reach hN hd hs hA) ?_
          rintro y3 ⟨g1, g2, Cs, os, g3, g4⟩
          have fv : fr vP y2 y3 := co_v (Or.inr (Or.inl rfl)) g2
          have hl := g3.2.2.2.1
          refine w_rdF g3.1.1 (w_le (b := 300) (by omega) (by omega) (fun h300 => ?_) (fun _ => w_some ⟨g1, fv⟩))
          obtain ⟨s, s1, s2, s3, s4⟩ := tab_at g3.1 g4
          have hCl : Cs.length = os.length := g3.1.2.1
          have hokC : okC (atC Cs os 0) := by
            have hso : os.getD 0 0 < Cs.length := by
              rw [List.getD_eq_getElem?_getD, List.getElem?_eq_getElem g4]
              exact (g3.1.2.2.2 0 _ (List.getElem?_eq_getElem g4)).2
            unfold atC
            rw [List.getD_eq_getElem?_getD (l := Cs), List.getElem?_eq_getElem hso]
            exact g3.2.2.1 _ (List.getElem_mem hso)
          refine w_crI (i := 0) (tH_4 tH13) rfl (by omega) s2 (w_cs0 (tc_write ch_1000 tH13 (by omega) he (show s < 301 by omega) s3 s4 g3.2.2.2.2) ?_)
          rintro y4 ⟨w1, w2, w3, w4⟩
          exact w_some ⟨⟨gN_put g1.1 hokC w1 w2 w3 w4, tbs_fr w4 (fun g hg => by unfold cW at hg; omega) g1.2⟩, fr_tr fv (fr_mono (fun g hg => by unfold cW at hg; unfold vP; omega) w4)⟩
        · exact absurd (show (0 : Nat) = 3 from h2.1) (by decide)
      · rintro a v y2 ha ⟨h2, rfl⟩
        exact w_some ⟨hN, fr_rf⟩
    · exact absurd (show (0 : Nat) = 1 from h1.1) (by decide)
  · rintro a y1 ha ⟨h1, rfl⟩
    exact w_some ⟨hN, fr_rf⟩
theorem e_X11_way {vl : Nat → Nat} {r0 : Nat} {x1 : Int32} {x2 : Int32} {z : ow_MS} {Q : (Nat × Int32 × ow_MS) → Prop} (H : Tt (fun K _ => cm_X11_way_0 vl K x1 x2 r0 z) Q) : Te (fun K => ce_X11_way vl K r0 x1 x2 z) Q := w_te0 H
theorem tc_way (hN : gM y) : Te (fun K => ce_X11_way vl K 0 x x' y) (fun r => gM r.2.2 ∧ fr vP y r.2.2) := by
  refine e_X11_way ?_; unfold cm_X11_way_0
  refine w_tc0 (tc_need hN.1.1) ?_ ?_
  · rintro y1 ⟨h1, rfl⟩
    rcases h1 with ⟨-, d, A, sg, c, hd, rfl, hs, hA, hne⟩ | h1
    · refine w_tc0 (tc_need hN.1.1) ?_ ?_
      · rintro y2 ⟨h2, rfl⟩
        rcases h2 with ⟨-, e, B, sg', c', he, rfl, hs', hB, hne'⟩ | h2
        · have o1 := okL_c (sg := sg) hA
          have o2 := okL_c (sg := sg') hB
          have e3 : y2.2.1 1003 d = nI c := by
            have := hs.1
            rw [o1.1] at this
            exact this
          have e3' : y2.2.1 1003 e = nI c' := by
            have := hs'.1
            rw [o2.1] at this
            exact this
          have hc12 := hA.2.2.2.1
          have hc12' := hB.2.2.2.1
          refine w_crI (tH_3 ch_1000) rfl hd e3 (w_lt (a := 4) (by omega) (by omega) (fun _ => w_some ⟨hN, fr_rf⟩) (fun _ => w_crI (tH_3 ch_1000) rfl he e3' (w_le (b := 4) (by omega) (by omega) (fun _ => ?_) (fun _ => w_some ⟨hN, fr_rf⟩))))
          refine w_cs1 (tc_compare ch_1000 ch_1000 hd he hs hs' o1.2 o2.2) ?_
          rintro v y3 ⟨ev, rfl⟩
          refine w_if (fun _ => w_some ⟨hN, fr_rf⟩) (fun _ => w_cs0 (tc_surround (Or.inl rfl) hN hd hs hA) ?_)
          rintro y4 ⟨g1, g2, Cs, os, g3⟩
          have f4 : fr vP y3 y4 := co_v (Or.inr (Or.inr (Or.inl rfl))) g2
          have hs4 : slC y4 1000 e (clC sg' B) := slC_fr g2 (fun q hq h9 => by unfold cW at hq; unfold coP cV at h9; omega) hs'
          refine w_cs1 (tc_find tH14 ch_1000 he g3.1 g3.2.2.2.1 hs4 o2.2) ?_
          rintro v5 y5 ⟨-, rfl⟩
          refine w_if (fun _ => w_cs0 (tc_surround (Or.inr rfl) g1 he hs4 hB) ?_) (fun _ => w_some ⟨g1, f4⟩)
          rintro y6 ⟨g1', g2', Ds, qs, g3'⟩
          have f6 : fr vP y3 y6 := fr_tr f4 (co_v (Or.inr (Or.inr (Or.inr rfl))) g2')
          have g36 : tbO y6 14000 480 Cs os := tbO_fr g2' (fun q hq h9 => by unfold cV at hq; unfold coP cV at h9; omega) g3
          refine w_cs1 (tc_meets tH14 tH15 g36.1 g36.2.2.2.1 g3'.1 g3'.2.2.2.1) ?_
          rintro v7 y7 ⟨-, rfl⟩
          exact w_if (fun _ => w_some ⟨g1', f6⟩) (fun _ => w_some ⟨g1', f6⟩)
        · exact absurd (show (0 : Nat) = 1 from h2.1) (by decide)
      · rintro a y2 ha ⟨h2, rfl⟩
        exact w_some ⟨hN, fr_rf⟩
    · exact absurd (show (0 : Nat) = 1 from h1.1) (by decide)
  · rintro a y1 ha ⟨h1, rfl⟩
    exact w_some ⟨hN, fr_rf⟩
theorem e_X11_copyOut {vl : Nat → Nat} {r0 : Nat} {r1 : Nat} {x2 : Int32} {z : ow_MS} {Q : (Nat × Int32 × ow_MS) → Prop} (H : Tt (fun K _ => cm_X11_copyOut_0 vl K x2 r0 r1 z) Q) : Te (fun K => ce_X11_copyOut vl K r0 r1 x2 z) Q := w_te0 H
theorem tc_copyOut {g p : Nat} {Cs : List cdT} {os : List Nat} (hg : tH g p) (hg2 : g = 2000 ∨ g = 3000) (hT : tbO y g p Cs os) (hN : gM y) : Te (fun K => ce_X11_copyOut vl K 0 g x y) (fun r => gM r.2.2 ∧ fr vP y r.2.2) := by
  have hp := tH_p hg
  refine e_X11_copyOut ?_; unfold cm_X11_copyOut_0
  refine w_if (fun _ => w_some ⟨hN, fr_rf⟩) (fun e0 => w_rdF hT.1.1 ?_)
  obtain ⟨k, k31, rfl⟩ := nI_of e0
  have hl := hT.2.2.2.1
  refine w_lt k31 (by omega) (fun hk => ?_) (fun _ => w_some ⟨hN, fr_rf⟩)
  refine w_tc1 (tc_freeDiagram (dgC_E hN.1.1)) ?_ ?_
  · rintro v y2 ⟨h2, rfl⟩
    rcases h2 with ⟨e, he, -, rfl, h3, h4⟩ | h2
    · obtain ⟨s, s1, s2, s3, s4⟩ := tab_at hT.1 hk
      have hCl : Cs.length = os.length := hT.1.2.1
      have hokC : okC (atC Cs os k) := by
        have hso : os.getD k 0 < Cs.length := by
          rw [List.getD_eq_getElem?_getD, List.getElem?_eq_getElem hk]
          exact (hT.1.2.2.2 k _ (List.getElem?_eq_getElem hk)).2
        unfold atC
        rw [List.getD_eq_getElem?_getD (l := Cs), List.getElem?_eq_getElem hso]
        exact hT.2.2.1 _ (List.getElem_mem hso)
      refine w_crI (tH_4 hg) rfl (show k < p by omega) s2 (w_cs0 (tc_write ch_1000 hg (by omega) he (show s < p by omega) s3 s4 hT.2.2.2.2) ?_)
      rintro y4 ⟨w1, w2, w3, w4⟩
      exact w_some ⟨⟨gN_put hN.1 hokC w1 w2 w3 w4, tbs_fr w4 (fun g hg => by unfold cW at hg; omega) hN.2⟩, fr_mono (fun g hg => by unfold cW at hg; unfold vP; omega) w4⟩
    · exact absurd (show (0 : Nat) = 3 from h2.1) (by decide)
  · rintro a v y2 ha ⟨h2, rfl⟩
    exact w_some ⟨hN, fr_rf⟩
theorem e_X11_moved {vl : Nat → Nat} {r0 : Nat} {x1 : Int32} {z : ow_MS} {Q : (Nat × Int32 × ow_MS) → Prop} (H : Tt (fun K _ => cm_X11_moved_0 vl K x1 r0 z) Q) : Te (fun K => ce_X11_moved vl K r0 x1 z) Q := w_te0 H
theorem tc_moved (hN : gM y) : Te (fun K => ce_X11_moved vl K 0 x y) (fun r => gM r.2.2 ∧ fr vP y r.2.2) := by
  obtain ⟨Cs, os, hT⟩ := hN.2.1
  refine e_X11_moved ?_; unfold cm_X11_moved_0
  refine w_tc1 (tc_copyOut tH2 (Or.inl rfl) hT hN) ?_ ?_
  · rintro v y1 h1
    exact w_some h1
  · rintro a v y1 ha h1
    exact w_some h1
theorem e_X11_summand {vl : Nat → Nat} {r0 : Nat} {x1 : Int32} {z : ow_MS} {Q : (Nat × Int32 × ow_MS) → Prop} (H : Tt (fun K _ => cm_X11_summand_0 vl K x1 r0 z) Q) : Te (fun K => ce_X11_summand vl K r0 x1 z) Q := w_te0 H
theorem tc_summand (hN : gM y) : Te (fun K => ce_X11_summand vl K 0 x y) (fun r => gM r.2.2 ∧ fr vP y r.2.2) := by
  obtain ⟨Cs, os, hT⟩ := hN.2.2.1
  refine e_X11_summand ?_; unfold cm_X11_summand_0
  refine w_tc1 (tc_copyOut tH3 (Or.inr rfl) hT hN) ?_ ?_
  · rintro v y1 h1
    exact w_some h1
  · rintro a v y1 ha h1
    exact w_some h1
end CW2
