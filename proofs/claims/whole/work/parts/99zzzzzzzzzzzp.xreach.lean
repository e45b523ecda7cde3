/-! the class: all that moves of kinds 0, 2, 4 lead to, exactly -/
def k024 (kd : Nat) : Prop := kd = 0 ∨ kd = 2 ∨ kd = 4
def nxC (A : rn_L) (sg : Nat → Bool) (c : Nat) (R : ow_NT) : Prop := okL A c ∧ isoN A sg (fun x => x) R ∧ nv R ∧ sgR c sg R
def genC (Cs : List cdT) (C0 : cdT) : Prop := Cs[0]? = some C0 ∧ ∀ (i : Nat) C, Cs[i]? = some C → i = 0 ∨ ∃ i' A1 sg1 c R kd j, i' < i ∧ Cs[i']? = some (clC sg1 A1) ∧ nxC A1 sg1 c R ∧ k024 kd ∧ j < mv_cnt R.1 kd ∧ mvD kd R j C
def pcC (Cs : List cdT) (C : cdT) (kd : Nat) : Prop := ∃ A1 sg1 c R, C = clC sg1 A1 ∧ nxC A1 sg1 c R ∧ ∀ j, j < mv_cnt R.1 kd → mvN kd R j ∨ ∃ C', mvD kd R j C' ∧ (C' ∈ Cs ∨ Cs.length = 301)
def cloC (Cs : List cdT) : Prop := ∀ C, C ∈ Cs → ∀ kd, k024 kd → ∃ A1 sg1 c R, C = clC sg1 A1 ∧ nxC A1 sg1 c R ∧ ∀ j, j < mv_cnt R.1 kd → mvN kd R j ∨ ∃ C', mvD kd R j C' ∧ C' ∈ Cs
section XRE
variable {vl : Nat → Nat} {y : ow_MS} {Cs X : List cdT} {C C0 : cdT} {kd : Nat}
theorem tb_at2 {y : ow_MS} {g p s : Nat} {Cs : List cdT} {os : List Nat} (h : tbO y g p Cs os) (hs : s < Cs.length) : ∃ A sg c, okL A c ∧ slC y g s (clC sg A) ∧ Cs[s]? = some (clC sg A) := by
  obtain ⟨A, sg, c, h1, h2⟩ := h.2.2.1 Cs[s] (List.getElem_mem hs)
  have h3 := (h.1.2.2.1 s _ (List.getElem?_eq_getElem hs)).1
  have h4 := List.getElem?_eq_getElem hs
  rw [h2] at h3 h4
  exact ⟨A, sg, c, h1, h3, h4⟩
theorem pcC_app (hl : (Cs ++ X).length ≤ 301) (h : pcC Cs C kd) : pcC (Cs ++ X) C kd := by
  obtain ⟨A1, sg1, c, R, h1, h2, h3⟩ := h
  refine ⟨A1, sg1, c, R, h1, h2, fun j hj => (h3 j hj).imp id (fun ⟨C', k1, k2⟩ => ⟨C', k1, k2.imp (fun k => List.mem_append_left _ k) (fun k => ?_)⟩)⟩
  rw [List.length_append] at hl ⊢
  omega
theorem genC_app {i : Nat} {A1 : rn_L} {sg1 : Nat → Bool} {c : Nat} {R : ow_NT} (h : genC Cs C0) (hi : i < Cs.length) (hC : Cs[i]? = some (clC sg1 A1)) (hR : nxC A1 sg1 c R) (hk : k024 kd) (hX : ∀ C, C ∈ X → ∃ j, j < mv_cnt R.1 kd ∧ mvD kd R j C) : genC (Cs ++ X) C0 := by
  have up : ∀ {a : Nat} {D : cdT}, Cs[a]? = some D → (Cs ++ X)[a]? = some D := fun h9 => by
    rw [List.getElem?_append_left (List.getElem?_eq_some_iff.mp h9).1]
    exact h9
  refine ⟨up h.1, fun a D hD => ?_⟩
  by_cases ha : a < Cs.length
  · rw [List.getElem?_append_left ha] at hD
    rcases h.2 a D hD with h9 | ⟨i', A', sg', c', R', kd', j', q1, q2, q3⟩
    · exact Or.inl h9
    · exact Or.inr ⟨i', A', sg', c', R', kd', j', q1, up q2, q3⟩
  · rw [List.getElem?_append_right (by omega)] at hD
    obtain ⟨j, j1, j2⟩ := hX D (List.mem_of_getElem? hD)
    exact Or.inr ⟨i, A1, sg1, c, R, kd, j, by omega, up hC, hR, hk, j1, j2⟩
theorem xc_reach {d c : Nat} {A : rn_L} {sg : Nat → Bool} (hN : gM y) (hd : d < 40) (hs : slC y 1000 d (clC sg A)) (hA : okL A c) : Te (fun K => ce_X6_reach vl K 12000 1000 (nI d) y) (fun y1 => gM y1 ∧ fr (coP 13000) y y1 ∧ ∃ Cs os, tbO y1 13000 301 Cs os ∧ sts Cs os ∧ 0 < os.length ∧ genC Cs (clC sg A) ∧ (os.length ≤ 300 → cloC Cs)) := by
  let Q0 : ow_MS → Prop := fun y1 => gM y1 ∧ fr (coP 13000) y y1 ∧ ∃ Cs os, tbO y1 13000 301 Cs os ∧ sts Cs os ∧ 0 < os.length ∧ genC Cs (clC sg A) ∧ (os.length ≤ 300 → cloC Cs)
  have hg4 : 13000 = 2000 ∨ 13000 = 13000 ∨ 13000 = 14000 ∨ 13000 = 15000 := Or.inr (Or.inl rfl)
  have clo : ∀ {Cs : List cdT} {i : Nat}, Cs.length ≤ i → Cs.length ≤ 300 → (∀ (a : Nat) C, a < i → Cs[a]? = some C → ∀ kd, k024 kd → pcC Cs C kd) → cloC Cs := by
    intro Cs i h1 h2 h3 C hC kd hk
    obtain ⟨a, ha, e⟩ := List.getElem_of_mem hC
    obtain ⟨A1, sg1, c1, R1, q1, q2, q3⟩ := h3 a C (by omega) (by rw [List.getElem?_eq_getElem ha, e]) kd hk
    exact ⟨A1, sg1, c1, R1, q1, q2, fun j hj => (q3 j hj).imp id (fun ⟨C', k1, k2⟩ => ⟨C', k1, k2.elim id (fun k => by omega)⟩)⟩
  have c1 : ∀ (k i : Nat) (z : ow_MS) (Cs : List cdT) (os : List Nat), i + k = 302 → gN z → fr (coP 13000) y z → tbO z 13000 301 Cs os → sts Cs os → 0 < os.length → genC Cs (clC sg A) → (∀ (a : Nat) C, a < i → Cs[a]? = some C → ∀ kd, k024 kd → pcC Cs C kd) → Tt (fun K t => c_X6_reach vl K t 1 (nI d) (nI i) 12000 1000 z) Q0 := by
    intro k
    induction k with
    | zero =>
      intro i z Cs os hi q1 q2 q3 qs q4 qg qp
      have hl := q3.2.2.2.1
      have hCl : Cs.length = os.length := q3.1.2.1
      refine u_X6_reach_1 ?_; unfold cm_X6_reach_1
      exact w_rdF q3.1.1 (w_leT (by omega) (by omega) (w_some ⟨⟨q1, tbs_co (Or.inl rfl) q2 q3.2.2.2.2 hN.2⟩, q2, Cs, os, q3, qs, q4, qg, fun h9 => clo (i := i) (by omega) (by omega) qp⟩))
    | succ k ih =>
      intro i z Cs os hi q1 q2 q3 qs q4 qg qp
      have hl := q3.2.2.2.1
      have hCl : Cs.length = os.length := q3.1.2.1
      have fin : (os.length ≤ 300 → cloC Cs) → Tt (fun _ _ => some z) Q0 := fun h9 => w_some ⟨⟨q1, tbs_co (Or.inl rfl) q2 q3.2.2.2.2 hN.2⟩, q2, Cs, os, q3, qs, q4, qg, h9⟩
      refine u_X6_reach_1 ?_; unfold cm_X6_reach_1
      refine w_rdF q3.1.1 (w_le (by omega) (by omega) (fun h9 => fin (fun h8 => clo (i := i) (by omega) (by omega) qp)) (fun hio => w_rdF q3.1.1 (w_lt (a := 300) (by omega) (by omega) (fun h9 => fin (fun h8 => by omega)) (fun _ => ?_))))
      obtain ⟨B, sgB, cB, b1, b2, b3⟩ := tb_at2 q3 (show i < Cs.length by omega)
      refine w_cs0 (xc_collect (kd := 0) tH13 (show i < 301 by omega) (by omega) b2 b1 tH13 (by omega) (by omega) (tgk hg4) (by omega) q1 q3 qs) ?_
      rintro z1 ⟨g1, g2, R1, X1, os1, gn1, gi1, gr1, g5, gs1, gx1, gy1⟩
      have hl1 : (Cs ++ X1).length = os1.length := g5.1.2.1
      have hm1 := g5.2.2.2.1
      have hi1 : i < (Cs ++ X1).length := by rw [List.length_append]; omega
      obtain ⟨B1, sgB1, cB1, b11, b12, b13⟩ := tb_at2 g5 hi1
      refine w_cs0 (xc_collect (kd := 2) tH13 (show i < 301 by omega) (by omega) b12 b11 tH13 (by omega) (by omega) (tgk hg4) (by omega) g1 g5 gs1) ?_
      rintro z2 ⟨g1', g2', R2, X2, os2, gn2, gi2, gr2, g5', gs2, gx2, gy2⟩
      have hl2 : (Cs ++ X1 ++ X2).length = os2.length := g5'.1.2.1
      have hm2 := g5'.2.2.2.1
      have hi2 : i < (Cs ++ X1 ++ X2).length := by rw [List.length_append]; omega
      obtain ⟨B2, sgB2, cB2, b21, b22, b23⟩ := tb_at2 g5' hi2
      refine w_cs0 (xc_collect (kd := 4) tH13 (show i < 301 by omega) (by omega) b22 b21 tH13 (by omega) (by omega) (tgk hg4) (by omega) g1' g5' gs2) ?_
      rintro z3 ⟨g1'', g2'', R3, X3, os3, gn3, gi3, gr3, g5'', gs3, gx3, gy3⟩
      have hl3 : (Cs ++ X1 ++ X2 ++ X3).length = os3.length := g5''.1.2.1
      have hm3 := g5''.2.2.2.1
      have up : ∀ {L Y : List cdT} {a : Nat} {D : cdT}, L[a]? = some D → (L ++ Y)[a]? = some D := fun {L Y a D} h9 => by
        rw [List.getElem?_append_left (List.getElem?_eq_some_iff.mp h9).1]
        exact h9
      have G1 := genC_app (kd := 0) qg (by omega) b3 ⟨b1, gi1, gn1, gr1⟩ (Or.inl rfl) gx1
      have G2 := genC_app (kd := 2) G1 hi1 b13 ⟨b11, gi2, gn2, gr2⟩ (Or.inr (Or.inl rfl)) gx2
      have G3 := genC_app (kd := 4) G2 hi2 b23 ⟨b21, gi3, gn3, gr3⟩ (Or.inr (Or.inr rfl)) gx3
      have P1 : pcC (Cs ++ X1) (clC sgB B) 0 := ⟨B, sgB, cB, R1, rfl, ⟨b1, gi1, gn1, gr1⟩, fun j hj => (gy1 j hj).imp id (fun ⟨C', k1, k2⟩ => ⟨C', k1, k2.imp id (fun k => by rw [hl1, k])⟩)⟩
      have P2 : pcC (Cs ++ X1 ++ X2) (clC sgB1 B1) 2 := ⟨B1, sgB1, cB1, R2, rfl, ⟨b11, gi2, gn2, gr2⟩, fun j hj => (gy2 j hj).imp id (fun ⟨C', k1, k2⟩ => ⟨C', k1, k2.imp id (fun k => by rw [hl2, k])⟩)⟩
      have P3 : pcC (Cs ++ X1 ++ X2 ++ X3) (clC sgB2 B2) 4 := ⟨B2, sgB2, cB2, R3, rfl, ⟨b21, gi3, gn3, gr3⟩, fun j hj => (gy3 j hj).imp id (fun ⟨C', k1, k2⟩ => ⟨C', k1, k2.imp id (fun k => by rw [hl3, k])⟩)⟩
      have e1 : clC sgB1 B1 = clC sgB B := Option.some.inj (b13.symm.trans (up b3))
      have e2 : clC sgB2 B2 = clC sgB B := Option.some.inj (b23.symm.trans (up (up b3)))
      rw [e1] at P2
      rw [e2] at P3
      rw [nI_1]
      refine ih (i + 1) z3 _ os3 (by omega) g1'' (fr_tr q2 (fr_tr g2 (fr_tr g2' g2''))) g5'' gs3 (by rw [List.length_append, List.length_append, List.length_append] at hl3; omega) G3 (fun a D ha hD kd hkd => ?_)
      have b33 : (Cs ++ X1 ++ X2 ++ X3).length ≤ 301 := by omega
      have b32 : (Cs ++ X1 ++ X2).length ≤ 301 := by omega
      have b31 : (Cs ++ X1).length ≤ 301 := by omega
      by_cases hai : a = i
      · rw [hai, up (up (up b3))] at hD
        cases hD
        rcases hkd with e | e | e <;> subst e
        · exact pcC_app b33 (pcC_app b32 P1)
        · exact pcC_app b33 P2
        · exact P3
      · have ha2 : a < Cs.length := by omega
        have hD2 : Cs[a]? = some D := by
          rw [List.append_assoc, List.append_assoc, List.getElem?_append_left ha2] at hD
          exact hD
        exact pcC_app b33 (pcC_app b32 (pcC_app b31 (qp a D (by omega) hD2 kd hkd)))
  refine e_X6_reach ?_
  refine u_X6_reach_0 ?_; unfold cm_X6_reach_0
  have t0 := tbO_0 (p := 301) (show byR y (13000 + 1) from hN.2.2.2.1)
  have oC := (okL_c (sg := sg) hA).2
  refine w_wrF (w_cs0 (tc_addNew tH13 ch_1000 (by omega) hd t0.1 (Nat.zero_le _) (B := clC sg A) hs oC hN.1.1.1) ?_)
  rintro z1 ⟨a1, a2, a3⟩
  have f1 : fr (coP 13000) y z1 := fr_tr (fr_F (by unfold coP cV; omega)) (fr_mono (fun q hq => Or.inr (Or.inr hq)) a3)
  have n1 : gN z1 := by
    have hk := (gN_F (x := 0) (far_cP (g := 13005) (by omega)) hN.1)
    refine ⟨dgC_fr a3 (fun q q1 q2 h9 => by unfold cV at h9; omega) hk.1, nsC_fr a3 (fun h hh q hq h9 => far_cP (g := q) (by unfold cV at h9; omega) h hh hq) hk.2.1, kdC_fr a3 (fun q h9 => by unfold cV at h9; omega) hk.2.2⟩
  rcases a1 with ⟨⟨k, k1, k2⟩, -⟩ | ⟨k, k1, k2, k3⟩
  · exact absurd k1 (Nat.not_lt_zero _)
  · rw [if_pos (show ([] : List Nat).length < 301 from by show 0 < 301; omega)] at k3
    have k0 : k = 0 := Nat.le_zero.mp k1
    refine c1 302 0 z1 [clC sg A] (insO [] k ([] : List Nat).length) (by omega) n1 f1 ⟨k3, ?_, fun C hC => ?_, ?_, a2 t0.2.2.2.2⟩ ?_ ?_ ⟨rfl, fun i C hi => ?_⟩ (fun a C ha => absurd ha (Nat.not_lt_zero _))
    · intro i j hij hj
      rw [insO_len k1] at hj
      have : j < 1 := hj
      omega
    · rw [List.mem_singleton.mp hC]
      exact ⟨A, sg, c, hA, rfl⟩
    · rw [insO_len k1]
      show 0 + 1 ≤ 301
      omega
    · intro i j hij hj
      rw [insO_len k1] at hj
      have : j < 1 := hj
      omega
    · rw [insO_len k1]
      exact Nat.succ_pos _
    · have h9 : i < 1 := (List.getElem?_eq_some_iff.mp hi).1
      exact Or.inl (by omega)
end XRE
