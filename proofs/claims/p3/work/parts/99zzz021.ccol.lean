section
/-! 99zzzzzv.ccol -/
/-! the class: Mover.collect, reach, surround; moves, simplify, way, moved, summand -/
/-- a table of codes in order, all written from components -/
def tbO (y : ow_MS) (g p : Nat) (Cs : List cdT) (os : List Nat) : Prop := tabC y g Cs os ∧ srt Cs os ∧ (∀ C, C ∈ Cs → okC C) ∧ os.length ≤ p ∧ byR y (g + 1)
theorem tbO_fr {P : Nat → Prop} {y y1 : ow_MS} {g p : Nat} {Cs : List cdT} {os : List Nat} (hf : fr P y y1) (hP : ∀ q, cV g q → ¬ P q) (h : tbO y g p Cs os) : tbO y1 g p Cs os := ⟨tabC_fr hf hP h.1, h.2.1, h.2.2.1, h.2.2.2.1, byR_fr hf (hP _ ⟨by omega, by omega⟩) h.2.2.2.2⟩
/-- number j of the moves of a kind makes a net with the code C -/
def mvD (kd : Nat) (R : ow_NT) (j : Nat) (C : cdT) : Prop := ∃ F P Q Ds qs, mv_mk kd R F P ∧ ow_b24 Q.2.2.1 ∧ mv_B kd j Q R F P = true ∧ cpZ (mv_T kd j Q R F P) (np_parts (mv_T kd j Q R F P).1 (mv_T kd j Q R F P).2.2.1.1).2 Ds qs ∧ C = enC (mv_T kd j Q R F P) Ds qs
def mvN (kd : Nat) (R : ow_NT) (j : Nat) : Prop := ∃ F P Q, mv_mk kd R F P ∧ ow_b24 Q.2.2.1 ∧ mv_B kd j Q R F P = false
def coP (g' g : Nat) : Prop := 16001 ≤ g ∧ g ≤ 19002 ∨ 20004 ≤ g ∧ g ≤ 23005 ∨ cV g' g
section CC5
variable {vl : Nat → Nat} {y : ow_MS} {g g' p p' s : Nat} {Cs : List cdT} {os : List Nat} {A : rn_L} {sg : Nat → Bool} {c kd : Nat}
theorem gN_co {y1 : ow_MS} (h16 : g' + 6 ≤ 16000) (hg2 : 2000 ≤ g') (hgk : ∀ q, cV g' q → q ≠ 8001 ∧ q ≠ 9001 ∧ q ≠ 10001 ∧ (q < 4001 ∨ 5011 < q)) (hf : fr (coP g') y y1) (hN : gN y) (hn : (∃ T, cAt y1 16000 T ∧ ow_b24 T.2.2.1) ∧ ∃ T, cAt y1 17000 T ∧ ow_b24 T.2.2.1) (hb : byR y1 21001 ∧ byR y1 22001 ∧ byR y1 23001) : gN y1 := by
  refine ⟨dgC_fr hf (fun q q1 q2 h9 => by unfold coP cV at h9; omega) hN.1, fun h hh => ?_, fun k hk => ?_⟩
  · by_cases e1 : h = 16000
    · rw [e1]
      exact hn.1
    · by_cases e2 : h = 17000
      · rw [e2]
        exact hn.2
      · obtain ⟨T, t1, t2⟩ := hN.2.1 h hh
        have key : ∀ a, a ∈ nHL → a = 4000 ∨ a = 5000 ∨ a = 16000 ∨ a = 17000 ∨ 26000 ≤ a := by decide
        have hk := key h hh
        refine ⟨T, cAt_fr hf (fun q hq h9 => ?_) t1, t2⟩
        unfold cP at hq
        unfold coP at h9
        rcases h9 with h9 | h9 | h9
        · omega
        · omega
        · have h8 := hgk q h9
          unfold cV at h9
          omega
  · rcases hk with rfl | rfl
    · have hb7 := hN.2.2 7000 (Or.inl rfl)
      have ne : ∀ q, q = 8001 ∨ q = 9001 ∨ q = 10001 → ¬ coP g' q := by
        intro q hq h9
        unfold coP at h9
        rcases h9 with h9 | h9 | h9
        · omega
        · omega
        · have h8 := hgk q h9
          omega
      exact ⟨byR_fr hf (ne _ (by omega)) hb7.1, byR_fr hf (ne _ (by omega)) hb7.2.1, byR_fr hf (ne _ (by omega)) hb7.2.2⟩
    · exact hb
theorem u_X6_collect_2 {vl : Nat → Nat} {x2 : Int32} {x3 : Int32} {x5 : Int32} {x6 : Int32} {r0 : Nat} {r1 : Nat} {r4 : Nat} {z : ow_MS} {Q : ow_MS → Prop} (H : Tt (fun K k => cm_X6_collect_2 vl K (c_X6_collect vl K k) x2 x3 x5 x6 r0 r1 r4 z) Q) : Tt (fun K k => c_X6_collect vl K k 2 x2 x3 x5 x6 r0 r1 r4 z) Q := w_un (fun _ _ => rfl) H
theorem u_X6_collect_3 {vl : Nat → Nat} {x2 : Int32} {x3 : Int32} {x5 : Int32} {x6 : Int32} {r0 : Nat} {r1 : Nat} {r4 : Nat} {z : ow_MS} {Q : ow_MS → Prop} (H : Tt (fun K k => cm_X6_collect_3 vl K (c_X6_collect vl K k) x2 x3 x5 x6 r0 r1 r4 z) Q) : Tt (fun K k => c_X6_collect vl K k 3 x2 x3 x5 x6 r0 r1 r4 z) Q := w_un (fun _ _ => rfl) H
theorem u_X6_collect_1 {vl : Nat → Nat} {x2 : Int32} {x3 : Int32} {x5 : Int32} {x6 : Int32} {r0 : Nat} {r1 : Nat} {r4 : Nat} {z : ow_MS} {Q : ow_MS → Prop} (H : Tt (fun K k => cm_X6_collect_1 vl K (c_X6_collect vl K k) x2 x3 x5 x6 r0 r1 r4 z) Q) : Tt (fun K k => c_X6_collect vl K k 1 x2 x3 x5 x6 r0 r1 r4 z) Q := w_un (fun _ _ => rfl) H
theorem e_X6_collect {vl : Nat → Nat} {r0 : Nat} {r1 : Nat} {x2 : Int32} {x3 : Int32} {r4 : Nat} {z : ow_MS} {Q : ow_MS → Prop} (H : Tt (fun K k => c_X6_collect vl K k 0 x2 x3 0 0 r0 r1 r4 z) Q) : Te (fun K => ce_X6_collect vl K r0 r1 x2 x3 r4 z) Q := w_te H
theorem u_X6_collect_0 {vl : Nat → Nat} {x2 : Int32} {x3 : Int32} {x5 : Int32} {x6 : Int32} {r0 : Nat} {r1 : Nat} {r4 : Nat} {z : ow_MS} {Q : ow_MS → Prop} (H : Tt (fun K k => cm_X6_collect_0 vl K (c_X6_collect vl K k) x2 x3 x5 x6 r0 r1 r4 z) Q) : Tt (fun K k => c_X6_collect vl K k 0 x2 x3 x5 x6 r0 r1 r4 z) Q := w_un (fun _ _ => rfl) H
theorem tc_collect (hg : tH g p) (hs : s < p) (hg16 : g + 6 ≤ 16000) (hC : slC y g s (clC sg A)) (hA : okL A c) (hg' : tH g' p') (h16 : g' + 6 ≤ 16000) (hg2 : 2000 ≤ g') (hgk : ∀ q, cV g' q → q ≠ 8001 ∧ q ≠ 9001 ∧ q ≠ 10001 ∧ (q < 4001 ∨ 5011 < q)) (hk : kd < 5) (hN : gN y) (hT : tbO y g' p' Cs os) : Te (fun K => ce_X6_collect vl K 12000 g (nI s) (nI kd) g' y) (fun y1 => gN y1 ∧ fr (coP g') y y1 ∧ ∃ R X os', nv R ∧ isoN A sg (fun x => x) R ∧ tbO y1 g' p' (Cs ++ X) os' ∧ (∀ C, C ∈ X → ∃ j, j < mv_cnt R.1 kd ∧ mvD kd R j C) ∧ ∀ j, j < mv_cnt R.1 kd → mvN kd R j ∨ ∃ C, mvD kd R j C ∧ (C ∈ Cs ++ X ∨ os'.length = p')) := by
  let Q0 : ow_MS → Prop := fun y1 => gN y1 ∧ fr (coP g') y y1 ∧ ∃ R X os', nv R ∧ isoN A sg (fun x => x) R ∧ tbO y1 g' p' (Cs ++ X) os' ∧ (∀ C, C ∈ X → ∃ j, j < mv_cnt R.1 kd ∧ mvD kd R j C) ∧ ∀ j, j < mv_cnt R.1 kd → mvN kd R j ∨ ∃ C, mvD kd R j C ∧ (C ∈ Cs ++ X ∨ os'.length = p')
  have hpp := tH_p hg'
  obtain ⟨T0, t01, t02⟩ := hN.2.1 16000 nH16
  have hk2 : kH 20000 := Or.inr rfl
  -- the loop over the numbers
  have main : ∀ (R : ow_NT) (F P : Nat → Int32) (z0 : ow_MS), nv R → isoN A sg (fun x => x) R → mv_mk kd R F P → cAt z0 16000 R → (∀ k, z0.2.1 18001 k = F k) → (∀ k, z0.2.1 16006 k = P k) → fr (coP g') y z0 → (∃ Q, cAt z0 17000 Q ∧ ow_b24 Q.2.2.1) → tbO z0 g' p' Cs os → (byR z0 21001 ∧ byR z0 22001 ∧ byR z0 23001) → Tt (fun K t => c_X6_collect vl K t 1 (nI s) (nI kd) 0 0 12000 g g' z0) Q0 := by
    intro R F P z0 hR hiso hmk r0 r1 r2 r3 r4 r5 r6
    have hR6 : R.2.1 ≤ 6 := by have := hR.2.2.2; omega
    have c2 : ∀ (d j : Nat) (z : ow_MS) (X : List cdT) (os1 : List Nat), j + d = mv_cnt R.1 kd → cAt z 16000 R → (∀ k, z.2.1 18001 k = F k) → (∀ k, z.2.1 16006 k = P k) → fr (coP g') y z → (∃ Q, cAt z 17000 Q ∧ ow_b24 Q.2.2.1) → tbO z g' p' (Cs ++ X) os1 → (byR z 21001 ∧ byR z 22001 ∧ byR z 23001) → (∀ C, C ∈ X → ∃ i, i < mv_cnt R.1 kd ∧ mvD kd R i C) → (∀ i, i < j → mvN kd R i ∨ ∃ C, mvD kd R i C ∧ (C ∈ Cs ++ X ∨ os1.length = p')) → Tt (fun K t => c_X6_collect vl K t 2 (nI s) (nI kd) (nI (mv_cnt R.1 kd)) (nI j) 12000 g g' z) Q0 := by
      intro d
      have hcb := cnt_b (c := R.1) hR.2.1 hk
      induction d with
      | zero =>
        intro j z X os1 hj q0 q1 q2 q3 q4 q5 q6 q7 q8
        have ej : j = mv_cnt R.1 kd := by omega
        refine u_X6_collect_2 ?_; unfold cm_X6_collect_2
        refine w_leT (by omega) (by omega) (w_some ⟨gN_co h16 hg2 hgk q3 hN ⟨⟨R, q0, hR.2.2.1⟩, q4⟩ q6, q3, R, X, os1, hR, hiso, q5, q7, fun i hi => q8 i (by omega)⟩)
      | succ d ih =>
        intro j z X os1 hj q0 q1 q2 q3 q4 q5 q6 q7 q8
        obtain ⟨Q, Q1, Q2⟩ := q4
        have hjl : j < mv_cnt R.1 kd := by omega
        have hS : mvS z R Q := ⟨q0, Q1, hR.2.2.1, Q2, hR.2.1, hR6⟩
        obtain ⟨hb9, hnv⟩ := mv_nv hR hk F P Q j hmk Q2 hjl
        refine u_X6_collect_2 ?_; unfold cm_X6_collect_2
        refine w_leF (by omega) (by omega) (w_cs1 (tc_make hS hR.1 hk hjl q1 q2) ?_)
        rintro r z1 ⟨e1, e2, e3⟩
        dsimp only at e1 e2 e3
        rw [e1]
        have k16 : cAt z1 16000 R := cAt_fr e3 (fun q hq h9 => by unfold cP at hq; unfold mvP at h9; omega) q0
        have k18 : ∀ k, z1.2.1 18001 k = F k := fun k => by rw [(e3 18001 (by unfold mvP; omega)).2.1]; exact q1 k
        have k66 : ∀ k, z1.2.1 16006 k = P k := fun k => by rw [(e3 16006 (by unfold mvP; omega)).2.1]; exact q2 k
        have kf : fr (coP g') y z1 := fr_tr q3 (fr_mono (fun q hq => by unfold mvP at hq; unfold coP; omega) e3)
        have kt : tbO z1 g' p' (Cs ++ X) os1 := tbO_fr e3 (fun q hq h9 => by unfold cV at hq; unfold mvP at h9; omega) q5
        have kb : byR z1 21001 ∧ byR z1 22001 ∧ byR z1 23001 := ⟨byR_fr e3 (by unfold mvP; omega) q6.1, byR_fr e3 (by unfold mvP; omega) q6.2.1, byR_fr e3 (by unfold mvP; omega) q6.2.2⟩
        have c3 : ∀ (z2 : ow_MS) (X2 : List cdT) (os2 : List Nat), cAt z2 16000 R → (∀ k, z2.2.1 18001 k = F k) → (∀ k, z2.2.1 16006 k = P k) → fr (coP g') y z2 → (∃ Q, cAt z2 17000 Q ∧ ow_b24 Q.2.2.1) → tbO z2 g' p' (Cs ++ X2) os2 → (byR z2 21001 ∧ byR z2 22001 ∧ byR z2 23001) → (∀ C, C ∈ X2 → ∃ i, i < mv_cnt R.1 kd ∧ mvD kd R i C) → (∀ i, i < j + 1 → mvN kd R i ∨ ∃ C, mvD kd R i C ∧ (C ∈ Cs ++ X2 ∨ os2.length = p')) → Tt (fun K t => c_X6_collect vl K t 3 (nI s) (nI kd) (nI (mv_cnt R.1 kd)) (nI j) 12000 g g' z2) Q0 := by
          intro z2 X2 os2 p0 p1 p2 p3 p4 p5 p6 p7 p8
          refine u_X6_collect_3 ?_; unfold cm_X6_collect_3
          rw [nI_1]
          exact ih (j + 1) z2 X2 os2 (by omega) p0 p1 p2 p3 p4 p5 p6 p7 p8
        refine w_if (fun e0 => ?_) (fun e0 => ?_)
        · refine c3 z1 X os1 k16 k18 k66 kf ⟨_, e2, hb9⟩ kt kb q7 (fun i hi => ?_)
          by_cases ei : i = j
          · rw [ei]
            exact Or.inl ⟨F, P, Q, hmk, Q2, zI_e e0⟩
          · exact q8 i (by omega)
        · have hB := zI_ne e0
          have hv := hnv hB
          refine w_cs0 (tc_encode hk2 nH17 e2 hv kb.1 kb.2.1 kb.2.2) ?_
          rintro z2 ⟨⟨Ds, qs, d1, d2, d3⟩, b1, b2, b3, hy2, f2⟩
          have n2 : ∀ q, enP 20000 17000 q → 17001 ≤ q ∧ q ≤ 17011 ∨ 20004 ≤ q ∧ q ≤ 23005 := fun q hq => by
            unfold enP cpP epP cV cQ at hq
            omega
          have hD : mvD kd R j (enC (mv_T kd j Q R F P) Ds qs) := ⟨F, P, Q, Ds, qs, hmk, Q2, hB, d1, rfl⟩
          have hokC : okC (enC (mv_T kd j Q R F P) Ds qs) := by
            obtain ⟨A', sg', o1, o2, -⟩ := enc_ok hv d1
            exact ⟨A', sg', _, o1, o2⟩
          have kt2 : tbO z2 g' p' (Cs ++ X) os1 := tbO_fr f2 (fun q hq h9 => by have := n2 q h9; unfold cV at hq; omega) kt
          refine w_cs0 (tc_addNew hg' (kH_out hk2) (by omega) Nat.one_pos kt2.1 kt2.2.2.2.1 d2 d3 b1) ?_
          rintro z3 ⟨a1, a2, a3⟩
          have m16 : cAt z3 16000 R := cAt_fr a3 (fun q hq h9 => by unfold cP at hq; unfold cV at h9; omega) (cAt_fr f2 (fun q hq h9 => by have := n2 q h9; unfold cP at hq; omega) k16)
          have m17 : cAt z3 17000 (mv_T kd j Q R F P) := cAt_fr a3 (fun q hq h9 => by unfold cP at hq; unfold cV at h9; omega) hy2
          have m18 : ∀ k, z3.2.1 18001 k = F k := fun k => by
            rw [(a3 18001 (by unfold cV; omega)).2.1, (f2 18001 (fun h9 => by have := n2 _ h9; omega)).2.1]
            exact k18 k
          have m66 : ∀ k, z3.2.1 16006 k = P k := fun k => by
            rw [(a3 16006 (by unfold cV; omega)).2.1, (f2 16006 (fun h9 => by have := n2 _ h9; omega)).2.1]
            exact k66 k
          have mf : fr (coP g') y z3 := fr_tr kf (fr_tr (fr_mono (fun q hq => by have := n2 q hq; unfold coP; omega) f2) (fr_mono (fun q hq => Or.inr (Or.inr hq)) a3))
          have mb : byR z3 21001 ∧ byR z3 22001 ∧ byR z3 23001 := ⟨byR_fr a3 (by unfold cV; omega) b1, byR_fr a3 (by unfold cV; omega) b2, byR_fr a3 (by unfold cV; omega) b3⟩
          have mby : byR z3 (g' + 1) := a2 kt2.2.2.2.2
          rcases a1 with ⟨⟨k, k1, k2⟩, rfl⟩ | ⟨k, k1, k2, k3⟩
          · refine c3 z3 X os1 m16 m18 m66 mf ⟨_, m17, hb9⟩ kt2 mb q7 (fun i hi => ?_)
            by_cases ei : i = j
            · rw [ei]
              refine Or.inr ⟨_, hD, Or.inl ?_⟩
              rw [← k2]
              obtain ⟨s9, s91, s92, s93, s94⟩ := tab_at kt2.1 k1
              unfold atC
              have hk9 : (Cs ++ X).length = os1.length := kt2.1.2.1
              have hso : os1.getD k 0 < (Cs ++ X).length := by
                rw [List.getD_eq_getElem?_getD, List.getElem?_eq_getElem k1]
                exact (kt2.1.2.2.2 k _ (List.getElem?_eq_getElem k1)).2
              rw [List.getD_eq_getElem?_getD (l := Cs ++ X), List.getElem?_eq_getElem hso]
              exact List.getElem_mem hso
            · exact q8 i (by omega)
          · by_cases hl : os1.length < p'
            · rw [if_pos hl] at k3
              have hmo := k2 (srt_mo kt2.2.1 _)
              have hT3 : tbO z3 g' p' (Cs ++ (X ++ [enC (mv_T kd j Q R F P) Ds qs])) (insO os1 k os1.length) := by
                rw [← List.append_assoc]
                refine ⟨k3, srt_ins k1 kt2.1.2.1 (tabC_os kt2.1) kt2.2.1 (fun i hi => Int.le_of_lt (hmo.1 i hi)) (fun i h1 h2 => ?_), fun C hC => ?_, by rw [insO_len k1]; omega, mby⟩
                · have := hmo.2 i h1 h2
                  have := cmpC_sym (A := enC (mv_T kd j Q R F P) Ds qs) (B := atC (Cs ++ X) os1 i)
                  omega
                · rcases List.mem_append.mp hC with h9 | h9
                  · exact kt2.2.2.1 C h9
                  · rw [List.mem_singleton.mp h9]
                    exact hokC
              refine c3 z3 _ _ m16 m18 m66 mf ⟨_, m17, hb9⟩ hT3 mb (fun C hC => ?_) (fun i hi => ?_)
              · rcases List.mem_append.mp hC with h9 | h9
                · exact q7 C h9
                · rw [List.mem_singleton.mp h9]
                  exact ⟨j, hjl, hD⟩
              · by_cases ei : i = j
                · rw [ei]
                  exact Or.inr ⟨_, hD, Or.inl (List.mem_append_right _ (List.mem_append_right _ (List.mem_singleton.mpr rfl)))⟩
                · rcases q8 i (by omega) with h9 | ⟨C, h9, h8 | h8⟩
                  · exact Or.inl h9
                  · refine Or.inr ⟨C, h9, Or.inl ?_⟩
                    rw [← List.append_assoc]
                    exact List.mem_append_left _ h8
                  · omega
            · rw [if_neg hl] at k3
              have hfull : os1.length = p' := by
                have := kt2.2.2.2.1
                omega
              refine c3 z3 X os1 m16 m18 m66 mf ⟨_, m17, hb9⟩ ⟨k3, kt2.2.1, kt2.2.2.1, kt2.2.2.2.1, mby⟩ mb q7 (fun i hi => ?_)
              by_cases ei : i = j
              · rw [ei]
                exact Or.inr ⟨_, hD, Or.inr hfull⟩
              · exact q8 i (by omega)
    refine u_X6_collect_1 ?_; unfold cm_X6_collect_1
    refine w_cs1 (tc_countNumbers r0.1 hR.2.1 hk) ?_
    rintro v z1 ⟨e1, e2⟩
    dsimp only at e1 e2
    rw [e1, e2]
    exact c2 (mv_cnt R.1 kd) 0 z0 [] os (by omega) r0 r1 r2 r3 r4 (by rw [List.append_nil]; exact r5) r6 (fun C hC => by cases hC) (fun i hi => absurd hi (Nat.not_lt_zero _))
  have hbk := hN.2.2 20000 hk2
  refine e_X6_collect ?_
  refine u_X6_collect_0 ?_; unfold cm_X6_collect_0
  refine w_cs0 (tc_load2 nH16 hg (by omega) hs hA hC t01 t02) ?_
  rintro y1 ⟨⟨R, hR, hR1, hR2⟩, f1⟩
  have n1 : ∀ q, cL 16000 q → 16001 ≤ q ∧ q ≤ 16010 := fun q hq => by unfold cL at hq; omega
  have f1c : fr (coP g') y y1 := fr_mono (fun q hq => by have := n1 q hq; unfold coP; omega) f1
  have hT1 : tbO y1 g' p' Cs os := tbO_fr f1 (fun q hq h9 => by have := n1 q h9; unfold cV at hq; omega) hT
  have hQ1 : ∃ Q, cAt y1 17000 Q ∧ ow_b24 Q.2.2.1 := by
    obtain ⟨Q, a1, a2⟩ := hN.2.1 17000 nH17
    exact ⟨Q, cAt_fr f1 (fun q hq h9 => by have := n1 q h9; unfold cP at hq; omega) a1, a2⟩
  have hb1 : byR y1 21001 ∧ byR y1 22001 ∧ byR y1 23001 := ⟨byR_fr f1 (fun h9 => by have := n1 _ h9; omega) hbk.1, byR_fr f1 (fun h9 => by have := n1 _ h9; omega) hbk.2.1, byR_fr f1 (fun h9 => by have := n1 _ h9; omega) hbk.2.2⟩
  have hv := hR.2.2.1
  by_cases e3 : kd = 3
  · refine w_ifT (by rw [e3]; rfl) (w_cs0 (tc_markParts nH16 hR.1 (fun a ha => (hv.1 a ha).1) hv.2.1) ?_)
    rintro y2 ⟨m1, m2, m3⟩
    have hy2 : cAt y2 16000 R := cAt_fr m3 (fun q hq h9 => by unfold cP at hq; unfold cQ at h9; omega) hR.1
    refine w_cs0 (tc_faces (f := 18000) nH16 (Or.inr (Or.inl rfl)) (by omega) hy2 hv.2.2.1 hv.1 hv.2.1) ?_
    rintro y3 ⟨g1, g2, g3⟩
    have hof := np_parts_of (N := R.2.2.1.1) (c := R.1) (fun a ha => (hv.1 a ha).1) hv.2.1 (y1.2.1 (16000 + 6))
    have hfa := mr_out_rl (fun a ha => fc_on_vn hv.1 R.2.2.2 ha) (rl_fill (4 * R.1) (y2.2.1 (18000 + 1)) (-1)) (4 * R.1) (Nat.le_refl _)
    have u2 : ∀ q, cQ 16000 q → 16001 ≤ q ∧ q ≤ 16011 := fun q hq => by unfold cQ at hq; omega
    have u3 : ∀ q, cF 18000 q → q = 18001 ∨ q = 18002 := fun q hq => by unfold cF at hq; omega
    refine main R (y3.2.1 18001) (y3.2.1 16006) y3 hv hR.2.1 (fun _ => ⟨fun k hk9 => ?_, fun k hk9 => ?_⟩) (cAt_fr g3 (fun q hq h9 => by have := u3 q h9; unfold cP at hq; omega) hy2) (fun _ => rfl) (fun _ => rfl) (fr_tr f1c (fr_tr (fr_mono (fun q hq => by have := u2 q hq; unfold coP; omega) m3) (fr_mono (fun q hq => by have := u3 q hq; unfold coP; omega) g3))) ?_ (tbO_fr g3 (fun q hq h9 => by have := u3 q h9; unfold cV at hq; omega) (tbO_fr m3 (fun q hq h9 => by have := u2 q h9; unfold cV at hq; omega) hT1)) ⟨byR_fr g3 (fun h9 => by have := u3 _ h9; omega) (byR_fr m3 (fun h9 => by have := u2 _ h9; omega) hb1.1), byR_fr g3 (fun h9 => by have := u3 _ h9; omega) (byR_fr m3 (fun h9 => by have := u2 _ h9; omega) hb1.2.1), byR_fr g3 (fun h9 => by have := u3 _ h9; omega) (byR_fr m3 (fun h9 => by have := u2 _ h9; omega) hb1.2.2)⟩
    · rw [(g3 16006 (fun h9 => by have := u3 _ h9; omega)).2.1]
      exact (m1 k).trans (hof.1 k hk9)
    · exact (g1 k).trans (hfa.1 k hk9)
    · obtain ⟨Q, a1, a2⟩ := hQ1
      exact ⟨Q, cAt_fr g3 (fun q hq h9 => by have := u3 q h9; unfold cP at hq; omega) (cAt_fr m3 (fun q hq h9 => by have := u2 q h9; unfold cP at hq; omega) a1), a2⟩
  · refine w_ifF (fun h9 => e3 (nI_inj9 (a := kd) (b := 3) (by omega) (by omega) h9)) ?_
    exact main R (y1.2.1 18001) (y1.2.1 16006) y1 hv hR.2.1 (fun h9 => absurd h9 e3) hR.1 (fun _ => rfl) (fun _ => rfl) f1c hQ1 hT1 hb1
end CC5
end
section
/-! 99zzzzzw.cway -/
/-! the class: reach, surround; moves, simplify, way, moved, summand -/
/-- the tables that calls leave -/
def tbs (y : ow_MS) : Prop := (∃ Cs os, tbO y 2000 1848 Cs os) ∧ (∃ Cs os, tbO y 3000 12 Cs os) ∧ byR y 13001 ∧ byR y 14001 ∧ byR y 15001
def gM (y : ow_MS) : Prop := gN y ∧ tbs y
theorem tH2 : tH 2000 1848 := by unfold tH; decide
theorem tH3 : tH 3000 12 := by unfold tH; decide
theorem tH13 : tH 13000 301 := by unfold tH; decide
theorem tH14 : tH 14000 480 := by unfold tH; decide
theorem tH15 : tH 15000 480 := by unfold tH; decide
theorem tbs_fr {P : Nat → Prop} {y y1 : ow_MS} (hf : fr P y y1) (hP : ∀ g, P g → ¬ (2001 ≤ g ∧ g ≤ 2005 ∨ 3001 ≤ g ∧ g ≤ 3005 ∨ g = 13001 ∨ g = 14001 ∨ g = 15001)) (h : tbs y) : tbs y1 := by
  obtain ⟨⟨C2, o2, h2⟩, ⟨C3, o3, h3⟩, h4, h5, h6⟩ := h
  refine ⟨⟨C2, o2, tbO_fr hf (fun q hq h9 => hP q h9 (by unfold cV at hq; omega)) h2⟩, ⟨C3, o3, tbO_fr hf (fun q hq h9 => hP q h9 (by unfold cV at hq; omega)) h3⟩, byR_fr hf (fun h9 => hP _ h9 (by omega)) h4, byR_fr hf (fun h9 => hP _ h9 (by omega)) h5, byR_fr hf (fun h9 => hP _ h9 (by omega)) h6⟩
theorem gM_u {y y1 : ow_MS} (hf : fr uP y y1) (hN : gN y1) (h : gM y) : gM y1 := ⟨hN, tbs_fr hf (fun g hg => by unfold uP at hg; omega) h.2⟩
theorem tbO_0 {y : ow_MS} {g p : Nat} (hb : byR y (g + 1)) : tbO (usF y (g + 5) 0) g p [] [] := ⟨⟨po_usF_at, rfl, fun s C e => (by rw [List.getElem?_nil] at e; cases e), fun k s e => (by rw [List.getElem?_nil] at e; cases e)⟩, fun i j _ hj => absurd hj (Nat.not_lt_zero _), fun C hC => (by cases hC), Nat.zero_le _, hb⟩
theorem tb_at {y : ow_MS} {g p s : Nat} {Cs : List cdT} {os : List Nat} (h : tbO y g p Cs os) (hs : s < Cs.length) : ∃ A sg c, okL A c ∧ slC y g s (clC sg A) := by
  obtain ⟨A, sg, c, h1, h2⟩ := h.2.2.1 Cs[s] (List.getElem_mem hs)
  have h3 := (h.1.2.2.1 s _ (List.getElem?_eq_getElem hs)).1
  rw [h2] at h3
  exact ⟨A, sg, c, h1, h3⟩
theorem gN_F {y : ow_MS} {g : Nat} {x : Int32} (hg : ∀ h, nH h → ¬ cP h g) (h : gN y) : gN (usF y g x) := by
  refine ⟨h.1, nsC_fr (P := fun q => q = g) (fr_F rfl) (fun h' hh' q hq h9 => hg h' hh' (by rw [← h9]; exact hq)) h.2.1, h.2.2⟩
theorem far_cP {g : Nat} (hg : g < 4001 ∨ 5011 < g ∧ g < 16001) : ∀ h, nH h → ¬ cP h g := by
  intro h hh h9
  have key : ∀ a, a ∈ nHL → a = 4000 ∨ a = 5000 ∨ 16000 ≤ a := by decide
  have := key h hh
  unfold cP at h9
  omega
/-- a code with a place: what stays -/
theorem gN_put {y y1 : ow_MS} {d : Nat} {C : cdT} (hN : gN y) (hC : okC C) (w1 : slC y1 1000 d C) (w2 : ∀ t D, t ≠ d → cOK D → slC y 1000 t D → slC y1 1000 t D) (w3 : byR y 1001 → byR y1 1001) (w4 : fr (cW 1000) y y1) : gN y1 := by
  refine ⟨⟨w3 hN.1.1, fun e he => ?_⟩, nsC_fr w4 (fun h' hh' g hg h9 => ?_) hN.2.1, kdC_fr w4 (fun g h9 => ?_) hN.2.2⟩
  · by_cases ed : e = d
    · rw [ed]
      by_cases el : C.2 = []
      · refine Or.inl ⟨C.1, (okC_ok hC).1, ?_⟩
        have : C = (C.1, []) := Prod.ext rfl el
        rw [← this]
        exact w1
      · exact Or.inr ⟨_, w1, hC, List.length_pos_iff.mpr el⟩
    · rcases hN.1.2 e he with ⟨c, c1, c2⟩ | ⟨D, c1, c2, c3⟩
      · exact Or.inl ⟨c, c1, w2 e _ ed ⟨c1, Nat.zero_le _, fun a ha => by cases ha⟩ c2⟩
      · exact Or.inr ⟨D, w2 e D ed (okC_ok c2) c1, c2, c3⟩
  · have h4 : 4000 ≤ h' := nH_all (P := fun h => 4000 ≤ h) (by decide) hh'
    unfold cP at hg
    unfold cW at h9
    omega
  · unfold cW at h9
    omega
def vP (g : Nat) : Prop := 1001 ≤ g ∧ g ≤ 1005 ∨ 2001 ≤ g ∧ g ≤ 2005 ∨ 13001 ≤ g ∧ g ≤ 19002 ∨ 20004 ≤ g ∧ g ≤ 23005
section CW2
variable {vl : Nat → Nat} {y : ow_MS} {x x' : Int32}
theorem co_v {g' : Nat} {y1 : ow_MS} (h : g' = 2000 ∨ g' = 13000 ∨ g' = 14000 ∨ g' = 15000) (hf : fr (coP g') y y1) : fr vP y y1 := fr_mono (fun g hg => by unfold coP cV at hg; unfold vP; omega) hf
theorem tgk {g' : Nat} (h : g' = 2000 ∨ g' = 13000 ∨ g' = 14000 ∨ g' = 15000) : ∀ q, cV g' q → q ≠ 8001 ∧ q ≠ 9001 ∧ q ≠ 10001 ∧ (q < 4001 ∨ 5011 < q) := by
  intro q hq
  unfold cV at hq
  omega
theorem e_X11_moves {vl : Nat → Nat} {r0 : Nat} {x1 : Int32} {x2 : Int32} {z : ow_MS} {Q : (Nat × Int32 × ow_MS) → Prop} (H : Tt (fun K _ => cm_X11_moves_0 vl K x1 x2 r0 z) Q) : Te (fun K => ce_X11_moves vl K r0 x1 x2 z) Q := w_te0 H
theorem tc_moves (hN : gM y) : Te (fun K => ce_X11_moves vl K 0 x x' y) (fun r => gM r.2.2 ∧ fr vP y r.2.2) := by
  refine e_X11_moves ?_; unfold cm_X11_moves_0
  refine w_tc0 (tc_need hN.1.1) ?_ ?_
  · rintro y1 ⟨h1, rfl⟩
    rcases h1 with ⟨-, d, A, sg, c, hd, rfl, hs, hA, hne⟩ | h1
    · refine w_if (fun _ => w_some ⟨hN, fr_rf⟩) (fun e0 => ?_)
      obtain ⟨kd, k31, rfl⟩ := nI_of e0
      refine w_lt (b := 5) k31 (by omega) (fun hk => ?_) (fun _ => w_some ⟨hN, fr_rf⟩)
      obtain ⟨⟨C2, o2, t2⟩, t3, t4, t5, t6⟩ := id hN.2
      refine w_wrF (w_cs0 (tc_collect ch_1000 hd (by omega) hs hA tH2 (by omega) (Nat.le_refl _) (tgk (Or.inl rfl)) hk (gN_F (far_cP (by omega)) hN.1) (tbO_0 t2.2.2.2.2)) ?_)
      rintro y2 ⟨g1, g2, R, X, os', g3, g4, g5, g6, g7⟩
      refine w_rdF rfl (w_some ⟨⟨g1, ⟨_, os', g5⟩, ?_⟩, ?_⟩)
      · have hf : fr (coP 2000) y1 y2 := fr_tr (fr_F (by unfold coP cV; omega)) g2
        obtain ⟨C3, o3, h3⟩ := t3
        exact ⟨⟨C3, o3, tbO_fr hf (fun q hq h9 => by unfold cV at hq; unfold coP cV at h9; omega) h3⟩, byR_fr hf (by unfold coP cV; omega) t4, byR_fr hf (by unfold coP cV; omega) t5, byR_fr hf (by unfold coP cV; omega) t6⟩
      · exact fr_tr (fr_F (by unfold vP; omega)) (co_v (Or.inl rfl) g2)
    · exact absurd (show (0 : Nat) = 1 from h1.1) (by decide)
  · rintro a y1 ha ⟨h1, rfl⟩
    exact w_some ⟨hN, fr_rf⟩
/-- what a call of the mover leaves of the tables it does not name -/
theorem tbs_co {g' : Nat} {y1 : ow_MS} (h : g' = 13000 ∨ g' = 14000 ∨ g' = 15000) (hf : fr (coP g') y y1) (hb : byR y1 (g' + 1)) (ht : tbs y) : tbs y1 := by
  obtain ⟨⟨C2, o2, h2⟩, ⟨C3, o3, h3⟩, h4, h5, h6⟩ := ht
  refine ⟨⟨C2, o2, tbO_fr hf (fun q hq h9 => by unfold cV at hq; unfold coP cV at h9; omega) h2⟩, ⟨C3, o3, tbO_fr hf (fun q hq h9 => by unfold cV at hq; unfold coP cV at h9; omega) h3⟩, ?_⟩
  rcases h with rfl | rfl | rfl
  · exact ⟨hb, byR_fr hf (by unfold coP cV; omega) h5, byR_fr hf (by unfold coP cV; omega) h6⟩
  · exact ⟨byR_fr hf (by unfold coP cV; omega) h4, hb, byR_fr hf (by unfold coP cV; omega) h6⟩
  · exact ⟨byR_fr hf (by unfold coP cV; omega) h4, byR_fr hf (by unfold coP cV; omega) h5, hb⟩
theorem u_X6_surround_1 {vl : Nat → Nat} {x2 : Int32} {x4 : Int32} {r0 : Nat} {r1 : Nat} {r3 : Nat} {z : ow_MS} {Q : ow_MS → Prop} (H : Tt (fun K k => cm_X6_surround_1 vl K (c_X6_surround vl K k) x2 x4 r0 r1 r3 z) Q) : Tt (fun K k => c_X6_surround vl K k 1 x2 x4 r0 r1 r3 z) Q := w_un (fun _ _ => rfl) H
theorem e_X6_surround {vl : Nat → Nat} {r0 : Nat} {r1 : Nat} {x2 : Int32} {r3 : Nat} {z : ow_MS} {Q : ow_MS → Prop} (H : Tt (fun K k => c_X6_surround vl K k 0 x2 0 r0 r1 r3 z) Q) : Te (fun K => ce_X6_surround vl K r0 r1 x2 r3 z) Q := w_te H
theorem u_X6_surround_0 {vl : Nat → Nat} {x2 : Int32} {x4 : Int32} {r0 : Nat} {r1 : Nat} {r3 : Nat} {z : ow_MS} {Q : ow_MS → Prop} (H : Tt (fun K k => cm_X6_surround_0 vl K (c_X6_surround vl K k) x2 x4 r0 r1 r3 z) Q) : Tt (fun K k => c_X6_surround vl K k 0 x2 x4 r0 r1 r3 z) Q := w_un (fun _ _ => rfl) H
theorem u_X6_reach_1 {vl : Nat → Nat} {x2 : Int32} {x3 : Int32} {r0 : Nat} {r1 : Nat} {z : ow_MS} {Q : ow_MS → Prop} (H : Tt (fun K k => cm_X6_reach_1 vl K (c_X6_reach vl K k) x2 x3 r0 r1 z) Q) : Tt (fun K k => c_X6_reach vl K k 1 x2 x3 r0 r1 z) Q := w_un (fun _ _ => rfl) H
theorem e_X6_reach {vl : Nat → Nat} {r0 : Nat} {r1 : Nat} {x2 : Int32} {z : ow_MS} {Q : ow_MS → Prop} (H : Tt (fun K k => c_X6_reach vl K k 0 x2 0 r0 r1 z) Q) : Te (fun K => ce_X6_reach vl K r0 r1 x2 z) Q := w_te H
theorem u_X6_reach_0 {vl : Nat → Nat} {x2 : Int32} {x3 : Int32} {r0 : Nat} {r1 : Nat} {z : ow_MS} {Q : ow_MS → Prop} (H : Tt (fun K k => cm_X6_reach_0 vl K (c_X6_reach vl K k) x2 x3 r0 r1 z) Q) : Tt (fun K k => c_X6_reach vl K k 0 x2 x3 r0 r1 z) Q := w_un (fun _ _ => rfl) H
theorem tc_reach {d c : Nat} {A : rn_L} {sg : Nat → Bool} (hN : gM y) (hd : d < 40) (hs : slC y 1000 d (clC sg A)) (hA : okL A c) : Te (fun K => ce_X6_reach vl K 12000 1000 (nI d) y) (fun y1 => gM y1 ∧ fr (coP 13000) y y1 ∧ ∃ Cs os, tbO y1 13000 301 Cs os ∧ 0 < os.length) := by
  let Q0 : ow_MS → Prop := fun y1 => gM y1 ∧ fr (coP 13000) y y1 ∧ ∃ Cs os, tbO y1 13000 301 Cs os ∧ 0 < os.length
  have hg4 : 13000 = 2000 ∨ 13000 = 13000 ∨ 13000 = 14000 ∨ 13000 = 15000 := Or.inr (Or.inl rfl)
  have c1 : ∀ (k i : Nat) (z : ow_MS) (Cs : List cdT) (os : List Nat), i + k = 302 → gN z → fr (coP 13000) y z → tbO z 13000 301 Cs os → 0 < os.length → Tt (fun K t => c_X6_reach vl K t 1 (nI d) (nI i) 12000 1000 z) Q0 := by
    intro k
    induction k with
    | zero =>
      intro i z Cs os hi q1 q2 q3 q4
      have hl := q3.2.2.2.1
      refine u_X6_reach_1 ?_; unfold cm_X6_reach_1
      exact w_rdF q3.1.1 (w_leT (by omega) (by omega) (w_some ⟨⟨q1, tbs_co (Or.inl rfl) q2 q3.2.2.2.2 hN.2⟩, q2, Cs, os, q3, q4⟩))
    | succ k ih =>
      intro i z Cs os hi q1 q2 q3 q4
      have hl := q3.2.2.2.1
      have fin : Tt (fun _ _ => some z) Q0 := w_some ⟨⟨q1, tbs_co (Or.inl rfl) q2 q3.2.2.2.2 hN.2⟩, q2, Cs, os, q3, q4⟩
      refine u_X6_reach_1 ?_; unfold cm_X6_reach_1
      refine w_rdF q3.1.1 (w_le (by omega) (by omega) (fun _ => fin) (fun hio => w_rdF q3.1.1 (w_lt (a := 300) (by omega) (by omega) (fun _ => fin) (fun _ => ?_))))
      have hCl : Cs.length = os.length := q3.1.2.1
      obtain ⟨B, sgB, cB, b1, b2⟩ := tb_at q3 (show i < Cs.length by omega)
      refine w_cs0 (tc_collect (kd := 0) tH13 (show i < 301 by omega) (by omega) b2 b1 tH13 (by omega) (by omega) (tgk hg4) (by omega) q1 q3) ?_
      rintro z1 ⟨g1, g2, R1, X1, os1, -, -, g5, -, -⟩
      have hl1 : (Cs ++ X1).length = os1.length := g5.1.2.1
      rw [List.length_append] at hl1
      obtain ⟨B1, sgB1, cB1, b11, b12⟩ := tb_at g5 (show i < (Cs ++ X1).length by rw [List.length_append]; omega)
      refine w_cs0 (tc_collect (kd := 2) tH13 (show i < 301 by omega) (by omega) b12 b11 tH13 (by omega) (by omega) (tgk hg4) (by omega) g1 g5) ?_
      rintro z2 ⟨g1', g2', R2, X2, os2, -, -, g5', -, -⟩
      have hl2 : (Cs ++ X1 ++ X2).length = os2.length := g5'.1.2.1
      rw [List.length_append, List.length_append] at hl2
      obtain ⟨B2, sgB2, cB2, b21, b22⟩ := tb_at g5' (show i < (Cs ++ X1 ++ X2).length by rw [List.length_append, List.length_append]; omega)
      refine w_cs0 (tc_collect (kd := 4) tH13 (show i < 301 by omega) (by omega) b22 b21 tH13 (by omega) (by omega) (tgk hg4) (by omega) g1' g5') ?_
      rintro z3 ⟨g1'', g2'', R3, X3, os3, -, -, g5'', -, -⟩
      have hl3 : (Cs ++ X1 ++ X2 ++ X3).length = os3.length := g5''.1.2.1
      rw [List.length_append, List.length_append, List.length_append] at hl3
      rw [nI_1]
      exact ih (i + 1) z3 _ os3 (by omega) g1'' (fr_tr q2 (fr_tr g2 (fr_tr g2' g2''))) g5'' (by omega)
  refine e_X6_reach ?_
  refine u_X6_reach_0 ?_; unfold cm_X6_reach_0
  have t0 := tbO_0 (p := 301) (show byR y (13000 + 1) from hN.2.2.2.1)
  have oC := (okL_c (sg := sg) hA).2
  refine w_wrF (w_cs0 (tc_addNew tH13 ch_1000 (by omega) hd t0.1 (Nat.zero_le _) (B := clC sg A) hs oC hN.1.1.1) ?_)
  rintro z1 ⟨a1, a2, a3⟩
  have f1 : fr (coP 13000) y z1 := fr_tr (fr_F (by unfold coP cV; omega)) (fr_mono (fun q hq => Or.inr (Or.inr hq)) a3)
  have n1 : gN z1 := by
    have hk := (gN_F (x := 0) (far_cP (g := 13005) (by omega)) hN.1)
    refine ⟨dgC_fr a3 (fun q q1 q2 h9 => by unfold cV at h9; omega) hk.1, nsC_fr a3 (fun h hh q hq h9 => far_cP (g := q) (by unfold cV at h9; omega) h hh hq) hk.2.1, kdC_fr a3 (fun q h9 => by unfold cV at h9; omega) hk.2.2⟩
  rcases a1 with ⟨⟨k, k1, k2⟩, -⟩ | ⟨k, k1, k2, k3⟩
  · exact absurd k1 (Nat.not_lt_zero _)
  · rw [if_pos (show ([] : List Nat).length < 301 from by show 0 < 301; omega)] at k3
    have k0 : k = 0 := Nat.le_zero.mp k1
    refine c1 302 0 z1 [clC sg A] (insO [] k ([] : List Nat).length) (by omega) n1 f1 ⟨k3, ?_, fun C hC => ?_, ?_, a2 t0.2.2.2.2⟩ ?_
    · intro i j hij hj
      rw [insO_len k1] at hj
      have : j < 1 := hj
      omega
    · rw [List.mem_singleton.mp hC]
      exact ⟨A, sg, c, hA, rfl⟩
    · rw [insO_len k1]
      show 0 + 1 ≤ 301
      omega
    · rw [insO_len k1]
      exact Nat.succ_pos _
theorem e_X11_simplify {vl : Nat → Nat} {r0 : Nat} {x1 : Int32} {z : ow_MS} {Q : (Nat × Int32 × ow_MS) → Prop} (H : Tt (fun K _ => cm_X11_simplify_0 vl K x1 r0 z) Q) : Te (fun K => ce_X11_simplify vl K r0 x1 z) Q := w_te0 H
theorem tc_simplify (hN : gM y) : Te (fun K => ce_X11_simplify vl K 0 x y) (fun r => gM r.2.2 ∧ fr vP y r.2.2) := by
  refine e_X11_simplify ?_; unfold cm_X11_simplify_0
  refine w_tc0 (tc_need hN.1.1) ?_ ?_
  · rintro y1 ⟨h1, rfl⟩
    rcases h1 with ⟨-, d, A, sg, c, hd, rfl, hs, hA, hne⟩ | h1
    · refine w_tc1 (tc_freeDiagram (dgC_E hN.1.1)) ?_ ?_
      · rintro v y2 ⟨h2, rfl⟩
        rcases h2 with ⟨e, he, -, rfl, h3, h4⟩ | h2
        · refine w_cs0 (tc_reach hN hd hs hA) ?_
          rintro y3 ⟨g1, g2, Cs, os, g3, g4⟩
          have fv : fr vP y2 y3 := co_v (Or.inr (Or.inl rfl)) g2
          have hl := g3.2.2.2.1
          refine w_rdF g3.1.1 (w_le (b := 300) (by omega) (by omega) (fun h300 => ?_) (fun _ => w_some ⟨g1, fv⟩))
          obtain ⟨s, s1, s2, s3, s4⟩ := tab_at g3.1 g4
          have hCl : Cs.length = os.length := g3.1.2.1
          have hokC : okC (atC Cs os 0) := by
            have hso : os.getD 0 0 < Cs.length := by
              rw [List.getD_eq_getElem?_getD, List.getElem?_eq_getElem g4]
              exact (g3.1.2.2.2 0 _ (List.getElem?_eq_getElem g4)).2
            unfold atC
            rw [List.getD_eq_getElem?_getD (l := Cs), List.getElem?_eq_getElem hso]
            exact g3.2.2.1 _ (List.getElem_mem hso)
          refine w_crI (i := 0) (tH_4 tH13) rfl (by omega) s2 (w_cs0 (tc_write ch_1000 tH13 (by omega) he (show s < 301 by omega) s3 s4 g3.2.2.2.2) ?_)
          rintro y4 ⟨w1, w2, w3, w4⟩
          exact w_some ⟨⟨gN_put g1.1 hokC w1 w2 w3 w4, tbs_fr w4 (fun g hg => by unfold cW at hg; omega) g1.2⟩, fr_tr fv (fr_mono (fun g hg => by unfold cW at hg; unfold vP; omega) w4)⟩
        · exact absurd (show (0 : Nat) = 3 from h2.1) (by decide)
      · rintro a v y2 ha ⟨h2, rfl⟩
        exact w_some ⟨hN, fr_rf⟩
    · exact absurd (show (0 : Nat) = 1 from h1.1) (by decide)
  · rintro a y1 ha ⟨h1, rfl⟩
    exact w_some ⟨hN, fr_rf⟩
theorem e_X11_way {vl : Nat → Nat} {r0 : Nat} {x1 : Int32} {x2 : Int32} {z : ow_MS} {Q : (Nat × Int32 × ow_MS) → Prop} (H : Tt (fun K _ => cm_X11_way_0 vl K x1 x2 r0 z) Q) : Te (fun K => ce_X11_way vl K r0 x1 x2 z) Q := w_te0 H
theorem e_X11_copyOut {vl : Nat → Nat} {r0 : Nat} {r1 : Nat} {x2 : Int32} {z : ow_MS} {Q : (Nat × Int32 × ow_MS) → Prop} (H : Tt (fun K _ => cm_X11_copyOut_0 vl K x2 r0 r1 z) Q) : Te (fun K => ce_X11_copyOut vl K r0 r1 x2 z) Q := w_te0 H
theorem e_X11_moved {vl : Nat → Nat} {r0 : Nat} {x1 : Int32} {z : ow_MS} {Q : (Nat × Int32 × ow_MS) → Prop} (H : Tt (fun K _ => cm_X11_moved_0 vl K x1 r0 z) Q) : Te (fun K => ce_X11_moved vl K r0 x1 z) Q := w_te0 H
theorem e_X11_summand {vl : Nat → Nat} {r0 : Nat} {x1 : Int32} {z : ow_MS} {Q : (Nat × Int32 × ow_MS) → Prop} (H : Tt (fun K _ => cm_X11_summand_0 vl K x1 r0 z) Q) : Te (fun K => ce_X11_summand vl K r0 x1 z) Q := w_te0 H
end CW2
end
section
/-! 99zzzzzx.csum -/
/-! the class: summands -/
theorem smN_ge {f : Nat → Nat} : ∀ n, (∀ r, r < n → 1 ≤ f r) → n ≤ smN f n
  | 0, _ => Nat.le_refl _
  | n + 1, h => by
    have := smN_ge n (fun r hr => h r (by omega))
    have := h n (by omega)
    show n + 1 ≤ smN f n + f n
    omega
theorem smN_one_ge {f : Nat → Nat} {r : Nat} : ∀ n, r < n → (∀ s, s < n → 1 ≤ f s) → f r + n ≤ smN f n + 1
  | 0, h, _ => absurd h (Nat.not_lt_zero _)
  | n + 1, hr, h => by
    show f r + (n + 1) ≤ smN f n + f n + 1
    by_cases e : r = n
    · have := smN_ge n (fun s hs => h s (by omega))
      rw [e]
      omega
    · have := smN_one_ge n (show r < n by omega) (fun s hs => h s (by omega))
      have := h n (by omega)
      omega
/-- rings of a part -/
def ptR (c : Nat) (S : ow_NP) (r : Nat) : Nat := cntB (fun v => decide ((np_parts c S.1).1 v = nI r) && lst S.1 v 24) (2 * c)
def ptV (c : Nat) (S : ow_NP) (r : Nat) : Nat := cntB (fun v => decide ((np_parts c S.1).1 v = nI r) && true) (2 * c)
theorem ptR_pos {c : Nat} {S : ow_NP} (hv : vn c S) (hc : c ≤ 12) {r : Nat} (hr : r < (np_parts c S.1).2) : 1 ≤ ptR c S r := by
  obtain ⟨i1, i2, i3, i4⟩ := parts_I hv hc
  obtain ⟨v, v1, v2⟩ := i3 r hr
  obtain ⟨m, hm1, hm2⟩ := ring_ex hv v1
  obtain ⟨w, w1, ⟨j, j1, j2⟩, w3⟩ := ring_least hv hc v1 hm2 hm1
  have hl : lst S.1 w 24 = true := (w3 w ⟨j, j1, j2⟩).mpr rfl
  have hw : (np_parts c S.1).1 w = nI r := by
    rw [j2, mark_it hv hc v1]
    exact v2
  have := cntB_rm (q := fun v => decide ((np_parts c S.1).1 v = nI r) && lst S.1 v 24) w1 (by rw [decide_eq_true hw, hl]; rfl)
  unfold ptR
  omega
theorem ptR_sum {c : Nat} {S : ow_NP} (hv : vn c S) (hc : c ≤ 12) : smN (ptR c S) (np_parts c S.1).2 = np_rg c S := by
  obtain ⟨i1, i2, i3, i4⟩ := parts_I hv hc
  exact cnt_parts (F := (np_parts c S.1).1) (q := fun v => lst S.1 v 24) (P := (np_parts c S.1).2) (by omega) (2 * c) i2
/-- few rings for many parts -/
def fwR (c : Nat) (S : ow_NP) : Prop := np_rg c S ≤ 5 + (np_parts c S.1).2
theorem fwR_pt {c : Nat} {S : ow_NP} (hv : vn c S) (hc : c ≤ 12) (h : fwR c S) {r : Nat} (hr : r < (np_parts c S.1).2) : ptR c S r ≤ 6 ∧ ptL c S r ≤ 30 := by
  have h1 := smN_one_ge (f := ptR c S) _ hr (fun s hs => ptR_pos hv hc hs)
  rw [ptR_sum hv hc] at h1
  unfold fwR at h
  have h2 : ptR c S r ≤ 6 := by omega
  refine ⟨h2, ?_⟩
  have h3 := cntB_le (fun v => decide ((np_parts c S.1).1 v = nI r) && true) (2 * c)
  have h4 : ptL c S r = ptV c S r + ptR c S r := rfl
  unfold ptV at h4
  omega
theorem po_w_P {P : Nat → Bool} : ∀ (d w : Nat) {r : Nat}, po_w P d w = some r → P r = true
  | 0, _, _, h => by cases h
  | d + 1, w, r, h => by
    have h : (if P w then some w else po_w P d (w + 1)) = some r := h
    by_cases e : P w = true
    · rw [if_pos e] at h
      cases h
      exact e
    · rw [if_neg e] at h
      exact po_w_P d (w + 1) h
theorem po_v_P {P : Nat → Nat → Bool} {n : Nat} : ∀ (d v : Nat) {q : Nat × Nat}, po_v P n d v = some q → P q.1 q.2 = true
  | 0, _, _, h => by cases h
  | d + 1, v, q, h => by
    have h : po_in P n d v (po_v P n d) (po_w (P v) (n - (v + 1)) (v + 1)) = some q := h
    cases e : po_w (P v) (n - (v + 1)) (v + 1) with
    | none =>
      rw [e] at h
      exact po_v_P d (v + 1) h
    | some w =>
      rw [e] at h
      have h : some (v, w) = some q := h
      cases h
      exact po_w_P _ _ e
theorem once_fw {c : Nat} {S : ow_NP} (hv : vn c S) (hc : c ≤ 12) (h : fwR c S) : fwR c (np_onceS S (np_once c S)) := by
  cases e : np_once c S with
  | none => exact h
  | some q =>
    have h1 := po_v_in (2 * c) 0 (by omega) e
    have h2 := of_decide_eq_true (po_v_P _ _ e)
    have h3 := np_rg_exchange hv hc h1.1 h1.2
    unfold fwR at h ⊢
    show np_rg c (np_exchange S q.1 q.2) ≤ 5 + (np_parts c (np_exchange S q.1 q.2).1).2
    have := h2.2
    omega
theorem all_ok {c : Nat} (hc : c ≤ 12) : ∀ (d : Nat) (S : ow_NP), vn c S → ow_b24 S → fwR c S → vn c (np_all c d S) ∧ ow_b24 (np_all c d S) ∧ fwR c (np_all c d S)
  | 0, S => fun h1 h2 h3 => ⟨h1, h2, h3⟩
  | d + 1, S => fun h1 h2 h3 => by
    rw [np_all]
    split
    · exact all_ok hc d _ (once_vn h1) (once_b24 hc h2) (once_fw h1 hc h3)
    · exact ⟨h1, h2, h3⟩
/-- a part's own list is one that codes are written from -/
theorem gp_okC {B : rn_L} {sgB : Nat → Bool} {c : Nat} (h : gp B c) (hc : c ≤ 12) (h6 : B.length ≤ 6) : okC (c, tk sgB B) := by
  have e0 : shN 0 B = B := by
    unfold shN
    have : ∀ L : List (Nat × Nat), L.map (fun p => (p.1 + 0, p.2)) = L := fun L => List.map_id L
    rw [show (fun L : List (Nat × Nat) => L.map (fun p => (p.1 + 0, p.2))) = fun L => L from funext this, List.map_id']
  have hl := okF_len h.1
  obtain ⟨u1, u2⟩ := ucd_part (sg := sgB) (sgB := sgB) (R := []) clD_nil h (fun x _ => rfl) B.length 0 (by omega) (List.length_pos_iff.mpr h.2.2.2.1)
  rw [show B.take 0 = [] from rfl, show shN 0 [] = [] from rfl, List.append_nil, List.drop_zero, e0, List.append_nil] at u1 u2
  have hu : ucd sgB 0 [] B = tk sgB B := by
    rw [u1]
    show tk sgB B ++ [] = _
    rw [List.append_nil]
  refine ⟨B, sgB, c, ⟨h.1, h.2.1, u2 trivial, hc, h6⟩, ?_⟩
  unfold clC
  rw [hu, hl, show 2 * c / 2 = c by omega]
theorem part_okC {T : ow_NT} {r : Nat} {C : cdT} (hv : vn T.1 T.2.2.1) (hc : T.1 ≤ 12) (hci : T.2.1 ≤ 6) (hf : fwR T.1 T.2.2.1) (hr : r < (np_parts T.1 T.2.2.1.1).2) (hC : epC T (np_parts T.1 T.2.2.1.1).1 (nI r) C) (hl : C.2.length = ptL T.1 T.2.2.1 r) : okC C := by
  obtain ⟨rl, hrl⟩ := rlK_ex hv
  obtain ⟨hi, hn⟩ := netL_iso hrl hv hc
  obtain ⟨m, P, hk⟩ := mk_ex (netL rl T)
  have hpl := parts_le hv hc
  have hf2 := hf
  unfold fwR at hf2
  obtain ⟨i1, i2, i3, i4⟩ := parts_I hv hc
  obtain ⟨k, k1, k2⟩ := i3 r hr
  obtain ⟨v, v1, v2⟩ := lbv_sur hi k1
  obtain ⟨q1, q2, B, sgB, q3, q4⟩ := part_key hi (by omega) hv hk v1 (by rw [v2]; exact k2) hC
  have hcnt := pvl_cnt hi hv hk v1 (r := r) (by rw [v2]; exact k2)
  have hcv : ptV T.1 T.2.2.1 r = cntV (np_parts T.1 T.2.2.1.1).1 (nI r) (2 * T.1) := by
    unfold ptV
    rw [cntB_fl, cntV_f]
    congr 1
    apply List.filter_congr
    intro x _
    rw [Bool.and_true]
  have hBl := okF_len q3.1
  have hrow : C.2.length = B.flatten.length + B.length := by rw [q4, tk_ln]
  have hpt : ptL T.1 T.2.2.1 r = ptV T.1 T.2.2.1 r + ptR T.1 T.2.2.1 r := rfl
  have h6 := (fwR_pt hv hc hf hr).1
  have hC1 : C.1 ≤ 12 := by
    have := cntV_le (np_parts T.1 T.2.2.1.1).1 (nI r) (2 * T.1)
    omega
  have := gp_okC (sgB := sgB) q3 hC1 (by omega)
  rw [← q4] at this
  exact this
section CY
variable {vl : Nat → Nat} {y : ow_MS} {x : Int32}
def sumP (g : Nat) : Prop := 3001 ≤ g ∧ g ≤ 3005 ∨ 4001 ≤ g ∧ g ≤ 4011 ∨ 7004 ≤ g ∧ g ≤ 9003
theorem e_X11_summands {vl : Nat → Nat} {r0 : Nat} {x1 : Int32} {z : ow_MS} {Q : (Nat × Int32 × ow_MS) → Prop} (H : Tt (fun K _ => cm_X11_summands_0 vl K x1 r0 z) Q) : Te (fun K => ce_X11_summands vl K r0 x1 z) Q := w_te0 H
theorem tc_summands (hN : gM y) : Te (fun K => ce_X11_summands vl K 0 x y) (fun r => gM r.2.2 ∧ fr sumP y r.2.2) := by
  refine e_X11_summands ?_; unfold cm_X11_summands_0
  refine w_tc0 (tc_need hN.1.1) ?_ ?_
  · rintro y1 ⟨h1, rfl⟩
    rcases h1 with ⟨-, d, A, sg, c, hd, rfl, hs, hA, hne⟩ | h1
    · refine w_cs0 (tc_ld nH4 hN.1 hd hs hA) ?_
      rintro y3 ⟨hN3, f3, T, hT, hT1, hT2⟩
      have hv := hT.2.2.1
      have f3s : fr sumP y1 y3 := fr_mono (fun g hg => by unfold cL at hg; unfold sumP; omega) f3
      have hb3 : tbs y3 := tbs_fr f3 (fun g hg => by unfold cL at hg; omega) hN.2
      refine w_cs0 (tc_partAll nH4 hT.1 hv.2.2.1 hv.1 hv.2.1) ?_
      rintro y4 ⟨g1, g2⟩
      have hfw : fwR T.1 T.2.2.1 := by
        have h6 := hv.2.2.2
        unfold fwR
        rcases Nat.eq_zero_or_pos T.1 with e | e
        · have : np_rg T.1 T.2.2.1 = 0 := by
            rw [e]
            rfl
          omega
        · have hp : 0 < (np_parts T.1 T.2.2.1.1).2 := by
            obtain ⟨r, r1, -⟩ := (parts_I hv.1 hv.2.1).2.1 0 (by omega)
            omega
          omega
      obtain ⟨n1, n2, n3⟩ := all_ok hv.2.1 12 T.2.2.1 hv.1 hv.2.2.1 hfw
      have hci : T.2.1 ≤ 6 := by have := hv.2.2.2; omega
      have hN4 : gN y4 := gN_net nH4 g2 (fun g hg => by unfold cO cP cR cQ at hg; omega) ⟨_, g1, n2⟩ hN3
      have f4s : fr sumP y1 y4 := fr_tr f3s (fr_mono (fun g hg => by unfold cO cP cR cQ at hg; unfold sumP; omega) g2)
      have hb4 : tbs y4 := tbs_fr g2 (fun g hg => by unfold cO cP cR cQ at hg; omega) hb3
      have hk7 := hN4.2.2 7000 (Or.inl rfl)
      obtain ⟨C3, o3, t3⟩ := hb4.2.1
      refine w_cs0 (tc_collectParts (Or.inl rfl) nH4 tH3 (by omega) (by omega) g1 n1 hv.2.1 n2 (fun r hr => (fwR_pt n1 hv.2.1 n3 hr).2) hk7.2.1 t3.2.2.2.2) ?_
      rintro y5 ⟨⟨Cs, os, z1, z2⟩, b1, b2, hy5, f5⟩
      have u5 : ∀ q, cpP 7000 3000 4000 q → 3001 ≤ q ∧ q ≤ 3005 ∨ 4001 ≤ q ∧ q ≤ 4011 ∨ 7004 ≤ q ∧ q ≤ 7006 ∨ 9001 ≤ q ∧ q ≤ 9003 := fun q hq => by unfold cpP epP cV cQ at hq; omega
      have hl : os.length ≤ 12 := by
        have h9 := parts_le n1 hv.2.1
        have h8 : Cs.length = os.length := z2.2.1
        have h7 : Cs.length = (np_parts T.1 (np_all T.1 12 T.2.2.1).1).2 := z1.1
        have h6 : (np_parts T.1 (np_all T.1 12 T.2.2.1).1).2 ≤ T.1 := h9
        have := hv.2.1
        omega
      have ht5 : tbO y5 3000 12 Cs os := by
        refine ⟨z2, z1.2.2.2, fun C hC => ?_, hl, b2⟩
        obtain ⟨r, hr⟩ := List.getElem?_of_mem hC
        have hr2 := (List.getElem?_eq_some_iff.mp hr).1
        obtain ⟨e1, e2⟩ := z1.2.1 r C hr
        exact part_okC (T := ntS T (np_all T.1 12 T.2.2.1)) n1 hv.2.1 hci n3 (by rw [← z1.1]; exact hr2) e1 e2
      have hN5 : gN y5 := by
        refine ⟨dgC_fr f5 (fun g q1 q2 h9 => by have := u5 g h9; omega) hN4.1, nsC_put nH4 f5 (fun h' hh' hne g hg h9 => ?_) ⟨_, hy5, n2⟩ hN4.2.1, fun k hk => ?_⟩
        · have h7 := u5 g h9
          have key : ∀ a, a ∈ nHL → a = 4000 ∨ a = 5000 ∨ 16000 ≤ a := by decide
          have := key h' hh'
          unfold cP at hg
          omega
        · rcases hk with rfl | rfl
          · exact ⟨byR_fr f5 (fun h9 => by have := u5 _ h9; omega) hk7.1, b1, byR_fr f5 (fun h9 => by have := u5 _ h9; omega) hk7.2.2⟩
          · have hb9 := hN4.2.2 20000 (Or.inr rfl)
            exact ⟨byR_fr f5 (fun h9 => by have := u5 _ h9; omega) hb9.1, byR_fr f5 (fun h9 => by have := u5 _ h9; omega) hb9.2.1, byR_fr f5 (fun h9 => by have := u5 _ h9; omega) hb9.2.2⟩
      obtain ⟨C2, o2, t2⟩ := hb4.1
      refine w_rdF rfl (w_some ⟨⟨hN5, ⟨C2, o2, tbO_fr f5 (fun q hq h9 => by have := u5 q h9; unfold cV at hq; omega) t2⟩, ⟨Cs, os, ht5⟩, byR_fr f5 (fun h9 => by have := u5 _ h9; omega) hb4.2.2.1, byR_fr f5 (fun h9 => by have := u5 _ h9; omega) hb4.2.2.2.1, byR_fr f5 (fun h9 => by have := u5 _ h9; omega) hb4.2.2.2.2⟩, fr_tr f4s (fr_mono (fun g hg => by have := u5 g hg; unfold sumP; omega) f5)⟩)
    · exact absurd (show (0 : Nat) = 1 from h1.1) (by decide)
  · rintro a y1 ha ⟨h1, rfl⟩
    exact w_some ⟨hN, fr_rf⟩
/-- drop, exactly -/
theorem tc_drop2 (hN : gM y) : Te (fun K => ce_X11_drop vl K 0 x y) (fun r => gM r.2 ∧ (r.1 = 1 ∧ (∃ d A sg c, d < 40 ∧ x = nI d ∧ slC y 1000 d (clC sg A) ∧ okL A c ∧ A ≠ [] ∧ r.2 = usI y 1002 d 0) ∨ r.1 = 0 ∧ noD y x ∧ r.2 = y)) := by
  refine e_X11_drop ?_; unfold cm_X11_drop_0
  refine w_cs1 (tc_hasDiagram (dgC_E hN.1.1)) ?_
  rintro v y1 ⟨hv, e2⟩
  dsimp only at hv e2
  subst e2
  rcases hv with ⟨rfl, h1⟩ | ⟨rfl, h1⟩
  · obtain ⟨d, A, sg, c, hd, rfl, hs, hA, hne⟩ := isD_O hN.1.1 h1
    refine w_ifF (by decide) (w_ctB (tH_2 ch_1000) rfl hd (w_okZ (Or.inr rfl) (w_some ⟨?_, Or.inl ⟨rfl, d, A, sg, c, hd, rfl, hs, hA, hne, rfl⟩⟩)))
    have h3 : fr (fun q => q = 1002) y1 (usI y1 (0 + 1000 + 2) d (vp_nar .byte 0)) := fr_I rfl
    refine ⟨⟨⟨byR_fr h3 (by omega) hN.1.1.1, fun e he => ?_⟩, nsC_fr h3 (fun h hh q hq h9 => far_cP (g := q) (by omega) h hh hq) hN.1.2.1, kdC_fr h3 (fun g h9 => by omega) hN.1.2.2⟩, tbs_fr h3 (fun g h9 => by omega) hN.2⟩
    by_cases ed : e = d
    · rw [ed]
      refine Or.inl ⟨c, hA.2.2.2.1, ?_, po_usI_at.trans (show vp_nar .byte 0 = (0 : Int32) from by decide), fun i a e => by rw [List.getElem?_nil] at e; cases e⟩
      have := hs.1
      rw [(okL_c (sg := sg) hA).1] at this
      exact rd_ot (by omega) this
    · have keep : ∀ C, slC y1 1000 e C → slC (usI y1 (0 + 1000 + 2) d (vp_nar .byte 0)) 1000 e C := fun C hC => ⟨rd_ot (by omega) hC.1, rd_ne ed hC.2.1, fun i a hi => rd_ot (by omega) (hC.2.2 i a hi)⟩
      rcases hN.1.1.2 e he with ⟨c9, c1, c2⟩ | ⟨C, c1, c2, c3⟩
      · exact Or.inl ⟨c9, c1, keep _ c2⟩
      · exact Or.inr ⟨C, keep C c1, c2, c3⟩
  · exact w_ifT rfl (w_okZ (Or.inl rfl) (w_some ⟨hN, Or.inr ⟨rfl, h1, rfl⟩⟩))
end CY
end
section
/-! 99zzzzzy.crd -/
/-! the class: Reader, a diagram read -/
/-- links of closed components and of an open one -/
def lkS (S : ow_NP) (A : rn_L) (L : List (Nat × Nat)) : Prop := (∀ v, v < A.flatten.length → S.1 (lb (vAt A v)) = lb (vAt A (rn_nx A v)) ∧ S.2 (lb (vAt A (rn_nx A v))) = lb (vAt A v)) ∧ ∀ i p q, L[i]? = some p → L[i + 1]? = some q → S.1 (lb p) = lb q ∧ S.2 (lb q) = lb p
section CR9
variable {S : ow_NP} {A : rn_L} {L : List (Nat × Nat)} {p q : Nat × Nat}
theorem lk_nil (h : lkS S A []) : lkS S (A ++ [[]]) [] := by
  refine ⟨fun v hv => ?_, fun i p q e => by rw [List.getElem?_nil] at e; cases e⟩
  rw [fl_app, List.append_nil] at hv
  rw [vAt_ap hv, rnx_app hv, vAt_ap (rnx_lt hv)]
  exact h.1 v hv
theorem lk_one (h : lkS S A []) : lkS S A [p] := by
  refine ⟨h.1, fun i a b _ e => ?_⟩
  rw [List.getElem?_cons_succ, List.getElem?_nil] at e
  cases e
theorem lk_close (hv : vOK (A.flatten ++ p :: L)) (hq : (p :: L)[L.length]? = some q) (h : lkS S A (p :: L)) : lkS (nl S (lb q) (lb p)) (A ++ [p :: L]) [] := by
  obtain ⟨h4, h5⟩ := h
  refine ⟨fun v hv1 => ?_, fun i a b e => by rw [List.getElem?_nil] at e; cases e⟩
  rw [fl_app, List.length_append] at hv1
  have hlen : (p :: L).length = L.length + 1 := rfl
  have n1 : ∀ k, k ≠ lb q → (nl S (lb q) (lb p)).1 k = S.1 k := fun k hk => if_neg hk
  have n2 : ∀ k, k ≠ lb p → (nl S (lb q) (lb p)).2 k = S.2 k := fun k hk => if_neg hk
  have n3 : (nl S (lb q) (lb p)).1 (lb q) = lb p := if_pos rfl
  have n4 : (nl S (lb q) (lb p)).2 (lb p) = lb q := if_pos rfl
  have hqF : (A.flatten ++ p :: L)[A.flatten.length + L.length]? = some q := by
    rw [List.getElem?_append_right (by omega), show A.flatten.length + L.length - A.flatten.length = L.length by omega]
    exact hq
  have hpF : (A.flatten ++ p :: L)[A.flatten.length]? = some p := by
    rw [List.getElem?_append_right (Nat.le_refl _), Nat.sub_self]
    rfl
  by_cases e : v < A.flatten.length
  · have hx := rnx_lt e
    rw [vAt_ap e, rnx_app e, vAt_ap hx]
    have g1 : (A.flatten ++ p :: L)[v]? = some (vAt A v) := by
      rw [List.getElem?_append_left e]
      exact vAt_of e
    have g2 : (A.flatten ++ p :: L)[rn_nx A v]? = some (vAt A (rn_nx A v)) := by
      rw [List.getElem?_append_left hx]
      exact vAt_of hx
    rw [n1 _ (vOK_ne hv g1 hqF (by omega)), n2 _ (vOK_ne hv g2 hpF (by omega))]
    exact h4 v e
  · obtain ⟨i, rfl⟩ : ∃ i, v = A.flatten.length + i := ⟨v - A.flatten.length, by omega⟩
    have hi : i < (p :: L).length := by omega
    rw [rnx_new hi]
    by_cases hi2 : i + 1 < (p :: L).length
    · rw [if_pos hi2, vAt_nw (List.getElem?_eq_getElem hi), vAt_nw (List.getElem?_eq_getElem hi2)]
      have g1 : (A.flatten ++ p :: L)[A.flatten.length + i]? = some (p :: L)[i] := by
        rw [List.getElem?_append_right (by omega), show A.flatten.length + i - A.flatten.length = i by omega]
        exact List.getElem?_eq_getElem hi
      have g2 : (A.flatten ++ p :: L)[A.flatten.length + (i + 1)]? = some (p :: L)[i + 1] := by
        rw [List.getElem?_append_right (by omega), show A.flatten.length + (i + 1) - A.flatten.length = i + 1 by omega]
        exact List.getElem?_eq_getElem hi2
      rw [n1 _ (vOK_ne hv g1 hqF (by omega)), n2 _ (vOK_ne hv g2 hpF (by omega))]
      exact h5 i _ _ (List.getElem?_eq_getElem hi) (List.getElem?_eq_getElem hi2)
    · have ei : i = L.length := by omega
      rw [if_neg hi2, ei, vAt_nw hq, show A.flatten.length = A.flatten.length + 0 from rfl, vAt_nw (A := A) (L := p :: L) (i := 0) (p := p) rfl]
      exact ⟨n3, n4⟩
theorem lk_more {r : Nat × Nat} (hv : vOK (A.flatten ++ p :: L ++ [r])) (hq : (p :: L)[L.length]? = some q) (h : lkS S A (p :: L)) : lkS (nl S (lb q) (lb r)) A (p :: L ++ [r]) := by
  obtain ⟨h4, h5⟩ := h
  have hloc : ∀ a, a ∈ A.flatten ++ p :: L → lb a ≠ lb r := fun a ha => vOK_new hv ha
  have hqF : (A.flatten ++ p :: L)[A.flatten.length + L.length]? = some q := by
    rw [List.getElem?_append_right (by omega), show A.flatten.length + L.length - A.flatten.length = L.length by omega]
    exact hq
  refine ⟨fun v hv1 => ?_, fun i a b ea eb => ?_⟩
  · have hx := rnx_lt hv1
    have g1 : (A.flatten ++ p :: L)[v]? = some (vAt A v) := by
      rw [List.getElem?_append_left hv1]
      exact vAt_of hv1
    have m1 : lb (vAt A v) ≠ lb q := vOK_ne (vOK_pre hv) g1 hqF (by omega)
    have m2 : lb (vAt A (rn_nx A v)) ≠ lb r := hloc _ (List.mem_append_left _ (vAt_mem hx))
    show (if lb (vAt A v) = lb q then lb r else S.1 (lb (vAt A v))) = _ ∧ (if lb (vAt A (rn_nx A v)) = lb r then lb q else S.2 (lb (vAt A (rn_nx A v)))) = _
    rw [if_neg m1, if_neg m2]
    exact h4 v hv1
  · show (if lb a = lb q then lb r else S.1 (lb a)) = lb b ∧ (if lb b = lb r then lb q else S.2 (lb b)) = lb a
    have hi := (List.getElem?_eq_some_iff.mp eb).1
    rw [List.length_append] at hi
    have hi' : i + 1 < L.length + 1 + 1 := hi
    by_cases ei : i = L.length
    · have eb' : b = r := by
        rw [ei, List.getElem?_append_right (show (p :: L).length ≤ L.length + 1 from Nat.le_refl _)] at eb
        rw [show L.length + 1 - (p :: L).length = 0 from Nat.sub_self _] at eb
        cases eb
        rfl
      have ea' : a = q := by
        rw [ei, List.getElem?_append_left (Nat.lt_succ_self _)] at ea
        rw [hq] at ea
        cases ea
        rfl
      rw [eb', ea', if_pos rfl, if_pos rfl]
      exact ⟨rfl, rfl⟩
    · rw [List.getElem?_append_left (show i < L.length + 1 by omega)] at ea
      rw [List.getElem?_append_left (show i + 1 < L.length + 1 by omega)] at eb
      have g1 : (A.flatten ++ p :: L)[A.flatten.length + i]? = some a := by
        rw [List.getElem?_append_right (by omega), show A.flatten.length + i - A.flatten.length = i by omega]
        exact ea
      rw [if_neg (vOK_ne (vOK_pre hv) g1 hqF (by omega)), if_neg (hloc b (List.mem_append_right _ (List.mem_of_getElem? eb)))]
      exact h5 i a b ea eb
end CR9
/-- a net whose links go round its components, each visit there once, is valid -/
theorem lk_net {A : rn_L} {T : ow_NT} (hok : okF A.flatten T.1) (hc : T.1 ≤ 12) (h6 : A.length ≤ 6) (hb : ow_b24 T.2.2.1) (hci : T.2.1 = cirs A) (h : lkS T.2.2.1 A []) : nv T ∧ isoN A (fun x => decide (T.2.2.2 x < 0)) (fun x => x) T := by
  have hw : wkF A.flatten := okF_wk (by omega) hok
  have hlen : A.flatten.length = 2 * T.1 := okF_len hok
  have hin : ∀ v, v < A.flatten.length → crs A v < T.1 ∧ uns A v < 2 := fun v hv => (hok.2 _).mp (vAt_mem hv)
  have hiso : isoN A (fun x => decide (T.2.2.2 x < 0)) (fun x => x) T := ⟨hw, hlen, hc, fun v hv => (hin v hv).1, fun v w _ _ e => e, fun v hv => (h.1 v hv).1, fun v hv => by rw [decide_eq_true_iff], hci.symm⟩
  have hr := iso_rg hiso
  refine ⟨⟨fun k hk => ?_, hc, hb, by omega⟩, hiso⟩
  obtain ⟨v, hv, e⟩ := lbv_sur hiso hk
  have hx := rnx_lt hv
  have hlx : lb (vAt A (rn_nx A v)) < 2 * T.1 := lbv_lt hiso hx
  have e' : lb (vAt A v) = k := e
  have hw1 := rn_pv_lt hv
  have hw2 := nx_pv hv
  have hlw : lb (vAt A (rn_pv A v)) < 2 * T.1 := lbv_lt hiso hw1
  have q1 := h.1 v hv
  have q2 := h.1 _ hw1
  rw [hw2] at q2
  rw [← e']
  refine ⟨?_, ?_, ?_, ?_⟩
  · rw [q1.1]
    exact hlx
  · rw [q2.2]
    exact hlw
  · rw [q1.1]
    exact q1.2
  · rw [q2.2]
    exact q2.1
section CRV
variable {vl : Nat → Nat} {y : ow_MS}
theorem ch_11003 : ((cX vl).2 11003).2.1 = 100 := rfl
theorem ch_11004 : ((cX vl).2 11004).2.1 = 24 := rfl
def rvP (g : Nat) : Prop := g = 11005 ∨ g = 11006
theorem u_X9_readVisit_5 {vl : Nat → Nat} {r0 : Nat} {z : ow_MS} {Q : (Int32 × ow_MS) → Prop} (H : Tt (fun K k => cm_X9_readVisit_5 vl K (c_X9_readVisit vl K k) r0 z) Q) : Tt (fun K k => c_X9_readVisit vl K k 5 r0 z) Q := w_un (fun _ _ => rfl) H
theorem u_X9_readVisit_4 {vl : Nat → Nat} {r0 : Nat} {z : ow_MS} {Q : (Int32 × ow_MS) → Prop} (H : Tt (fun K k => cm_X9_readVisit_4 vl K (c_X9_readVisit vl K k) r0 z) Q) : Tt (fun K k => c_X9_readVisit vl K k 4 r0 z) Q := w_un (fun _ _ => rfl) H
theorem u_X9_readVisit_2 {vl : Nat → Nat} {r0 : Nat} {z : ow_MS} {Q : (Int32 × ow_MS) → Prop} (H : Tt (fun K k => cm_X9_readVisit_2 vl K (c_X9_readVisit vl K k) r0 z) Q) : Tt (fun K k => c_X9_readVisit vl K k 2 r0 z) Q := w_un (fun _ _ => rfl) H
theorem u_X9_readVisit_3 {vl : Nat → Nat} {r0 : Nat} {z : ow_MS} {Q : (Int32 × ow_MS) → Prop} (H : Tt (fun K k => cm_X9_readVisit_3 vl K (c_X9_readVisit vl K k) r0 z) Q) : Tt (fun K k => c_X9_readVisit vl K k 3 r0 z) Q := w_un (fun _ _ => rfl) H
theorem u_X9_readVisit_1 {vl : Nat → Nat} {r0 : Nat} {z : ow_MS} {Q : (Int32 × ow_MS) → Prop} (H : Tt (fun K k => cm_X9_readVisit_1 vl K (c_X9_readVisit vl K k) r0 z) Q) : Tt (fun K k => c_X9_readVisit vl K k 1 r0 z) Q := w_un (fun _ _ => rfl) H
theorem e_X9_readVisit {vl : Nat → Nat} {r0 : Nat} {z : ow_MS} {Q : (Int32 × ow_MS) → Prop} (H : Tt (fun K k => c_X9_readVisit vl K k 0 r0 z) Q) : Te (fun K => ce_X9_readVisit vl K r0 z) Q := w_te H
theorem u_X9_readVisit_0 {vl : Nat → Nat} {r0 : Nat} {z : ow_MS} {Q : (Int32 × ow_MS) → Prop} (H : Tt (fun K k => cm_X9_readVisit_0 vl K (c_X9_readVisit vl K k) r0 z) Q) : Tt (fun K k => c_X9_readVisit vl K k 0 r0 z) Q := w_un (fun _ _ => rfl) H
theorem tc_readVisit {a n : Nat} (ha : y.1 11005 = nI a) (hn : y.1 11001 = nI n) (han : a < n) (h400 : n ≤ 400) : Te (fun K => ce_X9_readVisit vl K 11000 y) (fun r => fr rvP y r.2 ∧ ((∃ b, b ≤ n ∧ r.1 = nI b) ∨ r.1 = -1 ∧ ∃ a' k, a < a' ∧ a' ≤ n ∧ 1 ≤ k ∧ k < 100 ∧ r.2.1 11005 = nI a' ∧ r.2.1 11006 = nI k)) := by
  let Q : Int32 × ow_MS → Prop := fun r => fr rvP y r.2 ∧ ((∃ b, b ≤ n ∧ r.1 = nI b) ∨ r.1 = -1 ∧ ∃ a' k, a < a' ∧ a' ≤ n ∧ 1 ≤ k ∧ k < 100 ∧ r.2.1 11005 = nI a' ∧ r.2.1 11006 = nI k)
  have nf : ∀ {z : ow_MS}, fr rvP y z → z.1 11001 = nI n := fun hf => (hf 11001 (by unfold rvP; omega)).1.trans hn
  have c5 : ∀ (z : ow_MS) (b k : Nat), fr rvP y z → a < b → b < n → 1 ≤ k → k < 100 → z.1 11005 = nI b → z.1 11006 = nI k → Tt (fun K t => c_X9_readVisit vl K t 5 11000 z) Q := by
    intro z b k hf h1 h2 h3 h4 h5 h6
    refine u_X9_readVisit_5 ?_; unfold cm_X9_readVisit_5
    refine w_rdF h5 (w_wrF ?_)
    rw [nI_1]
    exact w_some ⟨fr_F2 hf (Or.inl rfl), Or.inr ⟨rfl, b + 1, k, by omega, by omega, h3, h4, po_usF_at, rf_ot (by omega) h6⟩⟩
  have c4 : ∀ (z : ow_MS) (b : Nat), fr rvP y z → b ≤ n → z.1 11005 = nI b → Tt (fun K t => c_X9_readVisit vl K t 4 11000 z) Q := by
    intro z b hf h1 h2
    refine u_X9_readVisit_4 ?_; unfold cm_X9_readVisit_4
    exact w_rdF h2 (w_some ⟨hf, Or.inl ⟨b, h1, rfl⟩⟩)
  have c2 : ∀ (z : ow_MS) (b : Nat), fr rvP y z → b ≤ n → z.1 11005 = nI b → Tt (fun K t => c_X9_readVisit vl K t 2 11000 z) Q := by
    intro z b hf h1 h2
    refine u_X9_readVisit_2 ?_; unfold cm_X9_readVisit_2
    exact w_rdF h2 (w_some ⟨hf, Or.inl ⟨b, h1, rfl⟩⟩)
  have c3 : ∀ (z : ow_MS) (b k : Nat), fr rvP y z → a < b → b ≤ n → 1 ≤ k → k < 100 → z.1 11005 = nI b → z.1 11006 = nI k → Tt (fun K t => c_X9_readVisit vl K t 3 11000 z) Q := by
    intro z b k hf h1 h2 h3 h4 h5 h6
    refine u_X9_readVisit_3 ?_; unfold cm_X9_readVisit_3
    refine w_rdF h5 (w_rdF (nf hf) (w_le (by omega) (by omega) (fun _ => c4 z b hf h2 h5) (fun h7 => w_rdF h5 (w_crI ch_11002 rfl (by omega) rfl (w_if (fun _ => c5 z b k hf h1 h7 h3 h4 h5 h6) (fun _ => w_rdF h5 (w_crI ch_11002 rfl (by omega) rfl (w_if (fun _ => c5 z b k hf h1 h7 h3 h4 h5 h6) (fun _ => c4 z b hf h2 h5)))))))))
  have c1 : Tt (fun K t => c_X9_readVisit vl K t 1 11000 y) Q := by
    refine u_X9_readVisit_1 ?_; unfold cm_X9_readVisit_1
    refine w_rdF ha (w_wrF ?_)
    rw [nI_1]
    have f1 : fr rvP y (usF y 11005 (nI (a + 1))) := fr_F (Or.inl rfl)
    have e1 : (usF y 11005 (nI (a + 1))).1 11005 = nI (a + 1) := po_usF_at
    refine w_rdF e1 (w_rdF (nf f1) (w_le (by omega) (by omega) (fun _ => c2 _ (a + 1) f1 (by omega) e1) (fun h1 => w_rdF e1 (w_crI ch_11002 rfl (by omega) rfl (w_if (fun _ => c2 _ (a + 1) f1 (by omega) e1) (fun h49 => w_rdF e1 (w_crI ch_11002 rfl (by omega) rfl (w_if (fun h57 => ?_) (fun _ => c2 _ (a + 1) f1 (by omega) e1)))))))))
    have hch : ∃ k, 1 ≤ k ∧ k ≤ 9 ∧ (usF y 11005 (nI (a + 1))).2.1 11002 (a + 1) - 48 = nI k := by
      generalize (usF y 11005 (nI (a + 1))).2.1 11002 (a + 1) = x at h49 h57
      have h0 : ¬ x < 0 := fun h9 => h49 (Int32.lt_trans h9 (by decide))
      obtain ⟨k, k31, rfl⟩ := nI_of h0
      have q1 : 49 ≤ k := by
        apply Nat.le_of_not_lt
        exact fun h9 => h49 (nI_lt (b := 49) h9 (by omega))
      have q2 : k ≤ 57 := (nI_leI k31 (by omega : 57 < 2 ^ 31)).mp h57
      exact ⟨k - 48, by omega, by omega, pk_sub (b := 48) (by omega)⟩
    obtain ⟨k, k1, k2, k3⟩ := hch
    refine w_rdF e1 (w_crI ch_11002 rfl (show a + 1 < 400 by omega) rfl (w_wrF ?_))
    rw [k3]
    have e2 : (usF (usF y 11005 (nI (a + 1))) 11006 (nI k)).1 11005 = nI (a + 1) := rf_ot (by omega) e1
    refine w_rdF e2 (w_wrF ?_)
    rw [nI_1]
    have f3 : fr rvP y (usF (usF (usF y 11005 (nI (a + 1))) 11006 (nI k)) 11005 (nI (a + 1 + 1))) := fr_F2 (fr_F2 f1 (Or.inr rfl)) (Or.inl rfl)
    have e3 : (usF (usF (usF y 11005 (nI (a + 1))) 11006 (nI k)) 11005 (nI (a + 1 + 1))).1 11005 = nI (a + 1 + 1) := po_usF_at
    have e4 : (usF (usF (usF y 11005 (nI (a + 1))) 11006 (nI k)) 11005 (nI (a + 1 + 1))).1 11006 = nI k := rf_ot (by omega) po_usF_at
    generalize usF (usF (usF y 11005 (nI (a + 1))) 11006 (nI k)) 11005 (nI (a + 1 + 1)) = z at f3 e3 e4
    have t3 := c3 z (a + 1 + 1) k f3 (by omega) (by omega) k1 (by omega) e3 e4
    refine w_rdF e3 (w_rdF (nf f3) (w_le (by omega) (by omega) (fun _ => t3) (fun h2 => w_rdF e3 (w_crI ch_11002 rfl (by omega) rfl (w_if (fun _ => t3) (fun h48 => w_rdF e3 (w_crI ch_11002 rfl (by omega) rfl (w_if (fun _ => t3) (fun h57' => w_rdF e4 (w_rdF e3 (w_crI ch_11002 rfl (show a + 1 + 1 < 400 by omega) rfl (w_wrF ?_))))))))))))
    have hch : ∃ m, 10 ≤ m ∧ m < 100 ∧ (10 * nI k + z.2.1 11002 (a + 1 + 1)) - 48 = nI m := by
      generalize z.2.1 11002 (a + 1 + 1) = x at h48 h57'
      have h0 : ¬ x < 0 := fun h9 => h48 (Int32.lt_trans h9 (by decide))
      obtain ⟨j, j31, rfl⟩ := nI_of h0
      have q1 : 48 ≤ j := by
        apply Nat.le_of_not_lt
        exact fun h9 => h48 (nI_lt (b := 48) h9 (by omega))
      have q2 : j ≤ 57 := by
        apply Nat.le_of_not_lt
        exact fun h9 => h57' (nI_lt (a := 57) h9 j31)
      refine ⟨10 * k + j - 48, by omega, by omega, ?_⟩
      rw [show (10 : Int32) * nI k = nI (10 * k) from pk_mul 10 _, nI_add]
      exact pk_sub (b := 48) (by omega)
    obtain ⟨m, m1, m2, m3⟩ := hch
    rw [m3]
    have e5 : (usF z 11006 (nI m)).1 11005 = nI (a + 1 + 1) := rf_ot (by omega) e3
    refine w_rdF e5 (w_wrF ?_)
    rw [nI_1]
    exact c3 _ (a + 1 + 1 + 1) m (fr_F2 (fr_F2 f3 (Or.inr rfl)) (Or.inl rfl)) (by omega) (by omega) (by omega) m2 po_usF_at (rf_ot (by omega) po_usF_at)
  refine e_X9_readVisit ?_
  refine u_X9_readVisit_0 ?_; unfold cm_X9_readVisit_0
  exact w_rdF ha (w_crI ch_11002 rfl (by omega) rfl (w_if (fun _ => c1) (fun _ => w_rdF ha (w_crI ch_11002 rfl (by omega) rfl (w_if (fun _ => c1) (fun _ => w_rdF ha (w_some ⟨fr_rf, Or.inl ⟨a, by omega, rfl⟩⟩)))))))
end CRV
end
section
/-! 99zzzzzz.crd2 -/
/-! the class: Reader.readDiagram; diagram -/
/-- what has been read: the visits F -/
def rdT (z : ow_MS) (F : List (Nat × Nat)) (T : ow_NT) : Prop := cAt z 4000 T ∧ ow_b24 T.2.2.1 ∧ T.1 ≤ 12 ∧ vOK F ∧ (∀ p, p ∈ F → p.1 < T.1) ∧ (∀ x, x < T.1 → ∃ u, (x, u) ∈ F) ∧ (∀ v, v < 24 → (z.2.1 11004 v = -1 ∧ kp v ∉ F) ∨ ∃ b, b < 400 ∧ z.2.1 11004 v = nI b ∧ kp v ∈ F) ∧ ∀ k, k < 100 → z.2.1 11003 k = -1 ∨ ∃ x, x < T.1 ∧ z.2.1 11003 k = nI x
def enR (g : Nat) : Prop := g = 4008 ∨ g = 4003 ∨ g = 11003 ∨ g = 11004
theorem kp_lb2 {p : Nat × Nat} (h : p.2 < 2) : kp (lb p) = p := by
  unfold kp lb
  exact Prod.ext (by show (2 * p.1 + p.2) / 2 = p.1; omega) (by show (2 * p.1 + p.2) % 2 = p.2; omega)
section CRE
variable {vl : Nat → Nat} {y : ow_MS} {F : List (Nat × Nat)} {T : ow_NT}
theorem u_X9_enter_3 {vl : Nat → Nat} {x2 : Int32} {x3 : Int32} {x4 : Int32} {r0 : Nat} {r1 : Nat} {t0 : Int32} {t1 : Int32} {z : ow_MS} {Q : (Int32 × ow_MS) → Prop} (H : Tt (fun K k => cm_X9_enter_3 vl K (c_X9_enter vl K k) x2 x3 x4 r0 r1 t0 t1 z) Q) : Tt (fun K k => c_X9_enter vl K k 3 x2 x3 x4 r0 r1 t0 t1 z) Q := w_un (fun _ _ => rfl) H
theorem u_X9_enter_2 {vl : Nat → Nat} {x2 : Int32} {x3 : Int32} {x4 : Int32} {r0 : Nat} {r1 : Nat} {t0 : Int32} {t1 : Int32} {z : ow_MS} {Q : (Int32 × ow_MS) → Prop} (H : Tt (fun K k => cm_X9_enter_2 vl K (c_X9_enter vl K k) x2 x3 x4 r0 r1 t0 t1 z) Q) : Tt (fun K k => c_X9_enter vl K k 2 x2 x3 x4 r0 r1 t0 t1 z) Q := w_un (fun _ _ => rfl) H
theorem u_X9_enter_1 {vl : Nat → Nat} {x2 : Int32} {x3 : Int32} {x4 : Int32} {r0 : Nat} {r1 : Nat} {t0 : Int32} {t1 : Int32} {z : ow_MS} {Q : (Int32 × ow_MS) → Prop} (H : Tt (fun K k => cm_X9_enter_1 vl K (c_X9_enter vl K k) x2 x3 x4 r0 r1 t0 t1 z) Q) : Tt (fun K k => c_X9_enter vl K k 1 x2 x3 x4 r0 r1 t0 t1 z) Q := w_un (fun _ _ => rfl) H
theorem e_X9_enter {vl : Nat → Nat} {r0 : Nat} {r1 : Nat} {x2 : Int32} {z : ow_MS} {Q : (Int32 × ow_MS) → Prop} (H : Tt (fun K k => c_X9_enter vl K k 0 x2 0 0 r0 r1 0 0 z) Q) : Te (fun K => ce_X9_enter vl K r0 r1 x2 z) Q := w_te H
theorem u_X9_enter_0 {vl : Nat → Nat} {x2 : Int32} {x3 : Int32} {x4 : Int32} {r0 : Nat} {r1 : Nat} {t0 : Int32} {t1 : Int32} {z : ow_MS} {Q : (Int32 × ow_MS) → Prop} (H : Tt (fun K k => cm_X9_enter_0 vl K (c_X9_enter vl K k) x2 x3 x4 r0 r1 t0 t1 z) Q) : Tt (fun K k => c_X9_enter vl K k 0 x2 x3 x4 r0 r1 t0 t1 z) Q := w_un (fun _ _ => rfl) H
theorem tc_enter {a k b : Nat} (hS : rdT y F T) (ha : y.1 11005 = nI a) (ha1 : 1 ≤ a) (ha4 : a ≤ 400) (hk : y.1 11006 = nI k) (hk1 : k < 100) (hb : b < 400) : Te (fun K => ce_X9_enter vl K 11000 4000 (nI b) y) (fun r => fr enR y r.2 ∧ (r.1 = -1 ∧ (∃ T', cAt r.2 4000 T' ∧ ow_b24 T'.2.2.1) ∨ ∃ p T', r.1 = nI (lb p) ∧ lb p < 24 ∧ rdT r.2 (F ++ [p]) T' ∧ T'.2.1 = T.2.1 ∧ T'.2.2.1 = T.2.2.1)) := by
  let Q : Int32 × ow_MS → Prop := fun r => fr enR y r.2 ∧ (r.1 = -1 ∧ (∃ T', cAt r.2 4000 T' ∧ ow_b24 T'.2.2.1) ∨ ∃ p T', r.1 = nI (lb p) ∧ lb p < 24 ∧ rdT r.2 (F ++ [p]) T' ∧ T'.2.1 = T.2.1 ∧ T'.2.2.1 = T.2.2.1)
  obtain ⟨s1, s2, s3, s4, s5, s6, s7, s8⟩ := id hS
  -- a visit at crossing x
  have c3 : ∀ (z : ow_MS) (T1 : ow_NT) (x u : Nat) (x3 : Int32), fr enR y z → cAt z 4000 T1 → T1.2.1 = T.2.1 → T1.2.2.1 = T.2.2.1 → T1.1 ≤ 12 → x < T1.1 → u < 2 → (∀ p, p ∈ F → p.1 < T1.1) → (∀ x', x' < T1.1 → x' = x ∨ ∃ u, (x', u) ∈ F) → (∀ v, v < 24 → (z.2.1 11004 v = -1 ∧ kp v ∉ F) ∨ ∃ b, b < 400 ∧ z.2.1 11004 v = nI b ∧ kp v ∈ F) → (∀ k, k < 100 → z.2.1 11003 k = -1 ∨ ∃ x, x < T1.1 ∧ z.2.1 11003 k = nI x) → Tt (fun K t => c_X9_enter vl K t 3 (nI b) x3 (nI x) 11000 4000 (nI u) (nI (2 * x)) z) Q := by
    intro z T1 x u x3 hf h1 h2 h3 h4 h5 h6 h7 h8 h9 h10
    have hb24 : ow_b24 T1.2.2.1 := by rw [h3]; exact s2
    have bad : Tt (fun _ _ => some ((-1 : Int32), z)) Q := w_some ⟨hf, Or.inl ⟨rfl, T1, h1, hb24⟩⟩
    have hv24 : 2 * x + u < 24 := by omega
    refine u_X9_enter_3 ?_; unfold cm_X9_enter_3
    rw [nI_add]
    rcases h9 (2 * x + u) hv24 with ⟨e1, e2⟩ | ⟨b', b1, e1, e2⟩
    · refine w_crI ch_11004 rfl hv24 e1 (w_ifT rfl (w_crI (nH_3 nH4) rfl (show x < 12 by omega) rfl (w_if (fun _ => w_ctI ch_11004 rfl hv24 (w_some ⟨fr_I2 hf (Or.inr (Or.inr (Or.inr rfl))), Or.inr ⟨(x, u), T1, rfl, hv24, ?_, h2, h3⟩⟩)) (fun _ => bad))))
      have ekp : kp (2 * x + u) = (x, u) := kp_lb2 (p := (x, u)) h6
      rw [ekp] at e2
      refine ⟨cAt_fr (P := fun q => q = 11004) (fr_I rfl) (fun g hg h => by unfold cP at hg; omega) h1, hb24, h4, ⟨?_, fun p hp => ?_⟩, fun p hp => ?_, fun x' hx' => ?_, fun v hv => ?_, fun k9 hk9 => ?_⟩
      · rw [List.nodup_append]
        refine ⟨s4.1, List.nodup_cons.mpr ⟨fun h => (by cases h), List.nodup_nil⟩, fun p hp q hq e => ?_⟩
        rw [List.mem_singleton.mp hq] at e
        rw [e] at hp
        exact e2 hp
      · rcases List.mem_append.mp hp with h | h
        · exact s4.2 p h
        · rw [List.mem_singleton.mp h]
          exact h6
      · rcases List.mem_append.mp hp with h | h
        · exact h7 p h
        · rw [List.mem_singleton.mp h]
          exact h5
      · rcases h8 x' hx' with h | ⟨u', h⟩
        · exact ⟨u, List.mem_append_right _ (by rw [h]; exact List.mem_singleton.mpr rfl)⟩
        · exact ⟨u', List.mem_append_left _ h⟩
      · by_cases ev : v = 2 * x + u
        · refine Or.inr ⟨b, hb, by rw [ev]; exact po_usI_at, List.mem_append_right _ ?_⟩
          rw [ev, ekp]
          exact List.mem_singleton.mpr rfl
        · rcases h9 v hv with ⟨q1, q2⟩ | ⟨b', q1, q2, q3⟩
          · refine Or.inl ⟨rd_ne ev q1, fun hm => ?_⟩
            rcases List.mem_append.mp hm with h | h
            · exact q2 h
            · have h9 := List.mem_singleton.mp h
              have := congrArg lb h9
              rw [kp_lb] at this
              exact ev this
          · exact Or.inr ⟨b', q1, rd_ne ev q2, List.mem_append_left _ q3⟩
      · rcases h10 k9 hk9 with h | ⟨x', h, h'⟩
        · exact Or.inl (rd_ot (by omega) h)
        · exact Or.inr ⟨x', h, rd_ot (by omega) h'⟩
    · exact w_crI ch_11004 rfl hv24 e1 (w_ifF (nI_nm1 (by omega)) bad)
  have c2 : ∀ (z : ow_MS) (T1 : ow_NT) (x : Nat) (x3 : Int32), fr enR y z → cAt z 4000 T1 → T1.2.1 = T.2.1 → T1.2.2.1 = T.2.2.1 → T1.1 ≤ 12 → x < T1.1 → (∀ p, p ∈ F → p.1 < T1.1) → (∀ x', x' < T1.1 → x' = x ∨ ∃ u, (x', u) ∈ F) → (∀ v, v < 24 → (z.2.1 11004 v = -1 ∧ kp v ∉ F) ∨ ∃ b, b < 400 ∧ z.2.1 11004 v = nI b ∧ kp v ∈ F) → (∀ k, k < 100 → z.2.1 11003 k = -1 ∨ ∃ x, x < T1.1 ∧ z.2.1 11003 k = nI x) → Tt (fun K t => c_X9_enter vl K t 2 (nI b) x3 (nI x) 11000 4000 0 0 z) Q := by
    intro z T1 x x3 hf h1 h2 h3 h4 h5 h7 h8 h9 h10
    refine u_X9_enter_2 ?_; unfold cm_X9_enter_2
    rw [show (2 : Int32) * nI x = nI (2 * x) from pk_mul 2 _]
    exact w_crI ch_11002 rfl hb rfl (w_if (fun _ => c3 z T1 x 1 x3 hf h1 h2 h3 h4 h5 (by omega) h7 h8 h9 h10) (fun _ => c3 z T1 x 0 x3 hf h1 h2 h3 h4 h5 (by omega) h7 h8 h9 h10))
  have c1 : ∀ t0 : Int32, Tt (fun K t => c_X9_enter vl K t 1 (nI b) 0 0 11000 4000 t0 0 y) Q := by
    intro t0
    refine u_X9_enter_1 ?_; unfold cm_X9_enter_1
    rcases s8 k hk1 with e | ⟨x, hx, e⟩
    · refine w_rdF hk (w_crI ch_11003 rfl hk1 e (w_ifT rfl (w_rdF s1.1 (w_lt (b := 12) (by omega) (by omega) (fun h12 => w_rdF s1.1 (w_rdF s1.1 (w_wrF ?_))) (fun _ => w_some ⟨fr_rf, Or.inl ⟨rfl, T, s1, s2⟩⟩)))))
      rw [nI_1]
      have hk2 : (usF y 4008 (nI (T.1 + 1))).1 11006 = nI k := rf_ot (by omega) hk
      refine w_rdF hk2 (w_ctI ch_11003 rfl hk1 (w_ctI (nH_3 nH4) rfl h12 ?_))
      have hf : fr enR y (usI (usI (usF y 4008 (nI (T.1 + 1))) 11003 k (nI T.1)) 4003 T.1 t0) := fr_I2 (fr_I2 (fr_F (Or.inl rfl)) (Or.inr (Or.inr (Or.inl rfl)))) (Or.inr (Or.inl rfl))
      have hcA : cAt (usI (usI (usF y 4008 (nI (T.1 + 1))) 11003 k (nI T.1)) 4003 T.1 t0) 4000 (T.1 + 1, T.2.1, T.2.2.1, su T.2.2.2 T.1 t0) := ⟨show (usF y 4008 (nI (T.1 + 1))).1 4008 = _ from po_usF_at, show (usF y 4008 (nI (T.1 + 1))).1 4009 = nI T.2.1 from rf_ot (by omega) s1.2.1, fun v => rd_ot (by omega) (rd_ot (by omega) (s1.2.2.1 v)), fun v => rd_ot (by omega) (rd_ot (by omega) (s1.2.2.2.1 v)), fun v => by
        show _ = su T.2.2.2 T.1 t0 v
        by_cases ev : v = T.1
        · rw [ev]
          exact po_usI_at.trans (if_pos rfl).symm
        · rw [show su T.2.2.2 T.1 t0 v = T.2.2.2 v from if_neg ev]
          exact rd_ne ev (rd_ot (by omega) (s1.2.2.2.2 v))⟩
      refine c2 _ (T.1 + 1, T.2.1, T.2.2.1, su T.2.2.2 T.1 t0) T.1 t0 hf hcA rfl rfl (show T.1 + 1 ≤ 12 by omega) (Nat.lt_succ_self _) (fun p hp => Nat.lt_succ_of_lt (s5 p hp)) (fun x' hx' => ?_) (fun v hv => ?_) (fun k9 hk9 => ?_)
      · have hx' : x' < T.1 + 1 := hx'
        by_cases ex : x' = T.1
        · exact Or.inl ex
        · exact Or.inr (s6 x' (by omega))
      · rw [show (usI (usI (usF y 4008 (nI (T.1 + 1))) 11003 k (nI T.1)) 4003 T.1 t0).2.1 11004 v = y.2.1 11004 v from rd_ot (by omega) (rd_ot (by omega) rfl)]
        exact s7 v hv
      · by_cases ek : k9 = k
        · exact Or.inr ⟨T.1, Nat.lt_succ_self _, by rw [ek]; exact rd_ot (by omega) po_usI_at⟩
        · rcases s8 k9 hk9 with h | ⟨x', h, h'⟩
          · exact Or.inl (rd_ot (by omega) (rd_ne ek h))
          · exact Or.inr ⟨x', Nat.lt_succ_of_lt h, rd_ot (by omega) (rd_ne ek h')⟩
    · exact w_rdF hk (w_crI ch_11003 rfl hk1 e (w_ifF (nI_nm1 (by omega)) (c2 y T x t0 fr_rf s1 rfl rfl s3 hx s5 (fun x' hx' => Or.inr (s6 x' hx')) s7 s8)))
  refine e_X9_enter ?_
  refine u_X9_enter_0 ?_; unfold cm_X9_enter_0
  refine w_rdF ha ?_
  rw [show nI a - 1 = nI (a - 1) from pk_sub (b := 1) ha1]
  exact w_crI ch_11002 rfl (show a - 1 < 400 by omega) rfl (w_if (fun _ => c1 1) (fun _ => c1 (-1)))
theorem u_X9_firstLonely_1 {vl : Nat → Nat} {x2 : Int32} {x3 : Int32} {r0 : Nat} {r1 : Nat} {z : ow_MS} {Q : (Int32 × ow_MS) → Prop} (H : Tt (fun K k => cm_X9_firstLonely_1 vl K (c_X9_firstLonely vl K k) x2 x3 r0 r1 z) Q) : Tt (fun K k => c_X9_firstLonely vl K k 1 x2 x3 r0 r1 z) Q := w_un (fun _ _ => rfl) H
theorem u_X9_firstLonely_3 {vl : Nat → Nat} {x2 : Int32} {x3 : Int32} {r0 : Nat} {r1 : Nat} {z : ow_MS} {Q : (Int32 × ow_MS) → Prop} (H : Tt (fun K k => cm_X9_firstLonely_3 vl K (c_X9_firstLonely vl K k) x2 x3 r0 r1 z) Q) : Tt (fun K k => c_X9_firstLonely vl K k 3 x2 x3 r0 r1 z) Q := w_un (fun _ _ => rfl) H
theorem u_X9_firstLonely_2 {vl : Nat → Nat} {x2 : Int32} {x3 : Int32} {r0 : Nat} {r1 : Nat} {z : ow_MS} {Q : (Int32 × ow_MS) → Prop} (H : Tt (fun K k => cm_X9_firstLonely_2 vl K (c_X9_firstLonely vl K k) x2 x3 r0 r1 z) Q) : Tt (fun K k => c_X9_firstLonely vl K k 2 x2 x3 r0 r1 z) Q := w_un (fun _ _ => rfl) H
theorem e_X9_firstLonely {vl : Nat → Nat} {r0 : Nat} {r1 : Nat} {z : ow_MS} {Q : (Int32 × ow_MS) → Prop} (H : Tt (fun K k => c_X9_firstLonely vl K k 0 0 0 r0 r1 z) Q) : Te (fun K => ce_X9_firstLonely vl K r0 r1 z) Q := w_te H
theorem u_X9_firstLonely_0 {vl : Nat → Nat} {x2 : Int32} {x3 : Int32} {r0 : Nat} {r1 : Nat} {z : ow_MS} {Q : (Int32 × ow_MS) → Prop} (H : Tt (fun K k => cm_X9_firstLonely_0 vl K (c_X9_firstLonely vl K k) x2 x3 r0 r1 z) Q) : Tt (fun K k => c_X9_firstLonely vl K k 0 x2 x3 r0 r1 z) Q := w_un (fun _ _ => rfl) H
theorem tc_firstLonely (hS : rdT y F T) : Te (fun K => ce_X9_firstLonely vl K 11000 4000 y) (fun r => r.2 = y ∧ (r.1 = -1 ∧ (∀ v, v < 2 * T.1 → kp v ∈ F → kp (mt v) ∈ F) ∨ ∃ b, b < 400 ∧ r.1 = nI b)) := by
  obtain ⟨s1, s2, s3, s4, s5, s6, s7, s8⟩ := id hS
  let Q : Int32 × ow_MS → Prop := fun r => r.2 = y ∧ (r.1 = -1 ∧ (∀ v, v < 2 * T.1 → kp v ∈ F → kp (mt v) ∈ F) ∨ ∃ b, b < 400 ∧ r.1 = nI b)
  let I : Nat → Int32 → Prop := fun i l => (l = -1 ∧ ∀ v, v < i → kp v ∈ F → kp (mt v) ∈ F) ∨ ∃ b, b < 400 ∧ l = nI b
  have c1 : ∀ (d i : Nat) (l : Int32), i + d = 2 * T.1 → I i l → Tt (fun K t => c_X9_firstLonely vl K t 1 l (nI i) 11000 4000 y) Q := by
    intro d
    induction d with
    | zero =>
      intro i l hi hl
      have e : i = 2 * T.1 := by omega
      subst e
      refine u_X9_firstLonely_1 ?_; unfold cm_X9_firstLonely_1
      refine w_rdF s1.1 ?_
      rw [show (2 : Int32) * nI T.1 = nI (2 * T.1) from pk_mul 2 _]
      exact w_leT (by omega) (by omega) (w_some ⟨rfl, hl⟩)
    | succ d ih =>
      intro i l hi hl
      have hi24 : i < 24 := by omega
      have hm24 := mt_lt (c := 12) (show i < 2 * 12 by omega)
      have c3 : ∀ l2, I (i + 1) l2 → Tt (fun K t => c_X9_firstLonely vl K t 3 l2 (nI i) 11000 4000 y) Q := by
        intro l2 h2
        refine u_X9_firstLonely_3 ?_; unfold cm_X9_firstLonely_3
        rw [nI_1]
        exact ih (i + 1) l2 (by omega) h2
      have keep : (kp i ∈ F → kp (mt i) ∈ F) → I (i + 1) l := by
        intro h9
        rcases hl with ⟨e, h⟩ | h
        · refine Or.inl ⟨e, fun v hv => ?_⟩
          by_cases ev : v = i
          · rw [ev]
            exact h9
          · exact h v (by omega)
        · exact Or.inr h
      refine u_X9_firstLonely_1 ?_; unfold cm_X9_firstLonely_1
      refine w_rdF s1.1 ?_
      rw [show (2 : Int32) * nI T.1 = nI (2 * T.1) from pk_mul 2 _, xor1 ⟨i, hi24⟩]
      refine w_leF (by omega) (by omega) ?_
      rcases s7 i hi24 with ⟨e1, e2⟩ | ⟨b, b1, e1, e2⟩
      · exact w_crI ch_11004 rfl hi24 e1 (w_ifT rfl (c3 l (keep (fun h => absurd h e2))))
      · have c2 : Tt (fun K t => c_X9_firstLonely vl K t 2 l (nI i) 11000 4000 y) Q := by
          refine u_X9_firstLonely_2 ?_; unfold cm_X9_firstLonely_2
          exact w_crI ch_11004 rfl hi24 e1 (c3 _ (Or.inr ⟨b, b1, rfl⟩))
        refine w_crI ch_11004 rfl hi24 e1 (w_ifF (nI_nm1 (by omega)) ?_)
        rcases s7 (mt i) (by omega) with ⟨f1, f2⟩ | ⟨b', b2, f1, f2⟩
        · refine w_crI ch_11004 rfl (show mt i < 24 by omega) f1 (w_ifT rfl ?_)
          rcases hl with ⟨e, h⟩ | ⟨b3, b4, e⟩
          · exact w_ifT e c2
          · refine w_ifF (by rw [e]; exact nI_nm1 (by omega)) (w_crI ch_11004 rfl hi24 e1 ?_)
            exact w_if (fun _ => c3 l (Or.inr ⟨b3, b4, e⟩)) (fun _ => c2)
        · exact w_crI ch_11004 rfl (show mt i < 24 by omega) f1 (w_ifF (nI_nm1 (by omega)) (c3 l (keep (fun _ => f2))))
  refine e_X9_firstLonely ?_
  refine u_X9_firstLonely_0 ?_; unfold cm_X9_firstLonely_0
  exact c1 (2 * T.1) 0 (-1) (by omega) (Or.inl ⟨rfl, fun v hv => absurd hv (Nat.not_lt_zero _)⟩)
/-- the last of an open component -/
def lsI (L : List (Nat × Nat)) (x3 x4 : Int32) : Prop := match L with
  | [] => x3 = -1
  | p :: L => x3 = nI (lb p) ∧ ∃ q, (p :: L)[L.length]? = some q ∧ x4 = nI (lb q)
theorem e_X9_finish {vl : Nat → Nat} {r0 : Nat} {x1 : Int32} {x2 : Int32} {z : ow_MS} {Q : ow_MS → Prop} (H : Tt (fun K _ => cm_X9_finish_0 vl K x1 x2 r0 z) Q) : Te (fun K => ce_X9_finish vl K r0 x1 x2 z) Q := w_te0 H
theorem tc_finish {A : rn_L} {L : List (Nat × Nat)} {x3 x4 : Int32} (hS : rdT y (A.flatten ++ L) T) (hl : lkS T.2.2.1 A L) (hci : T.2.1 = cirs A) (hx : lsI L x3 x4) : Te (fun K => ce_X9_finish vl K 4000 x3 x4 y) (fun y1 => ∃ T1, rdT y1 (A ++ [L]).flatten T1 ∧ lkS T1.2.2.1 (A ++ [L]) [] ∧ T1.2.1 = cirs (A ++ [L]) ∧ fr (cP 4000) y y1) := by
  obtain ⟨s1, s2, s3, s4, s5, s6, s7, s8⟩ := id hS
  refine e_X9_finish ?_; unfold cm_X9_finish_0
  cases L with
  | nil =>
    have hx : x3 = -1 := hx
    refine w_ifT hx (w_rdF s1.2.1 (w_wrF (w_some ⟨(T.1, T.2.1 + 1, T.2.2), ?_, lk_nil hl, ?_, fr_F (by unfold cP; omega)⟩)))
    · rw [fl_app]
      refine ⟨⟨rf_ot (by omega) s1.1, ?_, s1.2.2⟩, s2, s3, s4, s5, s6, s7, s8⟩
      exact po_usF_at.trans (nI_1 _)
    · rw [cirs_app, if_pos rfl, ← hci]
  | cons p L =>
    obtain ⟨hx3, q, hq, hx4⟩ := hx
    have hpF : p ∈ A.flatten ++ p :: L := List.mem_append_right _ List.mem_cons_self
    have hqF : q ∈ A.flatten ++ p :: L := List.mem_append_right _ (List.mem_of_getElem? hq)
    have b24 : ∀ r, r ∈ A.flatten ++ p :: L → lb r < 24 := fun r hr => by
      have h1 := s5 r hr
      have h2 := s4.2 r hr
      unfold lb
      omega
    have hp24 := b24 p hpF
    refine w_ifF (by rw [hx3]; exact nI_nm1 (by omega)) ?_
    rw [hx3, hx4]
    refine w_cs0 (tc_link nH4 s1 (b24 q hqF) (b24 p hpF)) ?_
    rintro y1 ⟨g1, g2⟩
    refine w_some ⟨_, ⟨g1, nl_b24 s2 (b24 q hqF) (b24 p hpF), s3, ?_, ?_, ?_, fun v hv => ?_, fun k hk => ?_⟩, lk_close s4 hq hl, ?_, g2⟩
    · rw [fl_app]
      exact s4
    · rw [fl_app]
      exact s5
    · rw [fl_app]
      exact s6
    · rw [fl_app, (g2 11004 (by unfold cP; omega)).2.1]
      exact s7 v hv
    · rw [(g2 11003 (by unfold cP; omega)).2.1]
      exact s8 k hk
    · rw [cirs_app, if_neg (List.cons_ne_nil p L), Nat.add_zero]
      exact hci
end CRE
end
section
/-! 99zzzzzza.crd3 -/
/-! the class: Reader.readDiagram; diagram -/
theorem rdT_fr {P : Nat → Prop} {y y1 : ow_MS} {F : List (Nat × Nat)} {T : ow_NT} (hf : fr P y y1) (hP : ∀ g, P g → ¬ cP 4000 g ∧ g ≠ 11003 ∧ g ≠ 11004) (h : rdT y F T) : rdT y1 F T := by
  obtain ⟨s1, s2, s3, s4, s5, s6, s7, s8⟩ := h
  refine ⟨cAt_fr hf (fun g hg h9 => (hP g h9).1 hg) s1, s2, s3, s4, s5, s6, fun v hv => ?_, fun k hk => ?_⟩
  · rw [(hf 11004 (fun h9 => (hP _ h9).2.2 rfl)).2.1]
    exact s7 v hv
  · rw [(hf 11003 (fun h9 => (hP _ h9).2.1 rfl)).2.1]
    exact s8 k hk
def rdP (g : Nat) : Prop := cP 4000 g ∨ 11003 ≤ g ∧ g ≤ 11006
section CRD
variable {vl : Nat → Nat} {y : ow_MS}
/-- what is known of the net when the reading ends -/
def rdE (y : ow_MS) (r : Int32 × ow_MS) : Prop := fr rdP y r.2 ∧ (∃ T, cAt r.2 4000 T ∧ ow_b24 T.2.2.1) ∧ ((r.1 = -1 ∧ ∃ T, cAt r.2 4000 T ∧ nv T) ∨ ∃ b, b ≤ 400 ∧ r.1 = nI b)
theorem u_X9_readDiagram_4 {vl : Nat → Nat} {x2 : Int32} {x3 : Int32} {x4 : Int32} {x5 : Int32} {x6 : Int32} {x7 : Int32} {x8 : Int32} {r0 : Nat} {r1 : Nat} {z : ow_MS} {Q : (Int32 × ow_MS) → Prop} (H : Tt (fun K k => cm_X9_readDiagram_4 vl K (c_X9_readDiagram vl K k) x2 x3 x4 x5 x6 x7 x8 r0 r1 z) Q) : Tt (fun K k => c_X9_readDiagram vl K k 4 x2 x3 x4 x5 x6 x7 x8 r0 r1 z) Q := w_un (fun _ _ => rfl) H
theorem u_X9_readDiagram_1 {vl : Nat → Nat} {x2 : Int32} {x3 : Int32} {x4 : Int32} {x5 : Int32} {x6 : Int32} {x7 : Int32} {x8 : Int32} {r0 : Nat} {r1 : Nat} {z : ow_MS} {Q : (Int32 × ow_MS) → Prop} (H : Tt (fun K k => cm_X9_readDiagram_1 vl K (c_X9_readDiagram vl K k) x2 x3 x4 x5 x6 x7 x8 r0 r1 z) Q) : Tt (fun K k => c_X9_readDiagram vl K k 1 x2 x3 x4 x5 x6 x7 x8 r0 r1 z) Q := w_un (fun _ _ => rfl) H
theorem u_X9_readDiagram_3 {vl : Nat → Nat} {x2 : Int32} {x3 : Int32} {x4 : Int32} {x5 : Int32} {x6 : Int32} {x7 : Int32} {x8 : Int32} {r0 : Nat} {r1 : Nat} {z : ow_MS} {Q : (Int32 × ow_MS) → Prop} (H : Tt (fun K k => cm_X9_readDiagram_3 vl K (c_X9_readDiagram vl K k) x2 x3 x4 x5 x6 x7 x8 r0 r1 z) Q) : Tt (fun K k => c_X9_readDiagram vl K k 3 x2 x3 x4 x5 x6 x7 x8 r0 r1 z) Q := w_un (fun _ _ => rfl) H
theorem u_X9_readDiagram_2 {vl : Nat → Nat} {x2 : Int32} {x3 : Int32} {x4 : Int32} {x5 : Int32} {x6 : Int32} {x7 : Int32} {x8 : Int32} {r0 : Nat} {r1 : Nat} {z : ow_MS} {Q : (Int32 × ow_MS) → Prop} (H : Tt (fun K k => cm_X9_readDiagram_2 vl K (c_X9_readDiagram vl K k) x2 x3 x4 x5 x6 x7 x8 r0 r1 z) Q) : Tt (fun K k => c_X9_readDiagram vl K k 2 x2 x3 x4 x5 x6 x7 x8 r0 r1 z) Q := w_un (fun _ _ => rfl) H
theorem e_X9_readDiagram {vl : Nat → Nat} {r0 : Nat} {r1 : Nat} {z : ow_MS} {Q : (Int32 × ow_MS) → Prop} (H : Tt (fun K k => c_X9_readDiagram vl K k 0 0 0 0 0 0 0 0 r0 r1 z) Q) : Te (fun K => ce_X9_readDiagram vl K r0 r1 z) Q := w_te H
theorem u_X9_readDiagram_0 {vl : Nat → Nat} {x2 : Int32} {x3 : Int32} {x4 : Int32} {x5 : Int32} {x6 : Int32} {x7 : Int32} {x8 : Int32} {r0 : Nat} {r1 : Nat} {z : ow_MS} {Q : (Int32 × ow_MS) → Prop} (H : Tt (fun K k => cm_X9_readDiagram_0 vl K (c_X9_readDiagram vl K k) x2 x3 x4 x5 x6 x7 x8 r0 r1 z) Q) : Tt (fun K k => c_X9_readDiagram vl K k 0 x2 x3 x4 x5 x6 x7 x8 r0 r1 z) Q := w_un (fun _ _ => rfl) H
theorem tc_readDiagram {n : Nat} (hn : y.1 11001 = nI n) (h400 : n ≤ 400) (hT : ∃ T, cAt y 4000 T ∧ ow_b24 T.2.2.1) : Te (fun K => ce_X9_readDiagram vl K 11000 4000 y) (rdE y) := by
  have nf : ∀ {z : ow_MS}, fr rdP y z → z.1 11001 = nI n := fun hf => (hf 11001 (by unfold rdP cP; omega)).1.trans hn
  have bad : ∀ (z : ow_MS) (b : Nat), fr rdP y z → (∃ T, cAt z 4000 T ∧ ow_b24 T.2.2.1) → b ≤ 400 → Tt (fun _ _ => some (nI b, z)) (rdE y) := fun z b h1 h2 h3 => w_some ⟨h1, h2, Or.inr ⟨b, h3, rfl⟩⟩
  -- the end of the text
  have c4 : ∀ (z : ow_MS) (A : rn_L) (L : List (Nat × Nat)) (T : ow_NT) (x2 x3 x4 x5 : Int32), fr rdP y z → rdT z (A.flatten ++ L) T → lkS T.2.2.1 A L → T.2.1 = cirs A → lsI L x3 x4 → A.length + 1 ≤ 6 → Tt (fun K t => c_X9_readDiagram vl K t 4 x2 x3 x4 x5 0 0 0 11000 4000 z) (rdE y) := by
    intro z A L T x2 x3 x4 x5 hf h1 h2 h3 h4 h5
    refine u_X9_readDiagram_4 ?_; unfold cm_X9_readDiagram_4
    refine w_cs0 (tc_finish h1 h2 h3 h4) ?_
    rintro z1 ⟨T1, g1, g2, g3, g4⟩
    refine w_cs1 (tc_firstLonely g1) ?_
    rintro v z2 ⟨e1, e2⟩
    dsimp only at e1 e2
    rw [e1]
    have hf1 : fr rdP y z1 := fr_tr hf (fr_mono (fun g hg => Or.inl hg) g4)
    refine w_some ⟨hf1, ⟨T1, g1.1, g1.2.1⟩, ?_⟩
    rcases e2 with ⟨rfl, e3⟩ | ⟨b, b1, b2⟩
    · refine Or.inl ⟨rfl, T1, g1.1, ?_⟩
      obtain ⟨s1, s2, s3, s4, s5, s6, s7, s8⟩ := g1
      have hok : okF (A ++ [L]).flatten T1.1 := by
        refine ⟨s4.1, fun p => ⟨fun hp => ⟨s5 p hp, s4.2 p hp⟩, fun ⟨p1, p2⟩ => ?_⟩⟩
        obtain ⟨u, hu⟩ := s6 p.1 p1
        have hu2 := s4.2 _ hu
        have hu2 : u < 2 := hu2
        by_cases e : u = p.2
        · rw [show p = (p.1, u) from Prod.ext rfl e.symm]
          exact hu
        · have e4 := e3 (lb (p.1, u)) (by unfold lb; show 2 * p.1 + u < 2 * T1.1; omega) (by rw [kp_lb2 (p := (p.1, u)) hu2]; exact hu)
          have e5 : mt (lb (p.1, u)) = lb p := by
            unfold mt lb
            show (if (2 * p.1 + u) % 2 = 0 then 2 * p.1 + u + 1 else 2 * p.1 + u - 1) = 2 * p.1 + p.2
            split <;> omega
          rw [e5, kp_lb2 p2] at e4
          exact e4
      exact (lk_net hok s3 (by rw [List.length_append]; exact h5) s2 g3 g2).1
    · exact Or.inr ⟨b, by omega, b2⟩
  have c1 : ∀ (d i : Nat) (z : ow_MS) (A : rn_L) (L : List (Nat × Nat)) (T : ow_NT) (x3 x4 : Int32) (a : Nat), i + d = 400 → fr rdP y z → z.1 11005 = nI a → a ≤ n → rdT z (A.flatten ++ L) T → lkS T.2.2.1 A L → T.2.1 = cirs A → lsI L x3 x4 → A.length + 1 ≤ 6 → Tt (fun K t => c_X9_readDiagram vl K t 1 (nI (A.length + 1)) x3 x4 (nI i) 0 0 0 11000 4000 z) (rdE y) := by
    intro d
    induction d with
    | zero =>
      intro i z A L T x3 x4 a hi hf ha han h1 h2 h3 h4 h5
      refine u_X9_readDiagram_1 ?_; unfold cm_X9_readDiagram_1
      exact w_leT (a := 400) (by omega) (by omega) (c4 z A L T _ x3 x4 _ hf h1 h2 h3 h4 h5)
    | succ d ih =>
      intro i z A L T x3 x4 a hi hf ha han h1 h2 h3 h4 h5
      have hTz : ∃ T, cAt z 4000 T ∧ ow_b24 T.2.2.1 := ⟨T, h1.1, h1.2.1⟩
      have c3 : ∀ (z1 : ow_MS) (A1 : rn_L) (L1 : List (Nat × Nat)) (T1 : ow_NT) (y3 y4 y6 : Int32) (a1 : Nat), fr rdP y z1 → z1.1 11005 = nI a1 → a1 ≤ n → rdT z1 (A1.flatten ++ L1) T1 → lkS T1.2.2.1 A1 L1 → T1.2.1 = cirs A1 → lsI L1 y3 y4 → A1.length + 1 ≤ 6 → Tt (fun K t => c_X9_readDiagram vl K t 3 (nI (A1.length + 1)) y3 y4 (nI i) y6 0 0 11000 4000 z1) (rdE y) := by
        intro z1 A1 L1 T1 y3 y4 y6 a1 q1 q2 q3 q4 q5 q6 q7 q8
        refine u_X9_readDiagram_3 ?_; unfold cm_X9_readDiagram_3
        rw [nI_1 i]
        exact ih (i + 1) z1 A1 L1 T1 y3 y4 a1 (by omega) q1 q2 q3 q4 q5 q6 q7 q8
      refine u_X9_readDiagram_1 ?_; unfold cm_X9_readDiagram_1
      refine w_leF (a := 400) (by omega) (by omega) (w_rdF ha (w_rdF (nf hf) (w_le (by omega) (by omega) (fun _ => c4 z A L T _ x3 x4 _ hf h1 h2 h3 h4 h5) (fun hal => w_rdF ha (w_rdF ha (w_crI ch_11002 rfl (show a < 400 by omega) rfl (w_if (fun _ => ?_) (fun _ => ?_))))))))
      · rw [nI_1]
        refine w_le (b := 6) (by omega) (by omega) (fun h6 => w_cs0 (tc_finish h1 h2 h3 h4) ?_) (fun _ => w_rdF ha (bad z a hf hTz (by omega)))
        rintro z1 ⟨T1, g1, g2, g3, g4⟩
        have ha1 : z1.1 11005 = nI a := (g4 11005 (by unfold cP; omega)).1.trans ha
        refine w_rdF ha1 (w_wrF ?_)
        rw [nI_1 a]
        have hf1 : fr rdP y (usF z1 11005 (nI (a + 1))) := fr_F2 (fr_tr hf (fr_mono (fun g hg => Or.inl hg) g4)) (by unfold rdP; omega)
        have hA1 : (A ++ [L]).length = A.length + 1 := by
          rw [List.length_append]
          rfl
        have := c3 (usF z1 11005 (nI (a + 1))) (A ++ [L]) [] T1 (-1) x4 (nI a) (a + 1) hf1 po_usF_at (by omega) (by
          rw [List.append_nil]
          exact rdT_fr (P := fun g => g = 11005) (fr_F rfl) (fun g hg => by unfold cP; omega) g1) g2 g3 rfl (by omega)
        rw [hA1] at this
        exact this
      · refine w_cs1 (tc_readVisit ha (nf hf) hal h400) ?_
        rintro v z1 ⟨f1, e1⟩
        dsimp only at f1 e1
        have hf1 : fr rdP y z1 := fr_tr hf (fr_mono (fun g hg => by unfold rvP at hg; unfold rdP; omega) f1)
        have h11 : rdT z1 (A.flatten ++ L) T := rdT_fr f1 (fun g hg => by unfold rvP at hg; unfold cP; omega) h1
        rcases e1 with ⟨b, b1, rfl⟩ | ⟨rfl, a', k, k1, k2, k3, k4, k5, k6⟩
        · exact w_ifF (nI_nm1 (by omega)) (bad z1 b hf1 ⟨T, h11.1, h11.2.1⟩ (by omega))
        · refine w_ifT rfl (w_cs1 (tc_enter h11 k5 (by omega) (by omega) k6 k4 (show a < 400 by omega)) ?_)
          rintro w z2 ⟨f2, e2⟩
          dsimp only at f2 e2
          have hf2 : fr rdP y z2 := fr_tr hf1 (fr_mono (fun g hg => by unfold enR at hg; unfold rdP cP; omega) f2)
          have ha2 : z2.1 11005 = nI a' := (f2 11005 (by unfold enR; omega)).1.trans k5
          rcases e2 with ⟨rfl, hT2⟩ | ⟨p, T2, rfl, p24, r1, r2, r3⟩
          · exact w_ifT rfl (bad z2 a hf2 hT2 (by omega))
          · have hne : nI (lb p) ≠ -1 := nI_nm1 (by omega)
            have r1' : rdT z2 (A.flatten ++ (L ++ [p])) T2 := by
              rw [← List.append_assoc]
              exact r1
            refine w_ifF hne ?_
            cases L with
            | nil =>
              have h4 : x3 = -1 := h4
              have hl2 : lkS T2.2.2.1 A [p] := by
                rw [r3]
                exact lk_one h2
              refine w_ifT h4 ?_
              refine u_X9_readDiagram_2 ?_; unfold cm_X9_readDiagram_2
              exact c3 z2 A [p] T2 (nI (lb p)) (nI (lb p)) _ a' hf2 ha2 k2 r1' hl2 (r2.trans h3) ⟨rfl, p, rfl, rfl⟩ h5
            | cons q0 L =>
              obtain ⟨hx3, q, hq, hx4⟩ := h4
              have b24 : ∀ r, r ∈ A.flatten ++ q0 :: L → lb r < 24 := fun r hr => by
                have q1 := h1.2.2.2.2.1 r hr
                have q2 := h1.2.2.2.1.2 r hr
                have q3 := h1.2.2.1
                unfold lb
                omega
              have hq24 := b24 q (List.mem_append_right _ (List.mem_of_getElem? hq))
              have h024 := b24 q0 (List.mem_append_right _ List.mem_cons_self)
              refine w_ifF (by rw [hx3]; exact nI_nm1 (by omega)) ?_
              rw [hx4]
              refine w_cs0 (tc_link nH4 r1'.1 hq24 p24) ?_
              rintro z3 ⟨g1, g2⟩
              obtain ⟨s1, s2, s3, s4, s5, s6, s7, s8⟩ := r1'
              have r13 : rdT z3 (A.flatten ++ (q0 :: L ++ [p])) (ntS T2 (nl T2.2.2.1 (lb q) (lb p))) := by
                refine ⟨g1, nl_b24 s2 hq24 p24, s3, s4, s5, s6, fun v hv => ?_, fun k hk => ?_⟩
                · rw [(g2 11004 (by unfold cP; omega)).2.1]
                  exact s7 v hv
                · rw [(g2 11003 (by unfold cP; omega)).2.1]
                  exact s8 k hk
              have hl3 : lkS (nl T2.2.2.1 (lb q) (lb p)) A (q0 :: L ++ [p]) := by
                rw [r3]
                exact lk_more (by rw [List.append_assoc]; exact s4) hq h2
              have ha3 : z3.1 11005 = nI a' := (g2 11005 (by unfold cP; omega)).1.trans ha2
              refine u_X9_readDiagram_2 ?_; unfold cm_X9_readDiagram_2
              refine c3 z3 A (q0 :: L ++ [p]) _ x3 (nI (lb p)) _ a' (fr_tr hf2 (fr_mono (fun g hg => Or.inl hg) g2)) ha3 k2 r13 hl3 (r2.trans h3) ⟨hx3, p, ?_, rfl⟩ h5
              have hll : (L.append [p]).length = L.length + 1 := List.length_append
              show (q0 :: L ++ [p])[(L.append [p]).length]? = some p
              rw [hll]
              rw [List.getElem?_append_right (show (q0 :: L).length ≤ L.length + 1 from Nat.le_refl _), show L.length + 1 - (q0 :: L).length = 0 from Nat.sub_self _]
              rfl
  obtain ⟨T0, t1, t2⟩ := hT
  refine e_X9_readDiagram ?_
  refine u_X9_readDiagram_0 ?_; unfold cm_X9_readDiagram_0
  refine w_cs0 (tc_fillA ch_11003 (by omega)) ?_
  rintro z1 ⟨a1, a2⟩
  refine w_cs0 (tc_fillA ch_11004 (by omega)) ?_
  rintro z2 ⟨b1, b2⟩
  have t12 : cAt z2 4000 T0 := cAt_fr b2 (fun g hg h9 => by unfold cP at hg; omega) (cAt_fr a2 (fun g hg h9 => by unfold cP at hg; omega) t1)
  refine w_cs0 (tc_empty t12) ?_
  rintro z3 ⟨d1, d2⟩
  have hf3 : fr rdP y z3 := fr_tr (fr_mono (fun g hg => by rw [hg]; unfold rdP; omega) a2) (fr_tr (fr_mono (fun g hg => by rw [hg]; unfold rdP; omega) b2) (fr_mono (fun g hg => Or.inl hg) d2))
  refine w_wrF (c1 400 0 (usF z3 11005 0) [] [] (0, 0, T0.2.2) (-1) (-1) 0 (by omega) (fr_F2 hf3 (by unfold rdP; omega)) po_usF_at (Nat.zero_le _) ?_ ⟨fun v hv => absurd hv (Nat.not_lt_zero _), fun i p q e => by rw [List.getElem?_nil] at e; cases e⟩ rfl rfl (by show 0 + 1 ≤ 6; omega))
  refine ⟨cAt_fr (P := fun g => g = 11005) (fr_F rfl) (fun g hg h9 => by unfold cP at hg; omega) d1, t2, Nat.zero_le _, ⟨List.nodup_nil, fun p hp => (by cases hp)⟩, fun p hp => (by cases hp), fun x hx => absurd hx (Nat.not_lt_zero _), fun v hv => Or.inl ⟨?_, fun h => (by cases h)⟩, fun k hk => Or.inl ?_⟩
  · show z3.2.1 11004 v = -1
    rw [(d2 11004 (by unfold cP; omega)).2.1]
    exact b1 v hv
  · show z3.2.1 11003 k = -1
    rw [(d2 11003 (by unfold cP; omega)).2.1, (b2 11003 (by omega)).2.1]
    exact a1 k hk
end CRD
end
