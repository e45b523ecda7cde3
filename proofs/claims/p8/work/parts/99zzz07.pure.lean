section
/-! 99zzzzzv.ccol -/
/-! the class: Mover.collect, reach, surround; moves, simplify, way, moved, summand -/
/-- a table of codes in order, all written from components -/
def tbO (y : ow_MS) (g p : Nat) (Cs : List cdT) (os : List Nat) : Prop := tabC y g Cs os ∧ srt Cs os ∧ (∀ C, C ∈ Cs → okC C) ∧ os.length ≤ p ∧ byR y (g + 1)
theorem tbO_fr {P : Nat → Prop} {y y1 : ow_MS} {g p : Nat} {Cs : List cdT} {os : List Nat} (hf : fr P y y1) (hP : ∀ q, cV g q → ¬ P q) (h : tbO y g p Cs os) : tbO y1 g p Cs os := ⟨tabC_fr hf hP h.1, h.2.1, h.2.2.1, h.2.2.2.1, byR_fr hf (hP _ ⟨by omega, by omega⟩) h.2.2.2.2⟩
/-- number j of the moves of a kind makes a net with the code C -/
def mvD (kd : Nat) (R : ow_NT) (j : Nat) (C : cdT) : Prop := ∃ F P Q Ds qs, mv_mk kd R F P ∧ ow_b24 Q.2.2.1 ∧ mv_B kd j Q R F P = true ∧ cpZ (mv_T kd j Q R F P) (np_parts (mv_T kd j Q R F P).1 (mv_T kd j Q R F P).2.2.1.1).2 Ds qs ∧ C = enC (mv_T kd j Q R F P) Ds qs
def mvN (kd : Nat) (R : ow_NT) (j : Nat) : Prop := ∃ F P Q, mv_mk kd R F P ∧ ow_b24 Q.2.2.1 ∧ mv_B kd j Q R F P = false
def coP (g' g : Nat) : Prop := 16001 ≤ g ∧ g ≤ 19002 ∨ 20004 ≤ g ∧ g ≤ 23005 ∨ cV g' g
section CC5
variable {vl : Nat → Nat} {y : ow_MS} {g g' p p' s : Nat} {Cs : List cdT} {os : List Nat} {A : rn_L} {sg : Nat → Bool} {c kd : Nat}
theorem gN_co {y1 : ow_MS} (h16 : g' + 6 ≤ 16000) (hg2 : 2000 ≤ g') (hgk : ∀ q, cV g' q → q ≠ 8001 ∧ q ≠ 9001 ∧ q ≠ 10001 ∧ (q < 4001 ∨ 5011 < q)) (hf : fr (coP g') y y1) (hN : gN y) (hn : (∃ T, cAt y1 16000 T ∧ ow_b24 T.2.2.1) ∧ ∃ T, cAt y1 17000 T ∧ ow_b24 T.2.2.1) (hb : byR y1 21001 ∧ byR y1 22001 ∧ byR y1 23001) : gN y1 := by
  refine ⟨dgC_fr hf (fun q q1 q2 h9 => by unfold coP cV at h9; omega) hN.1, fun h hh => ?_, fun k hk => ?_⟩
  · by_cases e1 : h = 16000
    · rw [e1]
      exact hn.1
    · by_cases e2 : h = 17000
      · rw [e2]
        exact hn.2
      · obtain ⟨T, t1, t2⟩ := hN.2.1 h hh
        have key : ∀ a, a ∈ nHL → a = 4000 ∨ a = 5000 ∨ a = 16000 ∨ a = 17000 ∨ 26000 ≤ a := by decide
        have hk := key h hh
        refine ⟨T, cAt_fr hf (fun q hq h9 => ?_) t1, t2⟩
        unfold cP at hq
        unfold coP at h9
        rcases h9 with h9 | h9 | h9
        · omega
        · omega
        · have h8 := hgk q h9
          unfold cV at h9
          omega
  · rcases hk with rfl | rfl
    · have hb7 := hN.2.2 7000 (Or.inl rfl)
      have ne : ∀ q, q = 8001 ∨ q = 9001 ∨ q = 10001 → ¬ coP g' q := by
        intro q hq h9
        unfold coP at h9
        rcases h9 with h9 | h9 | h9
        · omega
        · omega
        · have h8 := hgk q h9
          omega
      exact ⟨byR_fr hf (ne _ (by omega)) hb7.1, byR_fr hf (ne _ (by omega)) hb7.2.1, byR_fr hf (ne _ (by omega)) hb7.2.2⟩
    · exact hb
theorem u_X6_collect_2 {vl : Nat → Nat} {x2 : Int32} {x3 : Int32} {x5 : Int32} {x6 : Int32} {r0 : Nat} {r1 : Nat} {r4 : Nat} {z : ow_MS} {Q : ow_MS → Prop} (H : Tt (fun K k => cm_X6_collect_2 vl K (c_X6_collect vl K k) x2 x3 x5 x6 r0 r1 r4 z) Q) : Tt (fun K k => c_X6_collect vl K k 2 x2 x3 x5 x6 r0 r1 r4 z) Q := w_un (fun _ _ => rfl) H
theorem u_X6_collect_3 {vl : Nat → Nat} {x2 : Int32} {x3 : Int32} {x5 : Int32} {x6 : Int32} {r0 : Nat} {r1 : Nat} {r4 : Nat} {z : ow_MS} {Q : ow_MS → Prop} (H : Tt (fun K k => cm_X6_collect_3 vl K (c_X6_collect vl K k) x2 x3 x5 x6 r0 r1 r4 z) Q) : Tt (fun K k => c_X6_collect vl K k 3 x2 x3 x5 x6 r0 r1 r4 z) Q := w_un (fun _ _ => rfl) H
theorem u_X6_collect_1 {vl : Nat → Nat} {x2 : Int32} {x3 : Int32} {x5 : Int32} {x6 : Int32} {r0 : Nat} {r1 : Nat} {r4 : Nat} {z : ow_MS} {Q : ow_MS → Prop} (H : Tt (fun K k => cm_X6_collect_1 vl K (c_X6_collect vl K k) x2 x3 x5 x6 r0 r1 r4 z) Q) : Tt (fun K k => c_X6_collect vl K k 1 x2 x3 x5 x6 r0 r1 r4 z) Q := w_un (fun _ _ => rfl) H
theorem e_X6_collect {vl : Nat → Nat} {r0 : Nat} {r1 : Nat} {x2 : Int32} {x3 : Int32} {r4 : Nat} {z : ow_MS} {Q : ow_MS → Prop} (H : Tt (fun K k => c_X6_collect vl K k 0 x2 x3 0 0 r0 r1 r4 z) Q) : Te (fun K => ce_X6_collect vl K r0 r1 x2 x3 r4 z) Q := w_te H
theorem u_X6_collect_0 {vl : Nat → Nat} {x2 : Int32} {x3 : Int32} {x5 : Int32} {x6 : Int32} {r0 : Nat} {r1 : Nat} {r4 : Nat} {z : ow_MS} {Q : ow_MS → Prop} (H : Tt (fun K k => cm_X6_collect_0 vl K (c_X6_collect vl K k) x2 x3 x5 x6 r0 r1 r4 z) Q) : Tt (fun K k => c_X6_collect vl K k 0 x2 x3 x5 x6 r0 r1 r4 z) Q := w_un (fun _ _ => rfl) H
theorem tc_collect (hg : tH g p) (hs : s < p) (hg16 : g + 6 ≤ 16000) (hC : slC y g s (clC sg A)) (hA : okL A c) (hg' : tH g' p') (h16 : g' + 6 ≤ 16000) (hg2 : 2000 ≤ g') (hgk : ∀ q, cV g' q → q ≠ 8001 ∧ q ≠ 9001 ∧ q ≠ 10001 ∧ (q < 4001 ∨ 5011 < q)) (hk : kd < 5) (hN : gN y) (hT : tbO y g' p' Cs os) : Te (fun K => ce_X6_collect vl K 12000 g (nI s) (nI kd) g' y) (fun y1 => gN y1 ∧ fr (coP g') y y1 ∧ ∃ R X os', nv R ∧ isoN A sg (fun x => x) R ∧ tbO y1 g' p' (Cs ++ X) os' ∧ (∀ C, C ∈ X → ∃ j, j < mv_cnt R.1 kd ∧ mvD kd R j C) ∧ ∀ j, j < mv_cnt R.1 kd → mvN kd R j ∨ ∃ C, mvD kd R j C ∧ (C ∈ Cs ++ X ∨ os'.length = p')) := by
  let Q0 : ow_MS → Prop := fun y1 => gN y1 ∧ fr (coP g') y y1 ∧ ∃ R X os', nv R ∧ isoN A sg (fun x => x) R ∧ tbO y1 g' p' (Cs ++ X) os' ∧ (∀ C, C ∈ X → ∃ j, j < mv_cnt R.1 kd ∧ mvD kd R j C) ∧ ∀ j, j < mv_cnt R.1 kd → mvN kd R j ∨ ∃ C, mvD kd R j C ∧ (C ∈ Cs ++ X ∨ os'.length = p')
  have hpp := tH_p hg'
  obtain ⟨T0, t01, t02⟩ := hN.2.1 16000 nH16
  have hk2 : kH 20000 := Or.inr rfl
  -- the loop over the numbers
  have main : ∀ (R : ow_NT) (F P : Nat → Int32) (z0 : ow_MS), nv R → isoN A sg (fun x => x) R → mv_mk kd R F P → cAt z0 16000 R → (∀ k, z0.2.1 18001 k = F k) → (∀ k, z0.2.1 16006 k = P k) → fr (coP g') y z0 → (∃ Q, cAt z0 17000 Q ∧ ow_b24 Q.2.2.1) → tbO z0 g' p' Cs os → (byR z0 21001 ∧ byR z0 22001 ∧ byR z0 23001) → Tt (fun K t => c_X6_collect vl K t 1 (nI s) (nI kd) 0 0 12000 g g' z0) Q0 := by
    intro R F P z0 hR hiso hmk r0 r1 r2 r3 r4 r5 r6
    have hR6 : R.2.1 ≤ 6 := by have := hR.2.2.2; omega
    have c2 : ∀ (d j : Nat) (z : ow_MS) (X : List cdT) (os1 : List Nat), j + d = mv_cnt R.1 kd → cAt z 16000 R → (∀ k, z.2.1 18001 k = F k) → (∀ k, z.2.1 16006 k = P k) → fr (coP g') y z → (∃ Q, cAt z 17000 Q ∧ ow_b24 Q.2.2.1) → tbO z g' p' (Cs ++ X) os1 → (byR z 21001 ∧ byR z 22001 ∧ byR z 23001) → (∀ C, C ∈ X → ∃ i, i < mv_cnt R.1 kd ∧ mvD kd R i C) → (∀ i, i < j → mvN kd R i ∨ ∃ C, mvD kd R i C ∧ (C ∈ Cs ++ X ∨ os1.length = p')) → Tt (fun K t => c_X6_collect vl K t 2 (nI s) (nI kd) (nI (mv_cnt R.1 kd)) (nI j) 12000 g g' z) Q0 := by
      intro d
      have hcb := cnt_b (c := R.1) hR.2.1 hk
      induction d with
      | zero =>
        intro j z X os1 hj q0 q1 q2 q3 q4 q5 q6 q7 q8
        have ej : j = mv_cnt R.1 kd := by omega
        refine u_X6_collect_2 ?_; unfold cm_X6_collect_2
        refine w_leT (by omega) (by omega) (w_some ⟨gN_co h16 hg2 hgk q3 hN ⟨⟨R, q0, hR.2.2.1⟩, q4⟩ q6, q3, R, X, os1, hR, hiso, q5, q7, fun i hi => q8 i (by omega)⟩)
      | succ d ih =>
        intro j z X os1 hj q0 q1 q2 q3 q4 q5 q6 q7 q8
        obtain ⟨Q, Q1, Q2⟩ := q4
        have hjl : j < mv_cnt R.1 kd := by omega
        have hS : mvS z R Q := ⟨q0, Q1, hR.2.2.1, Q2, hR.2.1, hR6⟩
        obtain ⟨hb9, hnv⟩ := mv_nv hR hk F P Q j hmk Q2 hjl
        refine u_X6_collect_2 ?_; unfold cm_X6_collect_2
        refine w_leF (by omega) (by omega) (w_cs1 (tc_make hS hR.1 hk hjl q1 q2) ?_)
        rintro r z1 ⟨e1, e2, e3⟩
        dsimp only at e1 e2 e3
        rw [e1]
        have k16 : cAt z1 16000 R := cAt_fr e3 (fun q hq h9 => by unfold cP at hq; unfold mvP at h9; omega) q0
        have k18 : ∀ k, z1.2.1 18001 k = F k := fun k => by rw [(e3 18001 (by unfold mvP; omega)).2.1]; exact q1 k
        have k66 : ∀ k, z1.2.1 16006 k = P k := fun k => by rw [(e3 16006 (by unfold mvP; omega)).2.1]; exact q2 k
        have kf : fr (coP g') y z1 := fr_tr q3 (fr_mono (fun q hq => by unfold mvP at hq; unfold coP; omega) e3)
        have kt : tbO z1 g' p' (Cs ++ X) os1 := tbO_fr e3 (fun q hq h9 => by unfold cV at hq; unfold mvP at h9; omega) q5
        have kb : byR z1 21001 ∧ byR z1 22001 ∧ byR z1 23001 := ⟨byR_fr e3 (by unfold mvP; omega) q6.1, byR_fr e3 (by unfold mvP; omega) q6.2.1, byR_fr e3 (by unfold mvP; omega) q6.2.2⟩
        have c3 : ∀ (z2 : ow_MS) (X2 : List cdT) (os2 : List Nat), cAt z2 16000 R → (∀ k, z2.2.1 18001 k = F k) → (∀ k, z2.2.1 16006 k = P k) → fr (coP g') y z2 → (∃ Q, cAt z2 17000 Q ∧ ow_b24 Q.2.2.1) → tbO z2 g' p' (Cs ++ X2) os2 → (byR z2 21001 ∧ byR z2 22001 ∧ byR z2 23001) → (∀ C, C ∈ X2 → ∃ i, i < mv_cnt R.1 kd ∧ mvD kd R i C) → (∀ i, i < j + 1 → mvN kd R i ∨ ∃ C, mvD kd R i C ∧ (C ∈ Cs ++ X2 ∨ os2.length = p')) → Tt (fun K t => c_X6_collect vl K t 3 (nI s) (nI kd) (nI (mv_cnt R.1 kd)) (nI j) 12000 g g' z2) Q0 := by
          intro z2 X2 os2 p0 p1 p2 p3 p4 p5 p6 p7 p8
          refine u_X6_collect_3 ?_; unfold cm_X6_collect_3
          rw [nI_1]
          exact ih (j + 1) z2 X2 os2 (by omega) p0 p1 p2 p3 p4 p5 p6 p7 p8
        refine w_if (fun e0 => ?_) (fun e0 => ?_)
        · refine c3 z1 X os1 k16 k18 k66 kf ⟨_, e2, hb9⟩ kt kb q7 (fun i hi => ?_)
          by_cases ei : i = j
          · rw [ei]
            exact Or.inl ⟨F, P, Q, hmk, Q2, zI_e e0⟩
          · exact q8 i (by omega)
        · have hB := zI_ne e0
          have hv := hnv hB
          refine w_cs0 (tc_encode hk2 nH17 e2 hv kb.1 kb.2.1 kb.2.2) ?_
          rintro z2 ⟨⟨Ds, qs, d1, d2, d3⟩, b1, b2, b3, hy2, f2⟩
          have n2 : ∀ q, enP 20000 17000 q → 17001 ≤ q ∧ q ≤ 17011 ∨ 20004 ≤ q ∧ q ≤ 23005 := fun q hq => by
            unfold enP cpP epP cV cQ at hq
            omega
          have hD : mvD kd R j (enC (mv_T kd j Q R F P) Ds qs) := ⟨F, P, Q, Ds, qs, hmk, Q2, hB, d1, rfl⟩
          have hokC : okC (enC (mv_T kd j Q R F P) Ds qs) := by
            obtain ⟨A', sg', o1, o2, -⟩ := enc_ok hv d1
            exact ⟨A', sg', _, o1, o2⟩
          have kt2 : tbO z2 g' p' (Cs ++ X) os1 := tbO_fr f2 (fun q hq h9 => by have := n2 q h9; unfold cV at hq; omega) kt
          refine w_cs0 (tc_addNew hg' (kH_out hk2) (by omega) Nat.one_pos kt2.1 kt2.2.2.2.1 d2 d3 b1) ?_
          rintro z3 ⟨a1, a2, a3⟩
          have m16 : cAt z3 16000 R := cAt_fr a3 (fun q hq h9 => by unfold cP at hq; unfold cV at h9; omega) (cAt_fr f2 (fun q hq h9 => by have := n2 q h9; unfold cP at hq; omega) k16)
          have m17 : cAt z3 17000 (mv_T kd j Q R F P) := cAt_fr a3 (fun q hq h9 => by unfold cP at hq; unfold cV at h9; omega) hy2
          have m18 : ∀ k, z3.2.1 18001 k = F k := fun k => by
            rw [(a3 18001 (by unfold cV; omega)).2.1, (f2 18001 (fun h9 => by have := n2 _ h9; omega)).2.1]
            exact k18 k
          have m66 : ∀ k, z3.2.1 16006 k = P k := fun k => by
            rw [(a3 16006 (by unfold cV; omega)).2.1, (f2 16006 (fun h9 => by have := n2 _ h9; omega)).2.1]
            exact k66 k
          have mf : fr (coP g') y z3 := fr_tr kf (fr_tr (fr_mono (fun q hq => by have := n2 q hq; unfold coP; omega) f2) (fr_mono (fun q hq => Or.inr (Or.inr hq)) a3))
          have mb : byR z3 21001 ∧ byR z3 22001 ∧ byR z3 23001 := ⟨byR_fr a3 (by unfold cV; omega) b1, byR_fr a3 (by unfold cV; omega) b2, byR_fr a3 (by unfold cV; omega) b3⟩
          have mby : byR z3 (g' + 1) := a2 kt2.2.2.2.2
          rcases a1 with ⟨⟨k, k1, k2⟩, rfl⟩ | ⟨k, k1, k2, k3⟩
          · refine c3 z3 X os1 m16 m18 m66 mf ⟨_, m17, hb9⟩ kt2 mb q7 (fun i hi => ?_)
            by_cases ei : i = j
            · rw [ei]
              refine Or.inr ⟨_, hD, Or.inl ?_⟩
              rw [← k2]
              obtain ⟨s9, s91, s92, s93, s94⟩ := tab_at kt2.1 k1
              unfold atC
              have hk9 : (Cs ++ X).length = os1.length := kt2.1.2.1
              have hso : os1.getD k 0 < (Cs ++ X).length := by
                rw [List.getD_eq_getElem?_getD, List.getElem?_eq_getElem k1]
                exact (kt2.1.2.2.2 k _ (List.getElem?_eq_getElem k1)).2
              rw [List.getD_eq_getElem?_getD (l := Cs ++ X), List.getElem?_eq_getElem hso]
              exact List.getElem_mem hso
            · exact q8 i (by omega)
          · by_cases hl : os1.length < p'
            · rw [if_pos hl] at k3
              have hmo := k2 (srt_mo kt2.2.1 _)
              have hT3 : tbO z3 g' p' (Cs ++ (X ++ [enC (mv_T kd j Q R F P) Ds qs])) (insO os1 k os1.length) := by
                rw [← List.append_assoc]
                refine ⟨k3, srt_ins k1 kt2.1.2.1 (tabC_os kt2.1) kt2.2.1 (fun i hi => Int.le_of_lt (hmo.1 i hi)) (fun i h1 h2 => ?_), fun C hC => ?_, by rw [insO_len k1]; omega, mby⟩
                · have := hmo.2 i h1 h2
                  have := cmpC_sym (A := enC (mv_T kd j Q R F P) Ds qs) (B := atC (Cs ++ X) os1 i)
                  omega
                · rcases List.mem_append.mp hC with h9 | h9
                  · exact kt2.2.2.1 C h9
                  · rw [List.mem_singleton.mp h9]
                    exact hokC
              refine c3 z3 _ _ m16 m18 m66 mf ⟨_, m17, hb9⟩ hT3 mb (fun C hC => ?_) (fun i hi => ?_)
              · rcases List.mem_append.mp hC with h9 | h9
                · exact q7 C h9
                · rw [List.mem_singleton.mp h9]
                  exact ⟨j, hjl, hD⟩
              · by_cases ei : i = j
                · rw [ei]
                  exact Or.inr ⟨_, hD, Or.inl (List.mem_append_right _ (List.mem_append_right _ (List.mem_singleton.mpr rfl)))⟩
                · rcases q8 i (by omega) with h9 | ⟨C, h9, h8 | h8⟩
                  · exact Or.inl h9
                  · refine Or.inr ⟨C, h9, Or.inl ?_⟩
                    rw [← List.append_assoc]
                    exact List.mem_append_left _ h8
                  · omega
            · rw [if_neg hl] at k3
              have hfull : os1.length = p' := by
                have := kt2.2.2.2.1
                omega
              refine c3 z3 X os1 m16 m18 m66 mf ⟨_, m17, hb9⟩ ⟨k3, kt2.2.1, kt2.2.2.1, kt2.2.2.2.1, mby⟩ mb q7 (fun i hi => ?_)
              by_cases ei : i = j
              · rw [ei]
                exact Or.inr ⟨_, hD, Or.inr hfull⟩
              · exact q8 i (by omega)
    refine u_X6_collect_1 ?_; unfold cm_X6_collect_1
    refine w_cs1 (tc_countNumbers r0.1 hR.2.1 hk) ?_
    rintro v z1 ⟨e1, e2⟩
    dsimp only at e1 e2
    rw [e1, e2]
    exact c2 (mv_cnt R.1 kd) 0 z0 [] os (by omega) r0 r1 r2 r3 r4 (by rw [List.append_nil]; exact r5) r6 (fun C hC => by cases hC) (fun i hi => absurd hi (Nat.not_lt_zero _))
  have hbk := hN.2.2 20000 hk2
  refine e_X6_collect ?_
  refine u_X6_collect_0 ?_; unfold cm_X6_collect_0
  refine w_cs0 (tc_load2 nH16 hg (by omega) hs hA hC t01 t02) ?_
  rintro y1 ⟨⟨R, hR, hR1, hR2⟩, f1⟩
  have n1 : ∀ q, cL 16000 q → 16001 ≤ q ∧ q ≤ 16010 := fun q hq => by unfold cL at hq; omega
  have f1c : fr (coP g') y y1 := fr_mono (fun q hq => by have := n1 q hq; unfold coP; omega) f1
  have hT1 : tbO y1 g' p' Cs os := tbO_fr f1 (fun q hq h9 => by have := n1 q h9; unfold cV at hq; omega) hT
  have hQ1 : ∃ Q, cAt y1 17000 Q ∧ ow_b24 Q.2.2.1 := by
    obtain ⟨Q, a1, a2⟩ := hN.2.1 17000 nH17
    exact ⟨Q, cAt_fr f1 (fun q hq h9 => by have := n1 q h9; unfold cP at hq; omega) a1, a2⟩
  have hb1 : byR y1 21001 ∧ byR y1 22001 ∧ byR y1 23001 := ⟨byR_fr f1 (fun h9 => by have := n1 _ h9; omega) hbk.1, byR_fr f1 (fun h9 => by have := n1 _ h9; omega) hbk.2.1, byR_fr f1 (fun h9 => by have := n1 _ h9; omega) hbk.2.2⟩
  have hv := hR.2.2.1
  by_cases e3 : kd = 3
  · refine w_ifT (by rw [e3]; rfl) (w_cs0 (tc_markParts nH16 hR.1 (fun a ha => (hv.1 a ha).1) hv.2.1) ?_)
    rintro y2 ⟨m1, m2, m3⟩
    have hy2 : cAt y2 16000 R := cAt_fr m3 (fun q hq h9 => by unfold cP at hq; unfold cQ at h9; omega) hR.1
    refine w_cs0 (tc_faces (f := 18000) nH16 (Or.inr (Or.inl rfl)) (by omega) hy2 hv.2.2.1 hv.1 hv.2.1) ?_
    rintro y3 ⟨g1, g2, g3⟩
    have hof := np_parts_of (N := R.2.2.1.1) (c := R.1) (fun a ha => (hv.1 a ha).1) hv.2.1 (y1.2.1 (16000 + 6))
    have hfa := mr_out_rl (fun a ha => fc_on_vn hv.1 R.2.2.2 ha) (rl_fill (4 * R.1) (y2.2.1 (18000 + 1)) (-1)) (4 * R.1) (Nat.le_refl _)
    have u2 : ∀ q, cQ 16000 q → 16001 ≤ q ∧ q ≤ 16011 := fun q hq => by unfold cQ at hq; omega
    have u3 : ∀ q, cF 18000 q → q = 18001 ∨ q = 18002 := fun q hq => by unfold cF at hq; omega
    refine main R (y3.2.1 18001) (y3.2.1 16006) y3 hv hR.2.1 (fun _ => ⟨fun k hk9 => ?_, fun k hk9 => ?_⟩) (cAt_fr g3 (fun q hq h9 => by have := u3 q h9; unfold cP at hq; omega) hy2) (fun _ => rfl) (fun _ => rfl) (fr_tr f1c (fr_tr (fr_mono (fun q hq => by have := u2 q hq; unfold coP; omega) m3) (fr_mono (fun q hq => by have := u3 q hq; unfold coP; omega) g3))) ?_ (tbO_fr g3 (fun q hq h9 => by have := u3 q h9; unfold cV at hq; omega) (tbO_fr m3 (fun q hq h9 => by have := u2 q h9; unfold cV at hq; omega) hT1)) ⟨byR_fr g3 (fun h9 => by have := u3 _ h9; omega) (byR_fr m3 (fun h9 => by have := u2 _ h9; omega) hb1.1), byR_fr g3 (fun h9 => by have := u3 _ h9; omega) (byR_fr m3 (fun h9 => by have := u2 _ h9; omega) hb1.2.1), byR_fr g3 (fun h9 => by have := u3 _ h9; omega) (byR_fr m3 (fun h9 => by have := u2 _ h9; omega) hb1.2.2)⟩
    · rw [(g3 16006 (fun h9 => by have := u3 _ h9; omega)).2.1]
      exact (m1 k).trans (hof.1 k hk9)
    · exact (g1 k).trans (hfa.1 k hk9)
    · obtain ⟨Q, a1, a2⟩ := hQ1
      exact ⟨Q, cAt_fr g3 (fun q hq h9 => by have := u3 q h9; unfold cP at hq; omega) (cAt_fr m3 (fun q hq h9 => by have := u2 q h9; unfold cP at hq; omega) a1), a2⟩
  · refine w_ifF (fun h9 => e3 (nI_inj9 (a := kd) (b := 3) (by omega) (by omega) h9)) ?_
    exact main R (y1.2.1 18001) (y1.2.1 16006) y1 hv hR.2.1 (fun h9 => absurd h9 e3) hR.1 (fun _ => rfl) (fun _ => rfl) f1c hQ1 hT1 hb1
end CC5
end
section
/-! 99zzzzzw.cway -/
/-! the class: reach, surround; moves, simplify, way, moved, summand -/
/-- the tables that calls leave -/
def tbs (y : ow_MS) : Prop := (∃ Cs os, tbO y 2000 1848 Cs os) ∧ (∃ Cs os, tbO y 3000 12 Cs os) ∧ byR y 13001 ∧ byR y 14001 ∧ byR y 15001
def gM (y : ow_MS) : Prop := gN y ∧ tbs y
theorem tH2 : tH 2000 1848 := by unfold tH; decide
theorem tH3 : tH 3000 12 := by unfold tH; decide
theorem tH13 : tH 13000 301 := by unfold tH; decide
theorem tH14 : tH 14000 480 := by unfold tH; decide
theorem tH15 : tH 15000 480 := by unfold tH; decide
theorem tbs_fr {P : Nat → Prop} {y y1 : ow_MS} (hf : fr P y y1) (hP : ∀ g, P g → ¬ (2001 ≤ g ∧ g ≤ 2005 ∨ 3001 ≤ g ∧ g ≤ 3005 ∨ g = 13001 ∨ g = 14001 ∨ g = 15001)) (h : tbs y) : tbs y1 := by
  obtain ⟨⟨C2, o2, h2⟩, ⟨C3, o3, h3⟩, h4, h5, h6⟩ := h
  refine ⟨⟨C2, o2, tbO_fr hf (fun q hq h9 => hP q h9 (by unfold cV at hq; omega)) h2⟩, ⟨C3, o3, tbO_fr hf (fun q hq h9 => hP q h9 (by unfold cV at hq; omega)) h3⟩, byR_fr hf (fun h9 => hP _ h9 (by omega)) h4, byR_fr hf (fun h9 => hP _ h9 (by omega)) h5, byR_fr hf (fun h9 => hP _ h9 (by omega)) h6⟩
theorem gM_u {y y1 : ow_MS} (hf : fr uP y y1) (hN : gN y1) (h : gM y) : gM y1 := ⟨hN, tbs_fr hf (fun g hg => by unfold uP at hg; omega) h.2⟩
theorem tbO_0 {y : ow_MS} {g p : Nat} (hb : byR y (g + 1)) : tbO (usF y (g + 5) 0) g p [] [] := ⟨⟨po_usF_at, rfl, fun s C e => (by rw [List.getElem?_nil] at e; cases e), fun k s e => (by rw [List.getElem?_nil] at e; cases e)⟩, fun i j _ hj => absurd hj (Nat.not_lt_zero _), fun C hC => (by cases hC), Nat.zero_le _, hb⟩
theorem tb_at {y : ow_MS} {g p s : Nat} {Cs : List cdT} {os : List Nat} (h : tbO y g p Cs os) (hs : s < Cs.length) : ∃ A sg c, okL A c ∧ slC y g s (clC sg A) := by
  obtain ⟨A, sg, c, h1, h2⟩ := h.2.2.1 Cs[s] (List.getElem_mem hs)
  have h3 := (h.1.2.2.1 s _ (List.getElem?_eq_getElem hs)).1
  rw [h2] at h3
  exact ⟨A, sg, c, h1, h3⟩
theorem gN_F {y : ow_MS} {g : Nat} {x : Int32} (hg : ∀ h, nH h → ¬ cP h g) (h : gN y) : gN (usF y g x) := by
  refine ⟨h.1, nsC_fr (P := fun q => q = g) (fr_F rfl) (fun h' hh' q hq h9 => hg h' hh' (by rw [← h9]; exact hq)) h.2.1, h.2.2⟩
theorem far_cP {g : Nat} (hg : g < 4001 ∨ 5011 < g ∧ g < 16001) : ∀ h, nH h → ¬ cP h g := by
  intro h hh h9
  have key : ∀ a, a ∈ nHL → a = 4000 ∨ a = 5000 ∨ 16000 ≤ a := by decide
  have := key h hh
  unfold cP at h9
  omega
/-- a code with a place: what stays -/
theorem gN_put {y y1 : ow_MS} {d : Nat} {C : cdT} (hN : gN y) (hC : okC C) (w1 : slC y1 1000 d C) (w2 : ∀ t D, t ≠ d → cOK D → slC y 1000 t D → slC y1 1000 t D) (w3 : byR y 1001 → byR y1 1001) (w4 : fr (cW 1000) y y1) : gN y1 := by
  refine ⟨⟨w3 hN.1.1, fun e he => ?_⟩, nsC_fr w4 (fun h' hh' g hg h9 => ?_) hN.2.1, kdC_fr w4 (fun g h9 => ?_) hN.2.2⟩
  · by_cases ed : e = d
    · rw [ed]
      by_cases el : C.2 = []
      · refine Or.inl ⟨C.1, (okC_ok hC).1, ?_⟩
        have : C = (C.1, []) := Prod.ext rfl el
        rw [← this]
        exact w1
      · exact Or.inr ⟨_, w1, hC, List.length_pos_iff.mpr el⟩
    · rcases hN.1.2 e he with ⟨c, c1, c2⟩ | ⟨D, c1, c2, c3⟩
      · exact Or.inl ⟨c, c1, w2 e _ ed ⟨c1, Nat.zero_le _, fun a ha => by cases ha⟩ c2⟩
      · exact Or.inr ⟨D, w2 e D ed (okC_ok c2) c1, c2, c3⟩
  · have h4 : 4000 ≤ h' := nH_all (P := fun h => 4000 ≤ h) (by decide) hh'
    unfold cP at hg
    unfold cW at h9
    omega
  · unfold cW at h9
    omega
def vP (g : Nat) : Prop := 1001 ≤ g ∧ g ≤ 1005 ∨ 2001 ≤ g ∧ g ≤ 2005 ∨ 13001 ≤ g ∧ g ≤ 19002 ∨ 20004 ≤ g ∧ g ≤ 23005
section CW2
variable {vl : Nat → Nat} {y : ow_MS} {x x' : Int32}
theorem co_v {g' : Nat} {y1 : ow_MS} (h : g' = 2000 ∨ g' = 13000 ∨ g' = 14000 ∨ g' = 15000) (hf : fr (coP g') y y1) : fr vP y y1 := fr_mono (fun g hg => by unfold coP cV at hg; unfold vP; omega) hf
theorem tgk {g' : Nat} (h : g' = 2000 ∨ g' = 13000 ∨ g' = 14000 ∨ g' = 15000) : ∀ q, cV g' q → q ≠ 8001 ∧ q ≠ 9001 ∧ q ≠ 10001 ∧ (q < 4001 ∨ 5011 < q) := by
  intro q hq
  unfold cV at hq
  omega
theorem e_X11_moves {vl : Nat → Nat} {r0 : Nat} {x1 : Int32} {x2 : Int32} {z : ow_MS} {Q : (Nat × Int32 × ow_MS) → Prop} (H : Tt (fun K _ => cm_X11_moves_0 vl K x1 x2 r0 z) Q) : Te (fun K => ce_X11_moves vl K r0 x1 x2 z) Q := w_te0 H
theorem tc_moves (hN : gM y) : Te (fun K => ce_X11_moves vl K 0 x x' y) (fun r => gM r.2.2 ∧ fr vP y r.2.2) := by
  refine e_X11_moves ?_; unfold cm_X11_moves_0
  refine w_tc0 (tc_need hN.1.1) ?_ ?_
  · rintro y1 ⟨h1, rfl⟩
    rcases h1 with ⟨-, d, A, sg, c, hd, rfl, hs, hA, hne⟩ | h1
    · refine w_if (fun _ => w_some ⟨hN, fr_rf⟩) (fun e0 => ?_)
      obtain ⟨kd, k31, rfl⟩ := nI_of e0
      refine w_lt (b := 5) k31 (by omega) (fun hk => ?_) (fun _ => w_some ⟨hN, fr_rf⟩)
      obtain ⟨⟨C2, o2, t2⟩, t3, t4, t5, t6⟩ := id hN.2
      refine w_wrF (w_cs0 (tc_collect ch_1000 hd (by omega) hs hA tH2 (by omega) (Nat.le_refl _) (tgk (Or.inl rfl)) hk (gN_F (far_cP (by omega)) hN.1) (tbO_0 t2.2.2.2.2)) ?_)
      rintro y2 ⟨g1, g2, R, X, os', g3, g4, g5, g6, g7⟩
      refine w_rdF rfl (w_some ⟨⟨g1, ⟨_, os', g5⟩, ?_⟩, ?_⟩)
      · have hf : fr (coP 2000) y1 y2 := fr_tr (fr_F (by unfold coP cV; omega)) g2
        obtain ⟨C3, o3, h3⟩ := t3
        exact ⟨⟨C3, o3, tbO_fr hf (fun q hq h9 => by unfold cV at hq; unfold coP cV at h9; omega) h3⟩, byR_fr hf (by unfold coP cV; omega) t4, byR_fr hf (by unfold coP cV; omega) t5, byR_fr hf (by unfold coP cV; omega) t6⟩
      · exact fr_tr (fr_F (by unfold vP; omega)) (co_v (Or.inl rfl) g2)
    · exact absurd (show (0 : Nat) = 1 from h1.1) (by decide)
  · rintro a y1 ha ⟨h1, rfl⟩
    exact w_some ⟨hN, fr_rf⟩
/-- what a call of the mover leaves of the tables it does not name -/
theorem tbs_co {g' : Nat} {y1 : ow_MS} (h : g' = 13000 ∨ g' = 14000 ∨ g' = 15000) (hf : fr (coP g') y y1) (hb : byR y1 (g' + 1)) (ht : tbs y) : tbs y1 := by
  obtain ⟨⟨C2, o2, h2⟩, ⟨C3, o3, h3⟩, h4, h5, h6⟩ := ht
  refine ⟨⟨C2, o2, tbO_fr hf (fun q hq h9 => by unfold cV at hq; unfold coP cV at h9; omega) h2⟩, ⟨C3, o3, tbO_fr hf (fun q hq h9 => by unfold cV at hq; unfold coP cV at h9; omega) h3⟩, ?_⟩
  rcases h with rfl | rfl | rfl
  · exact ⟨hb, byR_fr hf (by unfold coP cV; omega) h5, byR_fr hf (by unfold coP cV; omega) h6⟩
  · exact ⟨byR_fr hf (by unfold coP cV; omega) h4, hb, byR_fr hf (by unfold coP cV; omega) h6⟩
  · exact ⟨byR_fr hf (by unfold coP cV; omega) h4, byR_fr hf (by unfold coP cV; omega) h5, hb⟩
theorem u_X6_surround_1 {vl : Nat → Nat} {x2 : Int32} {x4 : Int32} {r0 : Nat} {r1 : Nat} {r3 : Nat} {z : ow_MS} {Q : ow_MS → Prop} (H : Tt (fun K k => cm_X6_surround_1 vl K (c_X6_surround vl K k) x2 x4 r0 r1 r3 z) Q) : Tt (fun K k => c_X6_surround vl K k 1 x2 x4 r0 r1 r3 z) Q := w_un (fun _ _ => rfl) H
theorem e_X6_surround {vl : Nat → Nat} {r0 : Nat} {r1 : Nat} {x2 : Int32} {r3 : Nat} {z : ow_MS} {Q : ow_MS → Prop} (H : Tt (fun K k => c_X6_surround vl K k 0 x2 0 r0 r1 r3 z) Q) : Te (fun K => ce_X6_surround vl K r0 r1 x2 r3 z) Q := w_te H
theorem u_X6_surround_0 {vl : Nat → Nat} {x2 : Int32} {x4 : Int32} {r0 : Nat} {r1 : Nat} {r3 : Nat} {z : ow_MS} {Q : ow_MS → Prop} (H : Tt (fun K k => cm_X6_surround_0 vl K (c_X6_surround vl K k) x2 x4 r0 r1 r3 z) Q) : Tt (fun K k => c_X6_surround vl K k 0 x2 x4 r0 r1 r3 z) Q := w_un (fun _ _ => rfl) H
theorem u_X6_reach_1 {vl : Nat → Nat} {x2 : Int32} {x3 : Int32} {r0 : Nat} {r1 : Nat} {z : ow_MS} {Q : ow_MS → Prop} (H : Tt (fun K k => cm_X6_reach_1 vl K (c_X6_reach vl K k) x2 x3 r0 r1 z) Q) : Tt (fun K k => c_X6_reach vl K k 1 x2 x3 r0 r1 z) Q := w_un (fun _ _ => rfl) H
theorem e_X6_reach {vl : Nat → Nat} {r0 : Nat} {r1 : Nat} {x2 : Int32} {z : ow_MS} {Q : ow_MS → Prop} (H : Tt (fun K k => c_X6_reach vl K k 0 x2 0 r0 r1 z) Q) : Te (fun K => ce_X6_reach vl K r0 r1 x2 z) Q := w_te H
theorem u_X6_reach_0 {vl : Nat → Nat} {x2 : Int32} {x3 : Int32} {r0 : Nat} {r1 : Nat} {z : ow_MS} {Q : ow_MS → Prop} (H : Tt (fun K k => cm_X6_reach_0 vl K (c_X6_reach vl K k) x2 x3 r0 r1 z) Q) : Tt (fun K k => c_X6_reach vl K k 0 x2 x3 r0 r1 z) Q := w_un (fun _ _ => rfl) H
theorem tc_reach {d c : Nat} {A : rn_L} {sg : Nat → Bool} (hN : gM y) (hd : d < 40) (hs : slC y 1000 d (clC sg A)) (hA : okL A c) : Te (fun K => ce_X6_reach vl K 12000 1000 (nI d) y) (fun y1 => gM y1 ∧ fr (coP 13000) y y1 ∧ ∃ Cs os, tbO y1 13000 301 Cs os ∧ 0 < os.length) := by
  let Q0 : ow_MS → Prop := fun y1 => gM y1 ∧ fr (coP 13000) y y1 ∧ ∃ Cs os, tbO y1 13000 301 Cs os ∧ 0 < os.length
  have hg4 : 13000 = 2000 ∨ 13000 = 13000 ∨ 13000 = 14000 ∨ 13000 = 15000 := Or.inr (Or.inl rfl)
  have c1 : ∀ (k i : Nat) (z : ow_MS) (Cs : List cdT) (os : List Nat), i + k = 302 → gN z → fr (coP 13000) y z → tbO z 13000 301 Cs os → 0 < os.length → Tt (fun K t => c_X6_reach vl K t 1 (nI d) (nI i) 12000 1000 z) Q0 := by
    intro k
    induction k with
    | zero =>
      intro i z Cs os hi q1 q2 q3 q4
      have hl := q3.2.2.2.1
      refine u_X6_reach_1 ?_; unfold cm_X6_reach_1
      exact w_rdF q3.1.1 (w_leT (by omega) (by omega) (w_some ⟨⟨q1, tbs_co (Or.inl rfl) q2 q3.2.2.2.2 hN.2⟩, q2, Cs, os, q3, q4⟩))
    | succ k ih =>
      intro i z Cs os hi q1 q2 q3 q4
      have hl := q3.2.2.2.1
      have fin : Tt (fun _ _ => some z) Q0 := w_some ⟨⟨q1, tbs_co (Or.inl rfl) q2 q3.2.2.2.2 hN.2⟩, q2, Cs, os, q3, q4⟩
      refine u_X6_reach_1 ?_; unfold cm_X6_reach_1
      refine w_rdF q3.1.1 (w_le (by omega) (by omega) (fun _ => fin) (fun hio => w_rdF q3.1.1 (w_lt (a := 300) (by omega) (by omega) (fun _ => fin) (fun _ => ?_))))
      have hCl : Cs.length = os.length := q3.1.2.1
      obtain ⟨B, sgB, cB, b1, b2⟩ := tb_at q3 (show i < Cs.length by omega)
      refine w_cs0 (tc_collect (kd := 0) tH13 (show i < 301 by omega) (by omega) b2 b1 tH13 (by omega) (by omega) (tgk hg4) (by omega) q1 q3) ?_
      rintro z1 ⟨g1, g2, R1, X1, os1, -, -, g5, -, -⟩
      have hl1 : (Cs ++ X1).length = os1.length := g5.1.2.1
      rw [List.length_append] at hl1
      obtain ⟨B1, sgB1, cB1, b11, b12⟩ := tb_at g5 (show i < (Cs ++ X1).length by rw [List.length_append]; omega)
      refine w_cs0 (tc_collect (kd := 2) tH13 (show i < 301 by omega) (by omega) b12 b11 tH13 (by omega) (by omega) (tgk hg4) (by omega) g1 g5) ?_
      rintro z2 ⟨g1', g2', R2, X2, os2, -, -, g5', -, -⟩
      have hl2 : (Cs ++ X1 ++ X2).length = os2.length := g5'.1.2.1
      rw [List.length_append, List.length_append] at hl2
      obtain ⟨B2, sgB2, cB2, b21, b22⟩ := tb_at g5' (show i < (Cs ++ X1 ++ X2).length by rw [List.length_append, List.length_append]; omega)
      refine w_cs0 (tc_collect (kd := 4) tH13 (show i < 301 by omega) (by omega) b22 b21 tH13 (by omega) (by omega) (tgk hg4) (by omega) g1' g5') ?_
      rintro z3 ⟨g1'', g2'', R3, X3, os3, -, -, g5'', -, -⟩
      have hl3 : (Cs ++ X1 ++ X2 ++ X3).length = os3.length := g5''.1.2.1
      rw [List.length_append, List.length_append, List.length_append] at hl3
      rw [nI_1]
      exact ih (i + 1) z3 _ os3 (by omega) g1'' (fr_tr q2 (fr_tr g2 (fr_tr g2' g2''))) g5'' (by omega)
  refine e_X6_reach ?_
  refine u_X6_reach_0 ?_; unfold cm_X6_reach_0
  have t0 := tbO_0 (p := 301) (show byR y (13000 + 1) from hN.2.2.2.1)
  have oC := (okL_c (sg := sg) hA).2
  refine w_wrF (w_cs0 (tc_addNew tH13 ch_1000 (by omega) hd t0.1 (Nat.zero_le _) (B := clC sg A) hs oC hN.1.1.1) ?_)
  rintro z1 ⟨a1, a2, a3⟩
  have f1 : fr (coP 13000) y z1 := fr_tr (fr_F (by unfold coP cV; omega)) (fr_mono (fun q hq => Or.inr (Or.inr hq)) a3)
  have n1 : gN z1 := by
    have hk := (gN_F (x := 0) (far_cP (g := 13005) (by omega)) hN.1)
    refine ⟨dgC_fr a3 (fun q q1 q2 h9 => by unfold cV at h9; omega) hk.1, nsC_fr a3 (fun h hh q hq h9 => far_cP (g := q) (by unfold cV at h9; omega) h hh hq) hk.2.1, kdC_fr a3 (fun q h9 => by unfold cV at h9; omega) hk.2.2⟩
  rcases a1 with ⟨⟨k, k1, k2⟩, -⟩ | ⟨k, k1, k2, k3⟩
  · exact absurd k1 (Nat.not_lt_zero _)
  · rw [if_pos (show ([] : List Nat).length < 301 from by show 0 < 301; omega)] at k3
    have k0 : k = 0 := Nat.le_zero.mp k1
    refine c1 302 0 z1 [clC sg A] (insO [] k ([] : List Nat).length) (by omega) n1 f1 ⟨k3, ?_, fun C hC => ?_, ?_, a2 t0.2.2.2.2⟩ ?_
    · intro i j hij hj
      rw [insO_len k1] at hj
      have : j < 1 := hj
      omega
    · rw [List.mem_singleton.mp hC]
      exact ⟨A, sg, c, hA, rfl⟩
    · rw [insO_len k1]
      show 0 + 1 ≤ 301
      omega
    · rw [insO_len k1]
      exact Nat.succ_pos _
theorem e_X11_simplify {vl : Nat → Nat} {r0 : Nat} {x1 : Int32} {z : ow_MS} {Q : (Nat × Int32 × ow_MS) → Prop} (H : Tt (fun K _ => cm_X11_simplify_0 vl K x1 r0 z) Q) : Te (fun K => ce_X11_simplify vl K r0 x1 z) Q := w_te0 H
theorem tc_simplify (hN : gM y) : Te (fun K => ce_X11_simplify vl K 0 x y) (fun r => gM r.2.2 ∧ fr vP y r.2.2) := by
  refine e_X11_simplify ?_; unfold cm_X11_simplify_0
  refine w_tc0 (tc_need hN.1.1) ?_ ?_
  · rintro y1 ⟨h1, rfl⟩
    rcases h1 with ⟨-, d, A, sg, c, hd, rfl, hs, hA, hne⟩ | h1
    · refine w_tc1 (tc_freeDiagram (dgC_E hN.1.1)) ?_ ?_
      · rintro v y2 ⟨h2, rfl⟩
        rcases h2 with ⟨e, he, -, rfl, h3, h4⟩ | h2
        · refine w_cs0 (tc_reach hN hd hs hA) ?_
          rintro y3 ⟨g1, g2, Cs, os, g3, g4⟩
          have fv : fr vP y2 y3 := co_v (Or.inr (Or.inl rfl)) g2
          have hl := g3.2.2.2.1
          refine w_rdF g3.1.1 (w_le (b := 300) (by omega) (by omega) (fun h300 => ?_) (fun _ => w_some ⟨g1, fv⟩))
          obtain ⟨s, s1, s2, s3, s4⟩ := tab_at g3.1 g4
          have hCl : Cs.length = os.length := g3.1.2.1
          have hokC : okC (atC Cs os 0) := by
            have hso : os.getD 0 0 < Cs.length := by
              rw [List.getD_eq_getElem?_getD, List.getElem?_eq_getElem g4]
              exact (g3.1.2.2.2 0 _ (List.getElem?_eq_getElem g4)).2
            unfold atC
            rw [List.getD_eq_getElem?_getD (l := Cs), List.getElem?_eq_getElem hso]
            exact g3.2.2.1 _ (List.getElem_mem hso)
          refine w_crI (i := 0) (tH_4 tH13) rfl (by omega) s2 (w_cs0 (tc_write ch_1000 tH13 (by omega) he (show s < 301 by omega) s3 s4 g3.2.2.2.2) ?_)
          rintro y4 ⟨w1, w2, w3, w4⟩
          exact w_some ⟨⟨gN_put g1.1 hokC w1 w2 w3 w4, tbs_fr w4 (fun g hg => by unfold cW at hg; omega) g1.2⟩, fr_tr fv (fr_mono (fun g hg => by unfold cW at hg; unfold vP; omega) w4)⟩
        · exact absurd (show (0 : Nat) = 3 from h2.1) (by decide)
      · rintro a v y2 ha ⟨h2, rfl⟩
        exact w_some ⟨hN, fr_rf⟩
    · exact absurd (show (0 : Nat) = 1 from h1.1) (by decide)
  · rintro a y1 ha ⟨h1, rfl⟩
    exact w_some ⟨hN, fr_rf⟩
theorem e_X11_way {vl : Nat → Nat} {r0 : Nat} {x1 : Int32} {x2 : Int32} {z : ow_MS} {Q : (Nat × Int32 × ow_MS) → Prop} (H : Tt (fun K _ => cm_X11_way_0 vl K x1 x2 r0 z) Q) : Te (fun K => ce_X11_way vl K r0 x1 x2 z) Q := w_te0 H
theorem e_X11_copyOut {vl : Nat → Nat} {r0 : Nat} {r1 : Nat} {x2 : Int32} {z : ow_MS} {Q : (Nat × Int32 × ow_MS) → Prop} (H : Tt (fun K _ => cm_X11_copyOut_0 vl K x2 r0 r1 z) Q) : Te (fun K => ce_X11_copyOut vl K r0 r1 x2 z) Q := w_te0 H
theorem e_X11_moved {vl : Nat → Nat} {r0 : Nat} {x1 : Int32} {z : ow_MS} {Q : (Nat × Int32 × ow_MS) → Prop} (H : Tt (fun K _ => cm_X11_moved_0 vl K x1 r0 z) Q) : Te (fun K => ce_X11_moved vl K r0 x1 z) Q := w_te0 H
theorem e_X11_summand {vl : Nat → Nat} {r0 : Nat} {x1 : Int32} {z : ow_MS} {Q : (Nat × Int32 × ow_MS) → Prop} (H : Tt (fun K _ => cm_X11_summand_0 vl K x1 r0 z) Q) : Te (fun K => ce_X11_summand vl K r0 x1 z) Q := w_te0 H
end CW2
end
section
/-! 99zzzzzx.csum -/
/-! the class: summands -/
theorem smN_ge {f : Nat → Nat} : ∀ n, (∀ r, r < n → 1 ≤ f r) → n ≤ smN f n
  | 0, _ => Nat.le_refl _
  | n + 1, h => by
    have := smN_ge n (fun r hr => h r (by omega))
    have := h n (by omega)
    show n + 1 ≤ smN f n + f n
    omega
theorem smN_one_ge {f : Nat → Nat} {r : Nat} : ∀ n, r < n → (∀ s, s < n → 1 ≤ f s) → f r + n ≤ smN f n + 1
  | 0, h, _ => absurd h (Nat.not_lt_zero _)
  | n + 1, hr, h => by
    show f r + (n + 1) ≤ smN f n + f n + 1
    by_cases e : r = n
    · have := smN_ge n (fun s hs => h s (by omega))
      rw [e]
      omega
    · have := smN_one_ge n (show r < n by omega) (fun s hs => h s (by omega))
      have := h n (by omega)
      omega
/-- rings of a part -/
def ptR (c : Nat) (S : ow_NP) (r : Nat) : Nat := cntB (fun v => decide ((np_parts c S.1).1 v = nI r) && lst S.1 v 24) (2 * c)
def ptV (c : Nat) (S : ow_NP) (r : Nat) : Nat := cntB (fun v => decide ((np_parts c S.1).1 v = nI r) && true) (2 * c)
theorem ptR_pos {c : Nat} {S : ow_NP} (hv : vn c S) (hc : c ≤ 12) {r : Nat} (hr : r < (np_parts c S.1).2) : 1 ≤ ptR c S r := by
  obtain ⟨i1, i2, i3, i4⟩ := parts_I hv hc
  obtain ⟨v, v1, v2⟩ := i3 r hr
  obtain ⟨m, hm1, hm2⟩ := ring_ex hv v1
  obtain ⟨w, w1, ⟨j, j1, j2⟩, w3⟩ := ring_least hv hc v1 hm2 hm1
  have hl : lst S.1 w 24 = true := (w3 w ⟨j, j1, j2⟩).mpr rfl
  have hw : (np_parts c S.1).1 w = nI r := by
    rw [j2, mark_it hv hc v1]
    exact v2
  have := cntB_rm (q := fun v => decide ((np_parts c S.1).1 v = nI r) && lst S.1 v 24) w1 (by rw [decide_eq_true hw, hl]; rfl)
  unfold ptR
  omega
theorem ptR_sum {c : Nat} {S : ow_NP} (hv : vn c S) (hc : c ≤ 12) : smN (ptR c S) (np_parts c S.1).2 = np_rg c S := by
  obtain ⟨i1, i2, i3, i4⟩ := parts_I hv hc
  exact cnt_parts (F := (np_parts c S.1).1) (q := fun v => lst S.1 v 24) (P := (np_parts c S.1).2) (by omega) (2 * c) i2
/-- few rings for many parts -/
def fwR (c : Nat) (S : ow_NP) : Prop := np_rg c S ≤ 5 + (np_parts c S.1).2
theorem fwR_pt {c : Nat} {S : ow_NP} (hv : vn c S) (hc : c ≤ 12) (h : fwR c S) {r : Nat} (hr : r < (np_parts c S.1).2) : ptR c S r ≤ 6 ∧ ptL c S r ≤ 30 := by
  have h1 := smN_one_ge (f := ptR c S) _ hr (fun s hs => ptR_pos hv hc hs)
  rw [ptR_sum hv hc] at h1
  unfold fwR at h
  have h2 : ptR c S r ≤ 6 := by omega
  refine ⟨h2, ?_⟩
  have h3 := cntB_le (fun v => decide ((np_parts c S.1).1 v = nI r) && true) (2 * c)
  have h4 : ptL c S r = ptV c S r + ptR c S r := rfl
  unfold ptV at h4
  omega
theorem po_w_P {P : Nat → Bool} : ∀ (d w : Nat) {r : Nat}, po_w P d w = some r → P r = true
  | 0, _, _, h => by cases h
  | d + 1, w, r, h => by
    have h : (if P w then some w else po_w P d (w + 1)) = some r := h
    by_cases e : P w = true
    · rw [if_pos e] at h
      cases h
      exact e
    · rw [if_neg e] at h
      exact po_w_P d (w + 1) h
theorem po_v_P {P : Nat → Nat → Bool} {n : Nat} : ∀ (d v : Nat) {q : Nat × Nat}, po_v P n d v = some q → P q.1 q.2 = true
  | 0, _, _, h => by cases h
  | d + 1, v, q, h => by
    have h : po_in P n d v (po_v P n d) (po_w (P v) (n - (v + 1)) (v + 1)) = some q := h
    cases e : po_w (P v) (n - (v + 1)) (v + 1) with
    | none =>
      rw [e] at h
      exact po_v_P d (v + 1) h
    | some w =>
      rw [e] at h
      have h : some (v, w) = some q := h
      cases h
      exact po_w_P _ _ e
theorem once_fw {c : Nat} {S : ow_NP} (hv : vn c S) (hc : c ≤ 12) (h : fwR c S) : fwR c (np_onceS S (np_once c S)) := by
  cases e : np_once c S with
  | none => exact h
  | some q =>
    have h1 := po_v_in (2 * c) 0 (by omega) e
    have h2 := of_decide_eq_true (po_v_P _ _ e)
    have h3 := np_rg_exchange hv hc h1.1 h1.2
    unfold fwR at h ⊢
    show np_rg c (np_exchange S q.1 q.2) ≤ 5 + (np_parts c (np_exchange S q.1 q.2).1).2
    have := h2.2
    omega
theorem all_ok {c : Nat} (hc : c ≤ 12) : ∀ (d : Nat) (S : ow_NP), vn c S → ow_b24 S → fwR c S → vn c (np_all c d S) ∧ ow_b24 (np_all c d S) ∧ fwR c (np_all c d S)
  | 0, S => fun h1 h2 h3 => ⟨h1, h2, h3⟩
  | d + 1, S => fun h1 h2 h3 => by
    rw [np_all]
    split
    · exact all_ok hc d _ (once_vn h1) (once_b24 hc h2) (once_fw h1 hc h3)
    · exact ⟨h1, h2, h3⟩
/-- a part's own list is one that codes are written from -/
theorem gp_okC {B : rn_L} {sgB : Nat → Bool} {c : Nat} (h : gp B c) (hc : c ≤ 12) (h6 : B.length ≤ 6) : okC (c, tk sgB B) := by
  have e0 : shN 0 B = B := by
    unfold shN
    have : ∀ L : List (Nat × Nat), L.map (fun p => (p.1 + 0, p.2)) = L := fun L => List.map_id L
    rw [show (fun L : List (Nat × Nat) => L.map (fun p => (p.1 + 0, p.2))) = fun L => L from funext this, List.map_id']
  have hl := okF_len h.1
  obtain ⟨u1, u2⟩ := ucd_part (sg := sgB) (sgB := sgB) (R := []) clD_nil h (fun x _ => rfl) B.length 0 (by omega) (List.length_pos_iff.mpr h.2.2.2.1)
  rw [show B.take 0 = [] from rfl, show shN 0 [] = [] from rfl, List.append_nil, List.drop_zero, e0, List.append_nil] at u1 u2
  have hu : ucd sgB 0 [] B = tk sgB B := by
    rw [u1]
    show tk sgB B ++ [] = _
    rw [List.append_nil]
  refine ⟨B, sgB, c, ⟨h.1, h.2.1, u2 trivial, hc, h6⟩, ?_⟩
  unfold clC
  rw [hu, hl, show 2 * c / 2 = c by omega]
theorem part_okC {T : ow_NT} {r : Nat} {C : cdT} (hv : vn T.1 T.2.2.1) (hc : T.1 ≤ 12) (hci : T.2.1 ≤ 6) (hf : fwR T.1 T.2.2.1) (hr : r < (np_parts T.1 T.2.2.1.1).2) (hC : epC T (np_parts T.1 T.2.2.1.1).1 (nI r) C) (hl : C.2.length = ptL T.1 T.2.2.1 r) : okC C := by
  obtain ⟨rl, hrl⟩ := rlK_ex hv
  obtain ⟨hi, hn⟩ := netL_iso hrl hv hc
  obtain ⟨m, P, hk⟩ := mk_ex (netL rl T)
  have hpl := parts_le hv hc
  have hf2 := hf
  unfold fwR at hf2
  obtain ⟨i1, i2, i3, i4⟩ := parts_I hv hc
  obtain ⟨k, k1, k2⟩ := i3 r hr
  obtain ⟨v, v1, v2⟩ := lbv_sur hi k1
  obtain ⟨q1, q2, B, sgB, q3, q4⟩ := part_key hi (by omega) hv hk v1 (by rw [v2]; exact k2) hC
  have hcnt := pvl_cnt hi hv hk v1 (r := r) (by rw [v2]; exact k2)
  have hcv : ptV T.1 T.2.2.1 r = cntV (np_parts T.1 T.2.2.1.1).1 (nI r) (2 * T.1) := by
    unfold ptV
    rw [cntB_fl, cntV_f]
    congr 1
    apply List.filter_congr
    intro x _
    rw [Bool.and_true]
  have hBl := okF_len q3.1
  have hrow : C.2.length = B.flatten.length + B.length := by rw [q4, tk_ln]
  have hpt : ptL T.1 T.2.2.1 r = ptV T.1 T.2.2.1 r + ptR T.1 T.2.2.1 r := rfl
  have h6 := (fwR_pt hv hc hf hr).1
  have hC1 : C.1 ≤ 12 := by
    have := cntV_le (np_parts T.1 T.2.2.1.1).1 (nI r) (2 * T.1)
    omega
  have := gp_okC (sgB := sgB) q3 hC1 (by omega)
  rw [← q4] at this
  exact this
section CY
variable {vl : Nat → Nat} {y : ow_MS} {x : Int32}
def sumP (g : Nat) : Prop := 3001 ≤ g ∧ g ≤ 3005 ∨ 4001 ≤ g ∧ g ≤ 4011 ∨ 7004 ≤ g ∧ g ≤ 9003
theorem e_X11_summands {vl : Nat → Nat} {r0 : Nat} {x1 : Int32} {z : ow_MS} {Q : (Nat × Int32 × ow_MS) → Prop} (H : Tt (fun K _ => cm_X11_summands_0 vl K x1 r0 z) Q) : Te (fun K => ce_X11_summands vl K r0 x1 z) Q := w_te0 H
theorem tc_summands (hN : gM y) : Te (fun K => ce_X11_summands vl K 0 x y) (fun r => gM r.2.2 ∧ fr sumP y r.2.2) := by
  refine e_X11_summands ?_; unfold cm_X11_summands_0
  refine w_tc0 (tc_need hN.1.1) ?_ ?_
  · rintro y1 ⟨h1, rfl⟩
    rcases h1 with ⟨-, d, A, sg, c, hd, rfl, hs, hA, hne⟩ | h1
    · refine w_cs0 (tc_ld nH4 hN.1 hd hs hA) ?_
      rintro y3 ⟨hN3, f3, T, hT, hT1, hT2⟩
      have hv := hT.2.2.1
      have f3s : fr sumP y1 y3 := fr_mono (fun g hg => by unfold cL at hg; unfold sumP; omega) f3
      have hb3 : tbs y3 := tbs_fr f3 (fun g hg => by unfold cL at hg; omega) hN.2
      refine w_cs0 (tc_partAll nH4 hT.1 hv.2.2.1 hv.1 hv.2.1) ?_
      rintro y4 ⟨g1, g2⟩
      have hfw : fwR T.1 T.2.2.1 := by
        have h6 := hv.2.2.2
        unfold fwR
        rcases Nat.eq_zero_or_pos T.1 with e | e
        · have : np_rg T.1 T.2.2.1 = 0 := by
            rw [e]
            rfl
          omega
        · have hp : 0 < (np_parts T.1 T.2.2.1.1).2 := by
            obtain ⟨r, r1, -⟩ := (parts_I hv.1 hv.2.1).2.1 0 (by omega)
            omega
          omega
      obtain ⟨n1, n2, n3⟩ := all_ok hv.2.1 12 T.2.2.1 hv.1 hv.2.2.1 hfw
      have hci : T.2.1 ≤ 6 := by have := hv.2.2.2; omega
      have hN4 : gN y4 := gN_net nH4 g2 (fun g hg => by unfold cO cP cR cQ at hg; omega) ⟨_, g1, n2⟩ hN3
      have f4s : fr sumP y1 y4 := fr_tr f3s (fr_mono (fun g hg => by unfold cO cP cR cQ at hg; unfold sumP; omega) g2)
      have hb4 : tbs y4 := tbs_fr g2 (fun g hg => by unfold cO cP cR cQ at hg; omega) hb3
      have hk7 := hN4.2.2 7000 (Or.inl rfl)
      obtain ⟨C3, o3, t3⟩ := hb4.2.1
      refine w_cs0 (tc_collectParts (Or.inl rfl) nH4 tH3 (by omega) (by omega) g1 n1 hv.2.1 n2 (fun r hr => (fwR_pt n1 hv.2.1 n3 hr).2) hk7.2.1 t3.2.2.2.2) ?_
      rintro y5 ⟨⟨Cs, os, z1, z2⟩, b1, b2, hy5, f5⟩
      have u5 : ∀ q, cpP 7000 3000 4000 q → 3001 ≤ q ∧ q ≤ 3005 ∨ 4001 ≤ q ∧ q ≤ 4011 ∨ 7004 ≤ q ∧ q ≤ 7006 ∨ 9001 ≤ q ∧ q ≤ 9003 := fun q hq => by unfold cpP epP cV cQ at hq; omega
      have hl : os.length ≤ 12 := by
        have h9 := parts_le n1 hv.2.1
        have h8 : Cs.length = os.length := z2.2.1
        have h7 : Cs.length = (np_parts T.1 (np_all T.1 12 T.2.2.1).1).2 := z1.1
        have h6 : (np_parts T.1 (np_all T.1 12 T.2.2.1).1).2 ≤ T.1 := h9
        have := hv.2.1
        omega
      have ht5 : tbO y5 3000 12 Cs os := by
        refine ⟨z2, z1.2.2.2, fun C hC => ?_, hl, b2⟩
        obtain ⟨r, hr⟩ := List.getElem?_of_mem hC
        have hr2 := (List.getElem?_eq_some_iff.mp hr).1
        obtain ⟨e1, e2⟩ := z1.2.1 r C hr
        exact part_okC (T := ntS T (np_all T.1 12 T.2.2.1)) n1 hv.2.1 hci n3 (by rw [← z1.1]; exact hr2) e1 e2
      have hN5 : gN y5 := by
        refine ⟨dgC_fr f5 (fun g q1 q2 h9 => by have := u5 g h9; omega) hN4.1, nsC_put nH4 f5 (fun h' hh' hne g hg h9 => ?_) ⟨_, hy5, n2⟩ hN4.2.1, fun k hk => ?_⟩
        · have h7 := u5 g h9
          have key : ∀ a, a ∈ nHL → a = 4000 ∨ a = 5000 ∨ 16000 ≤ a := by decide
          have := key h' hh'
          unfold cP at hg
          omega
        · rcases hk with rfl | rfl
          · exact ⟨byR_fr f5 (fun h9 => by have := u5 _ h9; omega) hk7.1, b1, byR_fr f5 (fun h9 => by have := u5 _ h9; omega) hk7.2.2⟩
          · have hb9 := hN4.2.2 20000 (Or.inr rfl)
            exact ⟨byR_fr f5 (fun h9 => by have := u5 _ h9; omega) hb9.1, byR_fr f5 (fun h9 => by have := u5 _ h9; omega) hb9.2.1, byR_fr f5 (fun h9 => by have := u5 _ h9; omega) hb9.2.2⟩
      obtain ⟨C2, o2, t2⟩ := hb4.1
      refine w_rdF rfl (w_some ⟨⟨hN5, ⟨C2, o2, tbO_fr f5 (fun q hq h9 => by have := u5 q h9; unfold cV at hq; omega) t2⟩, ⟨Cs, os, ht5⟩, byR_fr f5 (fun h9 => by have := u5 _ h9; omega) hb4.2.2.1, byR_fr f5 (fun h9 => by have := u5 _ h9; omega) hb4.2.2.2.1, byR_fr f5 (fun h9 => by have := u5 _ h9; omega) hb4.2.2.2.2⟩, fr_tr f4s (fr_mono (fun g hg => by have := u5 g hg; unfold sumP; omega) f5)⟩)
    · exact absurd (show (0 : Nat) = 1 from h1.1) (by decide)
  · rintro a y1 ha ⟨h1, rfl⟩
    exact w_some ⟨hN, fr_rf⟩
/-- drop, exactly -/
theorem tc_drop2 (hN : gM y) : Te (fun K => ce_X11_drop vl K 0 x y) (fun r => gM r.2 ∧ (r.1 = 1 ∧ (∃ d A sg c, d < 40 ∧ x = nI d ∧ slC y 1000 d (clC sg A) ∧ okL A c ∧ A ≠ [] ∧ r.2 = usI y 1002 d 0) ∨ r.1 = 0 ∧ noD y x ∧ r.2 = y)) := by
  refine e_X11_drop ?_; unfold cm_X11_drop_0
  refine w_cs1 (tc_hasDiagram (dgC_E hN.1.1)) ?_
  rintro v y1 ⟨hv, e2⟩
  dsimp only at hv e2
  subst e2
  rcases hv with ⟨rfl, h1⟩ | ⟨rfl, h1⟩
  · obtain ⟨d, A, sg, c, hd, rfl, hs, hA, hne⟩ := isD_O hN.1.1 h1
    refine w_ifF (by decide) (w_ctB (tH_2 ch_1000) rfl hd (w_okZ (Or.inr rfl) (w_some ⟨?_, Or.inl ⟨rfl, d, A, sg, c, hd, rfl, hs, hA, hne, rfl⟩⟩)))
    have h3 : fr (fun q => q = 1002) y1 (usI y1 (0 + 1000 + 2) d (vp_nar .byte 0)) := fr_I rfl
    refine ⟨⟨⟨byR_fr h3 (by omega) hN.1.1.1, fun e he => ?_⟩, nsC_fr h3 (fun h hh q hq h9 => far_cP (g := q) (by omega) h hh hq) hN.1.2.1, kdC_fr h3 (fun g h9 => by omega) hN.1.2.2⟩, tbs_fr h3 (fun g h9 => by omega) hN.2⟩
    by_cases ed : e = d
    · rw [ed]
      refine Or.inl ⟨c, hA.2.2.2.1, ?_, po_usI_at.trans (show vp_nar .byte 0 = (0 : Int32) from by decide), fun i a e => by rw [List.getElem?_nil] at e; cases e⟩
      have := hs.1
      rw [(okL_c (sg := sg) hA).1] at this
      exact rd_ot (by omega) this
    · have keep : ∀ C, slC y1 1000 e C → slC (usI y1 (0 + 1000 + 2) d (vp_nar .byte 0)) 1000 e C := fun C hC => ⟨rd_ot (by omega) hC.1, rd_ne ed hC.2.1, fun i a hi => rd_ot (by omega) (hC.2.2 i a hi)⟩
      rcases hN.1.1.2 e he with ⟨c9, c1, c2⟩ | ⟨C, c1, c2, c3⟩
      · exact Or.inl ⟨c9, c1, keep _ c2⟩
      · exact Or.inr ⟨C, keep C c1, c2, c3⟩
  · exact w_ifT rfl (w_okZ (Or.inl rfl) (w_some ⟨hN, Or.inr ⟨rfl, h1, rfl⟩⟩))
end CY
end
section
/-! 99zzzzzy.crd -/
/-! the class: Reader, a diagram read -/
/-- links of closed components and of an open one -/
def lkS (S : ow_NP) (A : rn_L) (L : List (Nat × Nat)) : Prop := (∀ v, v < A.flatten.length → S.1 (lb (vAt A v)) = lb (vAt A (rn_nx A v)) ∧ S.2 (lb (vAt A (rn_nx A v))) = lb (vAt A v)) ∧ ∀ i p q, L[i]? = some p → L[i + 1]? = some q → S.1 (lb p) = lb q ∧ S.2 (lb q) = lb p
section CR9
variable {S : ow_NP} {A : rn_L} {L : List (Nat × Nat)} {p q : Nat × Nat}
theorem lk_nil (h : lkS S A []) : lkS S (A ++ [[]]) [] := by
  refine ⟨fun v hv => ?_, fun i p q e => by rw [List.getElem?_nil] at e; cases e⟩
  rw [fl_app, List.append_nil] at hv
  rw [vAt_ap hv, rnx_app hv, vAt_ap (rnx_lt hv)]
  exact h.1 v hv
theorem lk_one (h : lkS S A []) : lkS S A [p] := by
  refine ⟨h.1, fun i a b _ e => ?_⟩
  rw [List.getElem?_cons_succ, List.getElem?_nil] at e
  cases e
theorem lk_close (hv : vOK (A.flatten ++ p :: L)) (hq : (p :: L)[L.length]? = some q) (h : lkS S A (p :: L)) : lkS (nl S (lb q) (lb p)) (A ++ [p :: L]) [] := by
  obtain ⟨h4, h5⟩ := h
  refine ⟨fun v hv1 => ?_, fun i a b e => by rw [List.getElem?_nil] at e; cases e⟩
  rw [fl_app, List.length_append] at hv1
  have hlen : (p :: L).length = L.length + 1 := rfl
  have n1 : ∀ k, k ≠ lb q → (nl S (lb q) (lb p)).1 k = S.1 k := fun k hk => if_neg hk
  have n2 : ∀ k, k ≠ lb p → (nl S (lb q) (lb p)).2 k = S.2 k := fun k hk => if_neg hk
  have n3 : (nl S (lb q) (lb p)).1 (lb q) = lb p := if_pos rfl
  have n4 : (nl S (lb q) (lb p)).2 (lb p) = lb q := if_pos rfl
  have hqF : (A.flatten ++ p :: L)[A.flatten.length + L.length]? = some q := by
    rw [List.getElem?_append_right (by omega), show A.flatten.length + L.length - A.flatten.length = L.length by omega]
    exact hq
  have hpF : (A.flatten ++ p :: L)[A.flatten.length]? = some p := by
    rw [List.getElem?_append_right (Nat.le_refl _), Nat.sub_self]
    rfl
  by_cases e : v < A.flatten.length
  · have hx := rnx_lt e
    rw [vAt_ap e, rnx_app e, vAt_ap hx]
    have g1 : (A.flatten ++ p :: L)[v]? = some (vAt A v) := by
      rw [List.getElem?_append_left e]
      exact vAt_of e
    have g2 : (A.flatten ++ p :: L)[rn_nx A v]? = some (vAt A (rn_nx A v)) := by
      rw [List.getElem?_append_left hx]
      exact vAt_of hx
    rw [n1 _ (vOK_ne hv g1 hqF (by omega)), n2 _ (vOK_ne hv g2 hpF (by omega))]
    exact h4 v e
  · obtain ⟨i, rfl⟩ : ∃ i, v = A.flatten.length + i := ⟨v - A.flatten.length, by omega⟩
    have hi : i < (p :: L).length := by omega
    rw [rnx_new hi]
    by_cases hi2 : i + 1 < (p :: L).length
    · rw [if_pos hi2, vAt_nw (List.getElem?_eq_getElem hi), vAt_nw (List.getElem?_eq_getElem hi2)]
      have g1 : (A.flatten ++ p :: L)[A.flatten.length + i]? = some (p :: L)[i] := by
        rw [List.getElem?_append_right (by omega), show A.flatten.length + i - A.flatten.length = i by omega]
        exact List.getElem?_eq_getElem hi
      have g2 : (A.flatten ++ p :: L)[A.flatten.length + (i + 1)]? = some (p :: L)[i + 1] := by
        rw [List.getElem?_append_right (by omega), show A.flatten.length + (i + 1) - A.flatten.length = i + 1 by omega]
        exact List.getElem?_eq_getElem hi2
      rw [n1 _ (vOK_ne hv g1 hqF (by omega)), n2 _ (vOK_ne hv g2 hpF (by omega))]
      exact h5 i _ _ (List.getElem?_eq_getElem hi) (List.getElem?_eq_getElem hi2)
    · have ei : i = L.length := by omega
      rw [if_neg hi2, ei, vAt_nw hq, show A.flatten.length = A.flatten.length + 0 from rfl, vAt_nw (A := A) (L := p :: L) (i := 0) (p := p) rfl]
      exact ⟨n3, n4⟩
theorem lk_more {r : Nat × Nat} (hv : vOK (A.flatten ++ p :: L ++ [r])) (hq : (p :: L)[L.length]? = some q) (h : lkS S A (p :: L)) : lkS (nl S (lb q) (lb r)) A (p :: L ++ [r]) := by
  obtain ⟨h4, h5⟩ := h
  have hloc : ∀ a, a ∈ A.flatten ++ p :: L → lb a ≠ lb r := fun a ha => vOK_new hv ha
  have hqF : (A.flatten ++ p :: L)[A.flatten.length + L.length]? = some q := by
    rw [List.getElem?_append_right (by omega), show A.flatten.length + L.length - A.flatten.length = L.length by omega]
    exact hq
  refine ⟨fun v hv1 => ?_, fun i a b ea eb => ?_⟩
  · have hx := rnx_lt hv1
    have g1 : (A.flatten ++ p :: L)[v]? = some (vAt A v) := by
      rw [List.getElem?_append_left hv1]
      exact vAt_of hv1
    have m1 : lb (vAt A v) ≠ lb q := vOK_ne (vOK_pre hv) g1 hqF (by omega)
    have m2 : lb (vAt A (rn_nx A v)) ≠ lb r := hloc _ (List.mem_append_left _ (vAt_mem hx))
    show (if lb (vAt A v) = lb q then lb r else S.1 (lb (vAt A v))) = _ ∧ (if lb (vAt A (rn_nx A v)) = lb r then lb q else S.2 (lb (vAt A (rn_nx A v)))) = _
    rw [if_neg m1, if_neg m2]
    exact h4 v hv1
  · show (if lb a = lb q then lb r else S.1 (lb a)) = lb b ∧ (if lb b = lb r then lb q else S.2 (lb b)) = lb a
    have hi := (List.getElem?_eq_some_iff.mp eb).1
    rw [List.length_append] at hi
    have hi' : i + 1 < L.length + 1 + 1 := hi
    by_cases ei : i = L.length
    · have eb' : b = r := by
        rw [ei, List.getElem?_append_right (show (p :: L).length ≤ L.length + 1 from Nat.le_refl _)] at eb
        rw [show L.length + 1 - (p :: L).length = 0 from Nat.sub_self _] at eb
        cases eb
        rfl
      have ea' : a = q := by
        rw [ei, List.getElem?_append_left (Nat.lt_succ_self _)] at ea
        rw [hq] at ea
        cases ea
        rfl
      rw [eb', ea', if_pos rfl, if_pos rfl]
      exact ⟨rfl, rfl⟩
    · rw [List.getElem?_append_left (show i < L.length + 1 by omega)] at ea
      rw [List.getElem?_append_left (show i + 1 < L.length + 1 by omega)] at eb
      have g1 : (A.flatten ++ p :: L)[A.flatten.length + i]? = some a := by
        rw [List.getElem?_append_right (by omega), show A.flatten.length + i - A.flatten.length = i by omega]
        exact ea
      rw [if_neg (vOK_ne (vOK_pre hv) g1 hqF (by omega)), if_neg (hloc b (List.mem_append_right _ (List.mem_of_getElem? eb)))]
      exact h5 i a b ea eb
end CR9
/-- a net whose links go round its components, each visit there once, is valid -/
theorem lk_net {A : rn_L} {T : ow_NT} (hok : okF A.flatten T.1) (hc : T.1 ≤ 12) (h6 : A.length ≤ 6) (hb : ow_b24 T.2.2.1) (hci : T.2.1 = cirs A) (h : lkS T.2.2.1 A []) : nv T ∧ isoN A (fun x => decide (T.2.2.2 x < 0)) (fun x => x) T := by
  have hw : wkF A.flatten := okF_wk (by omega) hok
  have hlen : A.flatten.length = 2 * T.1 := okF_len hok
  have hin : ∀ v, v < A.flatten.length → crs A v < T.1 ∧ uns A v < 2 := fun v hv => (hok.2 _).mp (vAt_mem hv)
  have hiso : isoN A (fun x => decide (T.2.2.2 x < 0)) (fun x => x) T := ⟨hw, hlen, hc, fun v hv => (hin v hv).1, fun v w _ _ e => e, fun v hv => (h.1 v hv).1, fun v hv => by rw [decide_eq_true_iff], hci.symm⟩
  have hr := iso_rg hiso
  refine ⟨⟨fun k hk => ?_, hc, hb, by omega⟩, hiso⟩
  obtain ⟨v, hv, e⟩ := lbv_sur hiso hk
  have hx := rnx_lt hv
  have hlx : lb (vAt A (rn_nx A v)) < 2 * T.1 := lbv_lt hiso hx
  have e' : lb (vAt A v) = k := e
  have hw1 := rn_pv_lt hv
  have hw2 := nx_pv hv
  have hlw : lb (vAt A (rn_pv A v)) < 2 * T.1 := lbv_lt hiso hw1
  have q1 := h.1 v hv
  have q2 := h.1 _ hw1
  rw [hw2] at q2
  rw [← e']
  refine ⟨?_, ?_, ?_, ?_⟩
  · rw [q1.1]
    exact hlx
  · rw [q2.2]
    exact hlw
  · rw [q1.1]
    exact q1.2
  · rw [q2.2]
    exact q2.1
section CRV
variable {vl : Nat → Nat} {y : ow_MS}
theorem ch_11003 : ((cX vl).2 11003).2.1 = 100 := rfl
theorem ch_11004 : ((cX vl).2 11004).2.1 = 24 := rfl
def rvP (g : Nat) : Prop := g = 11005 ∨ g = 11006
theorem u_X9_readVisit_5 {vl : Nat → Nat} {r0 : Nat} {z : ow_MS} {Q : (Int32 × ow_MS) → Prop} (H : Tt (fun K k => cm_X9_readVisit_5 vl K (c_X9_readVisit vl K k) r0 z) Q) : Tt (fun K k => c_X9_readVisit vl K k 5 r0 z) Q := w_un (fun _ _ => rfl) H
theorem u_X9_readVisit_4 {vl : Nat → Nat} {r0 : Nat} {z : ow_MS} {Q : (Int32 × ow_MS) → Prop} (H : Tt (fun K k => cm_X9_readVisit_4 vl K (c_X9_readVisit vl K k) r0 z) Q) : Tt (fun K k => c_X9_readVisit vl K k 4 r0 z) Q := w_un (fun _ _ => rfl) H
theorem u_X9_readVisit_2 {vl : Nat → Nat} {r0 : Nat} {z : ow_MS} {Q : (Int32 × ow_MS) → Prop} (H : Tt (fun K k => cm_X9_readVisit_2 vl K (c_X9_readVisit vl K k) r0 z) Q) : Tt (fun K k => c_X9_readVisit vl K k 2 r0 z) Q := w_un (fun _ _ => rfl) H
theorem u_X9_readVisit_3 {vl : Nat → Nat} {r0 : Nat} {z : ow_MS} {Q : (Int32 × ow_MS) → Prop} (H : Tt (fun K k => cm_X9_readVisit_3 vl K (c_X9_readVisit vl K k) r0 z) Q) : Tt (fun K k => c_X9_readVisit vl K k 3 r0 z) Q := w_un (fun _ _ => rfl) H
theorem u_X9_readVisit_1 {vl : Nat → Nat} {r0 : Nat} {z : ow_MS} {Q : (Int32 × ow_MS) → Prop} (H : Tt (fun K k => cm_X9_readVisit_1 vl K (c_X9_readVisit vl K k) r0 z) Q) : Tt (fun K k => c_X9_readVisit vl K k 1 r0 z) Q := w_un (fun _ _ => rfl) H
theorem e_X9_readVisit {vl : Nat → Nat} {r0 : Nat} {z : ow_MS} {Q : (Int32 × ow_MS) → Prop} (H : Tt (fun K k => c_X9_readVisit vl K k 0 r0 z) Q) : Te (fun K => ce_X9_readVisit vl K r0 z) Q := w_te H
theorem u_X9_readVisit_0 {vl : Nat → Nat} {r0 : Nat} {z : ow_MS} {Q : (Int32 × ow_MS) → Prop} (H : Tt (fun K k => cm_X9_readVisit_0 vl K (c_X9_readVisit vl K k) r0 z) Q) : Tt (fun K k => c_X9_readVisit vl K k 0 r0 z) Q := w_un (fun _ _ => rfl) H
theorem tc_readVisit {a n : Nat} (ha : y.1 11005 = nI a) (hn : y.1 11001 = nI n) (han : a < n) (h400 : n ≤ 400) : Te (fun K => ce_X9_readVisit vl K 11000 y) (fun r => fr rvP y r.2 ∧ ((∃ b, b ≤ n ∧ r.1 = nI b) ∨ r.1 = -1 ∧ ∃ a' k, a < a' ∧ a' ≤ n ∧ 1 ≤ k ∧ k < 100 ∧ r.2.1 11005 = nI a' ∧ r.2.1 11006 = nI k)) := by
  let Q : Int32 × ow_MS → Prop := fun r => fr rvP y r.2 ∧ ((∃ b, b ≤ n ∧ r.1 = nI b) ∨ r.1 = -1 ∧ ∃ a' k, a < a' ∧ a' ≤ n ∧ 1 ≤ k ∧ k < 100 ∧ r.2.1 11005 = nI a' ∧ r.2.1 11006 = nI k)
  have nf : ∀ {z : ow_MS}, fr rvP y z → z.1 11001 = nI n := fun hf => (hf 11001 (by unfold rvP; omega)).1.trans hn
  have c5 : ∀ (z : ow_MS) (b k : Nat), fr rvP y z → a < b → b < n → 1 ≤ k → k < 100 → z.1 11005 = nI b → z.1 11006 = nI k → Tt (fun K t => c_X9_readVisit vl K t 5 11000 z) Q := by
    intro z b k hf h1 h2 h3 h4 h5 h6
    refine u_X9_readVisit_5 ?_; unfold cm_X9_readVisit_5
    refine w_rdF h5 (w_wrF ?_)
    rw [nI_1]
    exact w_some ⟨fr_F2 hf (Or.inl rfl), Or.inr ⟨rfl, b + 1, k, by omega, by omega, h3, h4, po_usF_at, rf_ot (by omega) h6⟩⟩
  have c4 : ∀ (z : ow_MS) (b : Nat), fr rvP y z → b ≤ n → z.1 11005 = nI b → Tt (fun K t => c_X9_readVisit vl K t 4 11000 z) Q := by
    intro z b hf h1 h2
    refine u_X9_readVisit_4 ?_; unfold cm_X9_readVisit_4
    exact w_rdF h2 (w_some ⟨hf, Or.inl ⟨b, h1, rfl⟩⟩)
  have c2 : ∀ (z : ow_MS) (b : Nat), fr rvP y z → b ≤ n → z.1 11005 = nI b → Tt (fun K t => c_X9_readVisit vl K t 2 11000 z) Q := by
    intro z b hf h1 h2
    refine u_X9_readVisit_2 ?_; unfold cm_X9_readVisit_2
    exact w_rdF h2 (w_some ⟨hf, Or.inl ⟨b, h1, rfl⟩⟩)
  have c3 : ∀ (z : ow_MS) (b k : Nat), fr rvP y z → a < b → b ≤ n → 1 ≤ k → k < 100 → z.1 11005 = nI b → z.1 11006 = nI k → Tt (fun K t => c_X9_readVisit vl K t 3 11000 z) Q := by
    intro z b k hf h1 h2 h3 h4 h5 h6
    refine u_X9_readVisit_3 ?_; unfold cm_X9_readVisit_3
    refine w_rdF h5 (w_rdF (nf hf) (w_le (by omega) (by omega) (fun _ => c4 z b hf h2 h5) (fun h7 => w_rdF h5 (w_crI ch_11002 rfl (by omega) rfl (w_if (fun _ => c5 z b k hf h1 h7 h3 h4 h5 h6) (fun _ => w_rdF h5 (w_crI ch_11002 rfl (by omega) rfl (w_if (fun _ => c5 z b k hf h1 h7 h3 h4 h5 h6) (fun _ => c4 z b hf h2 h5)))))))))
  have c1 : Tt (fun K t => c_X9_readVisit vl K t 1 11000 y) Q := by
    refine u_X9_readVisit_1 ?_; unfold cm_X9_readVisit_1
    refine w_rdF ha (w_wrF ?_)
    rw [nI_1]
    have f1 : fr rvP y (usF y 11005 (nI (a + 1))) := fr_F (Or.inl rfl)
    have e1 : (usF y 11005 (nI (a + 1))).1 11005 = nI (a + 1) := po_usF_at
    refine w_rdF e1 (w_rdF (nf f1) (w_le (by omega) (by omega) (fun _ => c2 _ (a + 1) f1 (by omega) e1) (fun h1 => w_rdF e1 (w_crI ch_11002 rfl (by omega) rfl (w_if (fun _ => c2 _ (a + 1) f1 (by omega) e1) (fun h49 => w_rdF e1 (w_crI ch_11002 rfl (by omega) rfl (w_if (fun h57 => ?_) (fun _ => c2 _ (a + 1) f1 (by omega) e1)))))))))
    have hch : ∃ k, 1 ≤ k ∧ k ≤ 9 ∧ (usF y 11005 (nI (a + 1))).2.1 11002 (a + 1) - 48 = nI k := by
      generalize (usF y 11005 (nI (a + 1))).2.1 11002 (a + 1) = x at h49 h57
      have h0 : ¬ x < 0 := fun h9 => h49 (Int32.lt_trans h9 (by decide))
      obtain ⟨k, k31, rfl⟩ := nI_of h0
      have q1 : 49 ≤ k := by
        apply Nat.le_of_not_lt
        exact fun h9 => h49 (nI_lt (b := 49) h9 (by omega))
      have q2 : k ≤ 57 := (nI_leI k31 (by omega : 57 < 2 ^ 31)).mp h57
      exact ⟨k - 48, by omega, by omega, pk_sub (b := 48) (by omega)⟩
    obtain ⟨k, k1, k2, k3⟩ := hch
    refine w_rdF e1 (w_crI ch_11002 rfl (show a + 1 < 400 by omega) rfl (w_wrF ?_))
    rw [k3]
    have e2 : (usF (usF y 11005 (nI (a + 1))) 11006 (nI k)).1 11005 = nI (a + 1) := rf_ot (by omega) e1
    refine w_rdF e2 (w_wrF ?_)
    rw [nI_1]
    have f3 : fr rvP y (usF (usF (usF y 11005 (nI (a + 1))) 11006 (nI k)) 11005 (nI (a + 1 + 1))) := fr_F2 (fr_F2 f1 (Or.inr rfl)) (Or.inl rfl)
    have e3 : (usF (usF (usF y 11005 (nI (a + 1))) 11006 (nI k)) 11005 (nI (a + 1 + 1))).1 11005 = nI (a + 1 + 1) := po_usF_at
    have e4 : (usF (usF (usF y 11005 (nI (a + 1))) 11006 (nI k)) 11005 (nI (a + 1 + 1))).1 11006 = nI k := rf_ot (by omega) po_usF_at
    generalize usF (usF (usF y 11005 (nI (a + 1))) 11006 (nI k)) 11005 (nI (a + 1 + 1)) = z at f3 e3 e4
    have t3 := c3 z (a + 1 + 1) k f3 (by omega) (by omega) k1 (by omega) e3 e4
    refine w_rdF e3 (w_rdF (nf f3) (w_le (by omega) (by omega) (fun _ => t3) (fun h2 => w_rdF e3 (w_crI ch_11002 rfl (by omega) rfl (w_if (fun _ => t3) (fun h48 => w_rdF e3 (w_crI ch_11002 rfl (by omega) rfl (w_if (fun _ => t3) (fun h57' => w_rdF e4 (w_rdF e3 (w_crI ch_11002 rfl (show a + 1 + 1 < 400 by omega) rfl (w_wrF ?_))))))))))))
    have hch : ∃ m, 10 ≤ m ∧ m < 100 ∧ (10 * nI k + z.2.1 11002 (a + 1 + 1)) - 48 = nI m := by
      generalize z.2.1 11002 (a + 1 + 1) = x at h48 h57'
      have h0 : ¬ x < 0 := fun h9 => h48 (Int32.lt_trans h9 (by decide))
      obtain ⟨j, j31, rfl⟩ := nI_of h0
      have q1 : 48 ≤ j := by
        apply Nat.le_of_not_lt
        exact fun h9 => h48 (nI_lt (b := 48) h9 (by omega))
      have q2 : j ≤ 57 := by
        apply Nat.le_of_not_lt
        exact fun h9 => h57' (nI_lt (a := 57) h9 j31)
      refine ⟨10 * k + j - 48, by omega, by omega, ?_⟩
      rw [show (10 : Int32) * nI k = nI (10 * k) from pk_mul 10 _, nI_add]
      exact pk_sub (b := 48) (by omega)
    obtain ⟨m, m1, m2, m3⟩ := hch
    rw [m3]
    have e5 : (usF z 11006 (nI m)).1 11005 = nI (a + 1 + 1) := rf_ot (by omega) e3
    refine w_rdF e5 (w_wrF ?_)
    rw [nI_1]
    exact c3 _ (a + 1 + 1 + 1) m (fr_F2 (fr_F2 f3 (Or.inr rfl)) (Or.inl rfl)) (by omega) (by omega) (by omega) m2 po_usF_at (rf_ot (by omega) po_usF_at)
  refine e_X9_readVisit ?_
  refine u_X9_readVisit_0 ?_; unfold cm_X9_readVisit_0
  exact w_rdF ha (w_crI ch_11002 rfl (by omega) rfl (w_if (fun _ => c1) (fun _ => w_rdF ha (w_crI ch_11002 rfl (by omega) rfl (w_if (fun _ => c1) (fun _ => w_rdF ha (w_some ⟨fr_rf, Or.inl ⟨a, by omega, rfl⟩⟩)))))))
end CRV
end
section
/-! 99zzzzzz.crd2 -/
/-! the class: Reader.readDiagram; diagram -/
/-- what has been read: the visits F -/
def rdT (z : ow_MS) (F : List (Nat × Nat)) (T : ow_NT) : Prop := cAt z 4000 T ∧ ow_b24 T.2.2.1 ∧ T.1 ≤ 12 ∧ vOK F ∧ (∀ p, p ∈ F → p.1 < T.1) ∧ (∀ x, x < T.1 → ∃ u, (x, u) ∈ F) ∧ (∀ v, v < 24 → (z.2.1 11004 v = -1 ∧ kp v ∉ F) ∨ ∃ b, b < 400 ∧ z.2.1 11004 v = nI b ∧ kp v ∈ F) ∧ ∀ k, k < 100 → z.2.1 11003 k = -1 ∨ ∃ x, x < T.1 ∧ z.2.1 11003 k = nI x
def enR (g : Nat) : Prop := g = 4008 ∨ g = 4003 ∨ g = 11003 ∨ g = 11004
theorem kp_lb2 {p : Nat × Nat} (h : p.2 < 2) : kp (lb p) = p := by
  unfold kp lb
  exact Prod.ext (by show (2 * p.1 + p.2) / 2 = p.1; omega) (by show (2 * p.1 + p.2) % 2 = p.2; omega)
section CRE
variable {vl : Nat → Nat} {y : ow_MS} {F : List (Nat × Nat)} {T : ow_NT}
theorem u_X9_enter_3 {vl : Nat → Nat} {x2 : Int32} {x3 : Int32} {x4 : Int32} {r0 : Nat} {r1 : Nat} {t0 : Int32} {t1 : Int32} {z : ow_MS} {Q : (Int32 × ow_MS) → Prop} (H : Tt (fun K k => cm_X9_enter_3 vl K (c_X9_enter vl K k) x2 x3 x4 r0 r1 t0 t1 z) Q) : Tt (fun K k => c_X9_enter vl K k 3 x2 x3 x4 r0 r1 t0 t1 z) Q := w_un (fun _ _ => rfl) H
theorem u_X9_enter_2 {vl : Nat → Nat} {x2 : Int32} {x3 : Int32} {x4 : Int32} {r0 : Nat} {r1 : Nat} {t0 : Int32} {t1 : Int32} {z : ow_MS} {Q : (Int32 × ow_MS) → Prop} (H : Tt (fun K k => cm_X9_enter_2 vl K (c_X9_enter vl K k) x2 x3 x4 r0 r1 t0 t1 z) Q) : Tt (fun K k => c_X9_enter vl K k 2 x2 x3 x4 r0 r1 t0 t1 z) Q := w_un (fun _ _ => rfl) H
theorem u_X9_enter_1 {vl : Nat → Nat} {x2 : Int32} {x3 : Int32} {x4 : Int32} {r0 : Nat} {r1 : Nat} {t0 : Int32} {t1 : Int32} {z : ow_MS} {Q : (Int32 × ow_MS) → Prop} (H : Tt (fun K k => cm_X9_enter_1 vl K (c_X9_enter vl K k) x2 x3 x4 r0 r1 t0 t1 z) Q) : Tt (fun K k => c_X9_enter vl K k 1 x2 x3 x4 r0 r1 t0 t1 z) Q := w_un (fun _ _ => rfl) H
theorem e_X9_enter {vl : Nat → Nat} {r0 : Nat} {r1 : Nat} {x2 : Int32} {z : ow_MS} {Q : (Int32 × ow_MS) → Prop} (H : Tt (fun K k => c_X9_enter vl K k 0 x2 0 0 r0 r1 0 0 z) Q) : Te (fun K => ce_X9_enter vl K r0 r1 x2 z) Q := w_te H
theorem u_X9_enter_0 {vl : Nat → Nat} {x2 : Int32} {x3 : Int32} {x4 : Int32} {r0 : Nat} {r1 : Nat} {t0 : Int32} {t1 : Int32} {z : ow_MS} {Q : (Int32 × ow_MS) → Prop} (H : Tt (fun K k => cm_X9_enter_0 vl K (c_X9_enter vl K k) x2 x3 x4 r0 r1 t0 t1 z) Q) : Tt (fun K k => c_X9_enter vl K k 0 x2 x3 x4 r0 r1 t0 t1 z) Q := w_un (fun _ _ => rfl) H
theorem tc_enter {a k b : Nat} (hS : rdT y F T) (ha : y.1 11005 = nI a) (ha1 : 1 ≤ a) (ha4 : a ≤ 400) (hk : y.1 11006 = nI k) (hk1 : k < 100) (hb : b < 400) : Te (fun K => ce_X9_enter vl K 11000 4000 (nI b) y) (fun r => fr enR y r.2 ∧ (r.1 = -1 ∧ (∃ T', cAt r.2 4000 T' ∧ ow_b24 T'.2.2.1) ∨ ∃ p T', r.1 = nI (lb p) ∧ lb p < 24 ∧ rdT r.2 (F ++ [p]) T' ∧ T'.2.1 = T.2.1 ∧ T'.2.2.1 = T.2.2.1)) := by
  let Q : Int32 × ow_MS → Prop := fun r => fr enR y r.2 ∧ (r.1 = -1 ∧ (∃ T', cAt r.2 4000 T' ∧ ow_b24 T'.2.2.1) ∨ ∃ p T', r.1 = nI (lb p) ∧ lb p < 24 ∧ rdT r.2 (F ++ [p]) T' ∧ T'.2.1 = T.2.1 ∧ T'.2.2.1 = T.2.2.1)
  obtain ⟨s1, s2, s3, s4, s5, s6, s7, s8⟩ := id hS
  -- a visit at crossing x
  have c3 : ∀ (z : ow_MS) (T1 : ow_NT) (x u : Nat) (x3 : Int32), fr enR y z → cAt z 4000 T1 → T1.2.1 = T.2.1 → T1.2.2.1 = T.2.2.1 → T1.1 ≤ 12 → x < T1.1 → u < 2 → (∀ p, p ∈ F → p.1 < T1.1) → (∀ x', x' < T1.1 → x' = x ∨ ∃ u, (x', u) ∈ F) → (∀ v, v < 24 → (z.2.1 11004 v = -1 ∧ kp v ∉ F) ∨ ∃ b, b < 400 ∧ z.2.1 11004 v = nI b ∧ kp v ∈ F) → (∀ k, k < 100 → z.2.1 11003 k = -1 ∨ ∃ x, x < T1.1 ∧ z.2.1 11003 k = nI x) → Tt (fun K t => c_X9_enter vl K t 3 (nI b) x3 (nI x) 11000 4000 (nI u) (nI (2 * x)) z) Q := by
    intro z T1 x u x3 hf h1 h2 h3 h4 h5 h6 h7 h8 h9 h10
    have hb24 : ow_b24 T1.2.2.1 := by rw [h3]; exact s2
    have bad : Tt (fun _ _ => some ((-1 : Int32), z)) Q := w_some ⟨hf, Or.inl ⟨rfl, T1, h1, hb24⟩⟩
    have hv24 : 2 * x + u < 24 := by omega
    refine u_X9_enter_3 ?_; unfold cm_X9_enter_3
    rw [nI_add]
    rcases h9 (2 * x + u) hv24 with ⟨e1, e2⟩ | ⟨b', b1, e1, e2⟩
    · refine w_crI ch_11004 rfl hv24 e1 (w_ifT rfl (w_crI (nH_3 nH4) rfl (show x < 12 by omega) rfl (w_if (fun _ => w_ctI ch_11004 rfl hv24 (w_some ⟨fr_I2 hf (Or.inr (Or.inr (Or.inr rfl))), Or.inr ⟨(x, u), T1, rfl, hv24, ?_, h2, h3⟩⟩)) (fun _ => bad))))
      have ekp : kp (2 * x + u) = (x, u) := kp_lb2 (p := (x, u)) h6
      rw [ekp] at e2
      refine ⟨cAt_fr (P := fun q => q = 11004) (fr_I rfl) (fun g hg h => by unfold cP at hg; omega) h1, hb24, h4, ⟨?_, fun p hp => ?_⟩, fun p hp => ?_, fun x' hx' => ?_, fun v hv => ?_, fun k9 hk9 => ?_⟩
      · rw [List.nodup_append]
        refine ⟨s4.1, List.nodup_cons.mpr ⟨fun h => (by cases h), List.nodup_nil⟩, fun p hp q hq e => ?_⟩
        rw [List.mem_singleton.mp hq] at e
        rw [e] at hp
        exact e2 hp
      · rcases List.mem_append.mp hp with h | h
        · exact s4.2 p h
        · rw [List.mem_singleton.mp h]
          exact h6
      · rcases List.mem_append.mp hp with h | h
        · exact h7 p h
        · rw [List.mem_singleton.mp h]
          exact h5
      · rcases h8 x' hx' with h | ⟨u', h⟩
        · exact ⟨u, List.mem_append_right _ (by rw [h]; exact List.mem_singleton.mpr rfl)⟩
        · exact ⟨u', List.mem_append_left _ h⟩
      · by_cases ev : v = 2 * x + u
        · refine Or.inr ⟨b, hb, by rw [ev]; exact po_usI_at, List.mem_append_right _ ?_⟩
          rw [ev, ekp]
          exact List.mem_singleton.mpr rfl
        · rcases h9 v hv with ⟨q1, q2⟩ | ⟨b', q1, q2, q3⟩
          · refine Or.inl ⟨rd_ne ev q1, fun hm => ?_⟩
            rcases List.mem_append.mp hm with h | h
            · exact q2 h
            · have h9 := List.mem_singleton.mp h
              have := congrArg lb h9
              rw [kp_lb] at this
              exact ev this
          · exact Or.inr ⟨b', q1, rd_ne ev q2, List.mem_append_left _ q3⟩
      · rcases h10 k9 hk9 with h | ⟨x', h, h'⟩
        · exact Or.inl (rd_ot (by omega) h)
        · exact Or.inr ⟨x', h, rd_ot (by omega) h'⟩
    · exact w_crI ch_11004 rfl hv24 e1 (w_ifF (nI_nm1 (by omega)) bad)
  have c2 : ∀ (z : ow_MS) (T1 : ow_NT) (x : Nat) (x3 : Int32), fr enR y z → cAt z 4000 T1 → T1.2.1 = T.2.1 → T1.2.2.1 = T.2.2.1 → T1.1 ≤ 12 → x < T1.1 → (∀ p, p ∈ F → p.1 < T1.1) → (∀ x', x' < T1.1 → x' = x ∨ ∃ u, (x', u) ∈ F) → (∀ v, v < 24 → (z.2.1 11004 v = -1 ∧ kp v ∉ F) ∨ ∃ b, b < 400 ∧ z.2.1 11004 v = nI b ∧ kp v ∈ F) → (∀ k, k < 100 → z.2.1 11003 k = -1 ∨ ∃ x, x < T1.1 ∧ z.2.1 11003 k = nI x) → Tt (fun K t => c_X9_enter vl K t 2 (nI b) x3 (nI x) 11000 4000 0 0 z) Q := by
    intro z T1 x x3 hf h1 h2 h3 h4 h5 h7 h8 h9 h10
    refine u_X9_enter_2 ?_; unfold cm_X9_enter_2
    rw [show (2 : Int32) * nI x = nI (2 * x) from pk_mul 2 _]
    exact w_crI ch_11002 rfl hb rfl (w_if (fun _ => c3 z T1 x 1 x3 hf h1 h2 h3 h4 h5 (by omega) h7 h8 h9 h10) (fun _ => c3 z T1 x 0 x3 hf h1 h2 h3 h4 h5 (by omega) h7 h8 h9 h10))
  have c1 : ∀ t0 : Int32, Tt (fun K t => c_X9_enter vl K t 1 (nI b) 0 0 11000 4000 t0 0 y) Q := by
    intro t0
    refine u_X9_enter_1 ?_; unfold cm_X9_enter_1
    rcases s8 k hk1 with e | ⟨x, hx, e⟩
    · refine w_rdF hk (w_crI ch_11003 rfl hk1 e (w_ifT rfl (w_rdF s1.1 (w_lt (b := 12) (by omega) (by omega) (fun h12 => w_rdF s1.1 (w_rdF s1.1 (w_wrF ?_))) (fun _ => w_some ⟨fr_rf, Or.inl ⟨rfl, T, s1, s2⟩⟩)))))
      rw [nI_1]
      have hk2 : (usF y 4008 (nI (T.1 + 1))).1 11006 = nI k := rf_ot (by omega) hk
      refine w_rdF hk2 (w_ctI ch_11003 rfl hk1 (w_ctI (nH_3 nH4) rfl h12 ?_))
      have hf : fr enR y (usI (usI (usF y 4008 (nI (T.1 + 1))) 11003 k (nI T.1)) 4003 T.1 t0) := fr_I2 (fr_I2 (fr_F (Or.inl rfl)) (Or.inr (Or.inr (Or.inl rfl)))) (Or.inr (Or.inl rfl))
      have hcA : cAt (usI (usI (usF y 4008 (nI (T.1 + 1))) 11003 k (nI T.1)) 4003 T.1 t0) 4000 (T.1 + 1, T.2.1, T.2.2.1, su T.2.2.2 T.1 t0) := ⟨show (usF y 4008 (nI (T.1 + 1))).1 4008 = _ from po_usF_at, show (usF y 4008 (nI (T.1 + 1))).1 4009 = nI T.2.1 from rf_ot (by omega) s1.2.1, fun v => rd_ot (by omega) (rd_ot (by omega) (s1.2.2.1 v)), fun v => rd_ot (by omega) (rd_ot (by omega) (s1.2.2.2.1 v)), fun v => by
        show _ = su T.2.2.2 T.1 t0 v
        by_cases ev : v = T.1
        · rw [ev]
          exact po_usI_at.trans (if_pos rfl).symm
        · rw [show su T.2.2.2 T.1 t0 v = T.2.2.2 v from if_neg ev]
          exact rd_ne ev (rd_ot (by omega) (s1.2.2.2.2 v))⟩
      refine c2 _ (T.1 + 1, T.2.1, T.2.2.1, su T.2.2.2 T.1 t0) T.1 t0 hf hcA rfl rfl (show T.1 + 1 ≤ 12 by omega) (Nat.lt_succ_self _) (fun p hp => Nat.lt_succ_of_lt (s5 p hp)) (fun x' hx' => ?_) (fun v hv => ?_) (fun k9 hk9 => ?_)
      · have hx' : x' < T.1 + 1 := hx'
        by_cases ex : x' = T.1
        · exact Or.inl ex
        · exact Or.inr (s6 x' (by omega))
      · rw [show (usI (usI (usF y 4008 (nI (T.1 + 1))) 11003 k (nI T.1)) 4003 T.1 t0).2.1 11004 v = y.2.1 11004 v from rd_ot (by omega) (rd_ot (by omega) rfl)]
        exact s7 v hv
      · by_cases ek : k9 = k
        · exact Or.inr ⟨T.1, Nat.lt_succ_self _, by rw [ek]; exact rd_ot (by omega) po_usI_at⟩
        · rcases s8 k9 hk9 with h | ⟨x', h, h'⟩
          · exact Or.inl (rd_ot (by omega) (rd_ne ek h))
          · exact Or.inr ⟨x', Nat.lt_succ_of_lt h, rd_ot (by omega) (rd_ne ek h')⟩
    · exact w_rdF hk (w_crI ch_11003 rfl hk1 e (w_ifF (nI_nm1 (by omega)) (c2 y T x t0 fr_rf s1 rfl rfl s3 hx s5 (fun x' hx' => Or.inr (s6 x' hx')) s7 s8)))
  refine e_X9_enter ?_
  refine u_X9_enter_0 ?_; unfold cm_X9_enter_0
  refine w_rdF ha ?_
  rw [show nI a - 1 = nI (a - 1) from pk_sub (b := 1) ha1]
  exact w_crI ch_11002 rfl (show a - 1 < 400 by omega) rfl (w_if (fun _ => c1 1) (fun _ => c1 (-1)))
theorem u_X9_firstLonely_1 {vl : Nat → Nat} {x2 : Int32} {x3 : Int32} {r0 : Nat} {r1 : Nat} {z : ow_MS} {Q : (Int32 × ow_MS) → Prop} (H : Tt (fun K k => cm_X9_firstLonely_1 vl K (c_X9_firstLonely vl K k) x2 x3 r0 r1 z) Q) : Tt (fun K k => c_X9_firstLonely vl K k 1 x2 x3 r0 r1 z) Q := w_un (fun _ _ => rfl) H
theorem u_X9_firstLonely_3 {vl : Nat → Nat} {x2 : Int32} {x3 : Int32} {r0 : Nat} {r1 : Nat} {z : ow_MS} {Q : (Int32 × ow_MS) → Prop} (H : Tt (fun K k => cm_X9_firstLonely_3 vl K (c_X9_firstLonely vl K k) x2 x3 r0 r1 z) Q) : Tt (fun K k => c_X9_firstLonely vl K k 3 x2 x3 r0 r1 z) Q := w_un (fun _ _ => rfl) H
theorem u_X9_firstLonely_2 {vl : Nat → Nat} {x2 : Int32} {x3 : Int32} {r0 : Nat} {r1 : Nat} {z : ow_MS} {Q : (Int32 × ow_MS) → Prop} (H : Tt (fun K k => cm_X9_firstLonely_2 vl K (c_X9_firstLonely vl K k) x2 x3 r0 r1 z) Q) : Tt (fun K k => c_X9_firstLonely vl K k 2 x2 x3 r0 r1 z) Q := w_un (fun _ _ => rfl) H
theorem e_X9_firstLonely {vl : Nat → Nat} {r0 : Nat} {r1 : Nat} {z : ow_MS} {Q : (Int32 × ow_MS) → Prop} (H : Tt (fun K k => c_X9_firstLonely vl K k 0 0 0 r0 r1 z) Q) : Te (fun K => ce_X9_firstLonely vl K r0 r1 z) Q := w_te H
theorem u_X9_firstLonely_0 {vl : Nat → Nat} {x2 : Int32} {x3 : Int32} {r0 : Nat} {r1 : Nat} {z : ow_MS} {Q : (Int32 × ow_MS) → Prop} (H : Tt (fun K k => cm_X9_firstLonely_0 vl K (c_X9_firstLonely vl K k) x2 x3 r0 r1 z) Q) : Tt (fun K k => c_X9_firstLonely vl K k 0 x2 x3 r0 r1 z) Q := w_un (fun _ _ => rfl) H
theorem tc_firstLonely (hS : rdT y F T) : Te (fun K => ce_X9_firstLonely vl K 11000 4000 y) (fun r => r.2 = y ∧ (r.1 = -1 ∧ (∀ v, v < 2 * T.1 → kp v ∈ F → kp (mt v) ∈ F) ∨ ∃ b, b < 400 ∧ r.1 = nI b)) := by
  obtain ⟨s1, s2, s3, s4, s5, s6, s7, s8⟩ := id hS
  let Q : Int32 × ow_MS → Prop := fun r => r.2 = y ∧ (r.1 = -1 ∧ (∀ v, v < 2 * T.1 → kp v ∈ F → kp (mt v) ∈ F) ∨ ∃ b, b < 400 ∧ r.1 = nI b)
  let I : Nat → Int32 → Prop := fun i l => (l = -1 ∧ ∀ v, v < i → kp v ∈ F → kp (mt v) ∈ F) ∨ ∃ b, b < 400 ∧ l = nI b
  have c1 : ∀ (d i : Nat) (l : Int32), i + d = 2 * T.1 → I i l → Tt (fun K t => c_X9_firstLonely vl K t 1 l (nI i) 11000 4000 y) Q := by
    intro d
    induction d with
    | zero =>
      intro i l hi hl
      have e : i = 2 * T.1 := by omega
      subst e
      refine u_X9_firstLonely_1 ?_; unfold cm_X9_firstLonely_1
      refine w_rdF s1.1 ?_
      rw [show (2 : Int32) * nI T.1 = nI (2 * T.1) from pk_mul 2 _]
      exact w_leT (by omega) (by omega) (w_some ⟨rfl, hl⟩)
    | succ d ih =>
      intro i l hi hl
      have hi24 : i < 24 := by omega
      have hm24 := mt_lt (c := 12) (show i < 2 * 12 by omega)
      have c3 : ∀ l2, I (i + 1) l2 → Tt (fun K t => c_X9_firstLonely vl K t 3 l2 (nI i) 11000 4000 y) Q := by
        intro l2 h2
        refine u_X9_firstLonely_3 ?_; unfold cm_X9_firstLonely_3
        rw [nI_1]
        exact ih (i + 1) l2 (by omega) h2
      have keep : (kp i ∈ F → kp (mt i) ∈ F) → I (i + 1) l := by
        intro h9
        rcases hl with ⟨e, h⟩ | h
        · refine Or.inl ⟨e, fun v hv => ?_⟩
          by_cases ev : v = i
          · rw [ev]
            exact h9
          · exact h v (by omega)
        · exact Or.inr h
      refine u_X9_firstLonely_1 ?_; unfold cm_X9_firstLonely_1
      refine w_rdF s1.1 ?_
      rw [show (2 : Int32) * nI T.1 = nI (2 * T.1) from pk_mul 2 _, xor1 ⟨i, hi24⟩]
      refine w_leF (by omega) (by omega) ?_
      rcases s7 i hi24 with ⟨e1, e2⟩ | ⟨b, b1, e1, e2⟩
      · exact w_crI ch_11004 rfl hi24 e1 (w_ifT rfl (c3 l (keep (fun h => absurd h e2))))
      · have c2 : Tt (fun K t => c_X9_firstLonely vl K t 2 l (nI i) 11000 4000 y) Q := by
          refine u_X9_firstLonely_2 ?_; unfold cm_X9_firstLonely_2
          exact w_crI ch_11004 rfl hi24 e1 (c3 _ (Or.inr ⟨b, b1, rfl⟩))
        refine w_crI ch_11004 rfl hi24 e1 (w_ifF (nI_nm1 (by omega)) ?_)
        rcases s7 (mt i) (by omega) with ⟨f1, f2⟩ | ⟨b', b2, f1, f2⟩
        · refine w_crI ch_11004 rfl (show mt i < 24 by omega) f1 (w_ifT rfl ?_)
          rcases hl with ⟨e, h⟩ | ⟨b3, b4, e⟩
          · exact w_ifT e c2
          · refine w_ifF (by rw [e]; exact nI_nm1 (by omega)) (w_crI ch_11004 rfl hi24 e1 ?_)
            exact w_if (fun _ => c3 l (Or.inr ⟨b3, b4, e⟩)) (fun _ => c2)
        · exact w_crI ch_11004 rfl (show mt i < 24 by omega) f1 (w_ifF (nI_nm1 (by omega)) (c3 l (keep (fun _ => f2))))
  refine e_X9_firstLonely ?_
  refine u_X9_firstLonely_0 ?_; unfold cm_X9_firstLonely_0
  exact c1 (2 * T.1) 0 (-1) (by omega) (Or.inl ⟨rfl, fun v hv => absurd hv (Nat.not_lt_zero _)⟩)
/-- the last of an open component -/
def lsI (L : List (Nat × Nat)) (x3 x4 : Int32) : Prop := match L with
  | [] => x3 = -1
  | p :: L => x3 = nI (lb p) ∧ ∃ q, (p :: L)[L.length]? = some q ∧ x4 = nI (lb q)
theorem e_X9_finish {vl : Nat → Nat} {r0 : Nat} {x1 : Int32} {x2 : Int32} {z : ow_MS} {Q : ow_MS → Prop} (H : Tt (fun K _ => cm_X9_finish_0 vl K x1 x2 r0 z) Q) : Te (fun K => ce_X9_finish vl K r0 x1 x2 z) Q := w_te0 H
theorem tc_finish {A : rn_L} {L : List (Nat × Nat)} {x3 x4 : Int32} (hS : rdT y (A.flatten ++ L) T) (hl : lkS T.2.2.1 A L) (hci : T.2.1 = cirs A) (hx : lsI L x3 x4) : Te (fun K => ce_X9_finish vl K 4000 x3 x4 y) (fun y1 => ∃ T1, rdT y1 (A ++ [L]).flatten T1 ∧ lkS T1.2.2.1 (A ++ [L]) [] ∧ T1.2.1 = cirs (A ++ [L]) ∧ fr (cP 4000) y y1) := by
  obtain ⟨s1, s2, s3, s4, s5, s6, s7, s8⟩ := id hS
  refine e_X9_finish ?_; unfold cm_X9_finish_0
  cases L with
  | nil =>
    have hx : x3 = -1 := hx
    refine w_ifT hx (w_rdF s1.2.1 (w_wrF (w_some ⟨(T.1, T.2.1 + 1, T.2.2), ?_, lk_nil hl, ?_, fr_F (by unfold cP; omega)⟩)))
    · rw [fl_app]
      refine ⟨⟨rf_ot (by omega) s1.1, ?_, s1.2.2⟩, s2, s3, s4, s5, s6, s7, s8⟩
      exact po_usF_at.trans (nI_1 _)
    · rw [cirs_app, if_pos rfl, ← hci]
  | cons p L =>
    obtain ⟨hx3, q, hq, hx4⟩ := hx
    have hpF : p ∈ A.flatten ++ p :: L := List.mem_append_right _ List.mem_cons_self
    have hqF : q ∈ A.flatten ++ p :: L := List.mem_append_right _ (List.mem_of_getElem? hq)
    have b24 : ∀ r, r ∈ A.flatten ++ p :: L → lb r < 24 := fun r hr => by
      have h1 := s5 r hr
      have h2 := s4.2 r hr
      unfold lb
      omega
    have hp24 := b24 p hpF
    refine w_ifF (by rw [hx3]; exact nI_nm1 (by omega)) ?_
    rw [hx3, hx4]
    refine w_cs0 (tc_link nH4 s1 (b24 q hqF) (b24 p hpF)) ?_
    rintro y1 ⟨g1, g2⟩
    refine w_some ⟨_, ⟨g1, nl_b24 s2 (b24 q hqF) (b24 p hpF), s3, ?_, ?_, ?_, fun v hv => ?_, fun k hk => ?_⟩, lk_close s4 hq hl, ?_, g2⟩
    · rw [fl_app]
      exact s4
    · rw [fl_app]
      exact s5
    · rw [fl_app]
      exact s6
    · rw [fl_app, (g2 11004 (by unfold cP; omega)).2.1]
      exact s7 v hv
    · rw [(g2 11003 (by unfold cP; omega)).2.1]
      exact s8 k hk
    · rw [cirs_app, if_neg (List.cons_ne_nil p L), Nat.add_zero]
      exact hci
end CRE
end
section
/-! 99zzzzzza.crd3 -/
/-! the class: Reader.readDiagram; diagram -/
theorem rdT_fr {P : Nat → Prop} {y y1 : ow_MS} {F : List (Nat × Nat)} {T : ow_NT} (hf : fr P y y1) (hP : ∀ g, P g → ¬ cP 4000 g ∧ g ≠ 11003 ∧ g ≠ 11004) (h : rdT y F T) : rdT y1 F T := by
  obtain ⟨s1, s2, s3, s4, s5, s6, s7, s8⟩ := h
  refine ⟨cAt_fr hf (fun g hg h9 => (hP g h9).1 hg) s1, s2, s3, s4, s5, s6, fun v hv => ?_, fun k hk => ?_⟩
  · rw [(hf 11004 (fun h9 => (hP _ h9).2.2 rfl)).2.1]
    exact s7 v hv
  · rw [(hf 11003 (fun h9 => (hP _ h9).2.1 rfl)).2.1]
    exact s8 k hk
def rdP (g : Nat) : Prop := cP 4000 g ∨ 11003 ≤ g ∧ g ≤ 11006
section CRD
variable {vl : Nat → Nat} {y : ow_MS}
/-- what is known of the net when the reading ends -/
def rdE (y : ow_MS) (r : Int32 × ow_MS) : Prop := fr rdP y r.2 ∧ (∃ T, cAt r.2 4000 T ∧ ow_b24 T.2.2.1) ∧ ((r.1 = -1 ∧ ∃ T, cAt r.2 4000 T ∧ nv T) ∨ ∃ b, b ≤ 400 ∧ r.1 = nI b)
theorem u_X9_readDiagram_4 {vl : Nat → Nat} {x2 : Int32} {x3 : Int32} {x4 : Int32} {x5 : Int32} {x6 : Int32} {x7 : Int32} {x8 : Int32} {r0 : Nat} {r1 : Nat} {z : ow_MS} {Q : (Int32 × ow_MS) → Prop} (H : Tt (fun K k => cm_X9_readDiagram_4 vl K (c_X9_readDiagram vl K k) x2 x3 x4 x5 x6 x7 x8 r0 r1 z) Q) : Tt (fun K k => c_X9_readDiagram vl K k 4 x2 x3 x4 x5 x6 x7 x8 r0 r1 z) Q := w_un (fun _ _ => rfl) H
theorem u_X9_readDiagram_1 {vl : Nat → Nat} {x2 : Int32} {x3 : Int32} {x4 : Int32} {x5 : Int32} {x6 : Int32} {x7 : Int32} {x8 : Int32} {r0 : Nat} {r1 : Nat} {z : ow_MS} {Q : (Int32 × ow_MS) → Prop} (H : Tt (fun K k => cm_X9_readDiagram_1 vl K (c_X9_readDiagram vl K k) x2 x3 x4 x5 x6 x7 x8 r0 r1 z) Q) : Tt (fun K k => c_X9_readDiagram vl K k 1 x2 x3 x4 x5 x6 x7 x8 r0 r1 z) Q := w_un (fun _ _ => rfl) H
theorem u_X9_readDiagram_3 {vl : Nat → Nat} {x2 : Int32} {x3 : Int32} {x4 : Int32} {x5 : Int32} {x6 : Int32} {x7 : Int32} {x8 : Int32} {r0 : Nat} {r1 : Nat} {z : ow_MS} {Q : (Int32 × ow_MS) → Prop} (H : Tt (fun K k => cm_X9_readDiagram_3 vl K (c_X9_readDiagram vl K k) x2 x3 x4 x5 x6 x7 x8 r0 r1 z) Q) : Tt (fun K k => c_X9_readDiagram vl K k 3 x2 x3 x4 x5 x6 x7 x8 r0 r1 z) Q := w_un (fun _ _ => rfl) H
theorem u_X9_readDiagram_2 {vl : Nat → Nat} {x2 : Int32} {x3 : Int32} {x4 : Int32} {x5 : Int32} {x6 : Int32} {x7 : Int32} {x8 : Int32} {r0 : Nat} {r1 : Nat} {z : ow_MS} {Q : (Int32 × ow_MS) → Prop} (H : Tt (fun K k => cm_X9_readDiagram_2 vl K (c_X9_readDiagram vl K k) x2 x3 x4 x5 x6 x7 x8 r0 r1 z) Q) : Tt (fun K k => c_X9_readDiagram vl K k 2 x2 x3 x4 x5 x6 x7 x8 r0 r1 z) Q := w_un (fun _ _ => rfl) H
theorem e_X9_readDiagram {vl : Nat → Nat} {r0 : Nat} {r1 : Nat} {z : ow_MS} {Q : (Int32 × ow_MS) → Prop} (H : Tt (fun K k => c_X9_readDiagram vl K k 0 0 0 0 0 0 0 0 r0 r1 z) Q) : Te (fun K => ce_X9_readDiagram vl K r0 r1 z) Q := w_te H
theorem u_X9_readDiagram_0 {vl : Nat → Nat} {x2 : Int32} {x3 : Int32} {x4 : Int32} {x5 : Int32} {x6 : Int32} {x7 : Int32} {x8 : Int32} {r0 : Nat} {r1 : Nat} {z : ow_MS} {Q : (Int32 × ow_MS) → Prop} (H : Tt (fun K k => cm_X9_readDiagram_0 vl K (c_X9_readDiagram vl K k) x2 x3 x4 x5 x6 x7 x8 r0 r1 z) Q) : Tt (fun K k => c_X9_readDiagram vl K k 0 x2 x3 x4 x5 x6 x7 x8 r0 r1 z) Q := w_un (fun _ _ => rfl) H
theorem tc_readDiagram {n : Nat} (hn : y.1 11001 = nI n) (h400 : n ≤ 400) (hT : ∃ T, cAt y 4000 T ∧ ow_b24 T.2.2.1) : Te (fun K => ce_X9_readDiagram vl K 11000 4000 y) (rdE y) := by
  have nf : ∀ {z : ow_MS}, fr rdP y z → z.1 11001 = nI n := fun hf => (hf 11001 (by unfold rdP cP; omega)).1.trans hn
  have bad : ∀ (z : ow_MS) (b : Nat), fr rdP y z → (∃ T, cAt z 4000 T ∧ ow_b24 T.2.2.1) → b ≤ 400 → Tt (fun _ _ => some (nI b, z)) (rdE y) := fun z b h1 h2 h3 => w_some ⟨h1, h2, Or.inr ⟨b, h3, rfl⟩⟩
  -- the end of the text
  have c4 : ∀ (z : ow_MS) (A : rn_L) (L : List (Nat × Nat)) (T : ow_NT) (x2 x3 x4 x5 : Int32), fr rdP y z → rdT z (A.flatten ++ L) T → lkS T.2.2.1 A L → T.2.1 = cirs A → lsI L x3 x4 → A.length + 1 ≤ 6 → Tt (fun K t => c_X9_readDiagram vl K t 4 x2 x3 x4 x5 0 0 0 11000 4000 z) (rdE y) := by
    intro z A L T x2 x3 x4 x5 hf h1 h2 h3 h4 h5
    refine u_X9_readDiagram_4 ?_; unfold cm_X9_readDiagram_4
    refine w_cs0 (tc_finish h1 h2 h3 h4) ?_
    rintro z1 ⟨T1, g1, g2, g3, g4⟩
    refine w_cs1 (tc_firstLonely g1) ?_
    rintro v z2 ⟨e1, e2⟩
    dsimp only at e1 e2
    rw [e1]
    have hf1 : fr rdP y z1 := fr_tr hf (fr_mono (fun g hg => Or.inl hg) g4)
    refine w_some ⟨hf1, ⟨T1, g1.1, g1.2.1⟩, ?_⟩
    rcases e2 with ⟨rfl, e3⟩ | ⟨b, b1, b2⟩
    · refine Or.inl ⟨rfl, T1, g1.1, ?_⟩
      obtain ⟨s1, s2, s3, s4, s5, s6, s7, s8⟩ := g1
      have hok : okF (A ++ [L]).flatten T1.1 := by
        refine ⟨s4.1, fun p => ⟨fun hp => ⟨s5 p hp, s4.2 p hp⟩, fun ⟨p1, p2⟩ => ?_⟩⟩
        obtain ⟨u, hu⟩ := s6 p.1 p1
        have hu2 := s4.2 _ hu
        have hu2 : u < 2 := hu2
        by_cases e : u = p.2
        · rw [show p = (p.1, u) from Prod.ext rfl e.symm]
          exact hu
        · have e4 := e3 (lb (p.1, u)) (by unfold lb; show 2 * p.1 + u < 2 * T1.1; omega) (by rw [kp_lb2 (p := (p.1, u)) hu2]; exact hu)
          have e5 : mt (lb (p.1, u)) = lb p := by
            unfold mt lb
            show (if (2 * p.1 + u) % 2 = 0 then 2 * p.1 + u + 1 else 2 * p.1 + u - 1) = 2 * p.1 + p.2
            split <;> omega
          rw [e5, kp_lb2 p2] at e4
          exact e4
      exact (lk_net hok s3 (by rw [List.length_append]; exact h5) s2 g3 g2).1
    · exact Or.inr ⟨b, by omega, b2⟩
  have c1 : ∀ (d i : Nat) (z : ow_MS) (A : rn_L) (L : List (Nat × Nat)) (T : ow_NT) (x3 x4 : Int32) (a : Nat), i + d = 400 → fr rdP y z → z.1 11005 = nI a → a ≤ n → rdT z (A.flatten ++ L) T → lkS T.2.2.1 A L → T.2.1 = cirs A → lsI L x3 x4 → A.length + 1 ≤ 6 → Tt (fun K t => c_X9_readDiagram vl K t 1 (nI (A.length + 1)) x3 x4 (nI i) 0 0 0 11000 4000 z) (rdE y) := by
    intro d
    induction d with
    | zero =>
      intro i z A L T x3 x4 a hi hf ha han h1 h2 h3 h4 h5
      refine u_X9_readDiagram_1 ?_; unfold cm_X9_readDiagram_1
      exact w_leT (a := 400) (by omega) (by omega) (c4 z A L T _ x3 x4 _ hf h1 h2 h3 h4 h5)
    | succ d ih =>
      intro i z A L T x3 x4 a hi hf ha han h1 h2 h3 h4 h5
      have hTz : ∃ T, cAt z 4000 T ∧ ow_b24 T.2.2.1 := ⟨T, h1.1, h1.2.1⟩
      have c3 : ∀ (z1 : ow_MS) (A1 : rn_L) (L1 : List (Nat × Nat)) (T1 : ow_NT) (y3 y4 y6 : Int32) (a1 : Nat), fr rdP y z1 → z1.1 11005 = nI a1 → a1 ≤ n → rdT z1 (A1.flatten ++ L1) T1 → lkS T1.2.2.1 A1 L1 → T1.2.1 = cirs A1 → lsI L1 y3 y4 → A1.length + 1 ≤ 6 → Tt (fun K t => c_X9_readDiagram vl K t 3 (nI (A1.length + 1)) y3 y4 (nI i) y6 0 0 11000 4000 z1) (rdE y) := by
        intro z1 A1 L1 T1 y3 y4 y6 a1 q1 q2 q3 q4 q5 q6 q7 q8
        refine u_X9_readDiagram_3 ?_; unfold cm_X9_readDiagram_3
        rw [nI_1 i]
        exact ih (i + 1) z1 A1 L1 T1 y3 y4 a1 (by omega) q1 q2 q3 q4 q5 q6 q7 q8
      refine u_X9_readDiagram_1 ?_; unfold cm_X9_readDiagram_1
      refine w_leF (a := 400) (by omega) (by omega) (w_rdF ha (w_rdF (nf hf) (w_le (by omega) (by omega) (fun _ => c4 z A L T _ x3 x4 _ hf h1 h2 h3 h4 h5) (fun hal => w_rdF ha (w_rdF ha (w_crI ch_11002 rfl (show a < 400 by omega) rfl (w_if (fun _ => ?_) (fun _ => ?_))))))))
      · rw [nI_1]
        refine w_le (b := 6) (by omega) (by omega) (fun h6 => w_cs0 (tc_finish h1 h2 h3 h4) ?_) (fun _ => w_rdF ha (bad z a hf hTz (by omega)))
        rintro z1 ⟨T1, g1, g2, g3, g4⟩
        have ha1 : z1.1 11005 = nI a := (g4 11005 (by unfold cP; omega)).1.trans ha
        refine w_rdF ha1 (w_wrF ?_)
        rw [nI_1 a]
        have hf1 : fr rdP y (usF z1 11005 (nI (a + 1))) := fr_F2 (fr_tr hf (fr_mono (fun g hg => Or.inl hg) g4)) (by unfold rdP; omega)
        have hA1 : (A ++ [L]).length = A.length + 1 := by
          rw [List.length_append]
          rfl
        have := c3 (usF z1 11005 (nI (a + 1))) (A ++ [L]) [] T1 (-1) x4 (nI a) (a + 1) hf1 po_usF_at (by omega) (by
          rw [List.append_nil]
          exact rdT_fr (P := fun g => g = 11005) (fr_F rfl) (fun g hg => by unfold cP; omega) g1) g2 g3 rfl (by omega)
        rw [hA1] at this
        exact this
      · refine w_cs1 (tc_readVisit ha (nf hf) hal h400) ?_
        rintro v z1 ⟨f1, e1⟩
        dsimp only at f1 e1
        have hf1 : fr rdP y z1 := fr_tr hf (fr_mono (fun g hg => by unfold rvP at hg; unfold rdP; omega) f1)
        have h11 : rdT z1 (A.flatten ++ L) T := rdT_fr f1 (fun g hg => by unfold rvP at hg; unfold cP; omega) h1
        rcases e1 with ⟨b, b1, rfl⟩ | ⟨rfl, a', k, k1, k2, k3, k4, k5, k6⟩
        · exact w_ifF (nI_nm1 (by omega)) (bad z1 b hf1 ⟨T, h11.1, h11.2.1⟩ (by omega))
        · refine w_ifT rfl (w_cs1 (tc_enter h11 k5 (by omega) (by omega) k6 k4 (show a < 400 by omega)) ?_)
          rintro w z2 ⟨f2, e2⟩
          dsimp only at f2 e2
          have hf2 : fr rdP y z2 := fr_tr hf1 (fr_mono (fun g hg => by unfold enR at hg; unfold rdP cP; omega) f2)
          have ha2 : z2.1 11005 = nI a' := (f2 11005 (by unfold enR; omega)).1.trans k5
          rcases e2 with ⟨rfl, hT2⟩ | ⟨p, T2, rfl, p24, r1, r2, r3⟩
          · exact w_ifT rfl (bad z2 a hf2 hT2 (by omega))
          · have hne : nI (lb p) ≠ -1 := nI_nm1 (by omega)
            have r1' : rdT z2 (A.flatten ++ (L ++ [p])) T2 := by
              rw [← List.append_assoc]
              exact r1
            refine w_ifF hne ?_
            cases L with
            | nil =>
              have h4 : x3 = -1 := h4
              have hl2 : lkS T2.2.2.1 A [p] := by
                rw [r3]
                exact lk_one h2
              refine w_ifT h4 ?_
              refine u_X9_readDiagram_2 ?_; unfold cm_X9_readDiagram_2
              exact c3 z2 A [p] T2 (nI (lb p)) (nI (lb p)) _ a' hf2 ha2 k2 r1' hl2 (r2.trans h3) ⟨rfl, p, rfl, rfl⟩ h5
            | cons q0 L =>
              obtain ⟨hx3, q, hq, hx4⟩ := h4
              have b24 : ∀ r, r ∈ A.flatten ++ q0 :: L → lb r < 24 := fun r hr => by
                have q1 := h1.2.2.2.2.1 r hr
                have q2 := h1.2.2.2.1.2 r hr
                have q3 := h1.2.2.1
                unfold lb
                omega
              have hq24 := b24 q (List.mem_append_right _ (List.mem_of_getElem? hq))
              have h024 := b24 q0 (List.mem_append_right _ List.mem_cons_self)
              refine w_ifF (by rw [hx3]; exact nI_nm1 (by omega)) ?_
              rw [hx4]
              refine w_cs0 (tc_link nH4 r1'.1 hq24 p24) ?_
              rintro z3 ⟨g1, g2⟩
              obtain ⟨s1, s2, s3, s4, s5, s6, s7, s8⟩ := r1'
              have r13 : rdT z3 (A.flatten ++ (q0 :: L ++ [p])) (ntS T2 (nl T2.2.2.1 (lb q) (lb p))) := by
                refine ⟨g1, nl_b24 s2 hq24 p24, s3, s4, s5, s6, fun v hv => ?_, fun k hk => ?_⟩
                · rw [(g2 11004 (by unfold cP; omega)).2.1]
                  exact s7 v hv
                · rw [(g2 11003 (by unfold cP; omega)).2.1]
                  exact s8 k hk
              have hl3 : lkS (nl T2.2.2.1 (lb q) (lb p)) A (q0 :: L ++ [p]) := by
                rw [r3]
                exact lk_more (by rw [List.append_assoc]; exact s4) hq h2
              have ha3 : z3.1 11005 = nI a' := (g2 11005 (by unfold cP; omega)).1.trans ha2
              refine u_X9_readDiagram_2 ?_; unfold cm_X9_readDiagram_2
              refine c3 z3 A (q0 :: L ++ [p]) _ x3 (nI (lb p)) _ a' (fr_tr hf2 (fr_mono (fun g hg => Or.inl hg) g2)) ha3 k2 r13 hl3 (r2.trans h3) ⟨hx3, p, ?_, rfl⟩ h5
              have hll : (L.append [p]).length = L.length + 1 := List.length_append
              show (q0 :: L ++ [p])[(L.append [p]).length]? = some p
              rw [hll]
              rw [List.getElem?_append_right (show (q0 :: L).length ≤ L.length + 1 from Nat.le_refl _), show L.length + 1 - (q0 :: L).length = 0 from Nat.sub_self _]
              rfl
  obtain ⟨T0, t1, t2⟩ := hT
  refine e_X9_readDiagram ?_
  refine u_X9_readDiagram_0 ?_; unfold cm_X9_readDiagram_0
  refine w_cs0 (tc_fillA ch_11003 (by omega)) ?_
  rintro z1 ⟨a1, a2⟩
  refine w_cs0 (tc_fillA ch_11004 (by omega)) ?_
  rintro z2 ⟨b1, b2⟩
  have t12 : cAt z2 4000 T0 := cAt_fr b2 (fun g hg h9 => by unfold cP at hg; omega) (cAt_fr a2 (fun g hg h9 => by unfold cP at hg; omega) t1)
  refine w_cs0 (tc_empty t12) ?_
  rintro z3 ⟨d1, d2⟩
  have hf3 : fr rdP y z3 := fr_tr (fr_mono (fun g hg => by rw [hg]; unfold rdP; omega) a2) (fr_tr (fr_mono (fun g hg => by rw [hg]; unfold rdP; omega) b2) (fr_mono (fun g hg => Or.inl hg) d2))
  refine w_wrF (c1 400 0 (usF z3 11005 0) [] [] (0, 0, T0.2.2) (-1) (-1) 0 (by omega) (fr_F2 hf3 (by unfold rdP; omega)) po_usF_at (Nat.zero_le _) ?_ ⟨fun v hv => absurd hv (Nat.not_lt_zero _), fun i p q e => by rw [List.getElem?_nil] at e; cases e⟩ rfl rfl (by show 0 + 1 ≤ 6; omega))
  refine ⟨cAt_fr (P := fun g => g = 11005) (fr_F rfl) (fun g hg h9 => by unfold cP at hg; omega) d1, t2, Nat.zero_le _, ⟨List.nodup_nil, fun p hp => (by cases hp)⟩, fun p hp => (by cases hp), fun x hx => absurd hx (Nat.not_lt_zero _), fun v hv => Or.inl ⟨?_, fun h => (by cases h)⟩, fun k hk => Or.inl ?_⟩
  · show z3.2.1 11004 v = -1
    rw [(d2 11004 (by unfold cP; omega)).2.1]
    exact b1 v hv
  · show z3.2.1 11003 k = -1
    rw [(d2 11003 (by unfold cP; omega)).2.1, (b2 11003 (by omega)).2.1]
    exact a1 k hk
end CRD
end
section
/-! 99zzzzzzb.cdia -/
/-! the class: diagram -/
def gT (y : ow_MS) : Prop := ∃ n, n ≤ 400 ∧ y.1 11001 = nI n
def diP (g : Nat) : Prop := uP g ∨ g = 6001 ∨ g = 6002 ∨ 11001 ≤ g ∧ g ≤ 11006
theorem gN_d {P : Nat → Prop} {y y1 : ow_MS} (hf : fr P y y1) (hP : ∀ g, P g → 4001 ≤ g ∧ g ≤ 4011 ∨ g = 6001 ∨ g = 6002 ∨ 11001 ≤ g ∧ g ≤ 11006) (hT : ∃ T, cAt y1 4000 T ∧ ow_b24 T.2.2.1) (hN : gN y) : gN y1 := by
  refine ⟨dgC_fr hf (fun g g1 g2 h9 => by have := hP g h9; omega) hN.1, nsC_put nH4 hf (fun h' hh' hne g hg h9 => ?_) hT hN.2.1, kdC_fr hf (fun g h9 => by have := hP g h9; omega) hN.2.2⟩
  have h7 := hP g h9
  have key : ∀ a, a ∈ nHL → a = 4000 ∨ a = 5000 ∨ 16000 ≤ a := by decide
  have := key h' hh'
  unfold cP at hg
  omega
section CDI
variable {vl : Nat → Nat} {y : ow_MS}
theorem u_X11_diagram_1 {vl : Nat → Nat} {x1 : Int32} {x2 : Int32} {r0 : Nat} {z : ow_MS} {Q : (Nat × Int32 × ow_MS) → Prop} (H : Tt (fun K k => cm_X11_diagram_1 vl K (c_X11_diagram vl K k) x1 x2 r0 z) Q) : Tt (fun K k => c_X11_diagram vl K k 1 x1 x2 r0 z) Q := w_un (fun _ _ => rfl) H
theorem e_X11_diagram {vl : Nat → Nat} {r0 : Nat} {z : ow_MS} {Q : (Nat × Int32 × ow_MS) → Prop} (H : Tt (fun K k => c_X11_diagram vl K k 0 0 0 r0 z) Q) : Te (fun K => ce_X11_diagram vl K r0 z) Q := w_te H
theorem u_X11_diagram_0 {vl : Nat → Nat} {x1 : Int32} {x2 : Int32} {r0 : Nat} {z : ow_MS} {Q : (Nat × Int32 × ow_MS) → Prop} (H : Tt (fun K k => cm_X11_diagram_0 vl K (c_X11_diagram vl K k) x1 x2 r0 z) Q) : Tt (fun K k => c_X11_diagram vl K k 0 x1 x2 r0 z) Q := w_un (fun _ _ => rfl) H
theorem tc_diagram (hN : gM y) (hT : gT y) : Te (fun K => ce_X11_diagram vl K 0 y) (fun r => gM r.2.2 ∧ gT r.2.2 ∧ fr diP y r.2.2) := by
  obtain ⟨n, hn, en⟩ := id hT
  let Q0 : ow_MS → Nat × Int32 × ow_MS → Prop := fun y r => gM r.2.2 ∧ gT r.2.2 ∧ fr diP y r.2.2
  have c1 : ∀ (y0 z : ow_MS) (e : Nat) (x2 : Int32), e < 40 → gM z → fr diP y0 z → (x2 = -1 → ∃ T, cAt z 4000 T ∧ nv T) → Tt (fun K t => c_X11_diagram vl K t 1 (nI e) x2 0 z) (Q0 y0) := by
    intro y0 z e x2 he h1 h2 h3
    refine u_X11_diagram_1 ?_; unfold cm_X11_diagram_1
    have f1 : fr (fun g => g = 11001) z (usF z (0 + 11000 + 1) 0) := fr_F rfl
    have hN1 : gN (usF z (0 + 11000 + 1) 0) := gN_F (g := 11001) (far_cP (by omega)) h1.1
    have hM1 : gM (usF z (0 + 11000 + 1) 0) := ⟨hN1, tbs_fr f1 (fun g hg => by omega) h1.2⟩
    have fd1 : fr diP y0 (usF z (0 + 11000 + 1) 0) := fr_tr h2 (fr_mono (fun g hg => by unfold diP uP; omega) f1)
    have t1 : (usF z (0 + 11000 + 1) 0).1 11001 = nI 0 := po_usF_at
    refine w_wrF (w_if (fun ex => ?_) (fun _ => w_some ⟨hM1, ⟨0, by omega, t1⟩, fd1⟩))
    obtain ⟨T, t2, t3⟩ := h3 ex
    refine w_cs1 (tc_keep hN1 he (cAt_fr f1 (fun g hg h9 => by unfold cP at hg; omega) t2) t3) ?_
    rintro r z2 ⟨-, g1, g2, -⟩
    refine w_some ⟨gM_u g2 g1 hM1, ⟨0, by omega, ?_⟩, fr_tr fd1 (fr_mono (fun g hg => Or.inl hg) g2)⟩
    show z2.1 11001 = nI 0
    rw [(g2 11001 (by unfold uP; omega)).1]
    exact t1
  refine e_X11_diagram ?_
  refine u_X11_diagram_0 ?_; unfold cm_X11_diagram_0
  refine w_tc1 (tc_freeDiagram (dgC_E hN.1.1)) ?_ ?_
  · rintro v y1 ⟨h2, rfl⟩
    rcases h2 with ⟨e, he, -, rfl, h3, h4⟩ | h2
    · refine w_cs1 (tc_readDiagram en hn (hN.1.2.1 4000 nH4)) ?_
      rintro v y2 ⟨f2, hT2, e2⟩
      dsimp only at f2 hT2 e2
      have u2 : ∀ g, rdP g → 4001 ≤ g ∧ g ≤ 4011 ∨ g = 6001 ∨ g = 6002 ∨ 11001 ≤ g ∧ g ≤ 11006 := fun g hg => by unfold rdP cP at hg; omega
      have hM2 : gM y2 := ⟨gN_d f2 u2 hT2 hN.1, tbs_fr f2 (fun g hg => by have := u2 g hg; omega) hN.2⟩
      have fd2 : fr diP y1 y2 := fr_mono (fun g hg => by have := u2 g hg; unfold diP uP; omega) f2
      rcases e2 with ⟨rfl, T, t1, t2⟩ | ⟨b, b1, rfl⟩
      · refine w_ifT rfl (w_cs1 (tc_plane (f := 6000) nH4 (Or.inl rfl) (by omega) t1 t2.2.2.1 t2.1 t2.2.1) ?_)
        rintro w y3 ⟨e3, f3⟩
        dsimp only at e3 f3
        have u3 : ∀ g, (cQ 4000 g ∨ cF 6000 g) → 4001 ≤ g ∧ g ≤ 4011 ∨ g = 6001 ∨ g = 6002 ∨ 11001 ≤ g ∧ g ≤ 11006 := fun g hg => by unfold cQ cF at hg; omega
        have t13 : cAt y3 4000 T := cAt_fr f3 (fun g hg h9 => by unfold cP at hg; unfold cQ cF at h9; omega) t1
        have hM3 : gM y3 := ⟨gN_d f3 u3 ⟨T, t13, t2.2.2.1⟩ hM2.1, tbs_fr f3 (fun g hg => by have := u3 g hg; omega) hM2.2⟩
        have fd3 : fr diP y1 y3 := fr_tr fd2 (fr_mono (fun g hg => by have := u3 g hg; unfold diP uP; omega) f3)
        have en3 : y3.1 11001 = nI n := by
          rw [(f3 11001 (by unfold cQ cF; omega)).1, (f2 11001 (by unfold rdP cP; omega)).1]
          exact en
        refine w_if (fun _ => w_rdF en3 (c1 y1 y3 e (nI n) he hM3 fd3 (fun h9 => absurd h9 (nI_nm1 (by omega))))) (fun _ => c1 y1 y3 e (-1) he hM3 fd3 (fun _ => ⟨T, t13, t2⟩))
      · exact w_ifF (nI_nm1 (by omega)) (c1 y1 y2 e (nI b) he hM2 fd2 (fun h9 => absurd h9 (nI_nm1 (by omega))))
    · exact absurd (show (0 : Nat) = 3 from h2.1) (by decide)
  · rintro a v y1 ha ⟨h2, rfl⟩
    exact w_some ⟨hN, hT, fr_rf⟩
end CDI
end
section
/-! 99zzzzzzc.cbrd -/
/-! the class: braid, product, inverse -/
/-- the letters of a place: below n in number, not 0 -/
def wdB (y : ow_MS) (b n l : Nat) : Prop := ∀ i, i < l → ∃ a : Int, y.2.1 13 (16 * b + i) = iI a ∧ 1 ≤ a.natAbs ∧ a.natAbs < n
/-- the places of the braids -/
def brC (y : ow_MS) : Prop := ∀ b, b < 20 → ∃ n l, n ≤ 5 ∧ n ≠ 1 ∧ y.2.1 15 b = nI n ∧ (0 < n → l ≤ 16 ∧ y.2.1 14 b = nI l ∧ wdB y b n l)
theorem brC_E {y : ow_MS} (h : brC y) : brE y := by
  intro b hb
  obtain ⟨n, l, h1, h2, h3, h4⟩ := h b hb
  exact ⟨n, h1, h3⟩
theorem brC_fr {P : Nat → Prop} {y y1 : ow_MS} (hf : fr P y y1) (hP : ¬ P 13 ∧ ¬ P 14 ∧ ¬ P 15) (h : brC y) : brC y1 := by
  intro b hb
  obtain ⟨n, l, h1, h2, h3, h4⟩ := h b hb
  refine ⟨n, l, h1, h2, by rw [(hf 15 hP.2.2).2.1]; exact h3, fun h0 => ?_⟩
  obtain ⟨q1, q2, q3⟩ := h4 h0
  refine ⟨q1, by rw [(hf 14 hP.2.1).2.1]; exact q2, fun i hi => ?_⟩
  rw [(hf 13 hP.1).2.1]
  exact q3 i hi
theorem lt_c : ∀ k : Fin 9, vp_nar .byte (iI ((k.val : Int) - 4)).toInt8.toInt32 = iI ((k.val : Int) - 4) ∧ fits .byte (.int (iI ((k.val : Int) - 4))) = true ∧ -(iI ((k.val : Int) - 4)) = iI (4 - (k.val : Int)) := by decide +kernel
theorem lt_a {a : Int} (h : a.natAbs ≤ 4) : vp_nar .byte (iI a).toInt8.toInt32 = iI a ∧ fits .byte (.int (iI a)) = true ∧ -(iI a) = iI (-a) := by
  have h1 := lt_c ⟨(a + 4).toNat, by omega⟩
  have e : (((a + 4).toNat : Nat) : Int) - 4 = a := by omega
  have e2 : 4 - (((a + 4).toNat : Nat) : Int) = -a := by omega
  dsimp only at h1
  rw [e, e2] at h1
  exact h1
def bdP (g : Nat) : Prop := 13 ≤ g ∧ g ≤ 15 ∨ g = 11001
section CBR
variable {vl : Nat → Nat} {y : ow_MS} {x x' : Int32}
theorem ch_13 : ((cX vl).2 13).2.1 = 320 := rfl
theorem ch_14 : ((cX vl).2 14).2.1 = 20 := rfl
theorem ltr_of {v : Int32} {n : Nat} (hn : 2 ≤ n) (hn5 : n ≤ 5) (h0 : ¬ v < 0) (h1 : ¬ nI (n - 1) ≤ v) : ∃ s, s < n - 1 ∧ v = nI s := by
  obtain ⟨s, s31, rfl⟩ := nI_of h0
  refine ⟨s, ?_, rfl⟩
  apply Nat.lt_of_not_le
  exact fun h9 => h1 (nI_le h9 s31)
theorem u_X9_readBraid_1 {vl : Nat → Nat} {x1 : Int32} {x3 : Int32} {x4 : Int32} {x5 : Int32} {x6 : Int32} {r0 : Nat} {r2 : Nat} {z : ow_MS} {Q : (Int32 × ow_MS) → Prop} (H : Tt (fun K k => cm_X9_readBraid_1 vl K (c_X9_readBraid vl K k) x1 x3 x4 x5 x6 r0 r2 z) Q) : Tt (fun K k => c_X9_readBraid vl K k 1 x1 x3 x4 x5 x6 r0 r2 z) Q := w_un (fun _ _ => rfl) H
theorem u_X9_readBraid_3 {vl : Nat → Nat} {x1 : Int32} {x3 : Int32} {x4 : Int32} {x5 : Int32} {x6 : Int32} {r0 : Nat} {r2 : Nat} {z : ow_MS} {Q : (Int32 × ow_MS) → Prop} (H : Tt (fun K k => cm_X9_readBraid_3 vl K (c_X9_readBraid vl K k) x1 x3 x4 x5 x6 r0 r2 z) Q) : Tt (fun K k => c_X9_readBraid vl K k 3 x1 x3 x4 x5 x6 r0 r2 z) Q := w_un (fun _ _ => rfl) H
theorem u_X9_readBraid_2 {vl : Nat → Nat} {x1 : Int32} {x3 : Int32} {x4 : Int32} {x5 : Int32} {x6 : Int32} {r0 : Nat} {r2 : Nat} {z : ow_MS} {Q : (Int32 × ow_MS) → Prop} (H : Tt (fun K k => cm_X9_readBraid_2 vl K (c_X9_readBraid vl K k) x1 x3 x4 x5 x6 r0 r2 z) Q) : Tt (fun K k => c_X9_readBraid vl K k 2 x1 x3 x4 x5 x6 r0 r2 z) Q := w_un (fun _ _ => rfl) H
theorem e_X9_readBraid {vl : Nat → Nat} {r0 : Nat} {x1 : Int32} {r2 : Nat} {x3 : Int32} {z : ow_MS} {Q : (Int32 × ow_MS) → Prop} (H : Tt (fun K k => c_X9_readBraid vl K k 0 x1 x3 0 0 0 r0 r2 z) Q) : Te (fun K => ce_X9_readBraid vl K r0 x1 r2 x3 z) Q := w_te H
theorem u_X9_readBraid_0 {vl : Nat → Nat} {x1 : Int32} {x3 : Int32} {x4 : Int32} {x5 : Int32} {x6 : Int32} {r0 : Nat} {r2 : Nat} {z : ow_MS} {Q : (Int32 × ow_MS) → Prop} (H : Tt (fun K k => cm_X9_readBraid_0 vl K (c_X9_readBraid vl K k) x1 x3 x4 x5 x6 r0 r2 z) Q) : Tt (fun K k => c_X9_readBraid vl K k 0 x1 x3 x4 x5 x6 r0 r2 z) Q := w_un (fun _ _ => rfl) H
/-- a braid gets a place -/
theorem brC_put {z1 : ow_MS} {d n l : Nat} (hd : d < 20) (h : brC y) (hk : ∀ k, k < 16 * d ∨ 16 * d + 16 ≤ k → z1.2.1 13 k = y.2.1 13 k) (hk4 : ∀ k, k ≠ d → z1.2.1 14 k = y.2.1 14 k) (hk5 : ∀ k, k ≠ d → z1.2.1 15 k = y.2.1 15 k) (h5 : n ≤ 5 ∧ n ≠ 1) (e5 : z1.2.1 15 d = nI n) (h0 : 0 < n → l ≤ 16 ∧ z1.2.1 14 d = nI l ∧ wdB z1 d n l) : brC z1 := by
  intro b hb
  by_cases e : b = d
  · rw [e]
    exact ⟨n, l, h5.1, h5.2, e5, h0⟩
  · obtain ⟨n', l', q1, q2, q3, q4⟩ := h b hb
    refine ⟨n', l', q1, q2, by rw [hk5 b e]; exact q3, fun hn' => ?_⟩
    obtain ⟨r1, r2, r3⟩ := q4 hn'
    refine ⟨r1, by rw [hk4 b e]; exact r2, fun i hi => ?_⟩
    rw [hk (16 * b + i) (by omega)]
    exact r3 i hi
theorem e_X11_braid {vl : Nat → Nat} {r0 : Nat} {x1 : Int32} {z : ow_MS} {Q : (Nat × Int32 × ow_MS) → Prop} (H : Tt (fun K _ => cm_X11_braid_0 vl K x1 r0 z) Q) : Te (fun K => ce_X11_braid vl K r0 x1 z) Q := w_te0 H
end CBR
end
section
/-! 99zzzzzzd.cprod -/
/-! the class: product, inverse -/
section CPI
variable {vl : Nat → Nat} {y : ow_MS} {x x' : Int32}
theorem m16 {d : Nat} : nI d * 16 = nI (16 * d) := by
  rw [show (16 : Int32) = nI 16 from rfl, pk_mul, Nat.mul_comm]
/-- a braid's place -/
theorem isB_w (hB : brC y) (h : isB y x) : ∃ b n l, b < 20 ∧ x = nI b ∧ 2 ≤ n ∧ n ≤ 5 ∧ y.2.1 15 b = nI n ∧ l ≤ 16 ∧ y.2.1 14 b = nI l ∧ wdB y b n l := by
  obtain ⟨b, n, h1, h2, h3, h4, h5⟩ := h
  obtain ⟨n', l, q1, q2, q3, q4⟩ := hB b h1
  have e : n = n' := nI_inj9 (by omega) (by omega) (h3.symm.trans q3)
  rw [← e] at q2 q4
  obtain ⟨r1, r2, r3⟩ := q4 (by omega)
  exact ⟨b, n, l, h1, h2, by omega, h5, h3, r1, r2, r3⟩
theorem e_X11_inverse {vl : Nat → Nat} {r0 : Nat} {x1 : Int32} {z : ow_MS} {Q : (Nat × Int32 × ow_MS) → Prop} (H : Tt (fun K k => c_X11_inverse vl K k 0 x1 0 0 0 r0 z) Q) : Te (fun K => ce_X11_inverse vl K r0 x1 z) Q := w_te H
theorem u_X11_inverse_0 {vl : Nat → Nat} {x1 : Int32} {x2 : Int32} {x3 : Int32} {x4 : Int32} {r0 : Nat} {z : ow_MS} {Q : (Nat × Int32 × ow_MS) → Prop} (H : Tt (fun K k => cm_X11_inverse_0 vl K (c_X11_inverse vl K k) x1 x2 x3 x4 r0 z) Q) : Tt (fun K k => c_X11_inverse vl K k 0 x1 x2 x3 x4 r0 z) Q := w_un (fun _ _ => rfl) H
theorem u_X11_inverse_1 {vl : Nat → Nat} {x1 : Int32} {x2 : Int32} {x3 : Int32} {x4 : Int32} {r0 : Nat} {z : ow_MS} {Q : (Nat × Int32 × ow_MS) → Prop} (H : Tt (fun K k => cm_X11_inverse_1 vl K (c_X11_inverse vl K k) x1 x2 x3 x4 r0 z) Q) : Tt (fun K k => c_X11_inverse vl K k 1 x1 x2 x3 x4 r0 z) Q := w_un (fun _ _ => rfl) H
theorem e_X11_product {vl : Nat → Nat} {r0 : Nat} {x1 : Int32} {x2 : Int32} {z : ow_MS} {Q : (Nat × Int32 × ow_MS) → Prop} (H : Tt (fun K _ => cm_X11_product_0 vl K x1 x2 r0 z) Q) : Te (fun K => ce_X11_product vl K r0 x1 x2 z) Q := w_te0 H
end CPI
end
section
/-! 99zzzzzze.cclo -/
/-! strands linked, then closed -/
def uO (f : Nat → Option Nat) (k : Nat) (o : Option Nat) : Nat → Option Nat := fun j => if j = k then o else f j
theorem uO_at {f : Nat → Option Nat} {k : Nat} {o : Option Nat} : uO f k o k = o := if_pos rfl
theorem uO_ne {f : Nat → Option Nat} {k j : Nat} {o : Option Nat} (h : j ≠ k) : uO f k o j = f j := if_neg h
/-- open strands: La their last visits, Fi the first ones -/
def oX (D E : Nat → Prop) (s : Nat) (S : ow_NP) (La Fi : Nat → Option Nat) : Prop := (∀ k v, k < s → La k = some v → D v) ∧ (∀ k v, k < s → Fi k = some v → D v) ∧ (∀ k k' v, k < s → k' < s → La k = some v → La k' = some v → k = k') ∧ (∀ k k' v, k < s → k' < s → Fi k = some v → Fi k' = some v → k = k') ∧ (∀ v, D v → (∀ k, k < s → La k ≠ some v) → D (S.1 v) ∧ (v / 2 < S.1 v / 2 ∨ E v) ∧ S.2 (S.1 v) = v ∧ ∀ k, k < s → Fi k ≠ some (S.1 v)) ∧ ∀ v, D v → (∀ k, k < s → Fi k ≠ some v) → D (S.2 v) ∧ S.1 (S.2 v) = v ∧ ∀ k, k < s → La k ≠ some (S.2 v)
section COX
variable {D E : Nat → Prop} {s : Nat} {S : ow_NP} {La Fi : Nat → Option Nat}
theorem oX_new {k v : Nat} (h : oX D E s S La Fi) (hk : k < s) (hv : ¬ D v) (e1 : La k = none) (e2 : Fi k = none) : oX (fun u => D u ∨ u = v) E s S (uO La k (some v)) (uO Fi k (some v)) := by
  obtain ⟨h1, h2, h3, h4, h5, h6⟩ := h
  have old : ∀ {f : Nat → Option Nat} {j w : Nat}, uO f k (some v) j = some w → j = k ∧ w = v ∨ j ≠ k ∧ f j = some w := by
    intro f j w e
    by_cases ej : j = k
    · rw [ej, uO_at] at e
      cases e
      exact Or.inl ⟨ej, rfl⟩
    · rw [uO_ne ej] at e
      exact Or.inr ⟨ej, e⟩
  refine ⟨fun j w hj e => ?_, fun j w hj e => ?_, fun j j' w hj hj' e e' => ?_, fun j j' w hj hj' e e' => ?_, fun w hw hn => ?_, fun w hw hn => ?_⟩
  · rcases old e with ⟨_, q⟩ | ⟨_, q⟩
    · exact Or.inr q
    · exact Or.inl (h1 j w hj q)
  · rcases old e with ⟨_, q⟩ | ⟨_, q⟩
    · exact Or.inr q
    · exact Or.inl (h2 j w hj q)
  · rcases old e with ⟨a, q⟩ | ⟨a, q⟩ <;> rcases old e' with ⟨a', q'⟩ | ⟨a', q'⟩
    · rw [a, a']
    · exact absurd (h1 j' w hj' q') (by rw [q]; exact hv)
    · exact absurd (h1 j w hj q) (by rw [q']; exact hv)
    · exact h3 j j' w hj hj' q q'
  · rcases old e with ⟨a, q⟩ | ⟨a, q⟩ <;> rcases old e' with ⟨a', q'⟩ | ⟨a', q'⟩
    · rw [a, a']
    · exact absurd (h2 j' w hj' q') (by rw [q]; exact hv)
    · exact absurd (h2 j w hj q) (by rw [q']; exact hv)
    · exact h4 j j' w hj hj' q q'
  · have hne : w ≠ v := fun e => hn k hk (by rw [uO_at, e])
    have hD : D w := hw.resolve_right hne
    obtain ⟨q1, q2, q3, q4⟩ := h5 w hD (fun j hj e => by
      by_cases ej : j = k
      · rw [ej, e1] at e
        cases e
      · exact hn j hj (by rw [uO_ne ej]; exact e))
    refine ⟨Or.inl q1, q2, q3, fun j hj e => ?_⟩
    rcases old e with ⟨_, q⟩ | ⟨_, q⟩
    · rw [q] at q1
      exact hv q1
    · exact q4 j hj q
  · have hne : w ≠ v := fun e => hn k hk (by rw [uO_at, e])
    have hD : D w := hw.resolve_right hne
    obtain ⟨q1, q2, q3⟩ := h6 w hD (fun j hj e => by
      by_cases ej : j = k
      · rw [ej, e2] at e
        cases e
      · exact hn j hj (by rw [uO_ne ej]; exact e))
    refine ⟨Or.inl q1, q2, fun j hj e => ?_⟩
    rcases old e with ⟨_, q⟩ | ⟨_, q⟩
    · rw [q] at q1
      exact hv q1
    · exact q3 j hj q
theorem oX_ext {k u v : Nat} (h : oX D E s S La Fi) (hk : k < s) (hv : ¬ D v) (e1 : La k = some u) (huv : u / 2 < v / 2) : oX (fun w => D w ∨ w = v) E s (nl S u v) (uO La k (some v)) Fi := by
  obtain ⟨h1, h2, h3, h4, h5, h6⟩ := h
  have hDu := h1 k u hk e1
  have n1 : ∀ w, w ≠ u → (nl S u v).1 w = S.1 w := fun w hw => if_neg hw
  have n2 : ∀ w, w ≠ v → (nl S u v).2 w = S.2 w := fun w hw => if_neg hw
  have n3 : (nl S u v).1 u = v := if_pos rfl
  have n4 : (nl S u v).2 v = u := if_pos rfl
  have old : ∀ {j w : Nat}, uO La k (some v) j = some w → j = k ∧ w = v ∨ j ≠ k ∧ La j = some w := by
    intro j w e
    by_cases ej : j = k
    · rw [ej, uO_at] at e
      cases e
      exact Or.inl ⟨ej, rfl⟩
    · rw [uO_ne ej] at e
      exact Or.inr ⟨ej, e⟩
  have hne' : ∀ w, D w → w ≠ v := fun w hw e => hv (by rw [← e]; exact hw)
  refine ⟨fun j w hj e => ?_, fun j w hj e => Or.inl (h2 j w hj e), fun j j' w hj hj' e e' => ?_, h4, fun w hw hn => ?_, fun w hw hn => ?_⟩
  · rcases old e with ⟨_, q⟩ | ⟨_, q⟩
    · exact Or.inr q
    · exact Or.inl (h1 j w hj q)
  · rcases old e with ⟨a, q⟩ | ⟨a, q⟩ <;> rcases old e' with ⟨a', q'⟩ | ⟨a', q'⟩
    · rw [a, a']
    · exact absurd (h1 j' w hj' q') (by rw [q]; exact hv)
    · exact absurd (h1 j w hj q) (by rw [q']; exact hv)
    · exact h3 j j' w hj hj' q q'
  · have hne : w ≠ v := fun e => hn k hk (by rw [uO_at, e])
    have hD : D w := hw.resolve_right hne
    by_cases ew : w = u
    · rw [ew, n3, n4]
      exact ⟨Or.inr rfl, Or.inl huv, rfl, fun j hj e => hv (h2 j v hj e)⟩
    · obtain ⟨q1, q2, q3, q4⟩ := h5 w hD (fun j hj e => by
        by_cases ej : j = k
        · rw [ej, e1] at e
          cases e
          exact ew rfl
        · exact hn j hj (by rw [uO_ne ej]; exact e))
      rw [n1 w ew, n2 _ (hne' _ q1)]
      exact ⟨Or.inl q1, q2, q3, q4⟩
  · by_cases ew : w = v
    · rw [ew, n4, n3]
      refine ⟨Or.inl hDu, rfl, fun j hj e => ?_⟩
      rcases old e with ⟨_, q⟩ | ⟨a, q⟩
      · rw [q] at hDu
        exact hv hDu
      · exact a (h3 j k u hj hk q e1)
    · have hD : D w := hw.resolve_right ew
      obtain ⟨q1, q2, q3⟩ := h6 w hD hn
      have hwu : S.2 w ≠ u := fun e => q3 k hk (by rw [e1, e])
      rw [n2 w ew, n1 _ hwu]
      refine ⟨Or.inl q1, q2, fun j hj e => ?_⟩
      rcases old e with ⟨_, q⟩ | ⟨_, q⟩
      · rw [q] at q1
        exact hv q1
      · exact q3 j hj q
/-- places may change with one another -/
theorem oX_swap {j : Nat} {a b : Option Nat} (h : oX D E s S La Fi) (hj : j + 1 < s) (e1 : La j = b) (e2 : La (j + 1) = a) : oX D E s S (uO (uO La j a) (j + 1) b) Fi := by
  obtain ⟨h1, h2, h3, h4, h5, h6⟩ := h
  let σ : Nat → Nat := fun k => if k = j then j + 1 else if k = j + 1 then j else k
  have hσ : ∀ k, uO (uO La j a) (j + 1) b k = La (σ k) := by
    intro k
    show (if k = j + 1 then b else if k = j then a else La k) = La (if k = j then j + 1 else if k = j + 1 then j else k)
    by_cases q1 : k = j
    · rw [if_neg (by omega), if_pos q1, if_pos q1, e2]
    · rw [if_neg q1, if_neg q1]
      by_cases q2 : k = j + 1
      · rw [if_pos q2, if_pos q2, e1]
      · rw [if_neg q2, if_neg q2]
  have hlt : ∀ k, k < s → σ k < s := by
    intro k hk
    show (if k = j then j + 1 else if k = j + 1 then j else k) < s
    split
    · exact hj
    · split <;> omega
  have hσσ : ∀ k, σ (σ k) = k := by
    intro k
    show (if (if k = j then j + 1 else if k = j + 1 then j else k) = j then j + 1 else if (if k = j then j + 1 else if k = j + 1 then j else k) = j + 1 then j else (if k = j then j + 1 else if k = j + 1 then j else k)) = k
    by_cases q1 : k = j
    · rw [if_pos q1, if_neg (by omega), if_pos rfl, q1]
    · rw [if_neg q1]
      by_cases q2 : k = j + 1
      · rw [if_pos q2, if_pos rfl, q2]
      · rw [if_neg q2, if_neg q1, if_neg q2]
  refine ⟨fun k v hk e => h1 _ v (hlt k hk) (by rw [← hσ]; exact e), h2, fun k k' v hk hk' e e' => ?_, h4, fun v hv hn => h5 v hv (fun k hk e => ?_), fun v hv hn => ?_⟩
  · have := h3 _ _ v (hlt k hk) (hlt k' hk') (by rw [← hσ]; exact e) (by rw [← hσ]; exact e')
    rw [← hσσ k, this, hσσ]
  · exact hn (σ k) (hlt k hk) (by rw [hσ, hσσ]; exact e)
  · obtain ⟨q1, q2, q3⟩ := h6 v hv hn
    exact ⟨q1, q2, fun k hk e => q3 (σ k) (hlt k hk) (by rw [← hσ]; exact e)⟩
/-- a strand closed -/
theorem oX_close {k u w : Nat} (h : oX D E s S La Fi) (hk : k < s) (e1 : La k = some u) (e2 : Fi k = some w) (hE : E u) : oX D E s (nl S u w) (uO La k none) (uO Fi k none) := by
  obtain ⟨h1, h2, h3, h4, h5, h6⟩ := h
  have hDu := h1 k u hk e1
  have hDw := h2 k w hk e2
  have n1 : ∀ v, v ≠ u → (nl S u w).1 v = S.1 v := fun v hv => if_neg hv
  have n2 : ∀ v, v ≠ w → (nl S u w).2 v = S.2 v := fun v hv => if_neg hv
  have n3 : (nl S u w).1 u = w := if_pos rfl
  have n4 : (nl S u w).2 w = u := if_pos rfl
  have old : ∀ {f : Nat → Option Nat} {j v : Nat}, uO f k none j = some v → j ≠ k ∧ f j = some v := by
    intro f j v e
    by_cases ej : j = k
    · rw [ej, uO_at] at e
      cases e
    · rw [uO_ne ej] at e
      exact ⟨ej, e⟩
  refine ⟨fun j v hj e => h1 j v hj (old e).2, fun j v hj e => h2 j v hj (old e).2, fun j j' v hj hj' e e' => h3 j j' v hj hj' (old e).2 (old e').2, fun j j' v hj hj' e e' => h4 j j' v hj hj' (old e).2 (old e').2, fun v hv hn => ?_, fun v hv hn => ?_⟩
  · by_cases ev : v = u
    · rw [ev, n3, n4]
      refine ⟨hDw, Or.inr hE, rfl, fun j hj e => ?_⟩
      exact (old e).1 (h4 j k w hj hk (old e).2 e2)
    · obtain ⟨q1, q2, q3, q4⟩ := h5 v hv (fun j hj e => by
        by_cases ej : j = k
        · rw [ej, e1] at e
          cases e
          exact ev rfl
        · exact hn j hj (by rw [uO_ne ej]; exact e))
      have hw : S.1 v ≠ w := fun e => q4 k hk (by rw [e2, e])
      rw [n1 v ev, n2 _ hw]
      exact ⟨q1, q2, q3, fun j hj e => q4 j hj (old e).2⟩
  · by_cases ev : v = w
    · rw [ev, n4, n3]
      refine ⟨hDu, rfl, fun j hj e => ?_⟩
      exact (old e).1 (h3 j k u hj hk (old e).2 e1)
    · obtain ⟨q1, q2, q3⟩ := h6 v hv (fun j hj e => by
        by_cases ej : j = k
        · rw [ej, e2] at e
          cases e
          exact ev rfl
        · exact hn j hj (by rw [uO_ne ej]; exact e))
      have hu : S.2 v ≠ u := fun e => q3 k hk (by rw [e1, e])
      rw [n2 v ev, n1 _ hu]
      exact ⟨q1, q2, fun j hj e => q3 j hj (old e).2⟩
end COX
/-- all strands closed: a valid net, with no more rings than strands that were met -/
theorem oX_vn {c s : Nat} {S : ow_NP} {La0 La Fi : Nat → Option Nat} (hc : c ≤ 12) (h : oX (fun v => v < 2 * c) (fun v => ∃ k, k < s ∧ La0 k = some v) s S La Fi) (e1 : ∀ k, k < s → La k = none) (e2 : ∀ k, k < s → Fi k = none) : vn c S ∧ np_rg c S ≤ cntB (fun k => (La0 k).isSome) s := by
  obtain ⟨h1, h2, h3, h4, h5, h6⟩ := h
  have a1 : ∀ v, v < 2 * c → S.1 v < 2 * c ∧ (v / 2 < S.1 v / 2 ∨ ∃ k, k < s ∧ La0 k = some v) ∧ S.2 (S.1 v) = v := fun v hv => by
    obtain ⟨q1, q2, q3, -⟩ := h5 v hv (fun k hk e => by rw [e1 k hk] at e; cases e)
    exact ⟨q1, q2, q3⟩
  have a2 : ∀ v, v < 2 * c → S.2 v < 2 * c ∧ S.1 (S.2 v) = v := fun v hv => by
    obtain ⟨q1, q2, -⟩ := h6 v hv (fun k hk e => by rw [e2 k hk] at e; cases e)
    exact ⟨q1, q2⟩
  have hv : vn c S := fun v hv => ⟨(a1 v hv).1, (a2 v hv).1, (a1 v hv).2.2, (a2 v hv).2⟩
  refine ⟨hv, ?_⟩
  have hex : ∀ w, w < 2 * c → ∃ k i, k < s ∧ La0 k = some (it S.1 i w) := by
    intro w hw
    apply Classical.byContradiction
    intro hn
    have grow : ∀ i, i ≤ (it S.1 i w) / 2 := by
      intro i
      induction i with
      | zero => exact Nat.zero_le _
      | succ i ih =>
        rcases (a1 _ (it_lt hv hw i)).2.1 with q | ⟨k, k1, k2⟩
        · show i + 1 ≤ S.1 (it S.1 i w) / 2
          omega
        · exact absurd ⟨k, i, k1, k2⟩ hn
    have h9 := grow (c + 1)
    have h8 := it_lt hv hw (c + 1)
    omega
  have hx : ∀ w, ∃ k, w < 2 * c → k < s ∧ ∃ i, La0 k = some (it S.1 i w) := by
    intro w
    by_cases hw : w < 2 * c
    · obtain ⟨k, i, k1, k2⟩ := hex w hw
      exact ⟨k, fun _ => ⟨k1, i, k2⟩⟩
    · exact ⟨0, fun h9 => absurd h9 hw⟩
  let f : Nat → Nat := fun w => Classical.choose (hx w)
  have hf : ∀ w, w < 2 * c → f w < s ∧ ∃ i, La0 (f w) = some (it S.1 i w) := fun w hw => Classical.choose_spec (hx w) hw
  refine cntB_inj (2 * c) (fun k => lst S.1 k 24) (fun k => (La0 k).isSome) f (fun w hw _ => ⟨(hf w hw).1, ?_⟩) (fun w w' hw hw' l1 l2 e => ?_)
  · obtain ⟨i, hi⟩ := (hf w hw).2
    rw [hi]
    rfl
  · obtain ⟨i, hi⟩ := (hf w hw).2
    obtain ⟨j, hj⟩ := (hf w' hw').2
    rw [← e, hi] at hj
    have hij : it S.1 i w = it S.1 j w' := Option.some.inj hj
    have le : ∀ {a b i j : Nat}, a < 2 * c → b < 2 * c → lst S.1 a 24 = true → it S.1 i a = it S.1 j b → a ≤ b := by
      intro a b i j ha hb la e9
      obtain ⟨m, m1, m2⟩ := ring_ex hv hb
      obtain ⟨j', j1, j2⟩ := it_mod m2 j
      have : it S.1 (m - j' + i) a = b := by
        rw [it_add, e9, j2, ← it_add, show m - j' + j' = m by omega]
        exact m2.2.1
      have h9 := (lst_all hv hc ha).mp la (m - j' + i)
      rw [this] at h9
      exact h9
    exact Nat.le_antisymm (le hw hw' l1 hij) (le hw' hw l2 hij.symm)
end
section
/-! 99zzzzzzf.cclo2 -/
/-! the class: Net.close; closure -/
def exS (S : ow_NP) (o : Option Nat) (v : Nat) : ow_NP := match o with
  | none => S
  | some u => nl S u v
def exF (Fi : Nat → Option Nat) (k : Nat) (o : Option Nat) (v : Nat) : Nat → Option Nat := match o with
  | none => uO Fi k (some v)
  | some _ => Fi
theorem oX_D {D D' E E' : Nat → Prop} {s : Nat} {S : ow_NP} {La Fi : Nat → Option Nat} (hD : ∀ v, D v ↔ D' v) (hE : ∀ v, E v → E' v) (h : oX D E s S La Fi) : oX D' E' s S La Fi := by
  obtain ⟨h1, h2, h3, h4, h5, h6⟩ := h
  refine ⟨fun k v hk e => (hD v).mp (h1 k v hk e), fun k v hk e => (hD v).mp (h2 k v hk e), h3, h4, fun v hv hn => ?_, fun v hv hn => ?_⟩
  · obtain ⟨q1, q2, q3, q4⟩ := h5 v ((hD v).mpr hv) hn
    exact ⟨(hD _).mp q1, q2.imp id (hE v), q3, q4⟩
  · obtain ⟨q1, q2, q3⟩ := h6 v ((hD v).mpr hv) hn
    exact ⟨(hD _).mp q1, q2, q3⟩
theorem oX_step {D E : Nat → Prop} {s k v : Nat} {S : ow_NP} {La Fi : Nat → Option Nat} (h : oX D E s S La Fi) (hn : ∀ j, j < s → (La j = none ↔ Fi j = none)) (hk : k < s) (hv : ¬ D v) (hu : ∀ u, La k = some u → u / 2 < v / 2) : oX (fun w => D w ∨ w = v) E s (exS S (La k) v) (uO La k (some v)) (exF Fi k (La k) v) ∧ ∀ j, j < s → (uO La k (some v) j = none ↔ exF Fi k (La k) v j = none) := by
  cases e : La k with
  | none =>
    refine ⟨oX_new h hk hv e ((hn k hk).mp e), fun j hj => ?_⟩
    show uO La k (some v) j = none ↔ uO Fi k (some v) j = none
    by_cases ej : j = k
    · rw [ej, uO_at, uO_at]
    · rw [uO_ne ej, uO_ne ej]
      exact hn j hj
  | some u =>
    refine ⟨oX_ext h hk hv e (hu u e), fun j hj => ?_⟩
    show uO La k (some v) j = none ↔ Fi j = none
    by_cases ej : j = k
    · rw [ej, uO_at, ← hn k hk, e]
      exact ⟨fun h9 => (by cases h9), fun h9 => (by cases h9)⟩
    · rw [uO_ne ej]
      exact hn j hj
theorem lt_d : ∀ k : Fin 9, (if (0 : Int32) ≤ iI ((k.val : Int) - 4) then iI ((k.val : Int) - 4) else 0 - iI ((k.val : Int) - 4)) - 1 = iI ((((k.val : Int) - 4).natAbs : Int) - 1) ∧ (iI ((k.val : Int) - 4) ≤ 0 ↔ k.val ≤ 4) := by decide +kernel
theorem lt_b {a : Int} (h : a.natAbs ≤ 4) (h1 : 1 ≤ a.natAbs) : (if (0 : Int32) ≤ iI a then iI a else 0 - iI a) - 1 = nI (a.natAbs - 1) ∧ (iI a ≤ 0 ↔ a < 0) := by
  have h2 := lt_d ⟨(a + 4).toNat, by omega⟩
  have e : (((a + 4).toNat : Nat) : Int) - 4 = a := by omega
  dsimp only at h2
  rw [e] at h2
  refine ⟨?_, ?_⟩
  · rw [h2.1, nI_iI]
    congr 1
    omega
  · rw [h2.2]
    omega
def clR (g : Nat) : Prop := cP 4000 g ∨ g = 4004 ∨ g = 4007
section CCL
variable {vl : Nat → Nat} {y : ow_MS}
theorem e_X7_extend {vl : Nat → Nat} {r0 : Nat} {r1 : Nat} {r2 : Nat} {x3 : Int32} {x4 : Int32} {z : ow_MS} {Q : ow_MS → Prop} (H : Tt (fun K _ => cm_X7_extend_0 vl K x3 x4 r0 r1 r2 z) Q) : Te (fun K => ce_X7_extend vl K r0 r1 r2 x3 x4 z) Q := w_te0 H
theorem tc_extend {k v : Nat} {T : ow_NT} {La Fi : Nat → Option Nat} {s : Nat} (hy : cAt y 4000 T) (hk : k < s) (hs : s ≤ 5) (hv : v < 24) (h7 : ∀ j, j < s → y.2.1 4007 j = oNI (La j)) (h4 : ∀ j, j < s → y.2.1 4004 j = oNI (Fi j)) (hu : ∀ u, La k = some u → u < 24) : Te (fun K => ce_X7_extend vl K 4000 4004 4007 (nI k) (nI v) y) (fun y1 => cAt y1 4000 (ntS T (exS T.2.2.1 (La k) v)) ∧ (∀ j, j < s → y1.2.1 4004 j = oNI (exF Fi k (La k) v j)) ∧ fr (fun g => cP 4000 g ∨ g = 4004) y y1) := by
  refine e_X7_extend ?_; unfold cm_X7_extend_0
  cases e : La k with
  | none =>
    have e7 : y.2.1 4007 k = -1 := by
      rw [h7 k hk, e]
      rfl
    refine w_crI (nH_7 nH4) rfl (show k < 24 by omega) e7 (w_ifT rfl (w_ctI (nH_4 nH4) rfl (show k < 24 by omega) (w_some ⟨?_, fun j hj => ?_, fr_I (Or.inr rfl)⟩)))
    · exact cAt_fr (P := fun g => g = 4004) (fr_I rfl) (fun g hg h9 => by unfold cP at hg; omega) hy
    · show (usI y 4004 k (nI v)).2.1 4004 j = oNI (uO Fi k (some v) j)
      by_cases ej : j = k
      · rw [ej, uO_at]
        exact po_usI_at
      · rw [uO_ne ej]
        exact rd_ne ej (h4 j hj)
  | some u =>
    have hu24 := hu u e
    have e7 : y.2.1 4007 k = nI u := by
      rw [h7 k hk, e]
      rfl
    refine w_crI (nH_7 nH4) rfl (show k < 24 by omega) e7 (w_ifF (nI_nm1 (by omega)) (w_crI (nH_7 nH4) rfl (show k < 24 by omega) e7 (w_cs0 (tc_link nH4 hy hu24 hv) ?_)))
    rintro y1 ⟨g1, g2⟩
    refine w_some ⟨g1, fun j hj => ?_, fr_mono (fun g hg => Or.inl hg) g2⟩
    rw [(g2 4004 (by unfold cP; omega)).2.1]
    exact h4 j hj
theorem u_X7_close_5 {vl : Nat → Nat} {x2 : Int32} {x3 : Int32} {x4 : Int32} {x7 : Int32} {x8 : Int32} {x9 : Int32} {x10 : Int32} {x11 : Int32} {r0 : Nat} {r1 : Nat} {r5 : Nat} {r6 : Nat} {t0 : Int32} {t1 : Int32} {z : ow_MS} {Q : ow_MS → Prop} (H : Tt (fun K k => cm_X7_close_5 vl K (c_X7_close vl K k) x2 x3 x4 x7 x8 x9 x10 x11 r0 r1 r5 r6 t0 t1 z) Q) : Tt (fun K k => c_X7_close vl K k 5 x2 x3 x4 x7 x8 x9 x10 x11 r0 r1 r5 r6 t0 t1 z) Q := w_un (fun _ _ => rfl) H
theorem u_X7_close_6 {vl : Nat → Nat} {x2 : Int32} {x3 : Int32} {x4 : Int32} {x7 : Int32} {x8 : Int32} {x9 : Int32} {x10 : Int32} {x11 : Int32} {r0 : Nat} {r1 : Nat} {r5 : Nat} {r6 : Nat} {t0 : Int32} {t1 : Int32} {z : ow_MS} {Q : ow_MS → Prop} (H : Tt (fun K k => cm_X7_close_6 vl K (c_X7_close vl K k) x2 x3 x4 x7 x8 x9 x10 x11 r0 r1 r5 r6 t0 t1 z) Q) : Tt (fun K k => c_X7_close vl K k 6 x2 x3 x4 x7 x8 x9 x10 x11 r0 r1 r5 r6 t0 t1 z) Q := w_un (fun _ _ => rfl) H
theorem u_X7_close_1 {vl : Nat → Nat} {x2 : Int32} {x3 : Int32} {x4 : Int32} {x7 : Int32} {x8 : Int32} {x9 : Int32} {x10 : Int32} {x11 : Int32} {r0 : Nat} {r1 : Nat} {r5 : Nat} {r6 : Nat} {t0 : Int32} {t1 : Int32} {z : ow_MS} {Q : ow_MS → Prop} (H : Tt (fun K k => cm_X7_close_1 vl K (c_X7_close vl K k) x2 x3 x4 x7 x8 x9 x10 x11 r0 r1 r5 r6 t0 t1 z) Q) : Tt (fun K k => c_X7_close vl K k 1 x2 x3 x4 x7 x8 x9 x10 x11 r0 r1 r5 r6 t0 t1 z) Q := w_un (fun _ _ => rfl) H
theorem u_X7_close_4 {vl : Nat → Nat} {x2 : Int32} {x3 : Int32} {x4 : Int32} {x7 : Int32} {x8 : Int32} {x9 : Int32} {x10 : Int32} {x11 : Int32} {r0 : Nat} {r1 : Nat} {r5 : Nat} {r6 : Nat} {t0 : Int32} {t1 : Int32} {z : ow_MS} {Q : ow_MS → Prop} (H : Tt (fun K k => cm_X7_close_4 vl K (c_X7_close vl K k) x2 x3 x4 x7 x8 x9 x10 x11 r0 r1 r5 r6 t0 t1 z) Q) : Tt (fun K k => c_X7_close vl K k 4 x2 x3 x4 x7 x8 x9 x10 x11 r0 r1 r5 r6 t0 t1 z) Q := w_un (fun _ _ => rfl) H
theorem u_X7_close_3 {vl : Nat → Nat} {x2 : Int32} {x3 : Int32} {x4 : Int32} {x7 : Int32} {x8 : Int32} {x9 : Int32} {x10 : Int32} {x11 : Int32} {r0 : Nat} {r1 : Nat} {r5 : Nat} {r6 : Nat} {t0 : Int32} {t1 : Int32} {z : ow_MS} {Q : ow_MS → Prop} (H : Tt (fun K k => cm_X7_close_3 vl K (c_X7_close vl K k) x2 x3 x4 x7 x8 x9 x10 x11 r0 r1 r5 r6 t0 t1 z) Q) : Tt (fun K k => c_X7_close vl K k 3 x2 x3 x4 x7 x8 x9 x10 x11 r0 r1 r5 r6 t0 t1 z) Q := w_un (fun _ _ => rfl) H
theorem u_X7_close_2 {vl : Nat → Nat} {x2 : Int32} {x3 : Int32} {x4 : Int32} {x7 : Int32} {x8 : Int32} {x9 : Int32} {x10 : Int32} {x11 : Int32} {r0 : Nat} {r1 : Nat} {r5 : Nat} {r6 : Nat} {t0 : Int32} {t1 : Int32} {z : ow_MS} {Q : ow_MS → Prop} (H : Tt (fun K k => cm_X7_close_2 vl K (c_X7_close vl K k) x2 x3 x4 x7 x8 x9 x10 x11 r0 r1 r5 r6 t0 t1 z) Q) : Tt (fun K k => c_X7_close vl K k 2 x2 x3 x4 x7 x8 x9 x10 x11 r0 r1 r5 r6 t0 t1 z) Q := w_un (fun _ _ => rfl) H
theorem e_X7_close {vl : Nat → Nat} {r0 : Nat} {r1 : Nat} {x2 : Int32} {x3 : Int32} {x4 : Int32} {z : ow_MS} {Q : ow_MS → Prop} (H : Tt (fun K k => c_X7_close vl K k 0 x2 x3 x4 0 0 0 0 0 r0 r1 0 0 0 0 z) Q) : Te (fun K => ce_X7_close vl K r0 r1 x2 x3 x4 z) Q := w_te H
theorem u_X7_close_0 {vl : Nat → Nat} {x2 : Int32} {x3 : Int32} {x4 : Int32} {x7 : Int32} {x8 : Int32} {x9 : Int32} {x10 : Int32} {x11 : Int32} {r0 : Nat} {r1 : Nat} {r5 : Nat} {r6 : Nat} {t0 : Int32} {t1 : Int32} {z : ow_MS} {Q : ow_MS → Prop} (H : Tt (fun K k => cm_X7_close_0 vl K (c_X7_close vl K k) x2 x3 x4 x7 x8 x9 x10 x11 r0 r1 r5 r6 t0 t1 z) Q) : Tt (fun K k => c_X7_close vl K k 0 x2 x3 x4 x7 x8 x9 x10 x11 r0 r1 r5 r6 t0 t1 z) Q := w_un (fun _ _ => rfl) H
theorem tc_close {T : ow_NT} {b n l : Nat} (hT : cAt y 4000 T) (hb : ow_b24 T.2.2.1) (hb20 : b < 20) (hn : 2 ≤ n) (hn5 : n ≤ 5) (hl : l ≤ 12) (hw : wdB y b n l) : Te (fun K => ce_X7_close vl K 4000 13 (nI (16 * b)) (nI l) (nI n) y) (fun y1 => (∃ T1, cAt y1 4000 T1 ∧ nv T1) ∧ fr clR y y1) := by
  let Q : ow_MS → Prop := fun y1 => (∃ T1, cAt y1 4000 T1 ∧ nv T1) ∧ fr clR y y1
  have hw2 : ∀ {z : ow_MS}, fr clR y z → wdB z b n l := fun hf i hi => by
    rw [(hf 13 (by unfold clR cP; omega)).2.1]
    exact hw i hi
  -- the strands closed
  have c5 : ∀ (La0 : Nat → Option Nat) (d k : Nat) (z : ow_MS) (S : ow_NP) (G : Nat → Int32) (ci : Nat) (La Fi : Nat → Option Nat), k + d = n → fr clR y z → cAt z 4000 (l, ci, S, G) → ow_b24 S → oX (fun v => v < 2 * l) (fun v => ∃ k, k < n ∧ La0 k = some v) n S La Fi → (∀ j, j < n → (La j = none ↔ Fi j = none)) → (∀ j, j < k → La j = none) → (∀ j, k ≤ j → La j = La0 j) → (∀ j, k ≤ j → j < n → z.2.1 4007 j = oNI (La j)) → (∀ j, k ≤ j → j < n → z.2.1 4004 j = oNI (Fi j)) → ci + cntB (fun k => (La0 k).isSome) k = k → Tt (fun K t => c_X7_close vl K t 5 (nI (16 * b)) (nI l) (nI n) (nI k) 0 0 0 0 4000 13 4004 4007 0 0 z) Q := by
    intro La0 d
    induction d with
    | zero =>
      intro k z S G ci La Fi hk hf h1 h2 h3 h4 h5 h6 h7 h8 h9
      have e : k = n := by omega
      subst e
      obtain ⟨q1, q2⟩ := oX_vn hl h3 h5 (fun j hj => (h4 j hj).mp (h5 j hj))
      refine u_X7_close_5 ?_; unfold cm_X7_close_5
      refine w_leT (by omega) (by omega) (w_some ⟨⟨_, h1, q1, hl, h2, ?_⟩, hf⟩)
      show np_rg l S + ci ≤ 6
      omega
    | succ d ih =>
      intro k z S G ci La Fi hk hf h1 h2 h3 h4 h5 h6 h7 h8 h9
      have hcs : cntB (fun k => (La0 k).isSome) (k + 1) = cntB (fun k => (La0 k).isSome) k + (if (La0 k).isSome = true then 1 else 0) := rfl
      refine u_X7_close_5 ?_; unfold cm_X7_close_5
      refine w_leF (by omega) (by omega) ?_
      cases e : La k with
      | none =>
        have e7 : z.2.1 4007 k = -1 := by
          rw [h7 k (Nat.le_refl _) (by omega), e]
          rfl
        have e0 : La0 k = none := by rw [← h6 k (Nat.le_refl _)]; exact e
        refine w_crI (nH_7 nH4) rfl (show k < 24 by omega) e7 (w_ifT rfl (w_rdF h1.2.1 (w_wrF ?_)))
        refine u_X7_close_6 ?_; unfold cm_X7_close_6
        rw [nI_1 k]
        refine ih (k + 1) _ S G (ci + 1) La Fi (by omega) (fr_F2 hf (by unfold clR cP; omega)) ⟨rf_ot (by omega) h1.1, po_usF_at.trans (nI_1 _), h1.2.2⟩ h2 h3 h4 (fun j hj => ?_) (fun j hj => h6 j (by omega)) (fun j hj => h7 j (by omega)) (fun j hj => h8 j (by omega)) ?_
        · by_cases ej : j = k
          · rw [ej]
            exact e
          · exact h5 j (by omega)
        · rw [hcs, e0]
          show ci + 1 + (_ + 0) = k + 1
          omega
      | some u =>
        have e7 : z.2.1 4007 k = nI u := by
          rw [h7 k (Nat.le_refl _) (by omega), e]
          rfl
        have e0 : La0 k = some u := by rw [← h6 k (Nat.le_refl _)]; exact e
        obtain ⟨w, ew⟩ : ∃ w, Fi k = some w := by
          cases e9 : Fi k with
          | none =>
            have := (h4 k (by omega)).mpr e9
            rw [e] at this
            cases this
          | some w => exact ⟨w, rfl⟩
        have e4 : z.2.1 4004 k = nI w := by
          rw [h8 k (Nat.le_refl _) (by omega), ew]
          rfl
        have hu : u < 2 * l := h3.1 k u (by omega) e
        have hw9 : w < 2 * l := h3.2.1 k w (by omega) ew
        refine w_crI (nH_7 nH4) rfl (show k < 24 by omega) e7 (w_ifF (nI_nm1 (by omega)) (w_crI (nH_7 nH4) rfl (show k < 24 by omega) e7 (w_crI (nH_4 nH4) rfl (show k < 24 by omega) e4 (w_cs0 (tc_link nH4 h1 (show u < 24 by omega) (show w < 24 by omega)) ?_))))
        rintro z1 ⟨g1, g2⟩
        refine u_X7_close_6 ?_; unfold cm_X7_close_6
        rw [nI_1 k]
        refine ih (k + 1) z1 (nl S u w) G ci (uO La k none) (uO Fi k none) (by omega) (fr_tr hf (fr_mono (fun g hg => Or.inl hg) g2)) g1 (nl_b24 h2 (by omega) (by omega)) (oX_close h3 (by omega) e ew ⟨k, by omega, e0⟩) (fun j hj => ?_) (fun j hj => ?_) (fun j hj => ?_) (fun j hj hj2 => ?_) (fun j hj hj2 => ?_) ?_
        · by_cases ej : j = k
          · rw [ej, uO_at, uO_at]
          · rw [uO_ne ej, uO_ne ej]
            exact h4 j hj
        · by_cases ej : j = k
          · rw [ej, uO_at]
          · rw [uO_ne ej]
            exact h5 j (by omega)
        · rw [uO_ne (by omega)]
          exact h6 j (by omega)
        · rw [uO_ne (by omega), (g2 4007 (by unfold cP; omega)).2.1]
          exact h7 j (by omega) hj2
        · rw [uO_ne (by omega), (g2 4004 (by unfold cP; omega)).2.1]
          exact h8 j (by omega) hj2
        · rw [hcs, e0]
          show ci + (_ + 1) = k + 1
          omega
  -- letter after letter
  have c1 : ∀ (d i : Nat) (z : ow_MS) (S : ow_NP) (G : Nat → Int32) (La Fi : Nat → Option Nat), i + d = l → fr clR y z → cAt z 4000 (i, 0, S, G) → ow_b24 S → oX (fun v => v < 2 * i) (fun _ => False) n S La Fi → (∀ j, j < n → (La j = none ↔ Fi j = none)) → (∀ j, j < n → z.2.1 4007 j = oNI (La j)) → (∀ j, j < n → z.2.1 4004 j = oNI (Fi j)) → Tt (fun K t => c_X7_close vl K t 1 (nI (16 * b)) (nI l) (nI n) (nI i) 0 0 0 0 4000 13 4004 4007 0 0 z) Q := by
    intro d
    induction d with
    | zero =>
      intro i z S G La Fi hi hf h1 h2 h3 h4 h5 h6
      have e : i = l := by omega
      subst e
      refine u_X7_close_1 ?_; unfold cm_X7_close_1
      refine w_leT (by omega) (by omega) ?_
      refine u_X7_close_4 ?_; unfold cm_X7_close_4
      exact c5 La n 0 z S G 0 La Fi (by omega) hf h1 h2 (oX_D (fun _ => Iff.rfl) (fun _ h => h.elim) h3) h4 (fun j hj => absurd hj (Nat.not_lt_zero _)) (fun _ _ => rfl) (fun j _ hj => h5 j hj) (fun j _ hj => h6 j hj) rfl
    | succ d ih =>
      intro i z S G La Fi hi hf h1 h2 h3 h4 h5 h6
      obtain ⟨a, a1, a2, a3⟩ := hw2 hf i (by omega)
      obtain ⟨p1, p2⟩ := lt_b (a := a) (by omega) a2
      have c3 : ∀ (z1 : ow_MS) (S1 : ow_NP) (La1 Fi1 : Nat → Option Nat) (x8 x9 x10 x11 t0 : Int32), fr clR y z1 → cAt z1 4000 (i, 0, S1, G) → ow_b24 S1 → oX (fun v => v < 2 * (i + 1)) (fun _ => False) n S1 La1 Fi1 → (∀ j, j < n → (La1 j = none ↔ Fi1 j = none)) → (∀ j, j < n → z1.2.1 4007 j = oNI (La1 j)) → (∀ j, j < n → z1.2.1 4004 j = oNI (Fi1 j)) → Tt (fun K t => c_X7_close vl K t 3 (nI (16 * b)) (nI l) (nI n) (nI i) x8 x9 x10 x11 4000 13 4004 4007 t0 (nI i) z1) Q := by
        intro z1 S1 La1 Fi1 x8 x9 x10 x11 t0 q1 q2 q3 q4 q5 q6 q7
        obtain ⟨s1, s2, s3, s4, s5⟩ := q2
        refine u_X7_close_3 ?_; unfold cm_X7_close_3
        refine w_ctI (nH_3 nH4) rfl (show i < 12 by omega) (w_rdF (x := nI i) s1 (w_wrF ?_))
        rw [nI_1]
        refine ih (i + 1) _ S1 (su G i t0) La1 Fi1 (by omega) (fr_F2 (fr_I2 q1 (by unfold clR cP; omega)) (by unfold clR cP; omega)) ⟨po_usF_at, ?_, fun v => ?_, fun v => ?_, fun v => ?_⟩ q3 q4 q5 (fun j hj => ?_) (fun j hj => ?_)
        · exact rf_ot (by omega) s2
        · exact rd_ot (by omega) (s3 v)
        · exact rd_ot (by omega) (s4 v)
        · show (usI z1 4003 i t0).2.1 4003 v = su G i t0 v
          by_cases ev : v = i
          · rw [ev]
            exact po_usI_at.trans (if_pos rfl).symm
          · rw [show su G i t0 v = G v from if_neg ev]
            exact rd_ne ev (s5 v)
        · exact rd_ot (by omega) (q6 j hj)
        · exact rd_ot (by omega) (q7 j hj)
      have c2 : ∀ r : Nat, (r = 2 * i ∨ r = 2 * i + 1) → Tt (fun K t => c_X7_close vl K t 2 (nI (16 * b)) (nI l) (nI n) (nI i) (iI a) (nI (a.natAbs - 1)) 0 0 4000 13 4004 4007 (nI r) 0 z) Q := by
        intro r hr
        have hr24 : r < 24 := by omega
        have hm : (r = 2 * i ∧ mt r = 2 * i + 1) ∨ (r = 2 * i + 1 ∧ mt r = 2 * i) := by
          unfold mt
          rcases hr with e | e
          · exact Or.inl ⟨e, by rw [if_pos (by omega)]; omega⟩
          · exact Or.inr ⟨e, by rw [if_neg (by omega)]; omega⟩
        have hm24 : mt r < 24 := by omega
        generalize hj : a.natAbs - 1 = j
        have hjn : j + 1 < n := by omega
        have hlt : ∀ k u, k < n → La k = some u → u < 2 * i := fun k u hk e => h3.1 k u hk e
        obtain ⟨o1, o2⟩ := oX_step (k := j) (v := r) h3 h4 (by omega) (by omega) (fun u e => by have := hlt j u (by omega) e; omega)
        have eL : uO La j (some r) (j + 1) = La (j + 1) := uO_ne (by omega)
        obtain ⟨o3, o4⟩ := oX_step (k := j + 1) (v := mt r) o1 o2 hjn (by intro h9; rcases h9 with h9 | h9 <;> omega) (fun u e => by
          rw [eL] at e
          have := hlt (j + 1) u hjn e
          omega)
        rw [eL] at o3 o4
        have hb1 : ow_b24 (exS S (La j) r) := by
          cases e : La j with
          | none => exact h2
          | some u => exact nl_b24 h2 (by have := hlt j u (by omega) e; omega) hr24
        have hb2 : ow_b24 (exS (exS S (La j) r) (La (j + 1)) (mt r)) := by
          cases e : La (j + 1) with
          | none => exact hb1
          | some u => exact nl_b24 hb1 (by have := hlt (j + 1) u hjn e; omega) hm24
        refine u_X7_close_2 ?_; unfold cm_X7_close_2
        rw [nI_1, xor1 ⟨r, hr24⟩]
        refine w_cs0 (tc_extend (s := n) h1 (show j < n by omega) hn5 hr24 h5 h6 (fun u e => by have := hlt j u (by omega) e; omega)) ?_
        rintro z1 ⟨g1, g2, g3⟩
        have h51 : ∀ k, k < n → z1.2.1 4007 k = oNI (La k) := fun k hk => by
          rw [(g3 4007 (by unfold cP; omega)).2.1]
          exact h5 k hk
        refine w_cs0 (tc_extend (s := n) g1 hjn hn5 hm24 h51 g2 (fun u e => by have := hlt (j + 1) u hjn e; omega)) ?_
        rintro z2 ⟨g4, g5, g6⟩
        have hf2 : fr clR y z2 := fr_tr hf (fr_tr (fr_mono (fun g hg => hg.elim Or.inl (fun h9 => Or.inr (Or.inl h9))) g3) (fr_mono (fun g hg => hg.elim Or.inl (fun h9 => Or.inr (Or.inl h9))) g6))
        have h52 : ∀ k, k < n → z2.2.1 4007 k = oNI (La k) := fun k hk => by
          rw [(g6 4007 (by unfold cP; omega)).2.1]
          exact h51 k hk
        have hsw := oX_swap (j := j) (a := some (mt r)) (b := some r) o3 hjn (by rw [uO_ne (by omega), uO_at]) uO_at
        refine w_ctI (nH_7 nH4) rfl (show j < 24 by omega) (w_ctI (nH_7 nH4) rfl (show j + 1 < 24 by omega) ?_)
        have fin : ∀ t0 : Int32, Tt (fun K t => c_X7_close vl K t 3 (nI (16 * b)) (nI l) (nI n) (nI i) (iI a) (nI j) (nI r) (nI (mt r)) 4000 13 4004 4007 t0 (nI i) (usI (usI z2 4007 j (nI (mt r))) 4007 (j + 1) (nI r))) Q := by
          intro t0
          refine c3 _ (exS (exS S (La j) r) (La (j + 1)) (mt r)) _ _ _ _ _ _ t0 (fr_I2 (fr_I2 hf2 (by unfold clR; omega)) (by unfold clR; omega)) ?_ hb2 (oX_D (fun v => ?_) (fun _ h => h) hsw) (fun k hk => ?_) (fun k hk => ?_) (fun k hk => ?_)
          · exact cAt_fr (P := fun g => g = 4007) (fr_I2 (fr_I rfl) rfl) (fun g hg h9 => by unfold cP at hg; omega) g4
          · show ((v < 2 * i ∨ v = r) ∨ v = mt r) ↔ v < 2 * (i + 1)
            omega
          · have := o4 k hk
            by_cases e1 : k = j + 1
            · rw [e1, uO_at]
              have h9 := o4 (j + 1) hjn
              rw [uO_at] at h9
              exact ⟨fun h => (by cases h), fun h => absurd (h9.mpr h) (by intro h; cases h)⟩
            · rw [uO_ne e1]
              by_cases e2 : k = j
              · rw [e2, uO_at]
                have h9 := o4 j (by omega)
                rw [uO_ne (by omega), uO_at] at h9
                exact ⟨fun h => (by cases h), fun h => absurd (h9.mpr h) (by intro h; cases h)⟩
              · rw [uO_ne e2]
                exact this
          · by_cases e1 : k = j + 1
            · rw [e1, uO_at]
              exact po_usI_at
            · rw [uO_ne e1]
              by_cases e2 : k = j
              · rw [e2, uO_at]
                exact rd_ne (by omega) po_usI_at
              · rw [uO_ne e2, uO_ne e1, uO_ne e2]
                exact rd_ne e1 (rd_ne e2 (h52 k hk))
          · exact rd_ot (by omega) (rd_ot (by omega) (g5 k hk))
        exact w_if (fun _ => fin (-1)) (fun _ => fin 1)
      refine u_X7_close_1 ?_; unfold cm_X7_close_1
      rw [nI_add, show (2 : Int32) * nI i = nI (2 * i) from pk_mul 2 _, nI_1]
      refine w_leF (by omega) (by omega) (w_leF (a := 12) (by omega) (by omega) (w_crI ch_13 rfl (show 16 * b + i < 320 by omega) a1 ?_))
      rw [p1]
      exact w_if (fun _ => c2 (2 * i + 1) (Or.inr rfl)) (fun _ => c2 (2 * i) (Or.inl rfl))
  refine e_X7_close ?_
  refine u_X7_close_0 ?_; unfold cm_X7_close_0
  refine w_cs0 (tc_fill (a := 0) (b := n) (nH_4 nH4) (Nat.zero_le _) (show n ≤ 24 by omega) (by omega)) ?_
  rintro z1 ⟨a1, a2⟩
  refine w_cs0 (tc_fill (a := 0) (b := n) (nH_7 nH4) (Nat.zero_le _) (show n ≤ 24 by omega) (by omega)) ?_
  rintro z2 ⟨b1, b2⟩
  have t2 : cAt z2 4000 T := cAt_fr b2 (fun g hg h9 => by unfold cP at hg; omega) (cAt_fr a2 (fun g hg h9 => by unfold cP at hg; omega) hT)
  refine w_cs0 (tc_empty t2) ?_
  rintro z3 ⟨d1, d2⟩
  refine c1 l 0 z3 T.2.2.1 T.2.2.2 (fun _ => none) (fun _ => none) (by omega) (fr_tr (fr_mono (fun g hg => by rw [hg]; unfold clR; omega) a2) (fr_tr (fr_mono (fun g hg => by rw [hg]; unfold clR; omega) b2) (fr_mono (fun g hg => Or.inl hg) d2))) d1 hb ⟨fun k v _ e => (by cases e), fun k v _ e => (by cases e), fun k k' v _ _ e => (by cases e), fun k k' v _ _ e => (by cases e), fun v hv => absurd hv (Nat.not_lt_zero _), fun v hv => absurd hv (Nat.not_lt_zero _)⟩ (fun _ _ => Iff.rfl) (fun j hj => ?_) (fun j hj => ?_)
  · rw [(d2 4007 (by unfold cP; omega)).2.1, b1 j, if_pos ⟨Nat.zero_le _, hj⟩]
    rfl
  · rw [(d2 4004 (by unfold cP; omega)).2.1, (b2 4004 (by omega)).2.1, a1 j, if_pos ⟨Nat.zero_le _, hj⟩]
    rfl
theorem e_X11_closure {vl : Nat → Nat} {r0 : Nat} {x1 : Int32} {z : ow_MS} {Q : (Nat × Int32 × ow_MS) → Prop} (H : Tt (fun K _ => cm_X11_closure_0 vl K x1 r0 z) Q) : Te (fun K => ce_X11_closure vl K r0 x1 z) Q := w_te0 H
end CCL
end
section
/-! 99zzzzzzg.cform -/
/-! the class: Form, simple braids as numbers -/
def foJ (x j : Int32) : Int32 := (x >>> (((4 * j) : Int32) &&& 31)) &&& 15
def foV (x : Int32) : Nat → Int32
  | 0 => 0
  | i + 1 => foV x i ||| (nI i <<< (((4 * foJ x (nI i)) : Int32) &&& 31))
def foE : Nat → Int32
  | 0 => 0
  | i + 1 => foE i ||| (nI i <<< (((4 * nI i) : Int32) &&& 31))
def foD (n : Nat) : Nat → Int32
  | 0 => 0
  | i + 1 => foD n i ||| ((((nI n - 1) - nI i) : Int32) <<< (((4 * nI i) : Int32) &&& 31))
def foU (x : Int32) (n : Nat) : Nat → Int32
  | 0 => 0
  | i + 1 => foU x n i ||| ((((nI n - 1) - foJ x ((nI n - 1) - nI i)) : Int32) <<< (((4 * nI i) : Int32) &&& 31))
def foX (x p : Int32) : Int32 := (x ^^^ (((foJ x p ^^^ foJ x (p + 1)) : Int32) <<< (((4 * p) : Int32) &&& 31))) ^^^ (((foJ x p ^^^ foJ x (p + 1)) : Int32) <<< (((4 * (p + 1)) : Int32) &&& 31))
/-- the forms -/
def fO (h : Nat) : Prop := h = 46000 ∨ h = 47000 ∨ h = 49000 ∨ h = 51000
theorem fO_4 {vl : Nat → Nat} {h : Nat} (hh : fO h) : ((cX vl).2 (h + 4)).2.1 = 24 := by
  rcases hh with rfl | rfl | rfl | rfl <;> rfl
section CFO
variable {vl : Nat → Nat} {y : ow_MS} {h n : Nat} {x x' p : Int32}
theorem e_X5_image {vl : Nat → Nat} {x0 : Int32} {x1 : Int32} {z : ow_MS} {Q : (Int32 × ow_MS) → Prop} (H : Tt (fun K _ => cm_X5_image_0 vl K x0 x1 z) Q) : Te (fun K => ce_X5_image vl K x0 x1 z) Q := w_te0 H
theorem tc_image : Te (fun K => ce_X5_image vl K x p y) (fun r => r.1 = foJ x p ∧ r.2 = y) := by
  refine e_X5_image ?_; unfold cm_X5_image_0
  exact w_some ⟨rfl, rfl⟩
theorem u_X5_invert_1 {vl : Nat → Nat} {x0 : Int32} {x1 : Int32} {x2 : Int32} {x3 : Int32} {z : ow_MS} {Q : (Int32 × ow_MS) → Prop} (H : Tt (fun K k => cm_X5_invert_1 vl K (c_X5_invert vl K k) x0 x1 x2 x3 z) Q) : Tt (fun K k => c_X5_invert vl K k 1 x0 x1 x2 x3 z) Q := w_un (fun _ _ => rfl) H
theorem e_X5_invert {vl : Nat → Nat} {x0 : Int32} {x1 : Int32} {z : ow_MS} {Q : (Int32 × ow_MS) → Prop} (H : Tt (fun K k => c_X5_invert vl K k 0 x0 x1 0 0 z) Q) : Te (fun K => ce_X5_invert vl K x0 x1 z) Q := w_te H
theorem u_X5_invert_0 {vl : Nat → Nat} {x0 : Int32} {x1 : Int32} {x2 : Int32} {x3 : Int32} {z : ow_MS} {Q : (Int32 × ow_MS) → Prop} (H : Tt (fun K k => cm_X5_invert_0 vl K (c_X5_invert vl K k) x0 x1 x2 x3 z) Q) : Tt (fun K k => c_X5_invert vl K k 0 x0 x1 x2 x3 z) Q := w_un (fun _ _ => rfl) H
theorem tc_invert (hn : n ≤ 5) : Te (fun K => ce_X5_invert vl K x (nI n) y) (fun r => r.1 = foV x n ∧ r.2 = y) := by
  have c1 : ∀ (d i : Nat), i + d = n → Tt (fun K t => c_X5_invert vl K t 1 x (nI n) (foV x i) (nI i) y) (fun r => r.1 = foV x n ∧ r.2 = y) := by
    intro d
    induction d with
    | zero =>
      intro i hi
      have e : i = n := by omega
      subst e
      refine u_X5_invert_1 ?_; unfold cm_X5_invert_1
      exact w_leT (by omega) (by omega) (w_some ⟨rfl, rfl⟩)
    | succ d ih =>
      intro i hi
      refine u_X5_invert_1 ?_; unfold cm_X5_invert_1
      refine w_leF (by omega) (by omega) (w_cs1 tc_image ?_)
      rintro v y1 ⟨e1, e2⟩
      dsimp only at e1 e2
      rw [e1, e2, nI_1]
      exact ih (i + 1) (by omega)
  refine e_X5_invert ?_
  refine u_X5_invert_0 ?_; unfold cm_X5_invert_0
  exact c1 n 0 (by omega)
theorem u_X5_identityOf_1 {vl : Nat → Nat} {x0 : Int32} {x1 : Int32} {x2 : Int32} {z : ow_MS} {Q : (Int32 × ow_MS) → Prop} (H : Tt (fun K k => cm_X5_identityOf_1 vl K (c_X5_identityOf vl K k) x0 x1 x2 z) Q) : Tt (fun K k => c_X5_identityOf vl K k 1 x0 x1 x2 z) Q := w_un (fun _ _ => rfl) H
theorem e_X5_identityOf {vl : Nat → Nat} {x0 : Int32} {z : ow_MS} {Q : (Int32 × ow_MS) → Prop} (H : Tt (fun K k => c_X5_identityOf vl K k 0 x0 0 0 z) Q) : Te (fun K => ce_X5_identityOf vl K x0 z) Q := w_te H
theorem u_X5_identityOf_0 {vl : Nat → Nat} {x0 : Int32} {x1 : Int32} {x2 : Int32} {z : ow_MS} {Q : (Int32 × ow_MS) → Prop} (H : Tt (fun K k => cm_X5_identityOf_0 vl K (c_X5_identityOf vl K k) x0 x1 x2 z) Q) : Tt (fun K k => c_X5_identityOf vl K k 0 x0 x1 x2 z) Q := w_un (fun _ _ => rfl) H
theorem tc_identityOf (hn : n ≤ 5) : Te (fun K => ce_X5_identityOf vl K (nI n) y) (fun r => r.1 = foE n ∧ r.2 = y) := by
  have c1 : ∀ (d i : Nat), i + d = n → Tt (fun K t => c_X5_identityOf vl K t 1 (nI n) (foE i) (nI i) y) (fun r => r.1 = foE n ∧ r.2 = y) := by
    intro d
    induction d with
    | zero =>
      intro i hi
      have e : i = n := by omega
      subst e
      refine u_X5_identityOf_1 ?_; unfold cm_X5_identityOf_1
      exact w_leT (by omega) (by omega) (w_some ⟨rfl, rfl⟩)
    | succ d ih =>
      intro i hi
      refine u_X5_identityOf_1 ?_; unfold cm_X5_identityOf_1
      rw [nI_1]
      exact w_leF (by omega) (by omega) (ih (i + 1) (by omega))
  refine e_X5_identityOf ?_
  refine u_X5_identityOf_0 ?_; unfold cm_X5_identityOf_0
  exact c1 n 0 (by omega)
theorem u_X5_deltaOf_1 {vl : Nat → Nat} {x0 : Int32} {x1 : Int32} {x2 : Int32} {z : ow_MS} {Q : (Int32 × ow_MS) → Prop} (H : Tt (fun K k => cm_X5_deltaOf_1 vl K (c_X5_deltaOf vl K k) x0 x1 x2 z) Q) : Tt (fun K k => c_X5_deltaOf vl K k 1 x0 x1 x2 z) Q := w_un (fun _ _ => rfl) H
theorem e_X5_deltaOf {vl : Nat → Nat} {x0 : Int32} {z : ow_MS} {Q : (Int32 × ow_MS) → Prop} (H : Tt (fun K k => c_X5_deltaOf vl K k 0 x0 0 0 z) Q) : Te (fun K => ce_X5_deltaOf vl K x0 z) Q := w_te H
theorem u_X5_deltaOf_0 {vl : Nat → Nat} {x0 : Int32} {x1 : Int32} {x2 : Int32} {z : ow_MS} {Q : (Int32 × ow_MS) → Prop} (H : Tt (fun K k => cm_X5_deltaOf_0 vl K (c_X5_deltaOf vl K k) x0 x1 x2 z) Q) : Tt (fun K k => c_X5_deltaOf vl K k 0 x0 x1 x2 z) Q := w_un (fun _ _ => rfl) H
theorem tc_deltaOf (hn : n ≤ 5) : Te (fun K => ce_X5_deltaOf vl K (nI n) y) (fun r => r.1 = foD n n ∧ r.2 = y) := by
  have c1 : ∀ (d i : Nat), i + d = n → Tt (fun K t => c_X5_deltaOf vl K t 1 (nI n) (foD n i) (nI i) y) (fun r => r.1 = foD n n ∧ r.2 = y) := by
    intro d
    induction d with
    | zero =>
      intro i hi
      have e : i = n := by omega
      subst e
      refine u_X5_deltaOf_1 ?_; unfold cm_X5_deltaOf_1
      exact w_leT (by omega) (by omega) (w_some ⟨rfl, rfl⟩)
    | succ d ih =>
      intro i hi
      refine u_X5_deltaOf_1 ?_; unfold cm_X5_deltaOf_1
      rw [nI_1]
      exact w_leF (by omega) (by omega) (ih (i + 1) (by omega))
  refine e_X5_deltaOf ?_
  refine u_X5_deltaOf_0 ?_; unfold cm_X5_deltaOf_0
  exact c1 n 0 (by omega)
theorem u_X5_turned_1 {vl : Nat → Nat} {x0 : Int32} {x1 : Int32} {x2 : Int32} {x3 : Int32} {z : ow_MS} {Q : (Int32 × ow_MS) → Prop} (H : Tt (fun K k => cm_X5_turned_1 vl K (c_X5_turned vl K k) x0 x1 x2 x3 z) Q) : Tt (fun K k => c_X5_turned vl K k 1 x0 x1 x2 x3 z) Q := w_un (fun _ _ => rfl) H
theorem e_X5_turned {vl : Nat → Nat} {x0 : Int32} {x1 : Int32} {z : ow_MS} {Q : (Int32 × ow_MS) → Prop} (H : Tt (fun K k => c_X5_turned vl K k 0 x0 x1 0 0 z) Q) : Te (fun K => ce_X5_turned vl K x0 x1 z) Q := w_te H
theorem u_X5_turned_0 {vl : Nat → Nat} {x0 : Int32} {x1 : Int32} {x2 : Int32} {x3 : Int32} {z : ow_MS} {Q : (Int32 × ow_MS) → Prop} (H : Tt (fun K k => cm_X5_turned_0 vl K (c_X5_turned vl K k) x0 x1 x2 x3 z) Q) : Tt (fun K k => c_X5_turned vl K k 0 x0 x1 x2 x3 z) Q := w_un (fun _ _ => rfl) H
theorem tc_turned (hn : n ≤ 5) : Te (fun K => ce_X5_turned vl K x (nI n) y) (fun r => r.1 = foU x n n ∧ r.2 = y) := by
  have c1 : ∀ (d i : Nat), i + d = n → Tt (fun K t => c_X5_turned vl K t 1 x (nI n) (foU x n i) (nI i) y) (fun r => r.1 = foU x n n ∧ r.2 = y) := by
    intro d
    induction d with
    | zero =>
      intro i hi
      have e : i = n := by omega
      subst e
      refine u_X5_turned_1 ?_; unfold cm_X5_turned_1
      exact w_leT (by omega) (by omega) (w_some ⟨rfl, rfl⟩)
    | succ d ih =>
      intro i hi
      refine u_X5_turned_1 ?_; unfold cm_X5_turned_1
      refine w_leF (by omega) (by omega) (w_cs1 tc_image ?_)
      rintro v y1 ⟨e1, e2⟩
      dsimp only at e1 e2
      rw [e1, e2, nI_1]
      exact ih (i + 1) (by omega)
  refine e_X5_turned ?_
  refine u_X5_turned_0 ?_; unfold cm_X5_turned_0
  exact c1 n 0 (by omega)
theorem e_X5_exchanged {vl : Nat → Nat} {x0 : Int32} {x1 : Int32} {z : ow_MS} {Q : (Int32 × ow_MS) → Prop} (H : Tt (fun K _ => cm_X5_exchanged_0 vl K x0 x1 z) Q) : Te (fun K => ce_X5_exchanged vl K x0 x1 z) Q := w_te0 H
theorem tc_exchanged : Te (fun K => ce_X5_exchanged vl K x p y) (fun r => r.1 = foX x p ∧ r.2 = y) := by
  refine e_X5_exchanged ?_; unfold cm_X5_exchanged_0
  refine w_cs1 tc_image ?_
  rintro v y1 ⟨e1, e2⟩
  dsimp only at e1 e2
  rw [e1, e2]
  refine w_cs1 tc_image ?_
  rintro v2 y2 ⟨e3, e4⟩
  dsimp only at e3 e4
  rw [e3, e4]
  exact w_some ⟨rfl, rfl⟩
theorem e_X5_exchangedBehind {vl : Nat → Nat} {x0 : Int32} {x1 : Int32} {x2 : Int32} {z : ow_MS} {Q : (Int32 × ow_MS) → Prop} (H : Tt (fun K _ => cm_X5_exchangedBehind_0 vl K x0 x1 x2 z) Q) : Te (fun K => ce_X5_exchangedBehind vl K x0 x1 x2 z) Q := w_te0 H
theorem tc_exchangedBehind (hn : n ≤ 5) : Te (fun K => ce_X5_exchangedBehind vl K x p (nI n) y) (fun r => r.1 = foV (foX (foV x n) p) n ∧ r.2 = y) := by
  refine e_X5_exchangedBehind ?_; unfold cm_X5_exchangedBehind_0
  refine w_cs1 (tc_invert hn) ?_
  rintro v y1 ⟨e1, e2⟩
  dsimp only at e1 e2
  rw [e1, e2]
  refine w_cs1 tc_exchanged ?_
  rintro v2 y2 ⟨e3, e4⟩
  dsimp only at e3 e4
  rw [e3, e4]
  refine w_cs1 (tc_invert hn) ?_
  rintro v3 y3 ⟨e5, e6⟩
  dsimp only at e5 e6
  rw [e5, e6]
  exact w_some ⟨rfl, rfl⟩
/-- a form: strands, power, factors -/
def foA (y : ow_MS) (h n : Nat) (w : Int32) (L : List Int32) : Prop := y.1 (h + 1) = nI n ∧ y.1 (h + 2) = w ∧ y.1 (h + 3) = nI L.length ∧ L.length ≤ 24 ∧ (∀ i a, L[i]? = some a → y.2.1 (h + 4) i = a) ∧ y.1 (h + 5) = foE n ∧ y.1 (h + 6) = foD n n
def foP (h g : Nat) : Prop := h + 1 ≤ g ∧ g ≤ h + 6
theorem e_X5_begin {vl : Nat → Nat} {r0 : Nat} {x1 : Int32} {z : ow_MS} {Q : ow_MS → Prop} (H : Tt (fun K _ => cm_X5_begin_0 vl K x1 r0 z) Q) : Te (fun K => ce_X5_begin vl K r0 x1 z) Q := w_te0 H
theorem tc_begin (hn : n ≤ 5) : Te (fun K => ce_X5_begin vl K h (nI n) y) (fun y1 => foA y1 h n 0 [] ∧ fr (foP h) y y1) := by
  refine e_X5_begin ?_; unfold cm_X5_begin_0
  refine w_wrF (w_wrF (w_wrF (w_cs1 (tc_identityOf hn) ?_)))
  rintro v y1 ⟨e1, e2⟩
  dsimp only at e1 e2
  rw [e1, e2]
  refine w_wrF (w_cs1 (tc_deltaOf hn) ?_)
  rintro v2 y2 ⟨e3, e4⟩
  dsimp only at e3 e4
  rw [e3, e4]
  refine w_wrF (w_some ⟨⟨?_, ?_, ?_, Nat.zero_le _, fun i a e => (by rw [List.getElem?_nil] at e; cases e), rf_ot (by omega) po_usF_at, po_usF_at⟩, fr_F2 (fr_F2 (fr_F2 (fr_F2 (fr_F (by unfold foP; omega)) (by unfold foP; omega)) (by unfold foP; omega)) (by unfold foP; omega)) (by unfold foP; omega)⟩)
  · exact rf_ot (by omega) (rf_ot (by omega) (rf_ot (by omega) (rf_ot (by omega) po_usF_at)))
  · exact rf_ot (by omega) (rf_ot (by omega) (rf_ot (by omega) po_usF_at))
  · exact rf_ot (by omega) (rf_ot (by omega) po_usF_at)
/-- the first letter that may go from the second to the first -/
def foM (n : Nat) (a b : Int32) : Nat → Nat → Option Nat
  | 0, _ => none
  | d + 1, i => if foJ b (nI i + 1) < foJ b (nI i) ∧ foJ a (nI i) < foJ a (nI i + 1) then some i else foM n a b d (i + 1)
theorem u_X5_movable_1 {vl : Nat → Nat} {x1 : Int32} {x2 : Int32} {x3 : Int32} {r0 : Nat} {z : ow_MS} {Q : (Int32 × ow_MS) → Prop} (H : Tt (fun K k => cm_X5_movable_1 vl K (c_X5_movable vl K k) x1 x2 x3 r0 z) Q) : Tt (fun K k => c_X5_movable vl K k 1 x1 x2 x3 r0 z) Q := w_un (fun _ _ => rfl) H
theorem u_X5_movable_2 {vl : Nat → Nat} {x1 : Int32} {x2 : Int32} {x3 : Int32} {r0 : Nat} {z : ow_MS} {Q : (Int32 × ow_MS) → Prop} (H : Tt (fun K k => cm_X5_movable_2 vl K (c_X5_movable vl K k) x1 x2 x3 r0 z) Q) : Tt (fun K k => c_X5_movable vl K k 2 x1 x2 x3 r0 z) Q := w_un (fun _ _ => rfl) H
theorem e_X5_movable {vl : Nat → Nat} {r0 : Nat} {x1 : Int32} {x2 : Int32} {z : ow_MS} {Q : (Int32 × ow_MS) → Prop} (H : Tt (fun K k => c_X5_movable vl K k 0 x1 x2 0 r0 z) Q) : Te (fun K => ce_X5_movable vl K r0 x1 x2 z) Q := w_te H
theorem u_X5_movable_0 {vl : Nat → Nat} {x1 : Int32} {x2 : Int32} {x3 : Int32} {r0 : Nat} {z : ow_MS} {Q : (Int32 × ow_MS) → Prop} (H : Tt (fun K k => cm_X5_movable_0 vl K (c_X5_movable vl K k) x1 x2 x3 r0 z) Q) : Tt (fun K k => c_X5_movable vl K k 0 x1 x2 x3 r0 z) Q := w_un (fun _ _ => rfl) H
theorem tc_movable {a b : Int32} (h1 : y.1 (h + 1) = nI n) (hn1 : 1 ≤ n) (hn : n ≤ 5) : Te (fun K => ce_X5_movable vl K h a b y) (fun r => r.1 = oNI (foM n a b (n - 1) 0) ∧ r.2 = y) := by
  have c1 : ∀ (d i : Nat), i + d = n - 1 → foM n a b d i = foM n a b (n - 1) 0 → Tt (fun K t => c_X5_movable vl K t 1 a b (nI i) h y) (fun r => r.1 = oNI (foM n a b (n - 1) 0) ∧ r.2 = y) := by
    intro d
    induction d with
    | zero =>
      intro i hi e0
      refine u_X5_movable_1 ?_; unfold cm_X5_movable_1
      refine w_rdF h1 ?_
      rw [show nI n - 1 = nI (n - 1) from pk_sub (b := 1) hn1]
      exact w_leT (by omega) (by omega) (w_some ⟨by rw [← e0]; rfl, rfl⟩)
    | succ d ih =>
      intro i hi e0
      have c2 : ¬ (foJ b (nI i + 1) < foJ b (nI i) ∧ foJ a (nI i) < foJ a (nI i + 1)) → Tt (fun K t => c_X5_movable vl K t 2 a b (nI i) h y) (fun r => r.1 = oNI (foM n a b (n - 1) 0) ∧ r.2 = y) := by
        intro hno
        refine u_X5_movable_2 ?_; unfold cm_X5_movable_2
        rw [nI_1]
        refine ih (i + 1) (by omega) ?_
        rw [← e0]
        show _ = if _ then _ else _
        rw [if_neg hno]
      refine u_X5_movable_1 ?_; unfold cm_X5_movable_1
      refine w_rdF h1 ?_
      rw [show nI n - 1 = nI (n - 1) from pk_sub (b := 1) hn1]
      refine w_leF (by omega) (by omega) (w_cs1 tc_image ?_)
      rintro v y1 ⟨e1, e2⟩
      dsimp only at e1 e2
      rw [e1, e2]
      refine w_cs1 tc_image ?_
      rintro v2 y2 ⟨e3, e4⟩
      dsimp only at e3 e4
      rw [e3, e4]
      refine w_if (fun q => c2 (fun h9 => Int32.not_le.mpr h9.1 q)) (fun q => w_cs1 tc_image ?_)
      rintro v3 y3 ⟨e5, e6⟩
      dsimp only at e5 e6
      rw [e5, e6]
      refine w_cs1 tc_image ?_
      rintro v4 y4 ⟨e7, e8⟩
      dsimp only at e7 e8
      rw [e7, e8]
      refine w_if (fun q2 => c2 (fun h9 => Int32.not_le.mpr h9.2 q2)) (fun q2 => w_some ⟨?_, rfl⟩)
      rw [← e0]
      show nI i = oNI (if _ then _ else _)
      rw [if_pos ⟨Int32.not_le.mp q, Int32.not_le.mp q2⟩]
      rfl
  refine e_X5_movable ?_
  refine u_X5_movable_0 ?_; unfold cm_X5_movable_0
  exact c1 (n - 1) 0 (by omega) rfl
end CFO
end
section
/-! 99zzzzzzh.cform2 -/
/-! the class: Form goes on; normal, factor, equal have an answer -/
section CF2
variable {vl : Nat → Nat} {y : ow_MS} {h n l : Nat}
theorem u_X5_weigh_2 {vl : Nat → Nat} {x1 : Int32} {x2 : Int32} {x3 : Int32} {x4 : Int32} {x5 : Int32} {r0 : Nat} {z : ow_MS} {Q : (Int32 × ow_MS) → Prop} (H : Tt (fun K k => cm_X5_weigh_2 vl K (c_X5_weigh vl K k) x1 x2 x3 x4 x5 r0 z) Q) : Tt (fun K k => c_X5_weigh vl K k 2 x1 x2 x3 x4 x5 r0 z) Q := w_un (fun _ _ => rfl) H
theorem u_X5_weigh_1 {vl : Nat → Nat} {x1 : Int32} {x2 : Int32} {x3 : Int32} {x4 : Int32} {x5 : Int32} {r0 : Nat} {z : ow_MS} {Q : (Int32 × ow_MS) → Prop} (H : Tt (fun K k => cm_X5_weigh_1 vl K (c_X5_weigh vl K k) x1 x2 x3 x4 x5 r0 z) Q) : Tt (fun K k => c_X5_weigh vl K k 1 x1 x2 x3 x4 x5 r0 z) Q := w_un (fun _ _ => rfl) H
theorem e_X5_weigh {vl : Nat → Nat} {r0 : Nat} {x1 : Int32} {z : ow_MS} {Q : (Int32 × ow_MS) → Prop} (H : Tt (fun K k => c_X5_weigh vl K k 0 x1 0 0 0 0 r0 z) Q) : Te (fun K => ce_X5_weigh vl K r0 x1 z) Q := w_te H
theorem u_X5_weigh_0 {vl : Nat → Nat} {x1 : Int32} {x2 : Int32} {x3 : Int32} {x4 : Int32} {x5 : Int32} {r0 : Nat} {z : ow_MS} {Q : (Int32 × ow_MS) → Prop} (H : Tt (fun K k => cm_X5_weigh_0 vl K (c_X5_weigh vl K k) x1 x2 x3 x4 x5 r0 z) Q) : Tt (fun K k => c_X5_weigh vl K k 0 x1 x2 x3 x4 x5 r0 z) Q := w_un (fun _ _ => rfl) H
theorem u_X5_strip_3 {vl : Nat → Nat} {x1 : Int32} {r0 : Nat} {z : ow_MS} {Q : ow_MS → Prop} (H : Tt (fun K k => cm_X5_strip_3 vl K (c_X5_strip vl K k) x1 r0 z) Q) : Tt (fun K k => c_X5_strip vl K k 3 x1 r0 z) Q := w_un (fun _ _ => rfl) H
theorem u_X5_strip_2 {vl : Nat → Nat} {x1 : Int32} {r0 : Nat} {z : ow_MS} {Q : ow_MS → Prop} (H : Tt (fun K k => cm_X5_strip_2 vl K (c_X5_strip vl K k) x1 r0 z) Q) : Tt (fun K k => c_X5_strip vl K k 2 x1 r0 z) Q := w_un (fun _ _ => rfl) H
theorem u_X5_strip_1 {vl : Nat → Nat} {x1 : Int32} {r0 : Nat} {z : ow_MS} {Q : ow_MS → Prop} (H : Tt (fun K k => cm_X5_strip_1 vl K (c_X5_strip vl K k) x1 r0 z) Q) : Tt (fun K k => c_X5_strip vl K k 1 x1 r0 z) Q := w_un (fun _ _ => rfl) H
theorem e_X5_strip {vl : Nat → Nat} {r0 : Nat} {z : ow_MS} {Q : ow_MS → Prop} (H : Tt (fun K k => c_X5_strip vl K k 0 0 r0 z) Q) : Te (fun K => ce_X5_strip vl K r0 z) Q := w_te H
theorem u_X5_strip_0 {vl : Nat → Nat} {x1 : Int32} {r0 : Nat} {z : ow_MS} {Q : ow_MS → Prop} (H : Tt (fun K k => cm_X5_strip_0 vl K (c_X5_strip vl K k) x1 r0 z) Q) : Tt (fun K k => c_X5_strip vl K k 0 x1 r0 z) Q := w_un (fun _ _ => rfl) H
theorem u_X5_putBehind_2 {vl : Nat → Nat} {x1 : Int32} {x2 : Int32} {x3 : Int32} {r0 : Nat} {z : ow_MS} {Q : ow_MS → Prop} (H : Tt (fun K k => cm_X5_putBehind_2 vl K (c_X5_putBehind vl K k) x1 x2 x3 r0 z) Q) : Tt (fun K k => c_X5_putBehind vl K k 2 x1 x2 x3 r0 z) Q := w_un (fun _ _ => rfl) H
theorem u_X5_putBehind_1 {vl : Nat → Nat} {x1 : Int32} {x2 : Int32} {x3 : Int32} {r0 : Nat} {z : ow_MS} {Q : ow_MS → Prop} (H : Tt (fun K k => cm_X5_putBehind_1 vl K (c_X5_putBehind vl K k) x1 x2 x3 r0 z) Q) : Tt (fun K k => c_X5_putBehind vl K k 1 x1 x2 x3 r0 z) Q := w_un (fun _ _ => rfl) H
theorem e_X5_putBehind {vl : Nat → Nat} {r0 : Nat} {x1 : Int32} {z : ow_MS} {Q : ow_MS → Prop} (H : Tt (fun K k => c_X5_putBehind vl K k 0 x1 0 0 r0 z) Q) : Te (fun K => ce_X5_putBehind vl K r0 x1 z) Q := w_te H
theorem u_X5_putBehind_0 {vl : Nat → Nat} {x1 : Int32} {x2 : Int32} {x3 : Int32} {r0 : Nat} {z : ow_MS} {Q : ow_MS → Prop} (H : Tt (fun K k => cm_X5_putBehind_0 vl K (c_X5_putBehind vl K k) x1 x2 x3 r0 z) Q) : Tt (fun K k => c_X5_putBehind vl K k 0 x1 x2 x3 r0 z) Q := w_un (fun _ _ => rfl) H
theorem u_X5_takeLetter_1 {vl : Nat → Nat} {x1 : Int32} {x2 : Int32} {x3 : Int32} {r0 : Nat} {z : ow_MS} {Q : ow_MS → Prop} (H : Tt (fun K k => cm_X5_takeLetter_1 vl K (c_X5_takeLetter vl K k) x1 x2 x3 r0 z) Q) : Tt (fun K k => c_X5_takeLetter vl K k 1 x1 x2 x3 r0 z) Q := w_un (fun _ _ => rfl) H
theorem e_X5_takeLetter {vl : Nat → Nat} {r0 : Nat} {x1 : Int32} {z : ow_MS} {Q : ow_MS → Prop} (H : Tt (fun K k => c_X5_takeLetter vl K k 0 x1 0 0 r0 z) Q) : Te (fun K => ce_X5_takeLetter vl K r0 x1 z) Q := w_te H
theorem u_X5_takeLetter_0 {vl : Nat → Nat} {x1 : Int32} {x2 : Int32} {x3 : Int32} {r0 : Nat} {z : ow_MS} {Q : ow_MS → Prop} (H : Tt (fun K k => cm_X5_takeLetter_0 vl K (c_X5_takeLetter vl K k) x1 x2 x3 r0 z) Q) : Tt (fun K k => c_X5_takeLetter vl K k 0 x1 x2 x3 r0 z) Q := w_un (fun _ _ => rfl) H
theorem u_X11_write_1 {vl : Nat → Nat} {x2 : Int32} {x3 : Int32} {r0 : Nat} {r1 : Nat} {z : ow_MS} {Q : ow_MS → Prop} (H : Tt (fun K k => cm_X11_write_1 vl K (c_X11_write vl K k) x2 x3 r0 r1 z) Q) : Tt (fun K k => c_X11_write vl K k 1 x2 x3 r0 r1 z) Q := w_un (fun _ _ => rfl) H
theorem e_X11_write {vl : Nat → Nat} {r0 : Nat} {r1 : Nat} {x2 : Int32} {z : ow_MS} {Q : ow_MS → Prop} (H : Tt (fun K k => c_X11_write vl K k 0 x2 0 r0 r1 z) Q) : Te (fun K => ce_X11_write vl K r0 r1 x2 z) Q := w_te H
theorem u_X11_write_0 {vl : Nat → Nat} {x2 : Int32} {x3 : Int32} {r0 : Nat} {r1 : Nat} {z : ow_MS} {Q : ow_MS → Prop} (H : Tt (fun K k => cm_X11_write_0 vl K (c_X11_write vl K k) x2 x3 r0 r1 z) Q) : Tt (fun K k => c_X11_write vl K k 0 x2 x3 r0 r1 z) Q := w_un (fun _ _ => rfl) H
end CF2
end
section
/-! 99zzzzzzi.cnorm -/
/-! the class: normal, factor, equal have an answer -/
section CNR
variable {vl : Nat → Nat} {y : ow_MS} {x x' : Int32}
theorem fo46 : fO 46000 := Or.inl rfl
theorem fo47 : fO 47000 := Or.inr (Or.inl rfl)
theorem e_X11_normal {vl : Nat → Nat} {r0 : Nat} {x1 : Int32} {x2 : Int32} {z : ow_MS} {Q : (Nat × Int32 × ow_MS) → Prop} (H : Tt (fun K _ => cm_X11_normal_0 vl K x1 x2 r0 z) Q) : Te (fun K => ce_X11_normal vl K r0 x1 x2 z) Q := w_te0 H
theorem e_X11_factor {vl : Nat → Nat} {r0 : Nat} {x1 : Int32} {x2 : Int32} {x3 : Int32} {z : ow_MS} {Q : (Nat × Int32 × ow_MS) → Prop} (H : Tt (fun K _ => cm_X11_factor_0 vl K x1 x2 x3 r0 z) Q) : Te (fun K => ce_X11_factor vl K r0 x1 x2 x3 z) Q := w_te0 H
theorem u_X5_sameAs_1 {vl : Nat → Nat} {x2 : Int32} {r0 : Nat} {r1 : Nat} {z : ow_MS} {Q : (Int32 × ow_MS) → Prop} (H : Tt (fun K k => cm_X5_sameAs_1 vl K (c_X5_sameAs vl K k) x2 r0 r1 z) Q) : Tt (fun K k => c_X5_sameAs vl K k 1 x2 r0 r1 z) Q := w_un (fun _ _ => rfl) H
theorem e_X5_sameAs {vl : Nat → Nat} {r0 : Nat} {r1 : Nat} {z : ow_MS} {Q : (Int32 × ow_MS) → Prop} (H : Tt (fun K k => c_X5_sameAs vl K k 0 0 r0 r1 z) Q) : Te (fun K => ce_X5_sameAs vl K r0 r1 z) Q := w_te H
theorem u_X5_sameAs_0 {vl : Nat → Nat} {x2 : Int32} {r0 : Nat} {r1 : Nat} {z : ow_MS} {Q : (Int32 × ow_MS) → Prop} (H : Tt (fun K k => cm_X5_sameAs_0 vl K (c_X5_sameAs vl K k) x2 r0 r1 z) Q) : Tt (fun K k => c_X5_sameAs vl K k 0 x2 r0 r1 z) Q := w_un (fun _ _ => rfl) H
theorem e_X11_equal {vl : Nat → Nat} {r0 : Nat} {x1 : Int32} {x2 : Int32} {z : ow_MS} {Q : (Int32 × ow_MS) → Prop} (H : Tt (fun K _ => cm_X11_equal_0 vl K x1 x2 r0 z) Q) : Te (fun K => ce_X11_equal vl K r0 x1 x2 z) Q := w_te0 H
end CNR
end
section
/-! 99zzzzzzj.crank -/
/-! the class: rank has an answer -/
section CRK
variable {vl : Nat → Nat} {y : ow_MS} {x x' : Int32}
theorem ch_43018 : ((cX vl).2 43018).2.1 = 504 := rfl
theorem u_X1_rankAt_1 {vl : Nat → Nat} {x1 : Int32} {x2 : Int32} {w3 : Int64} {w5 : Int64} {r0 : Nat} {z : ow_MS} {Q : (Int32 × ow_MS) → Prop} (H : Tt (fun K k => cm_X1_rankAt_1 vl K (c_X1_rankAt vl K k) x1 x2 w3 w5 r0 z) Q) : Tt (fun K k => c_X1_rankAt vl K k 1 x1 x2 w3 w5 r0 z) Q := w_un (fun _ _ => rfl) H
theorem e_X1_rankAt {vl : Nat → Nat} {r0 : Nat} {x1 : Int32} {x2 : Int32} {z : ow_MS} {Q : (Int32 × ow_MS) → Prop} (H : Tt (fun K k => c_X1_rankAt vl K k 0 x1 x2 0 0 r0 z) Q) : Te (fun K => ce_X1_rankAt vl K r0 x1 x2 z) Q := w_te H
theorem u_X1_rankAt_0 {vl : Nat → Nat} {x1 : Int32} {x2 : Int32} {w3 : Int64} {w5 : Int64} {r0 : Nat} {z : ow_MS} {Q : (Int32 × ow_MS) → Prop} (H : Tt (fun K k => cm_X1_rankAt_0 vl K (c_X1_rankAt vl K k) x1 x2 w3 w5 r0 z) Q) : Tt (fun K k => c_X1_rankAt vl K k 0 x1 x2 w3 w5 r0 z) Q := w_un (fun _ _ => rfl) H
theorem e_X11_rank {vl : Nat → Nat} {r0 : Nat} {x1 : Int32} {x2 : Int32} {z : ow_MS} {Q : (Int32 × ow_MS) → Prop} (H : Tt (fun K _ => cm_X11_rank_0 vl K x1 x2 r0 z) Q) : Te (fun K => ce_X11_rank vl K r0 x1 x2 z) Q := w_te0 H
end CRK
end
section
/-! 99zzzzzzk.cform3 -/
/-! the class: Form's copy, putBefore, cycle, decycle, conjugateBy have an answer -/
section CF3
variable {vl : Nat → Nat} {y : ow_MS} {h g n : Nat} {x : Int32}
theorem e_X5_copy {vl : Nat → Nat} {r0 : Nat} {r1 : Nat} {z : ow_MS} {Q : ow_MS → Prop} (H : Tt (fun K _ => cm_X5_copy_0 vl K r0 r1 z) Q) : Te (fun K => ce_X5_copy vl K r0 r1 z) Q := w_te0 H
theorem u_X5_putBefore_2 {vl : Nat → Nat} {x1 : Int32} {x2 : Int32} {x3 : Int32} {r0 : Nat} {z : ow_MS} {Q : ow_MS → Prop} (H : Tt (fun K k => cm_X5_putBefore_2 vl K (c_X5_putBefore vl K k) x1 x2 x3 r0 z) Q) : Tt (fun K k => c_X5_putBefore vl K k 2 x1 x2 x3 r0 z) Q := w_un (fun _ _ => rfl) H
theorem u_X5_putBefore_1 {vl : Nat → Nat} {x1 : Int32} {x2 : Int32} {x3 : Int32} {r0 : Nat} {z : ow_MS} {Q : ow_MS → Prop} (H : Tt (fun K k => cm_X5_putBefore_1 vl K (c_X5_putBefore vl K k) x1 x2 x3 r0 z) Q) : Tt (fun K k => c_X5_putBefore vl K k 1 x1 x2 x3 r0 z) Q := w_un (fun _ _ => rfl) H
theorem e_X5_putBefore {vl : Nat → Nat} {r0 : Nat} {x1 : Int32} {z : ow_MS} {Q : ow_MS → Prop} (H : Tt (fun K k => c_X5_putBefore vl K k 0 x1 0 0 r0 z) Q) : Te (fun K => ce_X5_putBefore vl K r0 x1 z) Q := w_te H
theorem u_X5_putBefore_0 {vl : Nat → Nat} {x1 : Int32} {x2 : Int32} {x3 : Int32} {r0 : Nat} {z : ow_MS} {Q : ow_MS → Prop} (H : Tt (fun K k => cm_X5_putBefore_0 vl K (c_X5_putBefore vl K k) x1 x2 x3 r0 z) Q) : Tt (fun K k => c_X5_putBefore vl K k 0 x1 x2 x3 r0 z) Q := w_un (fun _ _ => rfl) H
theorem u_X5_cycle_1 {vl : Nat → Nat} {r0 : Nat} {t0 : Int32} {z : ow_MS} {Q : ow_MS → Prop} (H : Tt (fun K k => cm_X5_cycle_1 vl K (c_X5_cycle vl K k) r0 t0 z) Q) : Tt (fun K k => c_X5_cycle vl K k 1 r0 t0 z) Q := w_un (fun _ _ => rfl) H
theorem e_X5_cycle {vl : Nat → Nat} {r0 : Nat} {z : ow_MS} {Q : ow_MS → Prop} (H : Tt (fun K k => c_X5_cycle vl K k 0 r0 0 z) Q) : Te (fun K => ce_X5_cycle vl K r0 z) Q := w_te H
theorem u_X5_cycle_0 {vl : Nat → Nat} {r0 : Nat} {t0 : Int32} {z : ow_MS} {Q : ow_MS → Prop} (H : Tt (fun K k => cm_X5_cycle_0 vl K (c_X5_cycle vl K k) r0 t0 z) Q) : Tt (fun K k => c_X5_cycle vl K k 0 r0 t0 z) Q := w_un (fun _ _ => rfl) H
theorem u_X5_decycle_1 {vl : Nat → Nat} {x1 : Int32} {r0 : Nat} {t0 : Int32} {z : ow_MS} {Q : ow_MS → Prop} (H : Tt (fun K k => cm_X5_decycle_1 vl K (c_X5_decycle vl K k) x1 r0 t0 z) Q) : Tt (fun K k => c_X5_decycle vl K k 1 x1 r0 t0 z) Q := w_un (fun _ _ => rfl) H
theorem e_X5_decycle {vl : Nat → Nat} {r0 : Nat} {z : ow_MS} {Q : ow_MS → Prop} (H : Tt (fun K k => c_X5_decycle vl K k 0 0 r0 0 z) Q) : Te (fun K => ce_X5_decycle vl K r0 z) Q := w_te H
theorem u_X5_decycle_0 {vl : Nat → Nat} {x1 : Int32} {r0 : Nat} {t0 : Int32} {z : ow_MS} {Q : ow_MS → Prop} (H : Tt (fun K k => cm_X5_decycle_0 vl K (c_X5_decycle vl K k) x1 r0 t0 z) Q) : Tt (fun K k => c_X5_decycle vl K k 0 x1 r0 t0 z) Q := w_un (fun _ _ => rfl) H
theorem u_X5_conjugateBy_2 {vl : Nat → Nat} {x1 : Int32} {x2 : Int32} {x3 : Int32} {x4 : Int32} {r0 : Nat} {t0 : Int32} {z : ow_MS} {Q : ow_MS → Prop} (H : Tt (fun K k => cm_X5_conjugateBy_2 vl K (c_X5_conjugateBy vl K k) x1 x2 x3 x4 r0 t0 z) Q) : Tt (fun K k => c_X5_conjugateBy vl K k 2 x1 x2 x3 x4 r0 t0 z) Q := w_un (fun _ _ => rfl) H
theorem u_X5_conjugateBy_1 {vl : Nat → Nat} {x1 : Int32} {x2 : Int32} {x3 : Int32} {x4 : Int32} {r0 : Nat} {t0 : Int32} {z : ow_MS} {Q : ow_MS → Prop} (H : Tt (fun K k => cm_X5_conjugateBy_1 vl K (c_X5_conjugateBy vl K k) x1 x2 x3 x4 r0 t0 z) Q) : Tt (fun K k => c_X5_conjugateBy vl K k 1 x1 x2 x3 x4 r0 t0 z) Q := w_un (fun _ _ => rfl) H
theorem e_X5_conjugateBy {vl : Nat → Nat} {r0 : Nat} {x1 : Int32} {z : ow_MS} {Q : ow_MS → Prop} (H : Tt (fun K k => c_X5_conjugateBy vl K k 0 x1 0 0 0 r0 0 z) Q) : Te (fun K => ce_X5_conjugateBy vl K r0 x1 z) Q := w_te H
theorem u_X5_conjugateBy_0 {vl : Nat → Nat} {x1 : Int32} {x2 : Int32} {x3 : Int32} {x4 : Int32} {r0 : Nat} {t0 : Int32} {z : ow_MS} {Q : ow_MS → Prop} (H : Tt (fun K k => cm_X5_conjugateBy_0 vl K (c_X5_conjugateBy vl K k) x1 x2 x3 x4 r0 t0 z) Q) : Tt (fun K k => c_X5_conjugateBy vl K k 0 x1 x2 x3 x4 r0 t0 z) Q := w_un (fun _ _ => rfl) H
end CF3
end
section
/-! 99zzzzzzl.csmt -/
/-! the class: Summit has an answer -/
/-- the two summits: their work form lies 1000 behind -/
def sO (h : Nat) : Prop := h = 48000 ∨ h = 50000
theorem sO_f {h : Nat} (hh : sO h) : fO (h + 1000) := by
  rcases hh with rfl | rfl
  · exact Or.inr (Or.inr (Or.inl rfl))
  · exact Or.inr (Or.inr (Or.inr rfl))
theorem sO_5 {vl : Nat → Nat} {h : Nat} (hh : sO h) : ((cX vl).2 (h + 5)).2.1 = 4020 := by
  rcases hh with rfl | rfl <;> rfl
theorem sO_6 {vl : Nat → Nat} {h : Nat} (hh : sO h) : ((cX vl).2 (h + 6)).2.1 = 201 := by
  rcases hh with rfl | rfl <;> rfl
theorem sO_8 {vl : Nat → Nat} {h : Nat} (hh : sO h) : ((cX vl).2 (h + 8)).2.1 = 24 := by
  rcases hh with rfl | rfl <;> rfl
theorem sO_9 {vl : Nat → Nat} {h : Nat} (hh : sO h) : ((cX vl).2 (h + 9)).2.1 = 24 := by
  rcases hh with rfl | rfl <;> rfl
theorem sO_10 {vl : Nat → Nat} {h : Nat} (hh : sO h) : ((cX vl).2 (h + 10)).2.1 = 24 := by
  rcases hh with rfl | rfl <;> rfl
def suP (h g : Nat) : Prop := h + 1 ≤ g ∧ g ≤ h + 11 ∨ h + 1001 ≤ g ∧ g ≤ h + 1006
section CSU
variable {vl : Nat → Nat} {y : ow_MS} {h n l m : Nat}
theorem m20 {d : Nat} : nI d * 20 = nI (20 * d) := by
  rw [show (20 : Int32) = nI 20 from rfl, pk_mul, Nat.mul_comm]
theorem u_X10_compare_1 {vl : Nat → Nat} {x2 : Int32} {x4 : Int32} {x5 : Int32} {r0 : Nat} {r1 : Nat} {r3 : Nat} {z : ow_MS} {Q : (Int32 × ow_MS) → Prop} (H : Tt (fun K k => cm_X10_compare_1 vl K (c_X10_compare vl K k) x2 x4 x5 r0 r1 r3 z) Q) : Tt (fun K k => c_X10_compare vl K k 1 x2 x4 x5 r0 r1 r3 z) Q := w_un (fun _ _ => rfl) H
theorem e_X10_compare {vl : Nat → Nat} {r0 : Nat} {r1 : Nat} {x2 : Int32} {r3 : Nat} {x4 : Int32} {z : ow_MS} {Q : (Int32 × ow_MS) → Prop} (H : Tt (fun K k => c_X10_compare vl K k 0 x2 x4 0 r0 r1 r3 z) Q) : Te (fun K => ce_X10_compare vl K r0 r1 x2 r3 x4 z) Q := w_te H
theorem u_X10_compare_0 {vl : Nat → Nat} {x2 : Int32} {x4 : Int32} {x5 : Int32} {r0 : Nat} {r1 : Nat} {r3 : Nat} {z : ow_MS} {Q : (Int32 × ow_MS) → Prop} (H : Tt (fun K k => cm_X10_compare_0 vl K (c_X10_compare vl K k) x2 x4 x5 r0 r1 r3 z) Q) : Tt (fun K k => c_X10_compare vl K k 0 x2 x4 x5 r0 r1 r3 z) Q := w_un (fun _ _ => rfl) H
theorem u_X10_add_3 {vl : Nat → Nat} {x1 : Int32} {x2 : Int32} {x3 : Int32} {x4 : Int32} {x5 : Int32} {r0 : Nat} {z : ow_MS} {Q : ow_MS → Prop} (H : Tt (fun K k => cm_X10_add_3 vl K (c_X10_add vl K k) x1 x2 x3 x4 x5 r0 z) Q) : Tt (fun K k => c_X10_add vl K k 3 x1 x2 x3 x4 x5 r0 z) Q := w_un (fun _ _ => rfl) H
theorem u_X10_add_1 {vl : Nat → Nat} {x1 : Int32} {x2 : Int32} {x3 : Int32} {x4 : Int32} {x5 : Int32} {r0 : Nat} {z : ow_MS} {Q : ow_MS → Prop} (H : Tt (fun K k => cm_X10_add_1 vl K (c_X10_add vl K k) x1 x2 x3 x4 x5 r0 z) Q) : Tt (fun K k => c_X10_add vl K k 1 x1 x2 x3 x4 x5 r0 z) Q := w_un (fun _ _ => rfl) H
theorem u_X10_add_2 {vl : Nat → Nat} {x1 : Int32} {x2 : Int32} {x3 : Int32} {x4 : Int32} {x5 : Int32} {r0 : Nat} {z : ow_MS} {Q : ow_MS → Prop} (H : Tt (fun K k => cm_X10_add_2 vl K (c_X10_add vl K k) x1 x2 x3 x4 x5 r0 z) Q) : Tt (fun K k => c_X10_add vl K k 2 x1 x2 x3 x4 x5 r0 z) Q := w_un (fun _ _ => rfl) H
theorem e_X10_add {vl : Nat → Nat} {r0 : Nat} {z : ow_MS} {Q : ow_MS → Prop} (H : Tt (fun K k => c_X10_add vl K k 0 0 0 0 0 0 r0 z) Q) : Te (fun K => ce_X10_add vl K r0 z) Q := w_te H
theorem u_X10_add_0 {vl : Nat → Nat} {x1 : Int32} {x2 : Int32} {x3 : Int32} {x4 : Int32} {x5 : Int32} {r0 : Nat} {z : ow_MS} {Q : ow_MS → Prop} (H : Tt (fun K k => cm_X10_add_0 vl K (c_X10_add vl K k) x1 x2 x3 x4 x5 r0 z) Q) : Tt (fun K k => c_X10_add vl K k 0 x1 x2 x3 x4 x5 r0 z) Q := w_un (fun _ _ => rfl) H
theorem u_X10_goesOn_1 {vl : Nat → Nat} {x1 : Int32} {x2 : Int32} {x3 : Int32} {r0 : Nat} {z : ow_MS} {Q : (Int32 × ow_MS) → Prop} (H : Tt (fun K k => cm_X10_goesOn_1 vl K (c_X10_goesOn vl K k) x1 x2 x3 r0 z) Q) : Tt (fun K k => c_X10_goesOn vl K k 1 x1 x2 x3 r0 z) Q := w_un (fun _ _ => rfl) H
theorem e_X10_goesOn {vl : Nat → Nat} {r0 : Nat} {x1 : Int32} {x2 : Int32} {z : ow_MS} {Q : (Int32 × ow_MS) → Prop} (H : Tt (fun K k => c_X10_goesOn vl K k 0 x1 x2 0 r0 z) Q) : Te (fun K => ce_X10_goesOn vl K r0 x1 x2 z) Q := w_te H
theorem u_X10_goesOn_0 {vl : Nat → Nat} {x1 : Int32} {x2 : Int32} {x3 : Int32} {r0 : Nat} {z : ow_MS} {Q : (Int32 × ow_MS) → Prop} (H : Tt (fun K k => cm_X10_goesOn_0 vl K (c_X10_goesOn vl K k) x1 x2 x3 r0 z) Q) : Tt (fun K k => c_X10_goesOn vl K k 0 x1 x2 x3 r0 z) Q := w_un (fun _ _ => rfl) H
end CSU
end
section
/-! 99zzzzzzm.csmt2 -/
/-! the class: Summit.find; summit has an answer -/
section CS2
variable {vl : Nat → Nat} {y : ow_MS} {h n l m : Nat}
theorem u_X10_gather_1 {vl : Nat → Nat} {x1 : Int32} {x2 : Int32} {x3 : Int32} {r0 : Nat} {z : ow_MS} {Q : (Int32 × ow_MS) → Prop} (H : Tt (fun K k => cm_X10_gather_1 vl K (c_X10_gather vl K k) x1 x2 x3 r0 z) Q) : Tt (fun K k => c_X10_gather vl K k 1 x1 x2 x3 r0 z) Q := w_un (fun _ _ => rfl) H
theorem u_X10_gather_2 {vl : Nat → Nat} {x1 : Int32} {x2 : Int32} {x3 : Int32} {r0 : Nat} {z : ow_MS} {Q : (Int32 × ow_MS) → Prop} (H : Tt (fun K k => cm_X10_gather_2 vl K (c_X10_gather vl K k) x1 x2 x3 r0 z) Q) : Tt (fun K k => c_X10_gather vl K k 2 x1 x2 x3 r0 z) Q := w_un (fun _ _ => rfl) H
theorem u_X10_gather_5 {vl : Nat → Nat} {x1 : Int32} {x2 : Int32} {x3 : Int32} {r0 : Nat} {z : ow_MS} {Q : (Int32 × ow_MS) → Prop} (H : Tt (fun K k => cm_X10_gather_5 vl K (c_X10_gather vl K k) x1 x2 x3 r0 z) Q) : Tt (fun K k => c_X10_gather vl K k 5 x1 x2 x3 r0 z) Q := w_un (fun _ _ => rfl) H
theorem u_X10_gather_4 {vl : Nat → Nat} {x1 : Int32} {x2 : Int32} {x3 : Int32} {r0 : Nat} {z : ow_MS} {Q : (Int32 × ow_MS) → Prop} (H : Tt (fun K k => cm_X10_gather_4 vl K (c_X10_gather vl K k) x1 x2 x3 r0 z) Q) : Tt (fun K k => c_X10_gather vl K k 4 x1 x2 x3 r0 z) Q := w_un (fun _ _ => rfl) H
theorem u_X10_gather_3 {vl : Nat → Nat} {x1 : Int32} {x2 : Int32} {x3 : Int32} {r0 : Nat} {z : ow_MS} {Q : (Int32 × ow_MS) → Prop} (H : Tt (fun K k => cm_X10_gather_3 vl K (c_X10_gather vl K k) x1 x2 x3 r0 z) Q) : Tt (fun K k => c_X10_gather vl K k 3 x1 x2 x3 r0 z) Q := w_un (fun _ _ => rfl) H
theorem e_X10_gather {vl : Nat → Nat} {r0 : Nat} {z : ow_MS} {Q : (Int32 × ow_MS) → Prop} (H : Tt (fun K k => c_X10_gather vl K k 0 0 0 0 r0 z) Q) : Te (fun K => ce_X10_gather vl K r0 z) Q := w_te H
theorem u_X10_gather_0 {vl : Nat → Nat} {x1 : Int32} {x2 : Int32} {x3 : Int32} {r0 : Nat} {z : ow_MS} {Q : (Int32 × ow_MS) → Prop} (H : Tt (fun K k => cm_X10_gather_0 vl K (c_X10_gather vl K k) x1 x2 x3 r0 z) Q) : Tt (fun K k => c_X10_gather vl K k 0 x1 x2 x3 r0 z) Q := w_un (fun _ _ => rfl) H
theorem u_X10_climb_4 {vl : Nat → Nat} {x1 : Int32} {x2 : Int32} {x3 : Int32} {r0 : Nat} {t0 : Int32} {z : ow_MS} {Q : ow_MS → Prop} (H : Tt (fun K k => cm_X10_climb_4 vl K (c_X10_climb vl K k) x1 x2 x3 r0 t0 z) Q) : Tt (fun K k => c_X10_climb vl K k 4 x1 x2 x3 r0 t0 z) Q := w_un (fun _ _ => rfl) H
theorem u_X10_climb_5 {vl : Nat → Nat} {x1 : Int32} {x2 : Int32} {x3 : Int32} {r0 : Nat} {t0 : Int32} {z : ow_MS} {Q : ow_MS → Prop} (H : Tt (fun K k => cm_X10_climb_5 vl K (c_X10_climb vl K k) x1 x2 x3 r0 t0 z) Q) : Tt (fun K k => c_X10_climb vl K k 5 x1 x2 x3 r0 t0 z) Q := w_un (fun _ _ => rfl) H
theorem u_X10_climb_3 {vl : Nat → Nat} {x1 : Int32} {x2 : Int32} {x3 : Int32} {r0 : Nat} {t0 : Int32} {z : ow_MS} {Q : ow_MS → Prop} (H : Tt (fun K k => cm_X10_climb_3 vl K (c_X10_climb vl K k) x1 x2 x3 r0 t0 z) Q) : Tt (fun K k => c_X10_climb vl K k 3 x1 x2 x3 r0 t0 z) Q := w_un (fun _ _ => rfl) H
theorem u_X10_climb_1 {vl : Nat → Nat} {x1 : Int32} {x2 : Int32} {x3 : Int32} {r0 : Nat} {t0 : Int32} {z : ow_MS} {Q : ow_MS → Prop} (H : Tt (fun K k => cm_X10_climb_1 vl K (c_X10_climb vl K k) x1 x2 x3 r0 t0 z) Q) : Tt (fun K k => c_X10_climb vl K k 1 x1 x2 x3 r0 t0 z) Q := w_un (fun _ _ => rfl) H
theorem u_X10_climb_2 {vl : Nat → Nat} {x1 : Int32} {x2 : Int32} {x3 : Int32} {r0 : Nat} {t0 : Int32} {z : ow_MS} {Q : ow_MS → Prop} (H : Tt (fun K k => cm_X10_climb_2 vl K (c_X10_climb vl K k) x1 x2 x3 r0 t0 z) Q) : Tt (fun K k => c_X10_climb vl K k 2 x1 x2 x3 r0 t0 z) Q := w_un (fun _ _ => rfl) H
theorem e_X10_climb {vl : Nat → Nat} {r0 : Nat} {z : ow_MS} {Q : ow_MS → Prop} (H : Tt (fun K k => c_X10_climb vl K k 0 0 0 0 r0 0 z) Q) : Te (fun K => ce_X10_climb vl K r0 z) Q := w_te H
theorem u_X10_climb_0 {vl : Nat → Nat} {x1 : Int32} {x2 : Int32} {x3 : Int32} {r0 : Nat} {t0 : Int32} {z : ow_MS} {Q : ow_MS → Prop} (H : Tt (fun K k => cm_X10_climb_0 vl K (c_X10_climb vl K k) x1 x2 x3 r0 t0 z) Q) : Tt (fun K k => c_X10_climb vl K k 0 x1 x2 x3 r0 t0 z) Q := w_un (fun _ _ => rfl) H
end CS2
end
section
/-! 99zzzzzzn.csmt3 -/
/-! the class: summit, conjugate have an answer -/
section CS3
variable {vl : Nat → Nat} {y : ow_MS} {h n : Nat}
theorem u_X10_changesOf_1 {vl : Nat → Nat} {x1 : Int32} {x2 : Int32} {x3 : Int32} {x4 : Int32} {r0 : Nat} {t0 : Int32} {t1 : Int32} {z : ow_MS} {Q : (Int32 × ow_MS) → Prop} (H : Tt (fun K k => cm_X10_changesOf_1 vl K (c_X10_changesOf vl K k) x1 x2 x3 x4 r0 t0 t1 z) Q) : Tt (fun K k => c_X10_changesOf vl K k 1 x1 x2 x3 x4 r0 t0 t1 z) Q := w_un (fun _ _ => rfl) H
theorem u_X10_changesOf_2 {vl : Nat → Nat} {x1 : Int32} {x2 : Int32} {x3 : Int32} {x4 : Int32} {r0 : Nat} {t0 : Int32} {t1 : Int32} {z : ow_MS} {Q : (Int32 × ow_MS) → Prop} (H : Tt (fun K k => cm_X10_changesOf_2 vl K (c_X10_changesOf vl K k) x1 x2 x3 x4 r0 t0 t1 z) Q) : Tt (fun K k => c_X10_changesOf vl K k 2 x1 x2 x3 x4 r0 t0 t1 z) Q := w_un (fun _ _ => rfl) H
theorem u_X10_changesOf_3 {vl : Nat → Nat} {x1 : Int32} {x2 : Int32} {x3 : Int32} {x4 : Int32} {r0 : Nat} {t0 : Int32} {t1 : Int32} {z : ow_MS} {Q : (Int32 × ow_MS) → Prop} (H : Tt (fun K k => cm_X10_changesOf_3 vl K (c_X10_changesOf vl K k) x1 x2 x3 x4 r0 t0 t1 z) Q) : Tt (fun K k => c_X10_changesOf vl K k 3 x1 x2 x3 x4 r0 t0 t1 z) Q := w_un (fun _ _ => rfl) H
theorem e_X10_changesOf {vl : Nat → Nat} {r0 : Nat} {x1 : Int32} {z : ow_MS} {Q : (Int32 × ow_MS) → Prop} (H : Tt (fun K k => c_X10_changesOf vl K k 0 x1 0 0 0 r0 0 0 z) Q) : Te (fun K => ce_X10_changesOf vl K r0 x1 z) Q := w_te H
theorem u_X10_changesOf_0 {vl : Nat → Nat} {x1 : Int32} {x2 : Int32} {x3 : Int32} {x4 : Int32} {r0 : Nat} {t0 : Int32} {t1 : Int32} {z : ow_MS} {Q : (Int32 × ow_MS) → Prop} (H : Tt (fun K k => cm_X10_changesOf_0 vl K (c_X10_changesOf vl K k) x1 x2 x3 x4 r0 t0 t1 z) Q) : Tt (fun K k => c_X10_changesOf vl K k 0 x1 x2 x3 x4 r0 t0 t1 z) Q := w_un (fun _ _ => rfl) H
theorem sh_n : ∀ k : Fin 5, (1 : Int32) <<< (((2 * nI k.val) : Int32) &&& 31) = nI (4 ^ k.val) := by decide +kernel
def lsP (h g : Nat) : Prop := h + 8 ≤ g ∧ g ≤ h + 11
theorem u_X10_listSimples_1 {vl : Nat → Nat} {x1 : Int32} {x2 : Int32} {x3 : Int32} {x4 : Int32} {x5 : Int32} {r0 : Nat} {t0 : Int32} {z : ow_MS} {Q : ow_MS → Prop} (H : Tt (fun K k => cm_X10_listSimples_1 vl K (c_X10_listSimples vl K k) x1 x2 x3 x4 x5 r0 t0 z) Q) : Tt (fun K k => c_X10_listSimples vl K k 1 x1 x2 x3 x4 x5 r0 t0 z) Q := w_un (fun _ _ => rfl) H
theorem u_X10_listSimples_2 {vl : Nat → Nat} {x1 : Int32} {x2 : Int32} {x3 : Int32} {x4 : Int32} {x5 : Int32} {r0 : Nat} {t0 : Int32} {z : ow_MS} {Q : ow_MS → Prop} (H : Tt (fun K k => cm_X10_listSimples_2 vl K (c_X10_listSimples vl K k) x1 x2 x3 x4 x5 r0 t0 z) Q) : Tt (fun K k => c_X10_listSimples vl K k 2 x1 x2 x3 x4 x5 r0 t0 z) Q := w_un (fun _ _ => rfl) H
theorem u_X10_listSimples_6 {vl : Nat → Nat} {x1 : Int32} {x2 : Int32} {x3 : Int32} {x4 : Int32} {x5 : Int32} {r0 : Nat} {t0 : Int32} {z : ow_MS} {Q : ow_MS → Prop} (H : Tt (fun K k => cm_X10_listSimples_6 vl K (c_X10_listSimples vl K k) x1 x2 x3 x4 x5 r0 t0 z) Q) : Tt (fun K k => c_X10_listSimples vl K k 6 x1 x2 x3 x4 x5 r0 t0 z) Q := w_un (fun _ _ => rfl) H
theorem u_X10_listSimples_5 {vl : Nat → Nat} {x1 : Int32} {x2 : Int32} {x3 : Int32} {x4 : Int32} {x5 : Int32} {r0 : Nat} {t0 : Int32} {z : ow_MS} {Q : ow_MS → Prop} (H : Tt (fun K k => cm_X10_listSimples_5 vl K (c_X10_listSimples vl K k) x1 x2 x3 x4 x5 r0 t0 z) Q) : Tt (fun K k => c_X10_listSimples vl K k 5 x1 x2 x3 x4 x5 r0 t0 z) Q := w_un (fun _ _ => rfl) H
theorem u_X10_listSimples_4 {vl : Nat → Nat} {x1 : Int32} {x2 : Int32} {x3 : Int32} {x4 : Int32} {x5 : Int32} {r0 : Nat} {t0 : Int32} {z : ow_MS} {Q : ow_MS → Prop} (H : Tt (fun K k => cm_X10_listSimples_4 vl K (c_X10_listSimples vl K k) x1 x2 x3 x4 x5 r0 t0 z) Q) : Tt (fun K k => c_X10_listSimples vl K k 4 x1 x2 x3 x4 x5 r0 t0 z) Q := w_un (fun _ _ => rfl) H
theorem u_X10_listSimples_3 {vl : Nat → Nat} {x1 : Int32} {x2 : Int32} {x3 : Int32} {x4 : Int32} {x5 : Int32} {r0 : Nat} {t0 : Int32} {z : ow_MS} {Q : ow_MS → Prop} (H : Tt (fun K k => cm_X10_listSimples_3 vl K (c_X10_listSimples vl K k) x1 x2 x3 x4 x5 r0 t0 z) Q) : Tt (fun K k => c_X10_listSimples vl K k 3 x1 x2 x3 x4 x5 r0 t0 z) Q := w_un (fun _ _ => rfl) H
theorem e_X10_listSimples {vl : Nat → Nat} {r0 : Nat} {z : ow_MS} {Q : ow_MS → Prop} (H : Tt (fun K k => c_X10_listSimples vl K k 0 0 0 0 0 0 r0 0 z) Q) : Te (fun K => ce_X10_listSimples vl K r0 z) Q := w_te H
theorem u_X10_listSimples_0 {vl : Nat → Nat} {x1 : Int32} {x2 : Int32} {x3 : Int32} {x4 : Int32} {x5 : Int32} {r0 : Nat} {t0 : Int32} {z : ow_MS} {Q : ow_MS → Prop} (H : Tt (fun K k => cm_X10_listSimples_0 vl K (c_X10_listSimples vl K k) x1 x2 x3 x4 x5 r0 t0 z) Q) : Tt (fun K k => c_X10_listSimples vl K k 0 x1 x2 x3 x4 x5 r0 t0 z) Q := w_un (fun _ _ => rfl) H
end CS3
end
section
/-! 99zzzzzzo.cfind -/
/-! the class: Summit.find; summit, conjugate have an answer -/
section CFI
variable {vl : Nat → Nat} {y : ow_MS} {h g n l m : Nat}
theorem e_X10_begin {vl : Nat → Nat} {r0 : Nat} {z : ow_MS} {Q : ow_MS → Prop} (H : Tt (fun K _ => cm_X10_begin_0 vl K r0 z) Q) : Te (fun K => ce_X10_begin vl K r0 z) Q := w_te0 H
theorem u_X10_find_1 {vl : Nat → Nat} {x2 : Int32} {r0 : Nat} {r1 : Nat} {z : ow_MS} {Q : (Int32 × ow_MS) → Prop} (H : Tt (fun K k => cm_X10_find_1 vl K (c_X10_find vl K k) x2 r0 r1 z) Q) : Tt (fun K k => c_X10_find vl K k 1 x2 r0 r1 z) Q := w_un (fun _ _ => rfl) H
theorem e_X10_find {vl : Nat → Nat} {r0 : Nat} {r1 : Nat} {z : ow_MS} {Q : (Int32 × ow_MS) → Prop} (H : Tt (fun K k => c_X10_find vl K k 0 0 r0 r1 z) Q) : Te (fun K => ce_X10_find vl K r0 r1 z) Q := w_te H
theorem u_X10_find_0 {vl : Nat → Nat} {x2 : Int32} {r0 : Nat} {r1 : Nat} {z : ow_MS} {Q : (Int32 × ow_MS) → Prop} (H : Tt (fun K k => cm_X10_find_0 vl K (c_X10_find vl K k) x2 r0 r1 z) Q) : Tt (fun K k => c_X10_find vl K k 0 x2 r0 r1 z) Q := w_un (fun _ _ => rfl) H
theorem u_X10_sameAs_1 {vl : Nat → Nat} {x2 : Int32} {r0 : Nat} {r1 : Nat} {z : ow_MS} {Q : (Int32 × ow_MS) → Prop} (H : Tt (fun K k => cm_X10_sameAs_1 vl K (c_X10_sameAs vl K k) x2 r0 r1 z) Q) : Tt (fun K k => c_X10_sameAs vl K k 1 x2 r0 r1 z) Q := w_un (fun _ _ => rfl) H
theorem e_X10_sameAs {vl : Nat → Nat} {r0 : Nat} {r1 : Nat} {z : ow_MS} {Q : (Int32 × ow_MS) → Prop} (H : Tt (fun K k => c_X10_sameAs vl K k 0 0 r0 r1 z) Q) : Te (fun K => ce_X10_sameAs vl K r0 r1 z) Q := w_te H
theorem u_X10_sameAs_0 {vl : Nat → Nat} {x2 : Int32} {r0 : Nat} {r1 : Nat} {z : ow_MS} {Q : (Int32 × ow_MS) → Prop} (H : Tt (fun K k => cm_X10_sameAs_0 vl K (c_X10_sameAs vl K k) x2 r0 r1 z) Q) : Tt (fun K k => c_X10_sameAs vl K k 0 x2 r0 r1 z) Q := w_un (fun _ _ => rfl) H
end CFI
def smP (g : Nat) : Prop := 46001 ≤ g ∧ g ≤ 51006
section CSM
variable {vl : Nat → Nat} {y : ow_MS} {x x' : Int32}
theorem e_X11_needFewStrands {vl : Nat → Nat} {r0 : Nat} {x1 : Int32} {z : ow_MS} {Q : (Nat × ow_MS) → Prop} (H : Tt (fun K _ => cm_X11_needFewStrands_0 vl K x1 r0 z) Q) : Te (fun K => ce_X11_needFewStrands vl K r0 x1 z) Q := w_te0 H
theorem so48 : sO 48000 := Or.inl rfl
theorem so50 : sO 50000 := Or.inr rfl
theorem e_X11_summit {vl : Nat → Nat} {r0 : Nat} {x1 : Int32} {z : ow_MS} {Q : (Nat × Int32 × ow_MS) → Prop} (H : Tt (fun K _ => cm_X11_summit_0 vl K x1 r0 z) Q) : Te (fun K => ce_X11_summit vl K r0 x1 z) Q := w_te0 H
theorem e_X11_conjugate {vl : Nat → Nat} {r0 : Nat} {x1 : Int32} {x2 : Int32} {z : ow_MS} {Q : (Nat × Int32 × ow_MS) → Prop} (H : Tt (fun K _ => cm_X11_conjugate_0 vl K x1 x2 r0 z) Q) : Te (fun K => ce_X11_conjugate vl K r0 x1 x2 z) Q := w_te0 H
end CSM
end
section
/-! 99zzzzzzp.cskn -/
/-! the class: the skein polynomial has an answer -/
section CSK
variable {vl : Nat → Nat} {y : ow_MS}
theorem w_crX {O : Type} {Q : O → Prop} {n j : Nat} {i : Int32} {E : Nat → Nat → Nat → Option O} (hi : i = nI j) (hj : j < n) (H : Tt (E j) Q) (hn : n < 2 ^ 31 := by omega) : Tt (fun K k => crX n i (fun v => E v K k)) Q := by
  have e : ∀ K k, crX n i (fun v => E v K k) = E j K k := fun K k => by
    unfold crX
    rw [hi, nI_clamp (by omega), if_neg (fun h9 => h9.elim (nI_pos (by omega)) (by omega))]
  obtain ⟨r, ⟨b, hb⟩, hr⟩ := H
  exact ⟨r, ⟨b, fun K k h1 h2 => (e K k).trans (hb K k h1 h2)⟩, hr⟩
theorem ch_24003 : ((cX vl).2 24003).2.1 = 13 := rfl
theorem ch_24004 : ((cX vl).2 24004).2.1 = 5289 := rfl
theorem ch_choose {j : Nat} (hj : j < 24) : ((cX vl).2 (24000 + 15001 + j)).2.1 = 24 := by
  have key : ∀ j, j < 24 → dynL.contains (24000 + 15001 + j) = false ∧ (cX_f (24000 + 15001 + j)).2.1 = 24 := by decide +kernel
  obtain ⟨k1, k2⟩ := key j hj
  show (if dynL.contains (24000 + 15001 + j) = true then (0, vl (24000 + 15001 + j), []) else cX_f (24000 + 15001 + j)).2.1 = 24
  rw [if_neg (by rw [k1]; decide)]
  exact k2
/-- the place of a term, or none -/
def tIx (a b : Int64) (r : Int32) : Prop := (r = -1 ∨ ∃ k, k < 5289 ∧ r = nI k)
theorem ti_c {x w : Int64} (h1 : ¬ lg_cmp x 0 < 0) (h2 : ¬ 0 ≤ lg_cmp x 129) (h3 : ¬ lg_cmp w 0 < 0) (h4 : lg_cmp w 41 < 0) : ∃ i, i < 5289 ∧ (x * 41 + w).toInt32 = nI i := by
  obtain ⟨a, ha, rfl⟩ := pk_lOf (fun h => h1 ((lg_cmp_lt _ _).mpr h))
  obtain ⟨b, hb, rfl⟩ := pk_lOf (fun h => h3 ((lg_cmp_lt _ _).mpr h))
  have h6 : a < 129 := by
    rcases Nat.lt_or_ge a 129 with q | q
    · exact q
    · exact absurd ((lg_cmp_ge _ _).mpr (Int64.not_lt.mp (fun h => by have := (pk_lLT ha (by decide : 129 < 2 ^ 63)).mp h; omega))) h2
  have h7 : b < 41 := (pk_lLT hb (by decide : 41 < 2 ^ 63)).mp ((lg_cmp_lt _ _).mp h4)
  refine ⟨a * 41 + b, by omega, ?_⟩
  have key : ∀ (a : Fin 129) (b : Fin 41), (lN a.val * 41 + lN b.val).toInt32 = nI (a.val * 41 + b.val) := by decide +kernel
  exact key ⟨a, by omega⟩ ⟨b, h7⟩
theorem u_X8_twoIndex_1 {vl : Nat → Nat} {w0 : Int64} {w2 : Int64} {w4 : Int64} {w6 : Int64} {z : ow_MS} {Q : (Int32 × ow_MS) → Prop} (H : Tt (fun K k => cm_X8_twoIndex_1 vl K (c_X8_twoIndex vl K k) w0 w2 w4 w6 z) Q) : Tt (fun K k => c_X8_twoIndex vl K k 1 w0 w2 w4 w6 z) Q := w_un (fun _ _ => rfl) H
theorem e_X8_twoIndex {vl : Nat → Nat} {w0 : Int64} {w2 : Int64} {z : ow_MS} {Q : (Int32 × ow_MS) → Prop} (H : Tt (fun K k => c_X8_twoIndex vl K k 0 w0 w2 0 0 z) Q) : Te (fun K => ce_X8_twoIndex vl K w0 w2 z) Q := w_te H
theorem u_X8_twoIndex_0 {vl : Nat → Nat} {w0 : Int64} {w2 : Int64} {w4 : Int64} {w6 : Int64} {z : ow_MS} {Q : (Int32 × ow_MS) → Prop} (H : Tt (fun K k => cm_X8_twoIndex_0 vl K (c_X8_twoIndex vl K k) w0 w2 w4 w6 z) Q) : Tt (fun K k => c_X8_twoIndex vl K k 0 w0 w2 w4 w6 z) Q := w_un (fun _ _ => rfl) H
theorem tc_twoIndex {a b : Int64} : Te (fun K => ce_X8_twoIndex vl K a b y) (fun r => tIx a b r.1 ∧ r.2 = y) := by
  have c1 : ∀ a b c d : Int64, Tt (fun K t => c_X8_twoIndex vl K t 1 a b c d y) (fun r => tIx a b r.1 ∧ r.2 = y) := by
    intro a b c d
    refine u_X8_twoIndex_1 ?_; unfold cm_X8_twoIndex_1
    exact w_some ⟨Or.inl rfl, rfl⟩
  refine e_X8_twoIndex ?_
  refine u_X8_twoIndex_0 ?_; unfold cm_X8_twoIndex_0
  refine w_if (fun _ => c1 _ _ _ _) (fun a1 => w_if (fun _ => c1 _ _ _ _) (fun a2 => w_if (fun _ => c1 _ _ _ _) (fun a3 => w_if (fun a4 => ?_) (fun _ => c1 _ _ _ _))))
  obtain ⟨k, hk, e⟩ := ti_c a1 a2 a3 a4
  exact w_some ⟨Or.inr ⟨k, hk, e⟩, rfl⟩
def acP (g : Nat) : Prop := g = 24003 ∨ g = 24004
theorem u_X8_addCircles_2 {vl : Nat → Nat} {x1 : Int32} {x2 : Int32} {x3 : Int32} {x4 : Int32} {x5 : Int32} {x6 : Int32} {x7 : Int32} {r0 : Nat} {t0 : Int32} {t1 : Int32} {t2 : Int32} {t3 : Int32} {z : ow_MS} {Q : ow_MS → Prop} (H : Tt (fun K k => cm_X8_addCircles_2 vl K (c_X8_addCircles vl K k) x1 x2 x3 x4 x5 x6 x7 r0 t0 t1 t2 t3 z) Q) : Tt (fun K k => c_X8_addCircles vl K k 2 x1 x2 x3 x4 x5 x6 x7 r0 t0 t1 t2 t3 z) Q := w_un (fun _ _ => rfl) H
theorem u_X8_addCircles_4 {vl : Nat → Nat} {x1 : Int32} {x2 : Int32} {x3 : Int32} {x4 : Int32} {x5 : Int32} {x6 : Int32} {x7 : Int32} {r0 : Nat} {t0 : Int32} {t1 : Int32} {t2 : Int32} {t3 : Int32} {z : ow_MS} {Q : ow_MS → Prop} (H : Tt (fun K k => cm_X8_addCircles_4 vl K (c_X8_addCircles vl K k) x1 x2 x3 x4 x5 x6 x7 r0 t0 t1 t2 t3 z) Q) : Tt (fun K k => c_X8_addCircles vl K k 4 x1 x2 x3 x4 x5 x6 x7 r0 t0 t1 t2 t3 z) Q := w_un (fun _ _ => rfl) H
theorem u_X8_addCircles_3 {vl : Nat → Nat} {x1 : Int32} {x2 : Int32} {x3 : Int32} {x4 : Int32} {x5 : Int32} {x6 : Int32} {x7 : Int32} {r0 : Nat} {t0 : Int32} {t1 : Int32} {t2 : Int32} {t3 : Int32} {z : ow_MS} {Q : ow_MS → Prop} (H : Tt (fun K k => cm_X8_addCircles_3 vl K (c_X8_addCircles vl K k) x1 x2 x3 x4 x5 x6 x7 r0 t0 t1 t2 t3 z) Q) : Tt (fun K k => c_X8_addCircles vl K k 3 x1 x2 x3 x4 x5 x6 x7 r0 t0 t1 t2 t3 z) Q := w_un (fun _ _ => rfl) H
theorem u_X8_addCircles_1 {vl : Nat → Nat} {x1 : Int32} {x2 : Int32} {x3 : Int32} {x4 : Int32} {x5 : Int32} {x6 : Int32} {x7 : Int32} {r0 : Nat} {t0 : Int32} {t1 : Int32} {t2 : Int32} {t3 : Int32} {z : ow_MS} {Q : ow_MS → Prop} (H : Tt (fun K k => cm_X8_addCircles_1 vl K (c_X8_addCircles vl K k) x1 x2 x3 x4 x5 x6 x7 r0 t0 t1 t2 t3 z) Q) : Tt (fun K k => c_X8_addCircles vl K k 1 x1 x2 x3 x4 x5 x6 x7 r0 t0 t1 t2 t3 z) Q := w_un (fun _ _ => rfl) H
theorem e_X8_addCircles {vl : Nat → Nat} {r0 : Nat} {x1 : Int32} {x2 : Int32} {x3 : Int32} {x4 : Int32} {z : ow_MS} {Q : ow_MS → Prop} (H : Tt (fun K k => c_X8_addCircles vl K k 0 x1 x2 x3 x4 0 0 0 r0 0 0 0 0 z) Q) : Te (fun K => ce_X8_addCircles vl K r0 x1 x2 x3 x4 z) Q := w_te H
theorem u_X8_addCircles_0 {vl : Nat → Nat} {x1 : Int32} {x2 : Int32} {x3 : Int32} {x4 : Int32} {x5 : Int32} {x6 : Int32} {x7 : Int32} {r0 : Nat} {t0 : Int32} {t1 : Int32} {t2 : Int32} {t3 : Int32} {z : ow_MS} {Q : ow_MS → Prop} (H : Tt (fun K k => cm_X8_addCircles_0 vl K (c_X8_addCircles vl K k) x1 x2 x3 x4 x5 x6 x7 r0 t0 t1 t2 t3 z) Q) : Tt (fun K k => c_X8_addCircles vl K k 0 x1 x2 x3 x4 x5 x6 x7 r0 t0 t1 t2 t3 z) Q := w_un (fun _ _ => rfl) H
theorem tc_addCircles {q z : Nat} {f xp : Int32} (hq : q < 100) (hz : z ≤ 12) : Te (fun K => ce_X8_addCircles vl K 24000 (nI q) f xp (nI z) y) (fun y1 => fr acP y y1) := by
  let Q : ow_MS → Prop := fun y1 => fr acP y y1
  have c2 : ∀ (d j : Nat) (y1 : ow_MS), j + d = q → fr acP y y1 → Tt (fun K t => c_X8_addCircles vl K t 2 (nI q) f xp (nI z) (nI q - 1) (nI j) 0 24000 0 0 0 0 y1) Q := by
    intro d
    induction d with
    | zero =>
      intro j y1 hj hf
      have e : nI q - 1 < nI j := by
        rw [show j = q by omega]
        rcases Nat.eq_zero_or_pos q with h0 | h0
        · rw [h0]
          decide
        · rw [show nI q - 1 = nI (q - 1) from pk_sub (b := 1) h0]
          exact nI_lt (by omega) (by omega)
      refine u_X8_addCircles_2 ?_; unfold cm_X8_addCircles_2
      exact w_ifT e (w_some hf)
    | succ d ih =>
      intro j y1 hj hf
      have e5 : nI q - 1 = nI (q - 1) := pk_sub (b := 1) (by omega)
      have c4 : ∀ (x7 : Int32) (y2 : ow_MS), fr acP y y2 → Tt (fun K t => c_X8_addCircles vl K t 4 (nI q) f xp (nI z) (nI q - 1) (nI j) x7 24000 0 0 0 0 y2) Q := by
        intro x7 y2 hf2
        refine u_X8_addCircles_4 ?_; unfold cm_X8_addCircles_4
        rw [nI_1]
        exact ih (j + 1) y2 (by omega) hf2
      refine u_X8_addCircles_2 ?_; unfold cm_X8_addCircles_2
      rw [e5]
      rw [e5] at c4
      refine w_ltF (by omega) (by omega) (w_le (a := 24) (by omega) (by omega) (fun _ => w_some hf) (fun h24 => w_cs1 tc_twoIndex ?_))
      rintro v y2 ⟨h2, e2⟩
      dsimp only at h2 e2
      rw [e2]
      refine w_if (fun _ => c4 _ _ hf) (fun hv => ?_)
      rcases h2 with h2 | ⟨k, hk, rfl⟩
      · exact absurd h2 hv
      · have c3 : ∀ (t0 t1 t2 : Int32), Tt (fun K t => c_X8_addCircles vl K t 3 (nI q) f xp (nI z) (nI (q - 1)) (nI j) (nI k) 24000 t0 t1 t2 (nI k) y1) Q := by
          intro t0 t1 t2
          refine u_X8_addCircles_3 ?_; unfold cm_X8_addCircles_3
          exact w_ctI ch_24004 rfl hk (c4 _ _ (fr_I2 hf (Or.inr rfl)))
        exact w_crI ch_24004 rfl hk rfl (w_crX rfl (show q - 1 < 24 by omega) (w_crI (ch_choose (show q - 1 < 24 by omega)) rfl (show j < 24 by omega) rfl (w_if (fun _ => c3 _ _ _) (fun _ => c3 _ _ _))))
  have c1 : ∀ (y1 : ow_MS), fr acP y y1 → Tt (fun K t => c_X8_addCircles vl K t 1 (nI q) f xp (nI z) (nI q - 1) 0 0 24000 0 0 0 0 y1) Q := by
    intro y1 hf
    refine u_X8_addCircles_1 ?_; unfold cm_X8_addCircles_1
    exact c2 q 0 y1 (by omega) hf
  refine e_X8_addCircles ?_
  refine u_X8_addCircles_0 ?_; unfold cm_X8_addCircles_0
  rw [show uw_len (cX vl) y (24000 + 3) = 13 from rfl]
  exact w_if (fun _ => w_le (a := 13) (by omega) (by omega) (fun _ => c1 y fr_rf) (fun _ => w_crI ch_24003 rfl (show z < 13 by omega) rfl (w_ctI ch_24003 rfl (show z < 13 by omega) (c1 _ (fr_I (Or.inl rfl)))))) (fun _ => c1 y fr_rf)
end CSK
end
section
/-! 99zzzzzzq.cunf -/
/-! the class: unfold has an answer -/
abbrev lv (L : Nat) : Nat := 24000 + 2000 + 1000 * L
theorem lv_nH {L : Nat} (h : L ≤ 12) : nH (lv L) := by
  have key : ∀ L, L < 13 → lv L ∈ nHL := by decide
  exact key L (by omega)
theorem uf_bits : ∀ v : Fin 24, (nI v.val >>> ((1 : Int32) &&& 31)) = nI (v.val / 2) ∧ nI v.val ^^^ 1 = nI (mt v.val) := by decide +kernel
def nvL (L : Nat) (T : ow_NT) : Prop := vn T.1 T.2.2.1 ∧ T.1 ≤ 12 ∧ ow_b24 T.2.2.1 ∧ T.2.1 ≤ 6 + 2 * L
theorem nvL_flip {L x : Nat} {T : ow_NT} {G : Nat → Int32} (h : nvL L T) (hx : x < T.1) : nvL L (T.1, T.2.1, np_swap T.2.2.1 (2 * x) (2 * x + 1), G) := by
  obtain ⟨h1, h2, h3, h4⟩ := h
  exact ⟨vD_vn.mp (vD_swap (vD_vn.mpr h1) (by omega) (by omega)), h2, np_swap_b24 h3 (by omega) (by omega), h4⟩
theorem nvL_sm {L x : Nat} {Q R : ow_NT} (h : nvL L R) (hQ : ow_b24 Q.2.2.1) (hx : x < R.1) : nvL (L + 1) (nt_rm (ntS (nt_copy Q R) (np_exchange (nt_copy Q R).2.2.1 (2 * x) (2 * x + 1))) x) := by
  obtain ⟨h1, h2, h3, h4⟩ := h
  have v1 := vn_copy (Q := Q) h1
  have b1 := nt_copy_b24 hQ h3
  have v2 := vn_exchange v1 (show 2 * x < 2 * R.1 by omega) (show 2 * x + 1 < 2 * R.1 by omega)
  have b2 := b24_exchange b1 (show 2 * x < 24 by omega) (show 2 * x + 1 < 24 by omega)
  generalize hS : np_exchange (nt_copy Q R).2.2.1 (2 * x) (2 * x + 1) = S at *
  obtain ⟨c1, hc1⟩ : ∃ c1, R.1 = c1 + 1 := ⟨R.1 - 1, by omega⟩
  refine ⟨?_, ?_, np_rmS_b24 b2 (by omega), ?_⟩
  · show vn (R.1 - 1) (np_rmS S x (R.1 - 1))
    rw [hc1] at v2 ⊢
    exact vn_rm v2 (by omega)
  · show R.1 - 1 ≤ 12
    omega
  · show np_rmN S x R.2.1 ≤ 6 + 2 * (L + 1)
    unfold np_rmN np_cutN
    split <;> split <;> omega
def lvS (z : ow_MS) : Prop := ∀ j, j ≤ 12 → ∃ T, cAt z (lv j) T ∧ ow_b24 T.2.2.1
def unP (L g : Nat) : Prop := g = 24003 ∨ g = 24004 ∨ 26001 + 1000 * L ≤ g ∧ g ≤ 38011
theorem lvS_fr {P : Nat → Prop} {y z : ow_MS} {L : Nat} (hf : fr P y z) (hP : ∀ g, P g → lv L + 1 ≤ g ∧ g ≤ lv L + 11 ∨ g < 26000) (hT : ∃ T, cAt z (lv L) T ∧ ow_b24 T.2.2.1) (h : lvS y) : lvS z := by
  intro j hj
  by_cases e : j = L
  · rw [e]
    exact hT
  · obtain ⟨T, t1, t2⟩ := h j hj
    refine ⟨T, cAt_fr hf (fun g hg h9 => ?_) t1, t2⟩
    have := hP g h9
    unfold cP at hg
    unfold lv at hg this
    omega
theorem cP_in {h g : Nat} (hg : cP h g) : h + 1 ≤ g ∧ g ≤ h + 11 := by
  unfold cP at hg
  omega
section CUN
variable {vl : Nat → Nat} {y : ow_MS} {f xp : Int32}
theorem w_cdU {dd r0 : Nat} {x1 x2 x3 x4 : Int32} {z : ow_MS} {Q : ow_MS → Prop} (H : Tt (fun K k => c_X8_unfold vl K (cd0_X8_unfold vl K dd) k 0 x1 x2 x3 x4 0 0 0 0 0 0 0 0 0 0 r0 0 z) Q) : Te (fun K => cd0_X8_unfold vl K (dd + 1) r0 x1 x2 x3 x4 z) Q := w_te H
theorem u_X8_unfold_1 {dd : Nat} {vl : Nat → Nat} {x1 : Int32} {x2 : Int32} {x3 : Int32} {x4 : Int32} {x6 : Int32} {x7 : Int32} {x8 : Int32} {x9 : Int32} {x10 : Int32} {x11 : Int32} {x12 : Int32} {x13 : Int32} {x14 : Int32} {x15 : Int32} {r0 : Nat} {r5 : Nat} {z : ow_MS} {Q : ow_MS → Prop} (H : Tt (fun K k => cm_X8_unfold_1 vl K (cd0_X8_unfold vl K dd) (c_X8_unfold vl K (cd0_X8_unfold vl K dd) k) x1 x2 x3 x4 x6 x7 x8 x9 x10 x11 x12 x13 x14 x15 r0 r5 z) Q) : Tt (fun K k => c_X8_unfold vl K (cd0_X8_unfold vl K dd) k 1 x1 x2 x3 x4 x6 x7 x8 x9 x10 x11 x12 x13 x14 x15 r0 r5 z) Q := w_un (fun _ _ => rfl) H
theorem u_X8_unfold_5 {dd : Nat} {vl : Nat → Nat} {x1 : Int32} {x2 : Int32} {x3 : Int32} {x4 : Int32} {x6 : Int32} {x7 : Int32} {x8 : Int32} {x9 : Int32} {x10 : Int32} {x11 : Int32} {x12 : Int32} {x13 : Int32} {x14 : Int32} {x15 : Int32} {r0 : Nat} {r5 : Nat} {z : ow_MS} {Q : ow_MS → Prop} (H : Tt (fun K k => cm_X8_unfold_5 vl K (cd0_X8_unfold vl K dd) (c_X8_unfold vl K (cd0_X8_unfold vl K dd) k) x1 x2 x3 x4 x6 x7 x8 x9 x10 x11 x12 x13 x14 x15 r0 r5 z) Q) : Tt (fun K k => c_X8_unfold vl K (cd0_X8_unfold vl K dd) k 5 x1 x2 x3 x4 x6 x7 x8 x9 x10 x11 x12 x13 x14 x15 r0 r5 z) Q := w_un (fun _ _ => rfl) H
theorem u_X8_unfold_2 {dd : Nat} {vl : Nat → Nat} {x1 : Int32} {x2 : Int32} {x3 : Int32} {x4 : Int32} {x6 : Int32} {x7 : Int32} {x8 : Int32} {x9 : Int32} {x10 : Int32} {x11 : Int32} {x12 : Int32} {x13 : Int32} {x14 : Int32} {x15 : Int32} {r0 : Nat} {r5 : Nat} {z : ow_MS} {Q : ow_MS → Prop} (H : Tt (fun K k => cm_X8_unfold_2 vl K (cd0_X8_unfold vl K dd) (c_X8_unfold vl K (cd0_X8_unfold vl K dd) k) x1 x2 x3 x4 x6 x7 x8 x9 x10 x11 x12 x13 x14 x15 r0 r5 z) Q) : Tt (fun K k => c_X8_unfold vl K (cd0_X8_unfold vl K dd) k 2 x1 x2 x3 x4 x6 x7 x8 x9 x10 x11 x12 x13 x14 x15 r0 r5 z) Q := w_un (fun _ _ => rfl) H
theorem u_X8_unfold_4 {dd : Nat} {vl : Nat → Nat} {x1 : Int32} {x2 : Int32} {x3 : Int32} {x4 : Int32} {x6 : Int32} {x7 : Int32} {x8 : Int32} {x9 : Int32} {x10 : Int32} {x11 : Int32} {x12 : Int32} {x13 : Int32} {x14 : Int32} {x15 : Int32} {r0 : Nat} {r5 : Nat} {z : ow_MS} {Q : ow_MS → Prop} (H : Tt (fun K k => cm_X8_unfold_4 vl K (cd0_X8_unfold vl K dd) (c_X8_unfold vl K (cd0_X8_unfold vl K dd) k) x1 x2 x3 x4 x6 x7 x8 x9 x10 x11 x12 x13 x14 x15 r0 r5 z) Q) : Tt (fun K k => c_X8_unfold vl K (cd0_X8_unfold vl K dd) k 4 x1 x2 x3 x4 x6 x7 x8 x9 x10 x11 x12 x13 x14 x15 r0 r5 z) Q := w_un (fun _ _ => rfl) H
theorem u_X8_unfold_3 {dd : Nat} {vl : Nat → Nat} {x1 : Int32} {x2 : Int32} {x3 : Int32} {x4 : Int32} {x6 : Int32} {x7 : Int32} {x8 : Int32} {x9 : Int32} {x10 : Int32} {x11 : Int32} {x12 : Int32} {x13 : Int32} {x14 : Int32} {x15 : Int32} {r0 : Nat} {r5 : Nat} {z : ow_MS} {Q : ow_MS → Prop} (H : Tt (fun K k => cm_X8_unfold_3 vl K (cd0_X8_unfold vl K dd) (c_X8_unfold vl K (cd0_X8_unfold vl K dd) k) x1 x2 x3 x4 x6 x7 x8 x9 x10 x11 x12 x13 x14 x15 r0 r5 z) Q) : Tt (fun K k => c_X8_unfold vl K (cd0_X8_unfold vl K dd) k 3 x1 x2 x3 x4 x6 x7 x8 x9 x10 x11 x12 x13 x14 x15 r0 r5 z) Q := w_un (fun _ _ => rfl) H
theorem u_X8_unfold_0 {dd : Nat} {vl : Nat → Nat} {x1 : Int32} {x2 : Int32} {x3 : Int32} {x4 : Int32} {x6 : Int32} {x7 : Int32} {x8 : Int32} {x9 : Int32} {x10 : Int32} {x11 : Int32} {x12 : Int32} {x13 : Int32} {x14 : Int32} {x15 : Int32} {r0 : Nat} {r5 : Nat} {z : ow_MS} {Q : ow_MS → Prop} (H : Tt (fun K k => cm_X8_unfold_0 vl K (cd0_X8_unfold vl K dd) (c_X8_unfold vl K (cd0_X8_unfold vl K dd) k) x1 x2 x3 x4 x6 x7 x8 x9 x10 x11 x12 x13 x14 x15 r0 r5 z) Q) : Tt (fun K k => c_X8_unfold vl K (cd0_X8_unfold vl K dd) k 0 x1 x2 x3 x4 x6 x7 x8 x9 x10 x11 x12 x13 x14 x15 r0 r5 z) Q := w_un (fun _ _ => rfl) H
theorem tc_unfS {L dd : Nat} {T : ow_NT} (hL : L ≤ 12) (hself : L < 12 → ∀ (R : ow_NT) (f xp : Int32) (z : ow_MS), lvS z → cAt z (lv (L + 1)) R → nvL (L + 1) R → Te (fun K => cd0_X8_unfold vl K dd 24000 (nI (L + 1)) f xp (nI (L + 1)) z) (fun z1 => lvS z1 ∧ fr (unP (L + 1)) z z1)) (h0 : lvS y) (hT : cAt y (lv L) T) (hv : nvL L T) : Te (fun K => cd0_X8_unfold vl K (dd + 1) 24000 (nI L) f xp (nI L) y) (fun z1 => lvS z1 ∧ fr (unP L) y z1) := by
  have hh := lv_nH hL
  obtain ⟨c, hc⟩ : ∃ c, T.1 = c := ⟨_, rfl⟩
  have c12 : c ≤ 12 := hc ▸ hv.2.1
  let Q : ow_MS → Prop := fun z1 => lvS z1 ∧ fr (unP L) y z1
  let J : ow_MS → ow_NT → Prop := fun z R => lvS z ∧ cAt z (lv L) R ∧ nvL L R ∧ R.1 = c ∧ fr (unP L) y z
  have c1 : ∀ (d s r : Nat) (pw me go : Int32) (z : ow_MS) (R : ow_NT), s + d = 2 * c → r ≤ s → J z R → Tt (fun K t => c_X8_unfold vl K (cd0_X8_unfold vl K dd) t 1 (nI L) f xp (nI L) (nI (2 * c)) pw me go (nI r) (nI s) 0 0 0 0 24000 (lv L) z) Q := by
    intro d
    induction d with
    | zero =>
      rintro s r pw me go z R hs hr ⟨j1, j2, j3, j4, j5⟩
      have jc := j3.2.2.2
      refine u_X8_unfold_1 ?_; unfold cm_X8_unfold_1
      refine w_leT (by omega) (by omega) (w_rdF j2.2.1 ?_)
      rw [nI_add]
      refine w_cs0 (tc_addCircles (show r + R.2.1 < 100 by omega) hL) ?_
      rintro z1 f1
      exact w_some ⟨fun j hj => by
        obtain ⟨T1, t1, t2⟩ := j1 j hj
        exact ⟨T1, cAt_fr f1 (fun g hg h9 => by unfold cP lv at hg; unfold acP at h9; omega) t1, t2⟩, fr_tr j5 (fr_mono (fun g hg => by unfold acP at hg; unfold unP; omega) f1)⟩
    | succ d ih =>
      rintro s r pw me go z R hs hr hJ
      have c5 : ∀ (r : Nat) (pw me go : Int32) (z : ow_MS) (R : ow_NT), r ≤ s + 1 → J z R → Tt (fun K t => c_X8_unfold vl K (cd0_X8_unfold vl K dd) t 5 (nI L) f xp (nI L) (nI (2 * c)) pw me go (nI r) (nI s) 0 0 0 0 24000 (lv L) z) Q := by
        intro r pw me go z R hr hJ
        refine u_X8_unfold_5 ?_; unfold cm_X8_unfold_5
        rw [nI_1]
        exact ih (s + 1) r pw me go z R (by omega) hr hJ
      have c2 : ∀ (e i v : Nat) (pw me go : Int32) (z : ow_MS) (R : ow_NT), i + e = 2 * c → v < 2 * c → J z R → Tt (fun K t => c_X8_unfold vl K (cd0_X8_unfold vl K dd) t 2 (nI L) f xp (nI L) (nI (2 * c)) pw me go (nI (r + 1)) (nI s) (nI v) (nI i) 0 0 24000 (lv L) z) Q := by
        intro e
        induction e with
        | zero =>
          rintro i v pw me go z R hi hv2 hJ
          refine u_X8_unfold_2 ?_; unfold cm_X8_unfold_2
          exact w_leT (by omega) (by omega) (c5 (r + 1) pw me go z R (by omega) hJ)
        | succ e ihe =>
          rintro i v pw me go z R hi hv2 hJ
          obtain ⟨j1, j2, j3, j4, j5⟩ := id hJ
          obtain ⟨b1, b2⟩ := uf_bits ⟨v, by omega⟩
          dsimp only at b1 b2
          have c4 : ∀ (v' : Nat) (pw x14 : Int32) (z : ow_MS) (R : ow_NT), v' < 2 * c → J z R → Tt (fun K t => c_X8_unfold vl K (cd0_X8_unfold vl K dd) t 4 (nI L) f xp (nI L) (nI (2 * c)) pw me go (nI (r + 1)) (nI s) (nI v') (nI i) x14 0 24000 (lv L) z) Q := by
            rintro v' pw x14 z R hv' hJ
            have hn := (hJ.2.2.1.1 v' (by rw [hJ.2.2.2.1]; exact hv')).1
            rw [hJ.2.2.2.1] at hn
            refine u_X8_unfold_4 ?_; unfold cm_X8_unfold_4
            rw [nI_1]
            exact w_crI (nH_1 hh) rfl (show v' < 24 by omega) (hJ.2.1.2.2.1 v') (ihe (i + 1) _ pw _ _ z R (by omega) hn hJ)
          have c3 : ∀ (x15 : Int32) (z : ow_MS) (R : ow_NT), J z R → Tt (fun K t => c_X8_unfold vl K (cd0_X8_unfold vl K dd) t 3 (nI L) f xp (nI L) (nI (2 * c)) pw me go (nI (r + 1)) (nI s) (nI v) (nI i) (nI (v / 2)) x15 24000 (lv L) z) Q := by
            rintro x15 z R ⟨j1, j2, j3, j4, j5⟩
            refine u_X8_unfold_3 ?_; unfold cm_X8_unfold_3
            rw [b2]
            refine w_cs0 (tc_flipCrossing hh j2 j3.2.2.1 (show v / 2 < 12 by omega)) ?_
            rintro z1 ⟨g1, g2⟩
            have n1 := nvL_flip (x := v / 2) (G := su R.2.2.2 (v / 2) (- R.2.2.2 (v / 2))) j3 (by omega)
            exact c4 (mt v) _ _ z1 _ (mt_lt hv2) ⟨lvS_fr (L := L) g2 (fun g hg => Or.inl (cP_in hg)) ⟨_, g1, n1.2.2.1⟩ j1, g1, n1, j4, fr_tr j5 (fr_mono (fun g hg => by unfold cP lv at hg; unfold unP; omega) g2)⟩
          refine u_X8_unfold_2 ?_; unfold cm_X8_unfold_2
          rw [b1, show Int32.ofNat ((cX vl).2 (24000 + 2)).2.1 = nI 13 from rfl]
          refine w_leF (by omega) (by omega) (w_if (fun _ => w_if (fun _ => w_if (fun _ => w_crI (nH_3 hh) rfl (show v / 2 < 12 by omega) rfl ?_) (fun _ => c4 v _ _ z R hv2 hJ)) (fun _ => c4 v _ _ z R hv2 hJ)) (fun _ => c5 (r + 1) pw me go z R (by omega) hJ))
          rw [nI_1 L]
          refine w_le (by omega) (by omega) (fun _ => c3 _ z R hJ) (fun h13 => ?_)
          have hh1 := lv_nH (show L + 1 ≤ 12 by omega)
          obtain ⟨T', t1, t2⟩ := j1 (L + 1) (by omega)
          refine w_crX rfl (show L + 1 < 13 by omega) (w_cs0 (tc_copy hh1 hh (by unfold nDj lv; omega) t1 j2 j3.2.1) ?_)
          rintro z1 ⟨g1, g2⟩
          refine w_crX rfl (show L + 1 < 13 by omega) (w_cs0 (tc_smoothCrossing hh1 g1 (nt_copy_b24 t2 j3.2.2.1) (show v / 2 < R.1 by omega) j3.2.1) ?_)
          rintro z2 ⟨g3, g4⟩
          have n2 := nvL_sm (Q := T') (x := v / 2) j3 t2 (by omega)
          have f2 : fr (cP (lv (L + 1))) z z2 := fr_tr g2 g4
          have l2 : lvS z2 := lvS_fr (L := L + 1) f2 (fun g hg => Or.inl (cP_in hg)) ⟨_, g3, n2.2.2.1⟩ j1
          refine w_cs0 (hself (by omega) _ _ _ z2 l2 g3 n2) ?_
          rintro z3 ⟨l3, f3⟩
          have f23 : fr (unP (L + 1)) z z3 := fr_tr (fr_mono (fun g hg => by unfold cP lv at hg; unfold unP; omega) f2) f3
          exact c3 _ z3 R ⟨l3, cAt_fr f23 (fun g hg h9 => by unfold cP lv at hg; unfold unP at h9; omega) j2, j3, j4, fr_tr j5 (fr_mono (fun g hg => by unfold unP at hg ⊢; omega) f23)⟩
      refine u_X8_unfold_1 ?_; unfold cm_X8_unfold_1
      refine w_leF (by omega) (by omega) (w_if (fun _ => ?_) (fun _ => c5 r pw me go z R (by omega) hJ))
      rw [nI_1]
      exact c2 (2 * c) 0 s pw me go z R (by omega) (by omega) hJ
  refine w_cdU ?_
  refine u_X8_unfold_0 ?_; unfold cm_X8_unfold_0
  refine w_crX rfl (show L < 13 by omega) (w_rdF hT.1 ?_)
  rw [hc, rn_mul2]
  exact c1 (2 * c) 0 0 _ _ _ y T (by omega) (by omega) ⟨h0, hT, hv, hc, fr_rf⟩
theorem tc_unfD : ∀ (d L : Nat), L + d = 12 → ∀ (R : ow_NT) (f xp : Int32) (z : ow_MS), lvS z → cAt z (lv L) R → nvL L R → Te (fun K => cd0_X8_unfold vl K (d + 3) 24000 (nI L) f xp (nI L) z) (fun z1 => lvS z1 ∧ fr (unP L) z z1) := by
  intro d
  induction d with
  | zero =>
    intro L hL R f xp z h0 hT hv
    exact tc_unfS (dd := 2) (by omega) (fun h => absurd h (by omega)) h0 hT hv
  | succ d ih =>
    intro L hL R f xp z h0 hT hv
    exact tc_unfS (dd := d + 3) (by omega) (fun _ => ih (L + 1) (by omega)) h0 hT hv
theorem tc_unfold {R : ow_NT} (h0 : lvS y) (hT : cAt y (lv 0) R) (hv : nvL 0 R) : Te (fun K => ce_X8_unfold vl K 24000 0 f xp 0 y) (fun z1 => lvS z1 ∧ fr (unP 0) y z1) := tc_unfD 12 0 rfl R f xp y h0 hT hv
end CUN
end
section
/-! 99zzzzzzr.ccwy -/
/-! the class: conway and two have an answer -/
/-- the codes of the latest diagrams; the net of states -/
def knC (y : ow_MS) : Prop := byR y 25001 ∧ (∀ s, s < 2 → ∃ C, slC y 25000 s C ∧ cOK C) ∧ ∃ c, c ≤ 12 ∧ y.1 40008 = nI c
theorem knC_fr {P : Nat → Prop} {y y1 : ow_MS} (hf : fr P y y1) (hP : ∀ g, P g → ¬ (25001 ≤ g ∧ g ≤ 25003 ∨ g = 40008)) (h : knC y) : knC y1 := by
  obtain ⟨h1, h2, c, h3, h4⟩ := h
  refine ⟨byR_fr hf (fun h9 => hP _ h9 (by omega)) h1, fun s hs => ?_, c, h3, (hf 40008 (fun h9 => hP _ h9 (by omega))).1.trans h4⟩
  obtain ⟨C, c1, c2⟩ := h2 s hs
  exact ⟨C, slC_fr hf (fun q hq h9 => hP _ h9 (by unfold cW at hq; omega)) c1, c2⟩
theorem tH25 : tH 25000 2 := by
  unfold tH tHL
  decide
theorem cL_in {h g : Nat} (hg : cL h g) : h + 1 ≤ g ∧ g ≤ h + 11 := by
  unfold cL at hg
  omega
section CCW
variable {vl : Nat → Nat} {y : ow_MS}
theorem u_X8_isKnown_1 {vl : Nat → Nat} {x1 : Int32} {x3 : Int32} {r0 : Nat} {r2 : Nat} {z : ow_MS} {Q : (Int32 × ow_MS) → Prop} (H : Tt (fun K k => cm_X8_isKnown_1 vl K (c_X8_isKnown vl K k) x1 x3 r0 r2 z) Q) : Tt (fun K k => c_X8_isKnown vl K k 1 x1 x3 r0 r2 z) Q := w_un (fun _ _ => rfl) H
theorem e_X8_isKnown {vl : Nat → Nat} {r0 : Nat} {x1 : Int32} {r2 : Nat} {x3 : Int32} {z : ow_MS} {Q : (Int32 × ow_MS) → Prop} (H : Tt (fun K k => c_X8_isKnown vl K k 0 x1 x3 r0 r2 z) Q) : Te (fun K => ce_X8_isKnown vl K r0 x1 r2 x3 z) Q := w_te H
theorem u_X8_isKnown_0 {vl : Nat → Nat} {x1 : Int32} {x3 : Int32} {r0 : Nat} {r2 : Nat} {z : ow_MS} {Q : (Int32 × ow_MS) → Prop} (H : Tt (fun K k => cm_X8_isKnown_0 vl K (c_X8_isKnown vl K k) x1 x3 r0 r2 z) Q) : Tt (fun K k => c_X8_isKnown vl K k 0 x1 x3 r0 r2 z) Q := w_un (fun _ _ => rfl) H
theorem tc_isKnown {g' p' s s' : Nat} {B : cdT} (hs : s < 2) (hg' : tH g' p') (hd : g' + 6 ≤ 25000) (hs' : s' < p') (hb : slC y g' s' B) (ob : cOK B) (hby : byR y (g' + 1)) (hk : knC y) : Te (fun K => ce_X8_isKnown vl K 24000 (nI s) g' (nI s') y) (fun r => (r.1 = 1 ∧ r.2 = y ∨ r.1 = 0 ∧ slC r.2 25000 s B) ∧ knC r.2 ∧ fr (cW 25000) y r.2) := by
  obtain ⟨k1, k2, k3⟩ := id hk
  obtain ⟨C, c1, c2⟩ := k2 s hs
  have go1 : Tt (fun K t => c_X8_isKnown vl K t 1 (nI s) (nI s') 24000 g' y) (fun r => (r.1 = 1 ∧ r.2 = y ∨ r.1 = 0 ∧ slC r.2 25000 s B) ∧ knC r.2 ∧ fr (cW 25000) y r.2) := by
    refine u_X8_isKnown_1 ?_; unfold cm_X8_isKnown_1
    refine w_cs0 (tc_write tH25 hg' (Or.inr hd) hs hs' hb ob hby) ?_
    rintro y1 ⟨w1, w2, w3, w4⟩
    refine w_okZ (Or.inl rfl) (w_some ⟨Or.inr ⟨rfl, w1⟩, ⟨w3 k1, fun t ht => ?_, ?_⟩, w4⟩)
    · by_cases e : t = s
      · rw [e]
        exact ⟨B, w1, ob⟩
      · obtain ⟨D, d1, d2⟩ := k2 t ht
        exact ⟨D, w2 t D e d2 d1, d2⟩
    · obtain ⟨c, h3, h4⟩ := k3
      exact ⟨c, h3, (w4 40008 (by unfold cW; omega)).1.trans h4⟩
  refine e_X8_isKnown ?_
  refine u_X8_isKnown_0 ?_; unfold cm_X8_isKnown_0
  refine w_crI (tH_2 tH25) rfl hs rfl (w_if (fun _ => go1) (fun _ => w_cs1 (tc_compare tH25 hg' hs hs' c1 hb c2 ob) ?_))
  rintro v z ⟨-, e2⟩
  dsimp only at e2
  rw [e2]
  exact w_if (fun _ => w_okZ (Or.inr rfl) (w_some ⟨Or.inl ⟨rfl, rfl⟩, hk, fr_rf⟩)) (fun _ => go1)
def skP (g : Nat) : Prop := 24003 ≤ g ∧ g ≤ 24004 ∨ 25001 ≤ g ∧ g ≤ 25003 ∨ 26001 ≤ g ∧ g ≤ 38011
theorem e_X8_unfoldCode {vl : Nat → Nat} {r0 : Nat} {r1 : Nat} {x2 : Int32} {z : ow_MS} {Q : ow_MS → Prop} (H : Tt (fun K _ => cm_X8_unfoldCode_0 vl K x2 r0 r1 z) Q) : Te (fun K => ce_X8_unfoldCode vl K r0 r1 x2 z) Q := w_te0 H
theorem tc_unfoldCode {g' p' s' c : Nat} {A : rn_L} {sg : Nat → Bool} (hg' : tH g' p') (hd : g' + 6 ≤ 24000) (hs' : s' < p') (hb : slC y g' s' (clC sg A)) (hA : okL A c) (hby : byR y (g' + 1)) (hk : knC y) (hl : lvS y) : Te (fun K => ce_X8_unfoldCode vl K 24000 g' (nI s') y) (fun y1 => knC y1 ∧ lvS y1 ∧ fr skP y y1) := by
  refine e_X8_unfoldCode ?_; unfold cm_X8_unfoldCode_0
  refine w_cs1 (tc_isKnown (s := 0) (by omega) hg' (by omega) hs' hb (okL_c hA).2 hby hk) ?_
  rintro v y1 ⟨h1, k1, f1⟩
  dsimp only at h1 k1 f1
  have f1s : fr skP y y1 := fr_mono (fun g hg => by unfold cW at hg; unfold skP; omega) f1
  have l1 : lvS y1 := fun j hj => by
    obtain ⟨T, t1, t2⟩ := hl j hj
    exact ⟨T, cAt_fr f1 (fun g hg h9 => by unfold cP lv at hg; unfold cW at h9; omega) t1, t2⟩
  refine w_if (fun _ => ?_) (fun _ => w_some ⟨k1, l1, f1s⟩)
  refine w_cs0 (tc_fillA ch_24003 (by omega)) ?_
  rintro y2 ⟨-, f2⟩
  refine w_cs0 (tc_fillA ch_24004 (by omega)) ?_
  rintro y3 ⟨-, f3⟩
  have f13 : fr skP y1 y3 := fr_tr (fr_mono (fun g hg => by unfold skP; omega) f2) (fr_mono (fun g hg => by unfold skP; omega) f3)
  have f13a : fr (fun g => g = 24003 ∨ g = 24004) y1 y3 := fr_tr (fr_mono (fun g hg => by omega) f2) (fr_mono (fun g hg => by omega) f3)
  have l3 : lvS y3 := fun j hj => by
    obtain ⟨T, t1, t2⟩ := l1 j hj
    exact ⟨T, cAt_fr f13a (fun g hg h9 => by unfold cP lv at hg; omega) t1, t2⟩
  have k3 := knC_fr f13a (fun g hg => by omega) k1
  obtain ⟨T, t1, t2⟩ := l3 0 (by omega)
  have s3 : slC y3 g' s' (clC sg A) := slC_fr (fr_tr f1s f13) (fun q hq h9 => by unfold cW at hq; unfold skP at h9; omega) hb
  refine w_crX (j := 0) rfl (by omega) (w_cs0 (tc_load2 (lv_nH (L := 0) (by omega)) hg' (Or.inr (by omega)) hs' hA s3 t1 t2) ?_)
  rintro y4 ⟨⟨T1, q1, q2, q3⟩, f4⟩
  have n4 := q1.2.2.1
  have l4 : lvS y4 := lvS_fr (L := 0) f4 (fun g hg => Or.inl (cL_in hg)) ⟨T1, q1.1, n4.2.2.1⟩ l3
  refine w_cs0 (tc_unfold l4 q1.1 ⟨n4.1, n4.2.1, n4.2.2.1, by have := n4.2.2.2; omega⟩) ?_
  rintro y5 ⟨l5, f5⟩
  have f45 : fr (fun g => 24003 ≤ g ∧ g ≤ 24004 ∨ 26001 ≤ g ∧ g ≤ 38011) y3 y5 := fr_tr (fr_mono (fun g hg => by unfold cL at hg; omega) f4) (fr_mono (fun g hg => by unfold unP at hg; omega) f5)
  exact w_some ⟨knC_fr f45 (fun g hg => by omega) k3, l5, fr_tr f1s (fr_tr f13 (fr_mono (fun g hg => by unfold skP; omega) f45))⟩
theorem u_X8_conwayAt_1 {vl : Nat → Nat} {x1 : Int32} {r0 : Nat} {z : ow_MS} {Q : (Int32 × ow_MS) → Prop} (H : Tt (fun K k => cm_X8_conwayAt_1 vl K (c_X8_conwayAt vl K k) x1 r0 z) Q) : Tt (fun K k => c_X8_conwayAt vl K k 1 x1 r0 z) Q := w_un (fun _ _ => rfl) H
theorem e_X8_conwayAt {vl : Nat → Nat} {r0 : Nat} {x1 : Int32} {z : ow_MS} {Q : (Int32 × ow_MS) → Prop} (H : Tt (fun K k => c_X8_conwayAt vl K k 0 x1 r0 z) Q) : Te (fun K => ce_X8_conwayAt vl K r0 x1 z) Q := w_te H
theorem u_X8_conwayAt_0 {vl : Nat → Nat} {x1 : Int32} {r0 : Nat} {z : ow_MS} {Q : (Int32 × ow_MS) → Prop} (H : Tt (fun K k => cm_X8_conwayAt_0 vl K (c_X8_conwayAt vl K k) x1 r0 z) Q) : Tt (fun K k => c_X8_conwayAt vl K k 0 x1 r0 z) Q := w_un (fun _ _ => rfl) H
theorem tc_conwayAt {x : Int32} : Te (fun K => ce_X8_conwayAt vl K 24000 x y) (fun r => r.2 = y ∧ (∀ k, k < 13 → x = nI k → r.1 = y.2.1 24003 k) ∧ ((∀ k, k < 13 → x ≠ nI k) → r.1 = 0)) := by
  have c1 : (∀ k, k < 13 → x ≠ nI k) → Tt (fun K t => c_X8_conwayAt vl K t 1 x 24000 y) (fun r => r.2 = y ∧ (∀ k, k < 13 → x = nI k → r.1 = y.2.1 24003 k) ∧ ((∀ k, k < 13 → x ≠ nI k) → r.1 = 0)) := by
    intro hn
    refine u_X8_conwayAt_1 ?_; unfold cm_X8_conwayAt_1
    exact w_some ⟨rfl, fun k hk e => absurd e (hn k hk), fun _ => rfl⟩
  refine e_X8_conwayAt ?_
  refine u_X8_conwayAt_0 ?_; unfold cm_X8_conwayAt_0
  rw [show (Int32.ofNat (uw_len (cX vl) y (24000 + 3))) = nI 13 from rfl]
  refine w_if (fun h0 => c1 (fun k hk e => ?_)) (fun h0 => w_if (fun h9 => ?_) (fun h9 => c1 (fun k hk e => ?_)))
  · rw [e] at h0
    exact nI_pos (by omega) h0
  · obtain ⟨k, k31, rfl⟩ := nI_of h0
    have hk : k < 13 := (nI_ltI k31 (by omega)).mp h9
    exact w_crI ch_24003 rfl hk rfl (w_some ⟨rfl, fun k' hk' e => by rw [nI_inj9 (by omega) (by omega) e], fun h => absurd rfl (h k hk)⟩)
  · rw [e] at h9
    exact h9 (nI_lt hk (by omega))
theorem e_X8_twoAt {vl : Nat → Nat} {r0 : Nat} {x1 : Int32} {x2 : Int32} {z : ow_MS} {Q : (Int32 × ow_MS) → Prop} (H : Tt (fun K _ => cm_X8_twoAt_0 vl K x1 x2 r0 z) Q) : Te (fun K => ce_X8_twoAt vl K r0 x1 x2 z) Q := w_te0 H
theorem tc_twoAt {x x' : Int32} : Te (fun K => ce_X8_twoAt vl K 24000 x x' y) (fun r => r.2 = y) := by
  refine e_X8_twoAt ?_; unfold cm_X8_twoAt_0
  refine w_cs1 tc_twoIndex ?_
  rintro v z ⟨h1, e2⟩
  dsimp only at h1 e2
  rw [e2]
  rcases h1 with rfl | ⟨k, hk, rfl⟩
  · exact w_ifT rfl (w_some rfl)
  · exact w_if (fun _ => w_some rfl) (fun _ => w_crI ch_24004 rfl hk rfl (w_some rfl))
theorem lvS_ns (h : nsC y) : lvS y := fun j hj => h (lv j) (lv_nH hj)
theorem gM_sk {y1 : ow_MS} (hf : fr skP y y1) (hl : lvS y1) (h : gM y) : gM y1 := by
  refine ⟨⟨dgC_fr hf (fun g g1 g2 h9 => by unfold skP at h9; omega) h.1.1, fun h' hh' => ?_, kdC_fr hf (fun g hg => by unfold skP at hg; omega) h.1.2.2⟩, tbs_fr hf (fun g hg => by unfold skP at hg; omega) h.2⟩
  by_cases e : 26000 ≤ h' ∧ h' ≤ 38000
  · have key : ∀ a, a ∈ nHL → 26000 ≤ a ∧ a ≤ 38000 → a = lv (a / 1000 - 26) ∧ a / 1000 - 26 ≤ 12 := by decide
    obtain ⟨k1, k2⟩ := key h' hh' e
    rw [k1]
    exact hl _ k2
  · obtain ⟨T, t1, t2⟩ := h.1.2.1 h' hh'
    refine ⟨T, cAt_fr hf (fun g hg h9 => ?_) t1, t2⟩
    have key : ∀ a, a ∈ nHL → a ≤ 17000 ∨ 26000 ≤ a ∧ a ≤ 38000 ∨ 40000 ≤ a := by decide
    have := key h' hh'
    unfold cP at hg
    unfold skP at h9
    omega
theorem e_X11_conway {vl : Nat → Nat} {r0 : Nat} {x1 : Int32} {x2 : Int32} {z : ow_MS} {Q : (Nat × Int32 × ow_MS) → Prop} (H : Tt (fun K _ => cm_X11_conway_0 vl K x1 x2 r0 z) Q) : Te (fun K => ce_X11_conway vl K r0 x1 x2 z) Q := w_te0 H
theorem tc_conway {x x' : Int32} (hM : gM y) (hk : knC y) : Te (fun K => ce_X11_conway vl K 0 x x' y) (fun r => gM r.2.2 ∧ knC r.2.2 ∧ fr skP y r.2.2) := by
  refine e_X11_conway ?_; unfold cm_X11_conway_0
  refine w_tc0 (tc_need hM.1.1) ?_ ?_
  · rintro y1 ⟨h1, rfl⟩
    rcases h1 with ⟨-, d, A, sg, c, hd, rfl, hs, hA, hne⟩ | h1
    · refine w_cs0 (tc_unfoldCode ch_1000 (by omega) hd hs hA hM.1.1.1 hk (lvS_ns hM.1.2.1)) ?_
      rintro y2 ⟨k2, l2, f2⟩
      refine w_cs1 tc_conwayAt ?_
      rintro v z ⟨e2, -⟩
      dsimp only at e2
      rw [e2]
      exact w_some ⟨gM_sk f2 l2 hM, k2, f2⟩
    · exact absurd (show (0 : Nat) = 1 from h1.1) (by decide)
  · rintro a y1 ha ⟨h1, rfl⟩
    exact w_some ⟨hM, hk, fr_rf⟩
def twP (g : Nat) : Prop := uP g ∨ skP g
theorem e_X11_two {vl : Nat → Nat} {r0 : Nat} {x1 : Int32} {x2 : Int32} {x3 : Int32} {z : ow_MS} {Q : (Nat × Int32 × ow_MS) → Prop} (H : Tt (fun K _ => cm_X11_two_0 vl K x1 x2 x3 r0 z) Q) : Te (fun K => ce_X11_two vl K r0 x1 x2 x3 z) Q := w_te0 H
theorem tc_two {x x1 x2 : Int32} (hM : gM y) (hB : brC y) (hk : knC y) : Te (fun K => ce_X11_two vl K 0 x x1 x2 y) (fun r => gM r.2.2 ∧ brC r.2.2 ∧ knC r.2.2 ∧ fr twP y r.2.2) := by
  refine e_X11_two ?_; unfold cm_X11_two_0
  refine w_tc0 (tc_needBraid (brC_E hB)) ?_ ?_
  · rintro y1 ⟨h1, rfl⟩
    rcases h1 with ⟨-, hb⟩ | h1
    · obtain ⟨b, n, l, hb20, rfl, hn2, hn5, e15, l16, e14, hw⟩ := isB_w hB hb
      refine w_crI ch_14 rfl hb20 e14 (w_le (b := 10) (by omega) (by omega) (fun h12 => ?_) (fun _ => w_some ⟨hM, hB, hk, fr_rf⟩))
      obtain ⟨T, t1, t2⟩ := hM.1.2.1 4000 nH4
      refine w_crI ch_14 rfl hb20 e14 (w_crI ch_15 rfl hb20 e15 ?_)
      rw [m16]
      refine w_cs0 (tc_close t1 t2 hb20 hn2 hn5 (by omega) hw) ?_
      rintro y3 ⟨⟨T1, g1, g2⟩, f3⟩
      have hN3 : gN y3 := gN_net nH4 f3 (fun g hg => by unfold clR cP at hg; omega) ⟨T1, g1, g2.2.2.1⟩ hM.1
      have f3u : fr uP y1 y3 := fr_mono (fun g hg => by unfold clR cP at hg; unfold uP; omega) f3
      have hk7 : kH 7000 := Or.inl rfl
      have hb7 := hN3.2.2 7000 hk7
      refine w_cs0 (tc_encode hk7 nH4 g1 g2 hb7.1 hb7.2.1 hb7.2.2) ?_
      rintro y4 ⟨⟨Cs, os, z1, z2, z3⟩, b1, b2, b3, hy4, f4⟩
      obtain ⟨A', sg', q1, q2, -⟩ := enc_ok g2 z1
      have f4u : fr uP y3 y4 := fr_mono (fun g hg => by
        unfold enP cpP epP cV cQ at hg
        unfold uP
        omega) f4
      have f14 : fr uP y1 y4 := fr_tr f3u f4u
      have hN4 : gN y4 := by
        refine ⟨dgC_fr f4 (fun g g1 g2 h9 => by unfold enP cpP epP cV cQ at h9; omega) hN3.1, nsC_put nH4 f4 (fun h' hh' hne g hg h9 => ?_) ⟨T1, hy4, g2.2.2.1⟩ hN3.2.1, fun k hk2 => ?_⟩
        · have h8 := nH_far hh' nH4 hne
          have h7 := kH_dj hk7 hh'
          unfold cP at hg
          unfold enP cpP epP cV cQ at h9
          omega
        · rcases hk2 with rfl | rfl
          · exact ⟨b1, b2, b3⟩
          · have hb9 := hN3.2.2 20000 (Or.inr rfl)
            exact ⟨byR_fr f4 (by unfold enP cpP epP cV cQ; omega) hb9.1, byR_fr f4 (by unfold enP cpP epP cV cQ; omega) hb9.2.1, byR_fr f4 (by unfold enP cpP epP cV cQ; omega) hb9.2.2⟩
      have hM4 : gM y4 := gM_u f14 hN4 hM
      have k4 : knC y4 := knC_fr f14 (fun g hg => by unfold uP at hg; omega) hk
      rw [q2] at z2
      refine w_cs0 (tc_unfoldCode (s' := 0) (kH_out hk7) (by omega) Nat.one_pos z2 q1 b1 k4 (lvS_ns hM4.1.2.1)) ?_
      rintro y5 ⟨k5, l5, f5⟩
      refine w_cs1 tc_twoAt ?_
      rintro v z e2
      dsimp only at e2
      rw [e2]
      have f15 : fr twP y1 y5 := fr_tr (fr_mono (fun g hg => Or.inl hg) f14) (fr_mono (fun g hg => Or.inr hg) f5)
      exact w_some ⟨gM_sk f5 l5 hM4, brC_fr f15 (by unfold twP uP skP; omega) hB, k5, f15⟩
    · exact absurd (show (0 : Nat) = 1 from h1.1) (by decide)
  · rintro a y1 ha ⟨h1, rfl⟩
    exact w_some ⟨hM, hB, hk, fr_rf⟩
end CCW
end
section
/-! 99zzzzzzs.cjon -/
/-! the class: ends of gaps tied to one another -/
theorem un_rt {p : Nat → Nat} {g h : Nat} (hp : dn p) : ∃ m r, p m = m ∧ p r = r ∧ r ≤ m ∧ (m = rt p g ∧ r = rt p h ∨ m = rt p h ∧ r = rt p g) ∧ un p g h = pup p m r ∧ ∀ x, rt (un p g h) x = if rt p x = m then r else rt p x := by
  by_cases hc : rt p h ≤ rt p g
  · refine ⟨rt p g, rt p h, (rt_in hp g).1, (rt_in hp h).1, hc, Or.inl ⟨rfl, rfl⟩, if_pos hc, ?_⟩
    intro x
    rw [show un p g h = pup p (rt p g) (rt p h) from if_pos hc]
    rcases Nat.lt_or_eq_of_le hc with h1 | h1
    · exact (rt_pup hp (rt_in hp g).1 (rt_in hp h).1 h1).2 x
    · rw [h1, un_same (rt_in hp g).1]
      split
      · assumption
      · rfl
  · refine ⟨rt p h, rt p g, (rt_in hp h).1, (rt_in hp g).1, by omega, Or.inr ⟨rfl, rfl⟩, if_neg hc, ?_⟩
    intro x
    rw [show un p g h = pup p (rt p h) (rt p g) from if_neg hc]
    exact (rt_pup hp (rt_in hp h).1 (rt_in hp g).1 (by omega)).2 x
theorem un_iff {p : Nat → Nat} {g h x y : Nat} (hp : dn p) : rt (un p g h) x = rt (un p g h) y ↔ rt p x = rt p y ∨ (rt p x = rt p g ∧ rt p y = rt p h) ∨ (rt p x = rt p h ∧ rt p y = rt p g) := by
  obtain ⟨m, r, -, -, -, h1, -, h2⟩ := un_rt (g := g) (h := h) hp
  rw [h2 x, h2 y]
  rcases h1 with ⟨rfl, rfl⟩ | ⟨rfl, rfl⟩
  · by_cases a : rt p x = rt p g <;> by_cases b : rt p y = rt p g <;> simp only [a, b, if_true, if_false] <;> constructor <;> intro h9 <;> grind
  · by_cases a : rt p x = rt p h <;> by_cases b : rt p y = rt p h <;> simp only [a, b, if_true, if_false] <;> constructor <;> intro h9 <;> grind
theorem rtsN_pup {p : Nat → Nat} {m r : Nat} (hm : p m = m) (hr : r < m) : ∀ V, rtsN (pup p m r) V + (if m < V then 1 else 0) = rtsN p V
  | 0 => rfl
  | V + 1 => by
    have ih := rtsN_pup (p := p) hm hr V
    rw [rtsN_s, rtsN_s]
    by_cases e : V = m
    · subst e
      have e1 : pup p V r V = r := if_pos rfl
      rw [e1, hm, if_pos rfl, if_neg (by omega), if_pos (by omega)]
      rw [if_neg (by omega)] at ih
      omega
    · have e1 : pup p m r V = p V := if_neg e
      rw [e1]
      by_cases h9 : m < V
      · rw [if_pos h9] at ih
        rw [if_pos (show m < V + 1 by omega)]
        omega
      · rw [if_neg h9] at ih
        rw [if_neg (show ¬ m < V + 1 by omega)]
        omega
theorem rtsN_un {p : Nat → Nat} {g h V : Nat} (hp : dn p) (hg : g < V) (hh : h < V) : rtsN (un p g h) V + (if rt p g = rt p h then 0 else 1) = rtsN p V := by
  obtain ⟨m, r, h1, h2, h3, h4, h5, -⟩ := un_rt (g := g) (h := h) hp
  have a1 := (rt_in hp g).2
  have a2 := (rt_in hp h).2
  rw [h5]
  rcases Nat.lt_or_eq_of_le h3 with h6 | h6
  · have := rtsN_pup h1 h6 V
    rw [if_pos (by omega)] at this
    rw [if_neg (by omega)]
    exact this
  · rw [h6, un_same h1, if_pos (by omega)]
    rfl
/-- the gap of an end -/
def egp (S : ow_NP) (e : Nat) : Nat := if e % 2 = 0 then e / 2 else S.2 (e / 2)
/-- the partners of the ends that are open -/
def tiI (S : ow_NP) (p : Nat → Nat) (act : Nat → Prop) (P : Nat → Nat) : Prop := dn P ∧ ∀ a, act a → act (p a) ∧ p a ≠ a ∧ p (p a) = a ∧ ∀ b, act b → (rt P (egp S a) = rt P (egp S b) ↔ b = a ∨ b = p a)
def tiP (p : Nat → Nat) (a b : Nat) : Nat → Nat := if p a = b then p else pup (pup p (p a) (p b)) (p b) (p a)
def tiA (act : Nat → Prop) (a b : Nat) : Nat → Prop := fun e => act e ∧ e ≠ a ∧ e ≠ b
theorem upd_v {p : Nat → Int32} {i j : Nat} {x : Int32} : upd p i x j = if j = i then x else p j := by
  by_cases e : j = i
  · rw [if_pos e, e]
    exact pk_us
  · rw [if_neg e]
    exact pk_un e
theorem ti_cl {S : ow_NP} {p P : Nat → Nat} {act : Nat → Prop} {a b : Nat} (h : tiI S p act P) (ha : act a) (hb : act b) (hab : a ≠ b) : p a = b ↔ rt P (egp S a) = rt P (egp S b) := by
  have := (h.2 a ha).2.2.2 b hb
  grind
theorem ti_step {S : ow_NP} {p P : Nat → Nat} {act : Nat → Prop} {a b : Nat} (h : tiI S p act P) (ha : act a) (hb : act b) (hab : a ≠ b) : tiI S (tiP p a b) (tiA act a b) (un P (egp S a) (egp S b)) := by
  refine ⟨un_dn h.1, ?_⟩
  obtain ⟨a1, a2, a3, a4⟩ := h.2 a ha
  obtain ⟨b1, b2, b3, b4⟩ := h.2 b hb
  have hd := h.1
  intro e he
  obtain ⟨e0, ea, eb⟩ := he
  obtain ⟨e1, e2, e3, e4⟩ := h.2 e e0
  by_cases hc : p a = b
  · have q : tiP p a b = p := if_pos hc
    rw [q]
    refine ⟨⟨e1, by grind, by grind⟩, e2, e3, ?_⟩
    intro d hd'
    obtain ⟨d0, da, db⟩ := hd'
    rw [un_iff hd]
    have x1 := e4 d d0
    have x2 := e4 a ha
    have x3 := e4 b hb
    grind
  · have q : ∀ x, tiP p a b x = if x = p b then p a else if x = p a then p b else p x := by
      intro x
      rw [show tiP p a b = pup (pup p (p a) (p b)) (p b) (p a) from if_neg hc]
      rfl
    have pab : p a ≠ p b := fun h9 => hab (by rw [← a3, h9, b3])
    rw [q e]
    by_cases c1 : e = p b
    · rw [if_pos c1]
      refine ⟨⟨a1, a2, hc⟩, by rw [c1]; exact pab, ?_, ?_⟩
      · rw [q, if_neg pab, if_pos rfl, c1]
      · intro d hd'
        obtain ⟨d0, da, db⟩ := hd'
        rw [un_iff hd]
        have x1 := e4 d d0
        have x2 := e4 a ha
        have x3 := e4 b hb
        have x4 := a4 d d0
        grind
    · rw [if_neg c1]
      by_cases c2 : e = p a
      · rw [if_pos c2]
        refine ⟨⟨b1, fun h9 => hc (by rw [← h9, b3]), b2⟩, by rw [c2]; exact fun h9 => pab h9.symm, ?_, ?_⟩
        · rw [q, if_pos rfl, c2]
        · intro d hd'
          obtain ⟨d0, da, db⟩ := hd'
          rw [un_iff hd]
          have x1 := e4 d d0
          have x2 := e4 a ha
          have x3 := e4 b hb
          have x4 := b4 d d0
          grind
      · rw [if_neg c2]
        refine ⟨⟨e1, by grind, by grind⟩, e2, ?_, ?_⟩
        · rw [q, if_neg (by grind), if_neg (by grind), e3]
        · intro d hd'
          obtain ⟨d0, da, db⟩ := hd'
          rw [un_iff hd]
          have x1 := e4 d d0
          have x2 := e4 a ha
          have x3 := e4 b hb
          grind
/-- a state of a net: which ends are tied at a crossing -/
def sgP (G : Nat → Int32) (x : Nat) : Bool := decide (0 < G x)
def alB (G : Nat → Int32) (b : Nat → Bool) (x : Nat) : Bool := sgP G x == !b x
def toI (G : Nat → Int32) (b : Nat → Bool) (x : Nat) : Nat := if alB G b x then 4 * x + 2 else 4 * x + 3
def toO (G : Nat → Int32) (b : Nat → Bool) (x : Nat) : Nat := if alB G b x then 4 * x + 3 else 4 * x + 2
def uPs (S : ow_NP) (G : Nat → Int32) (b : Nat → Bool) (x : Nat) (P : Nat → Nat) : Nat → Nat := un (un P (egp S (4 * x + 1)) (egp S (toI G b x))) (egp S (4 * x)) (egp S (toO G b x))
def uPx (S : ow_NP) (G : Nat → Int32) (b : Nat → Bool) : Nat → Nat → Nat
  | 0 => fun g => g
  | x + 1 => uPs S G b x (uPx S G b x)
def onC (b : Nat → Bool) : Nat → Nat
  | 0 => 0
  | x + 1 => onC b x + if b x then 1 else 0
theorem onC_le (b : Nat → Bool) : ∀ x, onC b x ≤ x
  | 0 => Nat.le_refl _
  | x + 1 => by
    have := onC_le b x
    show onC b x + _ ≤ x + 1
    split <;> omega
theorem uPx_dn {S : ow_NP} {G : Nat → Int32} {b : Nat → Bool} : ∀ x, dn (uPx S G b x)
  | 0 => fun _ => Nat.le_refl _
  | x + 1 => un_dn (un_dn (uPx_dn x))
theorem uPx_c {S : ow_NP} {G : Nat → Int32} {b b' : Nat → Bool} : ∀ x, (∀ k, k < x → b k = b' k) → uPx S G b x = uPx S G b' x ∧ onC b x = onC b' x
  | 0, _ => ⟨rfl, rfl⟩
  | x + 1, h => by
    obtain ⟨h1, h2⟩ := uPx_c (S := S) (G := G) x (fun k hk => h k (by omega))
    have h3 := h x (by omega)
    constructor
    · show uPs S G b x (uPx S G b x) = uPs S G b' x (uPx S G b' x)
      rw [h1]
      unfold uPs toI toO alB
      rw [h3]
    · show onC b x + _ = onC b' x + _
      rw [h2, h3]
def seB (b : Nat → Bool) (x : Nat) (v : Bool) : Nat → Bool := fun k => if k = x then v else b k
/-- where the states are counted -/
def tbL (S : ow_NP) (G : Nat → Int32) (ci : Nat) : Nat → Nat → (Nat → Bool) → List Nat
  | 0, x, b => [24 * onC b x + (ci + rtsN (uPx S G b x) (2 * x))]
  | d + 1, x, b => tbL S G ci d (x + 1) (seB b x false) ++ tbL S G ci d (x + 1) (seB b x true)
/-- a row with one more at each of these places -/
def bmp (R : Nat → Int32) : List Nat → Nat → Int32
  | [] => R
  | k :: l => bmp (upd R k (R k + 1)) l
theorem bmp_app (R : Nat → Int32) (l m : List Nat) : bmp R (l ++ m) = bmp (bmp R l) m := by
  induction l generalizing R with
  | nil => rfl
  | cons k l ih => exact ih _
/-- the ends that are open before crossing x -/
def opA (c x : Nat) : Nat → Prop := fun e => 4 * x ≤ e ∧ e < 4 * c
theorem opA_s {G : Nat → Int32} {b : Nat → Bool} {c x : Nat} : (fun e => tiA (tiA (opA c x) (4 * x + 1) (toI G b x)) (4 * x) (toO G b x) e) = opA c (x + 1) := by
  funext e
  apply propext
  unfold tiA opA toI toO
  by_cases h : alB G b x <;> simp only [h, if_true, if_false] <;> constructor <;> intro h9 <;> (try simp at h9) <;> (try simp) <;> omega
def ptE (R : Nat → Int32) (p : Nat → Nat) (c : Nat) : Prop := ∀ e, e < 4 * c → R e = nI (p e)
def tiR (R : Nat → Int32) (p : Nat → Nat) (a b : Nat) : Nat → Int32 := if p a = b then R else upd (upd R (p a) (nI (p b))) (p b) (nI (p a))
theorem ptE_t {R : Nat → Int32} {p : Nat → Nat} {a b c : Nat} (h : ptE R p c) : ptE (tiR R p a b) (tiP p a b) c := by
  intro e he
  unfold tiR tiP
  by_cases hc : p a = b
  · rw [if_pos hc, if_pos hc]
    exact h e he
  · rw [if_neg hc, if_neg hc, upd_v, upd_v]
    show _ = nI (if e = p b then p a else if e = p a then p b else p e)
    split
    · rfl
    · split
      · rfl
      · exact h e he
theorem opA_lt {c x e : Nat} (h : opA c x e) : e < 4 * c := h.2
section CJN
variable {vl : Nat → Nat} {y : ow_MS} {S : ow_NP} {p P : Nat → Nat} {act : Nat → Prop} {a b c : Nat}
theorem ch_24007 : ((cX vl).2 24007).2.1 = 48 := rfl
theorem ch_24006 : ((cX vl).2 24006).2.1 = 312 := rfl
theorem e_X8_tie {vl : Nat → Nat} {r0 : Nat} {x1 : Int32} {x2 : Int32} {z : ow_MS} {Q : (Int32 × ow_MS) → Prop} (H : Tt (fun K _ => cm_X8_tie_0 vl K x1 x2 r0 z) Q) : Te (fun K => ce_X8_tie vl K r0 x1 x2 z) Q := w_te0 H
theorem tc_tie (hc : c ≤ 12) (hp : ptE (y.2.1 24007) p c) (ha : a < 4 * c) (hb : b < 4 * c) (hpa : p a < 4 * c) (hpb : p b < 4 * c) (hne : p a ≠ a) : Te (fun K => ce_X8_tie vl K 24000 (nI a) (nI b) y) (fun r => r.1 = nI (if p a = b then 1 else 0) ∧ r.2.2.1 24007 = tiR (y.2.1 24007) p a b ∧ fr (fun g => g = 24007) y r.2) := by
  refine e_X8_tie ?_; unfold cm_X8_tie_0
  refine w_crI ch_24007 rfl (by omega) (hp a ha) (w_eqN (by omega) (by omega) (fun e => w_some ⟨?_, ?_, fr_rf⟩) (fun e => ?_))
  · rw [if_pos e]
    rfl
  · exact (if_pos e).symm
  · refine w_crI ch_24007 rfl (by omega) (hp a ha) (w_crI ch_24007 rfl (by omega) (hp b hb) (w_ctI ch_24007 rfl (by omega) (w_crI ch_24007 rfl (i := b) (by omega) (rd_ne (fun h9 => e h9.symm) (hp b hb)) (w_crI ch_24007 rfl (i := a) (by omega) (rd_ne (fun h9 => hne h9.symm) (hp a ha)) (w_ctI ch_24007 rfl (by omega) (w_some ⟨?_, ?_, fr_I2 (fr_I rfl) rfl⟩))))))
    · rw [if_neg e]
      rfl
    · rw [po_usI_row, po_usI_row]
      exact (if_neg e).symm
theorem e_X8_untie {vl : Nat → Nat} {r0 : Nat} {x1 : Int32} {x2 : Int32} {z : ow_MS} {Q : ow_MS → Prop} (H : Tt (fun K _ => cm_X8_untie_0 vl K x1 x2 r0 z) Q) : Te (fun K => ce_X8_untie vl K r0 x1 x2 z) Q := w_te0 H
theorem tc_untie {R : Nat → Int32} (hc : c ≤ 12) (h : tiI S p act P) (hac : ∀ e, act e → e < 4 * c) (hR : ptE R p c) (hp : y.2.1 24007 = tiR R p a b) (ha : act a) (hb : act b) (hab : a ≠ b) : Te (fun K => ce_X8_untie vl K 24000 (nI a) (nI b) y) (fun y1 => y1.2.1 24007 = R ∧ fr (fun g => g = 24007) y y1) := by
  obtain ⟨a1, a2, a3, a4⟩ := h.2 a ha
  obtain ⟨b1, b2, b3, b4⟩ := h.2 b hb
  have k1 := hac _ ha
  have k2 := hac _ hb
  have k3 := hac _ a1
  have k4 := hac _ b1
  by_cases e : p a = b
  · have q : tiR R p a b = R := if_pos e
    rw [q] at hp
    refine e_X8_untie ?_; unfold cm_X8_untie_0
    refine w_crI ch_24007 rfl (by omega) (show y.2.1 24007 a = nI (p a) by rw [hp]; exact hR a k1) (w_ifT (by rw [e]) (w_some ⟨hp, fr_rf⟩))
  · have q : tiR R p a b = upd (upd R (p a) (nI (p b))) (p b) (nI (p a)) := if_neg e
    have v1 : y.2.1 24007 a = nI (p a) := by
      rw [hp, q, upd_v, upd_v, if_neg (by grind), if_neg (by grind)]
      exact hR a k1
    have v2 : y.2.1 24007 b = nI (p b) := by
      rw [hp, q, upd_v, upd_v, if_neg (by grind), if_neg (by grind)]
      exact hR b k2
    refine e_X8_untie ?_; unfold cm_X8_untie_0
    refine w_crI ch_24007 rfl (by omega) v1 (w_ifF (fun h9 => e (nI_inj9 (by omega) (by omega) h9)) (w_crI ch_24007 rfl (by omega) v1 (w_ctI ch_24007 rfl (by omega) (w_crI ch_24007 rfl (i := b) (by omega) (rd_ne (fun h9 => e h9.symm) v2) (w_ctI ch_24007 rfl (by omega) (w_some ⟨?_, fr_I2 (fr_I rfl) rfl⟩))))))
    rw [po_usI_row, po_usI_row, hp, q]
    funext x
    rw [upd_v, upd_v, upd_v, upd_v]
    by_cases x1 : x = p b
    · rw [if_pos x1, x1, hR _ k4, b3]
    · rw [if_neg x1, if_neg x1]
      by_cases x2 : x = p a
      · rw [if_pos x2, x2, hR _ k3, a3]
      · rw [if_neg x2, if_neg x2]
theorem w_cdT {dd r0 : Nat} {x1 x2 x3 : Int32} {z : ow_MS} {Q : ow_MS → Prop} (H : Tt (fun K k => c_X8_takeBoth vl K (cd0_X8_takeBoth vl K dd) k 0 x1 x2 x3 0 0 0 0 0 0 0 r0 0 0 z) Q) : Te (fun K => cd0_X8_takeBoth vl K (dd + 1) r0 x1 x2 x3 z) Q := w_te H
theorem nH40 : nH 40000 := by
  unfold nH nHL
  decide
theorem egp_lt (hv : vn c S) {e : Nat} (he : e < 4 * c) : egp S e < 2 * c := by
  unfold egp
  split
  · omega
  · exact (hv _ (by omega)).2.1
end CJN
section CTB
variable {vl : Nat → Nat} {S : ow_NP} {G : Nat → Int32} {c ci : Nat}
theorem u_X8_takeBoth_0 {dd : Nat} {vl : Nat → Nat} {x1 : Int32} {x2 : Int32} {x3 : Int32} {x4 : Int32} {x5 : Int32} {x6 : Int32} {x7 : Int32} {x8 : Int32} {x9 : Int32} {x10 : Int32} {r0 : Nat} {t0 : Int32} {t1 : Int32} {z : ow_MS} {Q : ow_MS → Prop} (H : Tt (fun K k => cm_X8_takeBoth_0 vl K (cd0_X8_takeBoth vl K dd) (c_X8_takeBoth vl K (cd0_X8_takeBoth vl K dd) k) x1 x2 x3 x4 x5 x6 x7 x8 x9 x10 r0 t0 t1 z) Q) : Tt (fun K k => c_X8_takeBoth vl K (cd0_X8_takeBoth vl K dd) k 0 x1 x2 x3 x4 x5 x6 x7 x8 x9 x10 r0 t0 t1 z) Q := w_un (fun _ _ => rfl) H
theorem u_X8_takeBoth_6 {dd : Nat} {vl : Nat → Nat} {x1 : Int32} {x2 : Int32} {x3 : Int32} {x4 : Int32} {x5 : Int32} {x6 : Int32} {x7 : Int32} {x8 : Int32} {x9 : Int32} {x10 : Int32} {r0 : Nat} {t0 : Int32} {t1 : Int32} {z : ow_MS} {Q : ow_MS → Prop} (H : Tt (fun K k => cm_X8_takeBoth_6 vl K (cd0_X8_takeBoth vl K dd) (c_X8_takeBoth vl K (cd0_X8_takeBoth vl K dd) k) x1 x2 x3 x4 x5 x6 x7 x8 x9 x10 r0 t0 t1 z) Q) : Tt (fun K k => c_X8_takeBoth vl K (cd0_X8_takeBoth vl K dd) k 6 x1 x2 x3 x4 x5 x6 x7 x8 x9 x10 r0 t0 t1 z) Q := w_un (fun _ _ => rfl) H
theorem u_X8_takeBoth_4 {dd : Nat} {vl : Nat → Nat} {x1 : Int32} {x2 : Int32} {x3 : Int32} {x4 : Int32} {x5 : Int32} {x6 : Int32} {x7 : Int32} {x8 : Int32} {x9 : Int32} {x10 : Int32} {r0 : Nat} {t0 : Int32} {t1 : Int32} {z : ow_MS} {Q : ow_MS → Prop} (H : Tt (fun K k => cm_X8_takeBoth_4 vl K (cd0_X8_takeBoth vl K dd) (c_X8_takeBoth vl K (cd0_X8_takeBoth vl K dd) k) x1 x2 x3 x4 x5 x6 x7 x8 x9 x10 r0 t0 t1 z) Q) : Tt (fun K k => c_X8_takeBoth vl K (cd0_X8_takeBoth vl K dd) k 4 x1 x2 x3 x4 x5 x6 x7 x8 x9 x10 r0 t0 t1 z) Q := w_un (fun _ _ => rfl) H
theorem u_X8_takeBoth_5 {dd : Nat} {vl : Nat → Nat} {x1 : Int32} {x2 : Int32} {x3 : Int32} {x4 : Int32} {x5 : Int32} {x6 : Int32} {x7 : Int32} {x8 : Int32} {x9 : Int32} {x10 : Int32} {r0 : Nat} {t0 : Int32} {t1 : Int32} {z : ow_MS} {Q : ow_MS → Prop} (H : Tt (fun K k => cm_X8_takeBoth_5 vl K (cd0_X8_takeBoth vl K dd) (c_X8_takeBoth vl K (cd0_X8_takeBoth vl K dd) k) x1 x2 x3 x4 x5 x6 x7 x8 x9 x10 r0 t0 t1 z) Q) : Tt (fun K k => c_X8_takeBoth vl K (cd0_X8_takeBoth vl K dd) k 5 x1 x2 x3 x4 x5 x6 x7 x8 x9 x10 r0 t0 t1 z) Q := w_un (fun _ _ => rfl) H
theorem u_X8_takeBoth_2 {dd : Nat} {vl : Nat → Nat} {x1 : Int32} {x2 : Int32} {x3 : Int32} {x4 : Int32} {x5 : Int32} {x6 : Int32} {x7 : Int32} {x8 : Int32} {x9 : Int32} {x10 : Int32} {r0 : Nat} {t0 : Int32} {t1 : Int32} {z : ow_MS} {Q : ow_MS → Prop} (H : Tt (fun K k => cm_X8_takeBoth_2 vl K (cd0_X8_takeBoth vl K dd) (c_X8_takeBoth vl K (cd0_X8_takeBoth vl K dd) k) x1 x2 x3 x4 x5 x6 x7 x8 x9 x10 r0 t0 t1 z) Q) : Tt (fun K k => c_X8_takeBoth vl K (cd0_X8_takeBoth vl K dd) k 2 x1 x2 x3 x4 x5 x6 x7 x8 x9 x10 r0 t0 t1 z) Q := w_un (fun _ _ => rfl) H
theorem u_X8_takeBoth_3 {dd : Nat} {vl : Nat → Nat} {x1 : Int32} {x2 : Int32} {x3 : Int32} {x4 : Int32} {x5 : Int32} {x6 : Int32} {x7 : Int32} {x8 : Int32} {x9 : Int32} {x10 : Int32} {r0 : Nat} {t0 : Int32} {t1 : Int32} {z : ow_MS} {Q : ow_MS → Prop} (H : Tt (fun K k => cm_X8_takeBoth_3 vl K (cd0_X8_takeBoth vl K dd) (c_X8_takeBoth vl K (cd0_X8_takeBoth vl K dd) k) x1 x2 x3 x4 x5 x6 x7 x8 x9 x10 r0 t0 t1 z) Q) : Tt (fun K k => c_X8_takeBoth vl K (cd0_X8_takeBoth vl K dd) k 3 x1 x2 x3 x4 x5 x6 x7 x8 x9 x10 r0 t0 t1 z) Q := w_un (fun _ _ => rfl) H
theorem u_X8_takeBoth_1 {dd : Nat} {vl : Nat → Nat} {x1 : Int32} {x2 : Int32} {x3 : Int32} {x4 : Int32} {x5 : Int32} {x6 : Int32} {x7 : Int32} {x8 : Int32} {x9 : Int32} {x10 : Int32} {r0 : Nat} {t0 : Int32} {t1 : Int32} {z : ow_MS} {Q : ow_MS → Prop} (H : Tt (fun K k => cm_X8_takeBoth_1 vl K (cd0_X8_takeBoth vl K dd) (c_X8_takeBoth vl K (cd0_X8_takeBoth vl K dd) k) x1 x2 x3 x4 x5 x6 x7 x8 x9 x10 r0 t0 t1 z) Q) : Tt (fun K k => c_X8_takeBoth vl K (cd0_X8_takeBoth vl K dd) k 1 x1 x2 x3 x4 x5 x6 x7 x8 x9 x10 r0 t0 t1 z) Q := w_un (fun _ _ => rfl) H
theorem tc_takeB (hc : c ≤ 12) (hv : vn c S) (hB : ∀ b, ci + rtsN (uPx S G b c) (2 * c) ≤ 23) : ∀ (d x lo dd : Nat) (b : Nat → Bool) (p : Nat → Nat) (y : ow_MS), x + d = c → d ≤ dd → lo + (2 * c - 2 * x) = ci + rtsN (uPx S G b x) (2 * c) → tiI S p (opA c x) (uPx S G b x) → cAt y 40000 (c, ci, S, G) → ptE (y.2.1 24007) p c → Te (fun K => cd0_X8_takeBoth vl K (dd + 1) 24000 (nI x) (nI (onC b x)) (nI lo) y) (fun y1 => y1.2.1 24006 = bmp (y.2.1 24006) (tbL S G ci d x b) ∧ y1.2.1 24007 = y.2.1 24007 ∧ fr (fun g => g = 24006 ∨ g = 24007) y y1) := by
  intro d
  induction d with
  | zero =>
    intro x lo dd b p y hx hdd hlo hti hy hp
    have hx : x = c := by omega
    subst hx
    have h1 := hB b
    have h2 := onC_le b x
    refine w_cdT ?_
    refine u_X8_takeBoth_0 ?_; unfold cm_X8_takeBoth_0
    refine w_rdF hy.1 (w_ltF (by omega) (by omega) ?_)
    have ei : nI (onC b x) * 24 + nI lo = nI (24 * onC b x + (ci + rtsN (uPx S G b x) (2 * x))) := by
      rw [show nI (onC b x) * (24 : Int32) = nI (onC b x * 24) from pk_mul _ 24, nI_add]
      congr 1
      omega
    rw [ei]
    refine w_crI ch_24006 rfl (by omega) rfl (w_ctI ch_24006 rfl (by omega) (w_some ⟨?_, ?_, fr_I (Or.inl rfl)⟩))
    · exact po_usI_row
    · exact po_usI_ot (by omega)
  | succ d ih =>
    intro x lo dd b p y hx hdd hlo hti hy hp
    obtain ⟨dd, rfl⟩ : ∃ k, dd = k + 1 := ⟨dd - 1, by omega⟩
    let Q : ow_MS → Prop := fun y1 => y1.2.1 24006 = bmp (y.2.1 24006) (tbL S G ci (d + 1) x b) ∧ y1.2.1 24007 = y.2.1 24007 ∧ fr (fun g => g = 24006 ∨ g = 24007) y y1
    have lo31 : lo < 1000 := by
      have : rtsN (uPx S G b x) (2 * c) ≤ 2 * c := by
        unfold rtsN
        exact Nat.le_trans (List.length_filter_le _ _) (by rw [List.length_range]; exact Nat.le_refl _)
      have := hB b
      omega
    have on1 := onC_le b x
    -- one of the two ways
    have one : ∀ (o : Nat) (v : Bool) (z : ow_MS), o = (if v then 1 else 0) → cAt z 40000 (c, ci, S, G) → z.2.1 24007 = y.2.1 24007 → (∀ z1 : ow_MS, z1.2.1 24006 = bmp (z.2.1 24006) (tbL S G ci d (x + 1) (seB b x v)) → z1.2.1 24007 = z.2.1 24007 → fr (fun g => g = 24006 ∨ g = 24007) z z1 → Tt (fun K k => c_X8_takeBoth vl K (cd0_X8_takeBoth vl K (dd + 1)) k 1 (nI x) (nI (onC b x)) (nI lo) (nI (4 * x)) (nI (4 * x + 1)) (nI (4 * x + 2)) (nI (4 * x + 3)) (nI (o + 1)) 0 0 24000 0 0 z1) Q) → Tt (fun K k => c_X8_takeBoth vl K (cd0_X8_takeBoth vl K (dd + 1)) k 1 (nI x) (nI (onC b x)) (nI lo) (nI (4 * x)) (nI (4 * x + 1)) (nI (4 * x + 2)) (nI (4 * x + 3)) (nI o) 0 0 24000 0 0 z) Q := by
      intro o v z ho hz hzr cont
      have bE := uPx_c (S := S) (G := G) (b := seB b x v) (b' := b) x (fun k hk => if_neg (by omega))
      have bX : seB b x v x = v := if_pos rfl
      have o2 : o < 2 := by cases v <;> simp at ho <;> omega
      have c6 : ∀ (al : Int32), Tt (fun K k => c_X8_takeBoth vl K (cd0_X8_takeBoth vl K (dd + 1)) k 6 (nI x) (nI (onC b x)) (nI lo) (nI (4 * x)) (nI (4 * x + 1)) (nI (4 * x + 2)) (nI (4 * x + 3)) (nI o) al (nI (toI G (seB b x v) x)) 24000 (nI (toO G (seB b x v) x)) 0 z) Q := by
        intro al
        have A0 : opA c x (4 * x + 1) := ⟨by omega, by omega⟩
        have A1 : opA c x (toI G (seB b x v) x) := by unfold toI opA; split <;> omega
        have A2 : (4 * x + 1) ≠ toI G (seB b x v) x := by unfold toI; split <;> omega
        have hp0 : ptE (z.2.1 24007) p c := by rw [hzr]; exact hp
        have t1 := ti_step hti A0 A1 A2
        have B0 : tiA (opA c x) (4 * x + 1) (toI G (seB b x v) x) (4 * x) := ⟨⟨by omega, by omega⟩, by omega, by unfold toI; split <;> omega⟩
        have B1 : tiA (opA c x) (4 * x + 1) (toI G (seB b x v) x) (toO G (seB b x v) x) := ⟨by unfold toO opA; split <;> omega, by unfold toO; split <;> omega, by unfold toO toI; split <;> omega⟩
        have B2 : 4 * x ≠ toO G (seB b x v) x := by unfold toO; split <;> omega
        have t2 := ti_step t1 B0 B1 B2
        rw [show tiA (tiA (opA c x) (4 * x + 1) (toI G (seB b x v) x)) (4 * x) (toO G (seB b x v) x) = opA c (x + 1) from opA_s, show un (un (uPx S G b x) (egp S (4 * x + 1)) (egp S (toI G (seB b x v) x))) (egp S (4 * x)) (egp S (toO G (seB b x v) x)) = uPx S G (seB b x v) (x + 1) from by rw [← bE.1]; rfl] at t2
        have r1 := rtsN_un (uPx_dn (S := S) (G := G) (b := b) x) (egp_lt hv (opA_lt A0)) (egp_lt hv (opA_lt A1))
        have r2 := rtsN_un t1.1 (egp_lt hv (show 4 * x < 4 * c by omega)) (egp_lt hv (opA_lt B1.1))
        rw [show un (un (uPx S G b x) (egp S (4 * x + 1)) (egp S (toI G (seB b x v) x))) (egp S (4 * x)) (egp S (toO G (seB b x v) x)) = uPx S G (seB b x v) (x + 1) from by rw [← bE.1]; rfl] at r2
        have q1 := ti_cl hti A0 A1 A2
        have q2 := ti_cl t1 B0 B1 B2
        refine u_X8_takeBoth_6 ?_; unfold cm_X8_takeBoth_6
        refine w_cs1 (tc_tie hc hp0 (opA_lt A0) (opA_lt A1) (opA_lt (hti.2 _ A0).1) (opA_lt (hti.2 _ A1).1) (hti.2 _ A0).2.1) ?_
        rintro v6 z5 ⟨e6, row5, f5⟩
        dsimp only at e6 row5 f5
        have hp1 : ptE (z5.2.1 24007) (tiP p (4 * x + 1) (toI G (seB b x v) x)) c := by
          rw [row5]
          exact ptE_t hp0
        refine w_cs1 (tc_tie hc hp1 (show 4 * x < 4 * c by omega) (opA_lt B1.1) (opA_lt (t1.2 _ B0).1.1) (opA_lt (t1.2 _ B1).1.1) (t1.2 _ B0).2.1) ?_
        rintro v8 z7 ⟨e8, row7, f7⟩
        dsimp only at e8 row7 f7
        have hp2 : ptE (z7.2.1 24007) (tiP (tiP p (4 * x + 1) (toI G (seB b x v) x)) (4 * x) (toO G (seB b x v) x)) c := by
          rw [row7]
          exact ptE_t hp1
        have f57 : fr (fun g => g = 24007) z z7 := fr_tr f5 f7
        have hz7 : cAt z7 40000 (c, ci, S, G) := cAt_fr f57 (fun g hg h9 => by unfold cP at hg; omega) hz
        have eo : nI (onC b x) + nI o = nI (onC (seB b x v) (x + 1)) := by
          rw [nI_add]
          congr 1
          show _ = onC (seB b x v) x + if seB b x v x then 1 else 0
          rw [bE.2, bX, ho]
        rw [e6, e8, eo, nI_1, nI_add, nI_add, nI_1]
        have hlo' : lo + ((if p (4 * x + 1) = toI G (seB b x v) x then 1 else 0) + (if tiP p (4 * x + 1) (toI G (seB b x v) x) (4 * x) = toO G (seB b x v) x then 1 else 0)) + (2 * c - 2 * (x + 1)) = ci + rtsN (uPx S G (seB b x v) (x + 1)) (2 * c) := by
          simp only [q1, q2]
          revert r1 r2
          generalize rtsN (uPx S G (seB b x v) (x + 1)) (2 * c) = n2
          generalize rtsN (un (uPx S G b x) (egp S (4 * x + 1)) (egp S (toI G (seB b x v) x))) (2 * c) = n1
          intro r1 r2
          split at r1 <;> split at r2 <;> simp only [*, if_true, if_false] at * <;> omega
        refine w_cs0 (ih (x + 1) _ dd (seB b x v) _ z7 (by omega) (by omega) hlo' t2 hz7 hp2) ?_
        rintro z9 ⟨s9, row9, f9⟩
        refine w_cs0 (tc_untie hc t1 (fun e he => opA_lt he.1) hp1 (show z9.2.1 24007 = _ by rw [row9]; exact row7) B0 B1 B2) ?_
        rintro z10 ⟨row10, f10⟩
        refine w_cs0 (tc_untie hc hti (fun e he => opA_lt he) hp0 (show z10.2.1 24007 = _ by rw [row10]; exact row5) A0 A1 A2) ?_
        rintro z11 ⟨row11, f11⟩
        refine cont z11 ?_ row11 (fr_tr (fr_tr (fr_mono (fun g hg => Or.inr hg) f57) f9) (fr_tr (fr_mono (fun g hg => Or.inr hg) f10) (fr_mono (fun g hg => Or.inr hg) f11)))
        rw [(f11 24006 (by omega)).2.1, (f10 24006 (by omega)).2.1, s9, (f57 24006 (by omega)).2.1]
      have c4 : ∀ al : Bool, al = alB G (seB b x v) x → Tt (fun K k => c_X8_takeBoth vl K (cd0_X8_takeBoth vl K (dd + 1)) k 4 (nI x) (nI (onC b x)) (nI lo) (nI (4 * x)) (nI (4 * x + 1)) (nI (4 * x + 2)) (nI (4 * x + 3)) (nI o) 0 0 24000 (if al then 1 else 0) 0 z) Q := by
        intro al hal
        have c6' := c6 (if al then 1 else 0)
        cases al with
        | false =>
          rw [show toI G (seB b x v) x = 4 * x + 3 from by unfold toI; rw [← hal]; rfl, show toO G (seB b x v) x = 4 * x + 2 from by unfold toO; rw [← hal]; rfl] at c6'
          refine u_X8_takeBoth_4 ?_; unfold cm_X8_takeBoth_4
          refine w_ifT rfl ?_
          refine u_X8_takeBoth_5 ?_; unfold cm_X8_takeBoth_5
          exact w_ifT rfl c6'
        | true =>
          rw [show toI G (seB b x v) x = 4 * x + 2 from by unfold toI; rw [← hal]; rfl, show toO G (seB b x v) x = 4 * x + 3 from by unfold toO; rw [← hal]; rfl] at c6'
          refine u_X8_takeBoth_4 ?_; unfold cm_X8_takeBoth_4
          refine w_ifF (by decide) ?_
          refine u_X8_takeBoth_5 ?_; unfold cm_X8_takeBoth_5
          exact w_ifF (by decide) c6'
      have c2 : ∀ s : Bool, s = sgP G x → Tt (fun K k => c_X8_takeBoth vl K (cd0_X8_takeBoth vl K (dd + 1)) k 2 (nI x) (nI (onC b x)) (nI lo) (nI (4 * x)) (nI (4 * x + 1)) (nI (4 * x + 2)) (nI (4 * x + 3)) (nI o) 0 0 24000 (if s then 1 else 0) 0 z) Q := by
        intro s hs
        have c4' := c4 (s == !v) (by unfold alB; rw [bX, hs])
        cases v with
        | false =>
          have ho0 : o = 0 := ho
          refine u_X8_takeBoth_2 ?_; unfold cm_X8_takeBoth_2
          refine w_ifT (by rw [ho0]; rfl) ?_
          refine u_X8_takeBoth_3 ?_; unfold cm_X8_takeBoth_3
          cases s with
          | false => exact w_ifF (by decide) c4'
          | true => exact w_ifT rfl c4'
        | true =>
          have ho0 : o = 1 := ho
          refine u_X8_takeBoth_2 ?_; unfold cm_X8_takeBoth_2
          refine w_ifF (by rw [ho0]; decide) ?_
          refine u_X8_takeBoth_3 ?_; unfold cm_X8_takeBoth_3
          cases s with
          | false => exact w_ifT rfl c4'
          | true => exact w_ifF (by decide) c4'
      refine u_X8_takeBoth_1 ?_; unfold cm_X8_takeBoth_1
      refine w_ifF (fun h9 => by have := (nI_leI (a := 2) (b := o) (by omega) (by omega)).mp h9; omega) (w_crI (nH_3 nH40) rfl (show x < 12 by omega) (hz.2.2.2.2 x) (w_if (fun h9 => ?_) (fun h9 => ?_)))
      · exact c2 false (by unfold sgP; rw [decide_eq_false (Int32.not_lt.mpr h9)])
      · exact c2 true (by unfold sgP; rw [decide_eq_true (Int32.not_le.mp h9)])
    refine w_cdT ?_
    refine u_X8_takeBoth_0 ?_; unfold cm_X8_takeBoth_0
    refine w_rdF hy.1 (w_ltT (by omega) (by omega) ?_)
    rw [show (4 : Int32) * nI x = nI (4 * x) from pk_mul 4 x, nI_1, show nI (4 * x) + (2 : Int32) = nI (4 * x + 2) from nI_add _ 2, show nI (4 * x) + (3 : Int32) = nI (4 * x + 3) from nI_add _ 3]
    refine one 0 false y rfl hy rfl (fun z1 s1 r1 f1 => ?_)
    refine one 1 true z1 rfl (cAt_fr f1 (fun g hg h9 => by unfold cP at hg; omega) hy) r1 (fun z2 s2 r2 f2 => ?_)
    refine u_X8_takeBoth_1 ?_; unfold cm_X8_takeBoth_1
    refine w_ifT (by decide) (w_some ⟨?_, r2.trans r1, fr_tr f1 f2⟩)
    rw [s2, s1]
    exact (bmp_app _ _ _).symm
end CTB
end
