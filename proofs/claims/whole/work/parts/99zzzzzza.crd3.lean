/-! the class: Reader.readDiagram; diagram -/
theorem rdT_fr {P : Nat → Prop} {y y1 : ow_MS} {F : List (Nat × Nat)} {T : ow_NT} (hf : fr P y y1) (hP : ∀ g, P g → ¬ cP 4000 g ∧ g ≠ 11003 ∧ g ≠ 11004) (h : rdT y F T) : rdT y1 F T := by
  obtain ⟨s1, s2, s3, s4, s5, s6, s7, s8⟩ := h
  refine ⟨cAt_fr hf (fun g hg h9 => (hP g h9).1 hg) s1, s2, s3, s4, s5, s6, fun v hv => ?_, fun k hk => ?_⟩
  · rw [(hf 11004 (fun h9 => (hP _ h9).2.2 rfl)).2.1]
    exact s7 v hv
  · rw [(hf 11003 (fun h9 => (hP _ h9).2.1 rfl)).2.1]
    exact s8 k hk
def rdP (g : Nat) : Prop := cP 4000 g ∨ 11003 ≤ g ∧ g ≤ 11006
section CRD
variable {vl : Nat → Nat} {y : ow_MS}
/-- what is known of the net when the reading ends -/
def rdE (y : ow_MS) (r : Int32 × ow_MS) : Prop := fr rdP y r.2 ∧ (∃ T, cAt r.2 4000 T ∧ ow_b24 T.2.2.1) ∧ ((r.1 = -1 ∧ ∃ T, cAt r.2 4000 T ∧ nv T) ∨ ∃ b, b ≤ 400 ∧ r.1 = nI b)
theorem u_X9_readDiagram_4 {vl : Nat → Nat} {x2 : Int32} {x3 : Int32} {x4 : Int32} {x5 : Int32} {x6 : Int32} {x7 : Int32} {x8 : Int32} {r0 : Nat} {r1 : Nat} {z : ow_MS} {Q : (Int32 × ow_MS) → Prop} (H : Tt (fun K k => cm_X9_readDiagram_4 vl K (c_X9_readDiagram vl K k) x2 x3 x4 x5 x6 x7 x8 r0 r1 z) Q) : Tt (fun K k => c_X9_readDiagram vl K k 4 x2 x3 x4 x5 x6 x7 x8 r0 r1 z) Q := w_un (fun _ _ => rfl) H
theorem u_X9_readDiagram_1 {vl : Nat → Nat} {x2 : Int32} {x3 : Int32} {x4 : Int32} {x5 : Int32} {x6 : Int32} {x7 : Int32} {x8 : Int32} {r0 : Nat} {r1 : Nat} {z : ow_MS} {Q : (Int32 × ow_MS) → Prop} (H : Tt (fun K k => cm_X9_readDiagram_1 vl K (c_X9_readDiagram vl K k) x2 x3 x4 x5 x6 x7 x8 r0 r1 z) Q) : Tt (fun K k => c_X9_readDiagram vl K k 1 x2 x3 x4 x5 x6 x7 x8 r0 r1 z) Q := w_un (fun _ _ => rfl) H
theorem u_X9_readDiagram_3 {vl : Nat → Nat} {x2 : Int32} {x3 : Int32} {x4 : Int32} {x5 : Int32} {x6 : Int32} {x7 : Int32} {x8 : Int32} {r0 : Nat} {r1 : Nat} {z : ow_MS} {Q : (Int32 × ow_MS) → Prop} (H : Tt (fun K k => cm_X9_readDiagram_3 vl K (c_X9_readDiagram vl K k) x2 x3 x4 x5 x6 x7 x8 r0 r1 z) Q) : Tt (fun K k => c_X9_readDiagram vl K k 3 x2 x3 x4 x5 x6 x7 x8 r0 r1 z) Q := w_un (fun _ _ => rfl) H
theorem u_X9_readDiagram_2 {vl : Nat → Nat} {x2 : Int32} {x3 : Int32} {x4 : Int32} {x5 : Int32} {x6 : Int32} {x7 : Int32} {x8 : Int32} {r0 : Nat} {r1 : Nat} {z : ow_MS} {Q : (Int32 × ow_MS) → Prop} (H : Tt (fun K k => cm_X9_readDiagram_2 vl K (c_X9_readDiagram vl K k) x2 x3 x4 x5 x6 x7 x8 r0 r1 z) Q) : Tt (fun K k => c_X9_readDiagram vl K k 2 x2 x3 x4 x5 x6 x7 x8 r0 r1 z) Q := w_un (fun _ _ => rfl) H
theorem e_X9_readDiagram {vl : Nat → Nat} {r0 : Nat} {r1 : Nat} {z : ow_MS} {Q : (Int32 × ow_MS) → Prop} (H : Tt (fun K k => c_X9_readDiagram vl K k 0 0 0 0 0 0 0 0 r0 r1 z) Q) : Te (fun K => ce_X9_readDiagram vl K r0 r1 z) Q := w_te H
theorem u_X9_readDiagram_0 {vl : Nat → Nat} {x2 : Int32} {x3 : Int32} {x4 : Int32} {x5 : Int32} {x6 : Int32} {x7 : Int32} {x8 : Int32} {r0 : Nat} {r1 : Nat} {z : ow_MS} {Q : (Int32 × ow_MS) → Prop} (H : Tt (fun K k => cm_X9_readDiagram_0 vl K (c_X9_readDiagram vl K k) x2 x3 x4 x5 x6 x7 x8 r0 r1 z) Q) : Tt (fun K k => c_X9_readDiagram vl K k 0 x2 x3 x4 x5 x6 x7 x8 r0 r1 z) Q := w_un (fun _ _ => rfl) H
theorem tc_readDiagram {n : Nat} (hn : y.1 11001 = nI n) (h400 : n ≤ 400) (hT : ∃ T, cAt y 4000 T ∧ ow_b24 T.2.2.1) : Te (fun K => ce_X9_readDiagram vl K 11000 4000 y) (rdE y) := by
  have nf : ∀ {z : ow_MS}, fr rdP y z → z.1 11001 = nI n := fun hf => (hf 11001 (by unfold rdP cP; omega)).1.trans hn
  have bad : ∀ (z : ow_MS) (b : Nat), fr rdP y z → (∃ T, cAt z 4000 T ∧ ow_b24 T.2.2.1) → b ≤ 400 → Tt (fun _ _ => some (nI b, z)) (rdE y) := fun z b h1 h2 h3 => w_some ⟨h1, h2, Or.inr ⟨b, h3, rfl⟩⟩
  -- the end of the text
  have c4 : ∀ (z : ow_MS) (A : rn_L) (L : List (Nat × Nat)) (T : ow_NT) (x2 x3 x4 x5 : Int32), fr rdP y z → rdT z (A.flatten ++ L) T → lkS T.2.2.1 A L → T.2.1 = cirs A → lsI L x3 x4 → A.length + 1 ≤ 6 → Tt (fun K t => c_X9_readDiagram vl K t 4 x2 x3 x4 x5 0 0 0 11000 4000 z) (rdE y) := by
    intro z A L T x2 x3 x4 x5 hf h1 h2 h3 h4 h5
    refine u_X9_readDiagram_4 ?_; unfold cm_X9_readDiagram_4
    refine w_cs0 (tc_finish h1 h2 h3 h4) ?_
    rintro z1 ⟨T1, g1, g2, g3, g4⟩
    refine w_cs1 (tc_firstLonely g1) ?_
    rintro v z2 ⟨e1, e2⟩
    dsimp only at e1 e2
    rw [e1]
    have hf1 : fr rdP y z1 := fr_tr hf (fr_mono (fun g hg => Or.inl hg) g4)
    refine w_some ⟨hf1, ⟨T1, g1.1, g1.2.1⟩, ?_⟩
    rcases e2 with ⟨rfl, e3⟩ | ⟨b, b1, b2⟩
    · refine Or.inl ⟨rfl, T1, g1.1, ?_⟩
      obtain ⟨s1, s2, s3, s4, s5, s6, s7, s8⟩ := g1
      have hok : okF (A ++ [L]).flatten T1.1 := by
        refine ⟨s4.1, fun p => ⟨fun hp => ⟨s5 p hp, s4.2 p hp⟩, fun ⟨p1, p2⟩ => ?_⟩⟩
        obtain ⟨u, hu⟩ := s6 p.1 p1
        have hu2 := s4.2 _ hu
        have hu2 : u < 2 := hu2
        by_cases e : u = p.2
        · rw [show p = (p.1, u) from Prod.ext rfl e.symm]
          exact hu
        · have e4 := e3 (lb (p.1, u)) (by unfold lb; show 2 * p.1 + u < 2 * T1.1; omega) (by rw [kp_lb2 (p := (p.1, u)) hu2]; exact hu)
          have e5 : mt (lb (p.1, u)) = lb p := by
            unfold mt lb
            show (if (2 * p.1 + u) % 2 = 0 then 2 * p.1 + u + 1 else 2 * p.1 + u - 1) = 2 * p.1 + p.2
            split <;> omega
          rw [e5, kp_lb2 p2] at e4
          exact e4
      exact (lk_net hok s3 (by rw [List.length_append]; exact h5) s2 g3 g2).1
    · exact Or.inr ⟨b, by omega, b2⟩
  have c1 : ∀ (d i : Nat) (z : ow_MS) (A : rn_L) (L : List (Nat × Nat)) (T : ow_NT) (x3 x4 : Int32) (a : Nat), i + d = 400 → fr rdP y z → z.1 11005 = nI a → a ≤ n → rdT z (A.flatten ++ L) T → lkS T.2.2.1 A L → T.2.1 = cirs A → lsI L x3 x4 → A.length + 1 ≤ 6 → Tt (fun K t => c_X9_readDiagram vl K t 1 (nI (A.length + 1)) x3 x4 (nI i) 0 0 0 11000 4000 z) (rdE y) := by
    intro d
    induction d with
    | zero =>
      intro i z A L T x3 x4 a hi hf ha han h1 h2 h3 h4 h5
      refine u_X9_readDiagram_1 ?_; unfold cm_X9_readDiagram_1
      exact w_leT (a := 400) (by omega) (by omega) (c4 z A L T _ x3 x4 _ hf h1 h2 h3 h4 h5)
    | succ d ih =>
      intro i z A L T x3 x4 a hi hf ha han h1 h2 h3 h4 h5
      have hTz : ∃ T, cAt z 4000 T ∧ ow_b24 T.2.2.1 := ⟨T, h1.1, h1.2.1⟩
      have c3 : ∀ (z1 : ow_MS) (A1 : rn_L) (L1 : List (Nat × Nat)) (T1 : ow_NT) (y3 y4 y6 : Int32) (a1 : Nat), fr rdP y z1 → z1.1 11005 = nI a1 → a1 ≤ n → rdT z1 (A1.flatten ++ L1) T1 → lkS T1.2.2.1 A1 L1 → T1.2.1 = cirs A1 → lsI L1 y3 y4 → A1.length + 1 ≤ 6 → Tt (fun K t => c_X9_readDiagram vl K t 3 (nI (A1.length + 1)) y3 y4 (nI i) y6 0 0 11000 4000 z1) (rdE y) := by
        intro z1 A1 L1 T1 y3 y4 y6 a1 q1 q2 q3 q4 q5 q6 q7 q8
        refine u_X9_readDiagram_3 ?_; unfold cm_X9_readDiagram_3
        rw [nI_1 i]
        exact ih (i + 1) z1 A1 L1 T1 y3 y4 a1 (by omega) q1 q2 q3 q4 q5 q6 q7 q8
      refine u_X9_readDiagram_1 ?_; unfold cm_X9_readDiagram_1
      refine w_leF (a := 400) (by omega) (by omega) (w_rdF ha (w_rdF (nf hf) (w_le (by omega) (by omega) (fun _ => c4 z A L T _ x3 x4 _ hf h1 h2 h3 h4 h5) (fun hal => w_rdF ha (w_rdF ha (w_crI ch_11002 rfl (show a < 400 by omega) rfl (w_if (fun _ => ?_) (fun _ => ?_))))))))
      · rw [nI_1]
        refine w_le (b := 6) (by omega) (by omega) (fun h6 => w_cs0 (tc_finish h1 h2 h3 h4) ?_) (fun _ => w_rdF ha (bad z a hf hTz (by omega)))
        rintro z1 ⟨T1, g1, g2, g3, g4⟩
        have ha1 : z1.1 11005 = nI a := (g4 11005 (by unfold cP; omega)).1.trans ha
        refine w_rdF ha1 (w_wrF ?_)
        rw [nI_1 a]
        have hf1 : fr rdP y (usF z1 11005 (nI (a + 1))) := fr_F2 (fr_tr hf (fr_mono (fun g hg => Or.inl hg) g4)) (by unfold rdP; omega)
        have hA1 : (A ++ [L]).length = A.length + 1 := by
          rw [List.length_append]
          rfl
        have := c3 (usF z1 11005 (nI (a + 1))) (A ++ [L]) [] T1 (-1) x4 (nI a) (a + 1) hf1 po_usF_at (by omega) (by
          rw [List.append_nil]
          exact rdT_fr (P := fun g => g = 11005) (fr_F rfl) (fun g hg => by unfold cP; omega) g1) g2 g3 rfl (by omega)
        rw [hA1] at this
        exact this
      · refine w_cs1 (tc_readVisit ha (nf hf) hal h400) ?_
        rintro v z1 ⟨f1, e1⟩
        dsimp only at f1 e1
        have hf1 : fr rdP y z1 := fr_tr hf (fr_mono (fun g hg => by unfold rvP at hg; unfold rdP; omega) f1)
        have h11 : rdT z1 (A.flatten ++ L) T := rdT_fr f1 (fun g hg => by unfold rvP at hg; unfold cP; omega) h1
        rcases e1 with ⟨b, b1, rfl⟩ | ⟨rfl, a', k, k1, k2, k3, k4, k5, k6⟩
        · exact w_ifF (nI_nm1 (by omega)) (bad z1 b hf1 ⟨T, h11.1, h11.2.1⟩ (by omega))
        · refine w_ifT rfl (w_cs1 (tc_enter h11 k5 (by omega) (by omega) k6 k4 (show a < 400 by omega)) ?_)
          rintro w z2 ⟨f2, e2⟩
          dsimp only at f2 e2
          have hf2 : fr rdP y z2 := fr_tr hf1 (fr_mono (fun g hg => by unfold enR at hg; unfold rdP cP; omega) f2)
          have ha2 : z2.1 11005 = nI a' := (f2 11005 (by unfold enR; omega)).1.trans k5
          rcases e2 with ⟨rfl, hT2⟩ | ⟨p, T2, rfl, p24, r1, r2, r3⟩
          · exact w_ifT rfl (bad z2 a hf2 hT2 (by omega))
          · have hne : nI (lb p) ≠ -1 := nI_nm1 (by omega)
            have r1' : rdT z2 (A.flatten ++ (L ++ [p])) T2 := by
              rw [← List.append_assoc]
              exact r1
            refine w_ifF hne ?_
            cases L with
            | nil =>
              have h4 : x3 = -1 := h4
              have hl2 : lkS T2.2.2.1 A [p] := by
                rw [r3]
                exact lk_one h2
              refine w_ifT h4 ?_
              refine u_X9_readDiagram_2 ?_; unfold cm_X9_readDiagram_2
              exact c3 z2 A [p] T2 (nI (lb p)) (nI (lb p)) _ a' hf2 ha2 k2 r1' hl2 (r2.trans h3) ⟨rfl, p, rfl, rfl⟩ h5
            | cons q0 L =>
              obtain ⟨hx3, q, hq, hx4⟩ := h4
              have b24 : ∀ r, r ∈ A.flatten ++ q0 :: L → lb r < 24 := fun r hr => by
                have q1 := h1.2.2.2.2.1 r hr
                have q2 := h1.2.2.2.1.2 r hr
                have q3 := h1.2.2.1
                unfold lb
                omega
              have hq24 := b24 q (List.mem_append_right _ (List.mem_of_getElem? hq))
              have h024 := b24 q0 (List.mem_append_right _ List.mem_cons_self)
              refine w_ifF (by rw [hx3]; exact nI_nm1 (by omega)) ?_
              rw [hx4]
              refine w_cs0 (tc_link nH4 r1'.1 hq24 p24) ?_
              rintro z3 ⟨g1, g2⟩
              obtain ⟨s1, s2, s3, s4, s5, s6, s7, s8⟩ := r1'
              have r13 : rdT z3 (A.flatten ++ (q0 :: L ++ [p])) (ntS T2 (nl T2.2.2.1 (lb q) (lb p))) := by
                refine ⟨g1, nl_b24 s2 hq24 p24, s3, s4, s5, s6, fun v hv => ?_, fun k hk => ?_⟩
                · rw [(g2 11004 (by unfold cP; omega)).2.1]
                  exact s7 v hv
                · rw [(g2 11003 (by unfold cP; omega)).2.1]
                  exact s8 k hk
              have hl3 : lkS (nl T2.2.2.1 (lb q) (lb p)) A (q0 :: L ++ [p]) := by
                rw [r3]
                exact lk_more (by rw [List.append_assoc]; exact s4) hq h2
              have ha3 : z3.1 11005 = nI a' := (g2 11005 (by unfold cP; omega)).1.trans ha2
              refine u_X9_readDiagram_2 ?_; unfold cm_X9_readDiagram_2
              refine c3 z3 A (q0 :: L ++ [p]) _ x3 (nI (lb p)) _ a' (fr_tr hf2 (fr_mono (fun g hg => Or.inl hg) g2)) ha3 k2 r13 hl3 (r2.trans h3) ⟨hx3, p, ?_, rfl⟩ h5
              have hll : (L.append [p]).length = L.length + 1 := List.length_append
              show (q0 :: L ++ [p])[(L.append [p]).length]? = some p
              rw [hll]
              rw [List.getElem?_append_right (show (q0 :: L).length ≤ L.length + 1 from Nat.le_refl _), show L.length + 1 - (q0 :: L).length = 0 from Nat.sub_self _]
              rfl
  obtain ⟨T0, t1, t2⟩ := hT
  refine e_X9_readDiagram ?_
  refine u_X9_readDiagram_0 ?_; unfold cm_X9_readDiagram_0
  refine w_cs0 (tc_fillA ch_11003 (by omega)) ?_
  rintro z1 ⟨a1, a2⟩
  refine w_cs0 (tc_fillA ch_11004 (by omega)) ?_
  rintro z2 ⟨b1, b2⟩
  have t12 : cAt z2 4000 T0 := cAt_fr b2 (fun g hg h9 => by unfold cP at hg; omega) (cAt_fr a2 (fun g hg h9 => by unfold cP at hg; omega) t1)
  refine w_cs0 (tc_empty t12) ?_
  rintro z3 ⟨d1, d2⟩
  have hf3 : fr rdP y z3 := fr_tr (fr_mono (fun g hg => by rw [hg]; unfold rdP; omega) a2) (fr_tr (fr_mono (fun g hg => by rw [hg]; unfold rdP; omega) b2) (fr_mono (fun g hg => Or.inl hg) d2))
  refine w_wrF (c1 400 0 (usF z3 11005 0) [] [] (0, 0, T0.2.2) (-1) (-1) 0 (by omega) (fr_F2 hf3 (by unfold rdP; omega)) po_usF_at (Nat.zero_le _) ?_ ⟨fun v hv => absurd hv (Nat.not_lt_zero _), fun i p q e => by rw [List.getElem?_nil] at e; cases e⟩ rfl rfl (by show 0 + 1 ≤ 6; omega))
  refine ⟨cAt_fr (P := fun g => g = 11005) (fr_F rfl) (fun g hg h9 => by unfold cP at hg; omega) d1, t2, Nat.zero_le _, ⟨List.nodup_nil, fun p hp => (by cases hp)⟩, fun p hp => (by cases hp), fun x hx => absurd hx (Nat.not_lt_zero _), fun v hv => Or.inl ⟨?_, fun h => (by cases h)⟩, fun k hk => Or.inl ?_⟩
  · show z3.2.1 11004 v = -1
    rw [(d2 11004 (by unfold cP; omega)).2.1]
    exact b1 v hv
  · show z3.2.1 11003 k = -1
    rw [(d2 11003 (by unfold cP; omega)).2.1, (b2 11003 (by omega)).2.1]
    exact a1 k hk
end CRD
