/-! conjugate answers the same -/
section XSEA
variable {X : (Nat → Nat → Int32) → Prop} {z y : ow_MS} {vl : Nat → Nat} {x x' : Int32}
theorem xq_conjugate (h : gI X z) (hG : ∀ W, X W → XG W) : Te (fun K => qe_X13_conjugate K x x' z) (fun r => (r.2.1 1 = nI 1 ∧ (noB (z.2.1 96) x ∨ noB (z.2.1 96) x') ∨ ∃ b n l w b' n' l' w', b < 20 ∧ x = nI b ∧ hBr z b n l ∧ lwR z b n l w ∧ b' < 20 ∧ x' = nI b' ∧ hBr z b' n' l' ∧ lwR z b' n' l' w' ∧ (n ≠ n' ∧ r.2.1 1 = nI 2 ∨ n = n' ∧ n = 5 ∧ r.2.1 1 = nI 3 ∨ n = n' ∧ n ≤ 4 ∧ r.2.1 1 = 0 ∧ cjW9 n l w l' w' r.1))) := by
  have h1 := gI_1 (c := 0) h
  have e10 : (usF z 1 0).1 1 = 0 := po_usF_at
  let Q : Int32 × ow_MS → Prop := fun r => (r.2.1 1 = nI 1 ∧ (noB (z.2.1 96) x ∨ noB (z.2.1 96) x') ∨ ∃ b n l w b' n' l' w', b < 20 ∧ x = nI b ∧ hBr z b n l ∧ lwR z b n l w ∧ b' < 20 ∧ x' = nI b' ∧ hBr z b' n' l' ∧ lwR z b' n' l' w' ∧ (n ≠ n' ∧ r.2.1 1 = nI 2 ∨ n = n' ∧ n = 5 ∧ r.2.1 1 = nI 3 ∨ n = n' ∧ n ≤ 4 ∧ r.2.1 1 = 0 ∧ cjW9 n l w l' w' r.1))
  have c1 : (noB (z.2.1 96) x ∨ noB (z.2.1 96) x') → Tt (fun K i => q_X13_conjugate K i 1 x x' (usF z 1 0)) Q := by
    intro hv
    refine u_X13_conjugate_1 ?_; unfold qm_X13_conjugate_1
    exact w_mono (w_failX (k := 1) h1 fr_1) (fun r hr => Or.inl ⟨hr.2.1, hv⟩)
  refine e_X13_conjugate ?_
  refine u_X13_conjugate_0 ?_; unfold qm_X13_conjugate_0
  refine w_wrF (w_hasBX h1.2.2.2.2.2.1 (fun h0 => w_ifT rfl (c1 (Or.inl h0))) (fun b n l hc hx hh => w_ifF (by decide) (w_hasBX h1.2.2.2.2.2.1 (fun h0 => w_ifT rfl (c1 (Or.inr h0))) (fun b' n' l' hc' hx' hh' => w_ifF (by decide) ?_))))
  obtain ⟨w, hw⟩ := rd_w hh
  obtain ⟨w', hw'⟩ := rd_w hh'
  have hn2 := hh.1
  have hn5 := hh.2.1
  have hn2' := hh'.1
  have hn5' := hh'.2.1
  have fin : ∀ {r}, (n ≠ n' ∧ r.2.1 1 = nI 2 ∨ n = n' ∧ n = 5 ∧ r.2.1 1 = nI 3 ∨ n = n' ∧ n ≤ 4 ∧ r.2.1 1 = 0 ∧ cjW9 n l w l' w' r.1) → Q r := fun hr => Or.inr ⟨b, n, l, w, b', n', l', w', hc, hx, hh, hw, hc', hx', hh', hw', hr⟩
  refine w_rdI ml96 hx (by omega) hh.2.2.2.1 (w_rdI ml96 hx' (by omega) hh'.2.2.2.1 (w_eqN (by omega) (by omega) (fun en => ?_) (fun en => w_mono (w_failX (k := 2) h1 fr_1) (fun r hr => fin (Or.inl ⟨en, hr.2.1⟩)))))
  refine w_rdI ml96 hx (by omega) hh.2.2.2.1 (w_eqN (b := 5) (by omega) (by omega) (fun e5 => w_mono (w_failX (k := 3) h1 fr_1) (fun r hr => fin (Or.inr (Or.inl ⟨en, e5, hr.2.1⟩)))) (fun e5 => ?_))
  have n4 : n ≤ 4 := by omega
  rw [← en] at hh' hw'
  have h0 : okT n (foT n w l).1 := fo_ok hn2 hn5 l (fun j hj => (hw j hj).1)
  have h0' : okT n (foT n w' l').1 := fo_ok hn2 hn5 l' (fun j hj => (hw' j hj).1)
  obtain ⟨m, em⟩ : ∃ m : N5, m.1 = n := ⟨⟨n, hn2, hn5⟩, rfl⟩
  subst em
  subst hx
  subst hx'
  have fin2 : ∀ {v : Int32} {y : ow_MS}, y.1 1 = 0 → cjV9 (gF m (foT m.1 w l).2 (foT m.1 w l).1 h0) (gF m (foT m.1 w' l').2 (foT m.1 w' l').1 h0') v → Tt (fun _ _ => some (v, y)) Q := fun e hv => w_some (fin (Or.inr (Or.inr ⟨en, n4, e, ⟨hn2, hn5⟩, h0, h0', hv⟩)))
  have sb := fun (y : ow_MS) (q1 : hBr y b' m.1 l') (q2 : lwR y b' m.1 l' w') (q3 : gI X y) => xr_sumB (z := y) m hc' q1 (gI_tb hG q3) q2 h0'
  have sa := fun (y : ow_MS) (q1 : hBr y b m.1 l) (q2 : lwR y b m.1 l w) (q3 : gI X y) => xr_sumB (z := y) m hc q1 (gI_tb hG q3) q2 h0
  generalize gF m (foT m.1 w l).2 (foT m.1 w l).1 h0 = A at fin2 sa
  generalize gF m (foT m.1 w' l').2 (foT m.1 w' l').1 h0' = B at fin2 sb
  refine w_cs0 (sb _ hh' hw' h1) ?_
  rintro y1 ⟨⟨k1, F1, sf1⟩, f1⟩
  have g1' := gI_nm f1 h1
  obtain ⟨s1, s3, s2, s4, s5, s6, ⟨s7h, s7x, s7⟩, s8, s9⟩ := id sf1
  refine w_cs0 (tp_formTo (r := 118) (o := 0) ml118 (by omega) (by omega) (by omega) (by omega) s1 s3) (fun y2 ⟨p1, p2, _⟩ => ?_)
  have g2 : gI X y2 := gI_fr p2 (fun g hg => by rw [hg]; decide) g1'
  have hha : hBr y2 b m.1 l := hBr_fr p2 (by omega) (by omega) (by omega) (hBr_fr f1 (by unfold nmH; omega) (by unfold nmH; omega) (by unfold nmH; omega) hh)
  have hhb : hBr y2 b' m.1 l' := hBr_fr p2 (by omega) (by omega) (by omega) (hBr_fr f1 (by unfold nmH; omega) (by unfold nmH; omega) (by unfold nmH; omega) hh')
  have r94 : y2.2.1 94 = z.2.1 94 := (p2 94 (by omega)).2.1.trans (f1 94 (by unfold nmH; omega)).2.1
  have hwa : lwR y2 b m.1 l w := fun i hi => by rw [r94]; exact hw i hi
  have hwb : lwR y2 b' m.1 l' w' := fun i hi => by rw [r94]; exact hw' i hi
  have e12 : y2.1 1 = 0 := ((p2 1 (by omega)).1.trans (f1 1 (by unfold nmH; omega)).1).trans e10
  refine w_cs0 (sa _ hha hwa g2) ?_
  rintro y3 ⟨⟨k3, F3, sf3⟩, f3⟩
  have g3 := gI_nm f3 g2
  obtain ⟨t1, t3, t2, t4, t5, t6, t7, t8, t9⟩ := id sf3
  refine w_cs1 (xr_allForms (gI_tb hG g3) sf3) (fun v y4 ⟨hv, f4⟩ => ?_)
  dsimp only at hv f4
  have g4 := gI_af f4 g3
  have e14 : y4.1 1 = 0 := ((f4 1 (by unfold afH; omega)).1.trans (f3 1 (by unfold nmH; omega)).1).trans e12
  rcases hv with ⟨v1, Ls, a1, a2, a3, a4⟩ | ⟨v0, a1⟩
  · rw [v1]
    have cA := smF_cl sf3 a2 a3 a4
    have p4 : frwI y4 118 0 m.1 F1 k1 := frwI_fr f4 (by unfold afH; omega) (frwI_fr f3 (by unfold nmH; omega) p1)
    refine w_ifF (by decide) (w_cs1 (xr_isThere (r := 118) (Or.inr rfl) a2 a1 (fun F hF => by have := ((a4 F).mp hF).2.1; omega) p4 (by omega) (by omega) (by omega) (by omega) (by omega)) (fun v2 y5 ⟨u5, hv2⟩ => ?_))
    dsimp only at u5 hv2
    rw [u5]
    rcases hv2 with ⟨v21, ek, hm⟩ | ⟨v20, hm⟩
    · rw [v21]
      obtain ⟨_, _, hF, xa, ea⟩ := (a4 F1).mp hm
      have ec : B = cnj (gm xa (gi s7x)) A := by
        rw [cnj_m, ← ea, ← ek]
        exact cj_bk s7
      exact w_ifF (by decide) (fin2 e14 (Or.inr ⟨⟨_, cA⟩, ⟨_, cl_c ec cA⟩, Or.inl ⟨rfl, _, ec⟩⟩))
    · rw [v20]
      have nc : ¬ ∃ x, B = cnj x A := fun ⟨xx, ex⟩ => hm (by
        obtain ⟨q1, q2⟩ := opt_uni (nrs_c ex t8) (nls_c ex t9) (sss_c ex (smF_s sf3)) s8 s9 (smF_s sf1)
        refine ⟨q1.symm, (a4 F1).mpr ?_⟩
        have := sss_c (cj_bk ex) (smF_s sf1)
        rw [← q1, ← q2] at this
        exact this)
      have hhb5 : hBr y4 b' m.1 l' := hBr_fr f4 (by unfold afH; omega) (by unfold afH; omega) (by unfold afH; omega) (hBr_fr f3 (by unfold nmH; omega) (by unfold nmH; omega) (by unfold nmH; omega) hhb)
      have r944 : y4.2.1 94 = y2.2.1 94 := (f4 94 (by unfold afH; omega)).2.1.trans (f3 94 (by unfold nmH; omega)).2.1
      refine w_ifT rfl (w_cs0 (sb _ hhb5 (fun i hi => by rw [r944]; exact hwb i hi) g4) ?_)
      rintro y6 ⟨⟨k6, F6, sf6⟩, f6⟩
      have g6 := gI_nm f6 g4
      have e16 : y6.1 1 = 0 := (f6 1 (by unfold nmH; omega)).1.trans e14
      refine w_cs1 (xr_allForms (gI_tb hG g6) sf6) (fun v3 y7 ⟨hv3, f7⟩ => ?_)
      dsimp only at hv3 f7
      have e17 : y7.1 1 = 0 := (f7 1 (by unfold afH; omega)).1.trans e16
      rcases hv3 with ⟨v31, Ls3, b1, b2, b3, b4⟩ | ⟨v30, b1⟩
      · rw [v31]
        exact w_ifF (by decide) (fin2 e17 (Or.inr ⟨⟨_, cA⟩, ⟨_, smF_cl sf6 b2 b3 b4⟩, Or.inr ⟨rfl, nc⟩⟩))
      · rw [v30]
        exact w_ifT rfl (fin2 e17 (Or.inl ⟨rfl, Or.inr (smF_op sf6 b1)⟩))
  · rw [v0]
    exact w_ifT rfl (fin2 e14 (Or.inl ⟨rfl, Or.inl (smF_op sf3 a1)⟩))
theorem fn_eq {m : N5} {h g : Nat} {A B : Gn m} {v v' : Int32} {k k' : Int} {R R' : Nat} {Ls W Ls' W' : List (List Nat)} {y' : ow_MS} (h0 : fnC y h m A v k R Ls W) (g0 : fnC y' g m B v' k' R' Ls' W') (n1 : v ≠ -2) (n2 : v' ≠ -2) : (k = k' ∧ R = R' ∧ W = W') ↔ ∃ x, B = cnj x A := by
  obtain ⟨s1, s2, s3, s4, s5, s6, s7, ⟨F, s8⟩, s9⟩ := h0
  obtain ⟨t1, t2, t3, t4, t5, t6, t7, ⟨G, t8⟩, t9⟩ := g0
  have i1 : ∀ F, F ∈ W ↔ sss A k R F := fun F => by
    rw [← s1.2.2.2.2.2.1 F]
    rcases s9 with ⟨-, -, s9⟩ | ⟨s9, -⟩
    · exact s9 F
    · exact absurd s9 n1
  have i2 : ∀ F, F ∈ W' ↔ sss B k' R' F := fun F => by
    rw [← t1.2.2.2.2.2.1 F]
    rcases t9 with ⟨-, -, t9⟩ | ⟨t9, -⟩
    · exact t9 F
    · exact absurd t9 n2
  have sF := s5 F s8
  have tG := t5 G t8
  constructor
  · rintro ⟨rfl, rfl, rfl⟩
    obtain ⟨_, _, hF, xa, ea⟩ := sF
    obtain ⟨_, _, hF', xb, eb⟩ := (i2 F).mp ((i1 F).mpr (s5 F s8))
    refine ⟨gm xa (gi xb), ?_⟩
    rw [cnj_m, ← ea]
    exact cj_bk eb
  · rintro ⟨xx, ex⟩
    obtain ⟨e1, e2⟩ := opt_uni (nrs_c ex s3) (nls_c ex s4) (sss_c ex sF) t3 t4 tG
    refine ⟨e1, e2, pw_un lt_as W W' s1.2.2.2.2.1 t1.2.2.2.2.1 (fun F => ?_)⟩
    rw [i1, i2, ← e1, ← e2]
    exact ⟨sss_c ex, sss_c (cj_bk ex)⟩
theorem xc_conjugate (hB : brC y) : Te (fun K => ce_X11_conjugate vl K 0 x x' y) (fun r => r.1 = 1 ∧ (noB (y.2.1 15) x ∨ noB (y.2.1 15) x') ∨ ∃ b n l w b' n' l' w', brW y x b n l w ∧ brW y x' b' n' l' w' ∧ (n ≠ n' ∧ r.1 = 2 ∨ n = n' ∧ n = 5 ∧ r.1 = 4 ∨ n = n' ∧ n ≤ 4 ∧ r.1 = 0 ∧ cjW9 n l w l' w' r.2.1)) := by
  refine e_X11_conjugate ?_; unfold cm_X11_conjugate_0
  refine w_tc0 (tc_needBraid (brC_E hB)) ?_ ?_
  · rintro y1 ⟨h1, rfl⟩
    rcases h1 with ⟨-, hb⟩ | h1
    · obtain ⟨b, n, l, hb20, rfl, hn2, hn5, e15, l16, e14, hwd⟩ := isB_w hB hb
      refine w_tc0 (tc_needBraid (brC_E hB)) ?_ ?_
      · rintro y2 ⟨h2, e2⟩
        dsimp only at e2
        rw [e2]
        rcases h2 with ⟨-, hb'⟩ | h2
        · obtain ⟨b', n', l', hb20', rfl, hn2', hn5', e15', l16', e14', hwd'⟩ := isB_w hB hb'
          obtain ⟨w, hw⟩ := wd_w hwd
          obtain ⟨w', hw'⟩ := wd_w hwd'
          have hW : brW y1 (nI b) b n l w := ⟨hb20, rfl, hn2, hn5, e15, l16, e14, hw⟩
          have hW' : brW y1 (nI b') b' n' l' w' := ⟨hb20', rfl, hn2', hn5', e15', l16', e14', hw'⟩
          let Q : Nat × Int32 × ow_MS → Prop := fun r => r.1 = 1 ∧ (noB (y1.2.1 15) (nI b) ∨ noB (y1.2.1 15) (nI b')) ∨ ∃ c n l w c' n' l' w', brW y1 (nI b) c n l w ∧ brW y1 (nI b') c' n' l' w' ∧ (n ≠ n' ∧ r.1 = 2 ∨ n = n' ∧ n = 5 ∧ r.1 = 4 ∨ n = n' ∧ n ≤ 4 ∧ r.1 = 0 ∧ cjW9 n l w l' w' r.2.1)
          have fin : ∀ {r : Nat × Int32 × ow_MS}, (n ≠ n' ∧ r.1 = 2 ∨ n = n' ∧ n = 5 ∧ r.1 = 4 ∨ n = n' ∧ n ≤ 4 ∧ r.1 = 0 ∧ cjW9 n l w l' w' r.2.1) → Q r := fun hr => Or.inr ⟨b, n, l, w, b', n', l', w', hW, hW', hr⟩
          refine w_crI ch_15 rfl hb20 e15 (w_crI ch_15 rfl hb20' e15' (w_eqN (by omega) (by omega) (fun en => ?_) (fun en => w_some (fin (Or.inl ⟨en, rfl⟩)))))
          refine w_tc0 (xc_needFew hb20 hn5 e15) ?_ ?_
          · rintro y3 ⟨e3, h3⟩
            dsimp only at e3 h3
            rw [e3]
            rcases h3 with ⟨-, n4⟩ | h3
            · rw [← en] at e15' hw'
              have h0 : okT n (foT n w l).1 := fo_ok hn2 hn5 l (fun j hj => (hw j hj).1)
              have h0' : okT n (foT n w' l').1 := fo_ok hn2 hn5 l' (fun j hj => (hw' j hj).1)
              refine w_cs0 (xc_writeF fo46 hn2 hn5 hb20 e15 l16 e14 hw) ?_
              rintro y4 ⟨F, j, k1, k3, k4, k5, k2⟩
              obtain ⟨p1, p2, p3⟩ := wr_fo ⟨n, hn2, hn5⟩ l16 h0 k1 k3 k5
              refine w_cs1 (xc_findS so48 fo46 (by omega) n4 p1 p2 p3) ?_
              rintro v y5 ⟨⟨k, R, Ls, W, q1⟩, q2⟩
              dsimp only at q1 q2
              have f5 : fr smP y1 y5 := fr_tr (fr_mono (fun g hg => by unfold foP at hg; unfold smP; omega) k2) (fr_mono (fun g hg => by unfold suP at hg; unfold smP; omega) q2)
              have q13 : y5.2.1 13 = y1.2.1 13 := (f5 13 (by unfold smP; omega)).2.1
              refine w_cs0 (xc_writeF (n := n) (l := l') (w := w') fo46 hn2 hn5 hb20' ((congrFun (f5 15 (by unfold smP; omega)).2.1 b').trans e15') l16' ((congrFun (f5 14 (by unfold smP; omega)).2.1 b').trans e14') (fun i hi => ⟨(hw' i hi).1, by rw [q13]; exact (hw' i hi).2⟩)) ?_
              rintro y6 ⟨F', j', k1', k3', k4', k5', k2'⟩
              obtain ⟨p1', p2', p3'⟩ := wr_fo ⟨n, hn2, hn5⟩ l16' h0' k1' k3' k5'
              refine w_cs1 (xc_findS so50 fo46 (by omega) n4 p1' p2' p3') ?_
              rintro v' y7 ⟨⟨k', R', Ls', W', q1'⟩, q2'⟩
              dsimp only at q1' q2'
              have f7 : fr (fun g => foP 46000 g ∨ suP 50000 g) y5 y7 := fr_tr (fr_mono (fun g hg => Or.inl hg) k2') (fr_mono (fun g hg => Or.inr hg) q2')
              have np : ∀ g, 48000 ≤ g → g < 50000 → ¬ (foP 46000 g ∨ suP 50000 g) := fun g a1 a2 h9 => by
                rcases h9 with h9 | h9
                · unfold foP at h9
                  omega
                · unfold suP at h9
                  omega
              have q7 := suL_fr f7 (fun g a1 a2 => np g (by omega) (by omega)) q1.1
              have fin2 : ∀ v : Int32, cjV9 (gF ⟨n, hn2, hn5⟩ (foT n w l).2 (foT n w l).1 h0) (gF ⟨n, hn2, hn5⟩ (foT n w' l').2 (foT n w' l').1 h0') v → Tt (fun _ _ => some ((0 : Nat), v, y7)) Q := fun v hv => w_some (fin (Or.inr (Or.inr ⟨en, n4, rfl, ⟨hn2, hn5⟩, h0, h0', hv⟩)))
              rcases fn_sm q1 with ⟨ev, o1⟩ | ⟨nv, -, o1⟩
              · exact w_ifT ev (fin2 _ (Or.inl ⟨rfl, Or.inl o1⟩))
              · refine w_ifF nv ?_
                rcases fn_sm q1' with ⟨ev', o1'⟩ | ⟨nv', -, o1'⟩
                · exact w_ifT ev' (fin2 _ (Or.inl ⟨rfl, Or.inr o1'⟩))
                · have hiff := fn_eq q1 q1' nv nv'
                  have b1 := q1.2.2.2.2.2.1
                  have b2 := q1.2.2.2.2.2.2.1
                  have b3 := q1'.2.2.2.2.2.1
                  have b4 := q1'.2.2.2.2.2.2.1
                  refine w_ifF nv' (w_cs1 (xc_sameAsS so48 so50 q7 q1'.1 ((f7 _ (np _ (by omega) (by omega))).1.trans q1.2.1) q1'.2.1 (by omega) (by omega) (by omega) (by omega)) ?_)
                  rintro v8 y8 ⟨hv8, e8⟩
                  dsimp only at hv8 e8
                  rw [e8]
                  rcases hv8 with ⟨rfl, hv8⟩ | ⟨rfl, hv8⟩
                  · exact w_ifF (by decide) (fin2 _ (Or.inr ⟨⟨_, o1⟩, ⟨_, o1'⟩, Or.inl ⟨rfl, hiff.mp hv8⟩⟩))
                  · exact w_ifT rfl (fin2 _ (Or.inr ⟨⟨_, o1⟩, ⟨_, o1'⟩, Or.inr ⟨rfl, fun h9 => hv8 (hiff.mpr h9)⟩⟩))
            · exact absurd h3.1 (by decide)
          · rintro a y3 ha ⟨e3, h3⟩
            dsimp only at e3 h3
            rcases h3 with ⟨h3, -⟩ | ⟨h3, n5⟩
            · exact absurd h3 ha
            · exact w_some (fin (Or.inr (Or.inl ⟨en, n5, h3⟩)))
        · exact absurd (show (0 : Nat) = 1 from h2.1) (by decide)
      · rintro a y2 ha ⟨h2, e2⟩
        rcases h2 with h2 | h2
        · exact absurd h2.1 ha
        · exact w_some (Or.inl ⟨h2.1, Or.inr h2.2⟩)
    · exact absurd (show (0 : Nat) = 1 from h1.1) (by decide)
  · rintro a y1 ha ⟨h1, rfl⟩
    rcases h1 with h1 | h1
    · exact absurd h1.1 ha
    · exact w_some (Or.inl ⟨h1.1, Or.inl h1.2⟩)
theorem c_conjugate (hG : ∀ W, X W → XG W) (h : rel3 X z y) : Te (fun K => qe_X13_conjugate K x x' z) (fun rr => Te (fun K => ce_X11_conjugate vl K 0 x x' y) (fun rc => rel3 X rr.2 rc.2.2 ∧ ansI [(1, 1), (2, 2), (3, 4)] rr rc)) := by
  have hI := r3_g h
  have hB := h.2.2.2.2.1
  have hR := h.2.2.2.1
  refine te_two (te_fo (te_and (tp_conjugate (a := x) (b := x') hG hI) (xq_conjugate (x := x) (x' := x') hI hG)) (fun K => ff_X13_conjugate)) (te_fo (xc_conjugate (x := x) (x' := x') hB) (fun K => ff_X11_conjugate)) (fun rr rc ⟨⟨hgI, hr⟩, fR⟩ ⟨hc, fC⟩ => ⟨rel3_nf fR fC (pf_nf (by decide)) (fun g hg => by omega) hgI h, ?_⟩)
  rcases hr with ⟨r1, r2⟩ | ⟨b, n, l, u, b', n', l', u', hb, hx, hh, hu, hb', hx', hh', hu', hr⟩
  · rcases hc with ⟨c1, -⟩ | ⟨b, n, l, w, b', n', l', w', hW, hW', -⟩
    · exact Or.inr ⟨1, 1, by simp, r1, c1⟩
    · rcases r2 with r2 | r2
      · exact (no_z hR r2 hW).elim
      · exact (no_z hR r2 hW').elim
  · rcases hc with ⟨c1, c2⟩ | ⟨b1, n1, l1, w, b2, n2, l2, w', hW, hW', hc⟩
    · rcases c2 with c2 | c2
      · exact (no_y hR c2 hb hx hh).elim
      · exact (no_y hR c2 hb' hx' hh').elim
    · obtain ⟨rfl, rfl, rfl, hwz⟩ := br_same hR hb hx hh hW
      obtain ⟨rfl, rfl, rfl, hwz'⟩ := br_same hR hb' hx' hh' hW'
      rcases hr with ⟨en, r1⟩ | ⟨en, e5, r1⟩ | ⟨en, e4, r1, r2⟩
      · rcases hc with ⟨-, c1⟩ | ⟨c2, -⟩ | ⟨c2, -⟩
        · exact Or.inr ⟨2, 2, by simp, r1, c1⟩
        · exact absurd c2 en
        · exact absurd c2 en
      · rcases hc with ⟨c2, -⟩ | ⟨-, -, c1⟩ | ⟨-, c2, -⟩
        · exact absurd en c2
        · exact Or.inr ⟨3, 4, by simp, r1, c1⟩
        · omega
      · rcases hc with ⟨c2, -⟩ | ⟨-, c2, -⟩ | ⟨-, -, c1, c3⟩
        · exact absurd en c2
        · omega
        · subst en
          exact Or.inl ⟨r1, c1, cjW9_uni (lw_same hh.2.1 hu hwz) (lw_same hh'.2.1 hu' hwz') r2 c3⟩
end XSEA
