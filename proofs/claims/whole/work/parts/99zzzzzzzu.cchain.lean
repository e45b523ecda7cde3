/-! the class: chain -/
def cmG (g : Nat) : Prop := 43002 ≤ g ∧ g ≤ 43004 ∨ 43007 ≤ g ∧ g ≤ 43020 ∨ cP 44000 g
theorem dg_c : ∀ d : Fin 30, ((18 : Int32) < nI d.val - 10 ↔ d.val = 29) ∧ nI d.val - 10 + 1 = nI (d.val + 1) - 10 := by decide +kernel
theorem cmG_c {g : Nat} (h : cP 44000 g) : cmG g := Or.inr (Or.inr h)
theorem chP_fr {P : Nat → Prop} {y y1 : ow_MS} (hf : fr P y y1) (hP : ∀ g, P g → g < 45000) (h : chP y) : chP y1 := fun i k hi hk => by
  rw [(hf (45001 + i) (fun h9 => by have := hP _ h9; omega)).2.1]
  exact h i k hi hk
section CH
variable {vl : Nat → Nat} {y : ow_MS} {W C : Nat}
theorem e_X1_compute {r0 : Nat} {r1 : Nat} {x2 : Int32} {vl : Nat → Nat} {z : ow_MS} {Q : (Int32 × (Nat → Nat) × ow_MS) → Prop} (H : Tt (fun K k => d_X1_compute K k 0 x2 0 0 r0 r1 vl z) Q) : Te (fun K => de_X1_compute K r0 r1 x2 vl z) Q := w_te H
theorem u_X1_compute_0 {x2 : Int32} {x3 : Int32} {x4 : Int32} {r0 : Nat} {r1 : Nat} {vl : Nat → Nat} {z : ow_MS} {Q : (Int32 × (Nat → Nat) × ow_MS) → Prop} (H : Tt (fun K k => dm_X1_compute_0 K (d_X1_compute K k) x2 x3 x4 r0 r1 vl z) (gQ vl Q)) : Tt (fun K k => d_X1_compute K k 0 x2 x3 x4 r0 r1 vl z) (gQ vl Q) := w_un (fun _ _ => rfl) (w_chV (Nat.le_refl _) H)
theorem u_X1_compute_3 {x2 : Int32} {x3 : Int32} {x4 : Int32} {r0 : Nat} {r1 : Nat} {vl : Nat → Nat} {z : ow_MS} {Q : (Int32 × (Nat → Nat) × ow_MS) → Prop} (H : Tt (fun K k => dm_X1_compute_3 K (d_X1_compute K k) x2 x3 x4 r0 r1 vl z) (gQ vl Q)) : Tt (fun K k => d_X1_compute K k 3 x2 x3 x4 r0 r1 vl z) (gQ vl Q) := w_un (fun _ _ => rfl) (w_chV (Nat.le_refl _) H)
theorem u_X1_compute_2 {x2 : Int32} {x3 : Int32} {x4 : Int32} {r0 : Nat} {r1 : Nat} {vl : Nat → Nat} {z : ow_MS} {Q : (Int32 × (Nat → Nat) × ow_MS) → Prop} (H : Tt (fun K k => dm_X1_compute_2 K (d_X1_compute K k) x2 x3 x4 r0 r1 vl z) (gQ vl Q)) : Tt (fun K k => d_X1_compute K k 2 x2 x3 x4 r0 r1 vl z) (gQ vl Q) := w_un (fun _ _ => rfl) (w_chV (Nat.le_refl _) H)
theorem u_X1_compute_1 {x2 : Int32} {x3 : Int32} {x4 : Int32} {r0 : Nat} {r1 : Nat} {vl : Nat → Nat} {z : ow_MS} {Q : (Int32 × (Nat → Nat) × ow_MS) → Prop} (H : Tt (fun K k => dm_X1_compute_1 K (d_X1_compute K k) x2 x3 x4 r0 r1 vl z) (gQ vl Q)) : Tt (fun K k => d_X1_compute K k 1 x2 x3 x4 r0 r1 vl z) (gQ vl Q) := w_un (fun _ _ => rfl) (w_chV (Nat.le_refl _) H)
theorem tc_compute {p : Nat} {R : ow_NT} (hv : vI vl W C) (h4 : cAt y 4000 R) (h44 : ∃ T, cAt y 44000 T ∧ ow_b24 T.2.2.1) (hR : tyI R) (htb : tbP y) (hch : chP y) (hp1 : 2 ≤ p) (hp2 : p ≤ 997) : Te (fun K => de_X1_compute K 43000 4000 (nI p) vl y) (gQ vl (fun r => (∃ T, cAt r.2.2 44000 T ∧ ow_b24 T.2.2.1) ∧ fr cmG y r.2.2 ∧ ∃ W' C', vI r.2.1 W' C')) := by
  let Q : Int32 × (Nat → Nat) × ow_MS → Prop := fun r => (∃ T, cAt r.2.2 44000 T ∧ ow_b24 T.2.2.1) ∧ fr cmG y r.2.2 ∧ ∃ W' C', vI r.2.1 W' C'
  obtain ⟨T0, t1, t2⟩ := h44
  refine e_X1_compute ?_
  refine u_X1_compute_0 ?_; unfold dm_X1_compute_0
  refine w_cs0 (tc_copy nH44 nH4 (Or.inr (by omega)) t1 h4 hR.1.2.1) ?_
  rintro z1 ⟨a1, a2⟩
  refine w_cs0 (tc_tidy a1 (tyI_cp hR t2)) ?_
  rintro z2 ⟨⟨⟨c, ci, S, G⟩, b1, b2⟩, b3⟩
  obtain ⟨hc8, ⟨wf, hwf⟩, hn9, hsz⟩ := tyI_sz b2
  have hvn : vn c S := b2.1.1
  have hb24 : ow_b24 S := b2.1.2.2.1
  have hci : ci ≤ 6 := by
    have h9 : np_rg c S + ci ≤ 6 := b2.1.2.2.2
    omega
  have f2 : fr cmG y z2 := fr_tr (fr_mono (fun g hg => cmG_c hg) a2) (fr_mono (fun g hg => cmG_c hg) b3)
  refine w_wrF ?_
  have c3 : cAt (usF z2 (43000 + 10) (nI p)) 44000 (c, ci, S, G) := cAt_fr (fr_F (P := fun g => g = 43010) rfl) (fun g hg h9 => by unfold cP at hg; omega) b1
  refine w_cs1 (tc_writhe nH44 c3 (by show c ≤ 12; omega)) ?_
  rintro wr z3 ⟨-, e3⟩
  dsimp only at e3
  subst e3
  refine w_wrF ?_
  have c4 : cAt (usF (usF z2 (43000 + 10) (nI p)) (43000 + 19) wr) 44000 (c, ci, S, G) := cAt_fr (fr_F (P := fun g => g = 43019) rfl) (fun g hg h9 => by unfold cP at hg; omega) c3
  refine w_rdF c4.1 (w_rdF rfl (w_nzI (by decide) (w_wrF ?_)))
  generalize hz5 : usF (usF (usF z2 (43000 + 10) (nI p)) (43000 + 19) wr) (43000 + 20) _ = z5
  have f5 : fr (fun g => g = 43010 ∨ g = 43019 ∨ g = 43020) z2 z5 := by
    rw [← hz5]
    exact fr_F2 (fr_F2 (fr_F (Or.inl rfl)) (Or.inr (Or.inl rfl))) (Or.inr (Or.inr rfl))
  have p5 : z5.1 43010 = nI p := by
    rw [← hz5]
    exact rf_ot (by omega) (rf_ot (by omega) po_usF_at)
  have c5 : cAt z5 44000 (c, ci, S, G) := cAt_fr f5 (fun g hg h9 => by unfold cP at hg; omega) b1
  refine w_cs0 (tc_markLoops c5 hvn hc8 hn9) ?_
  rintro z6 ⟨l1, l2⟩
  have c6 : cAt z6 44000 (c, ci, S, G) := cAt_fr l2 (fun g hg h9 => by unfold cP at hg; omega) c5
  refine w_cs0 (tc_fillA (l := 504) ch_43018 (by omega)) ?_
  rintro z7 ⟨-, l3⟩
  have c7 : cAt z7 44000 (c, ci, S, G) := cAt_fr l3 (fun g hg h9 => by unfold cP at hg; omega) c6
  -- the loops
  have hL6 : ∃ Ls : Nat → Nat → Nat, LpY z6 S G c Ls (fun s => rtsN (uPx S G (tb s) c) (2 * c)) := by
    have hex : ∀ s, ∃ L : Nat → Nat, s < 2 ^ c → LpS z6 S G c s L (rtsN (uPx S G (tb s) c) (2 * c)) := by
      intro s
      by_cases hs : s < 2 ^ c
      · obtain ⟨L, n, hL⟩ := l1 s hs
        have e := hL.2.2.2.2
        rw [e] at hL
        exact ⟨L, fun _ => hL⟩
      · exact ⟨fun _ => 0, fun h9 => absurd h9 hs⟩
    exact ⟨fun s => Classical.choose (hex s), fun s hs => ⟨Classical.choose_spec (hex s) hs, hn9 s hs⟩⟩
  obtain ⟨Ls, hL6⟩ := hL6
  have hL7 := LpY_fr l3 (by omega) hL6
  have g27 : fr (fun g => g = 43010 ∨ g = 43019 ∨ g = 43020 ∨ g = 43002 ∨ g = 43003 ∨ g = 43004 ∨ g = 43018) z2 z7 := fr_tr (fr_tr (fr_mono (fun g hg => by omega) f5) (fr_mono (fun g hg => by omega) l2)) (fr_mono (fun g hg => by omega) l3)
  have f7 : fr cmG y z7 := fr_tr f2 (fr_mono (fun g hg => by unfold cmG; omega) g27)
  have htb7 : tbP z7 := tbP_fr f7 (by unfold cmG cP; omega) htb
  have hch7 : chP z7 := chP_fr f7 (fun g hg => by unfold cmG cP at hg; omega) hch
  have p7 : z7.1 43010 = nI p := by
    rw [(l3 43010 (by omega)).1, (l2 43010 (by omega)).1]
    exact p5
  have rk_lt : ∀ g, rkG g → 43007 ≤ g ∧ g ≤ 43018 ∧ g ≠ 43010 := fun g hg => by
    unfold rkG lyG kpG at hg
    omega
  have at4 : ∀ z, fr rkG z7 z → cAt z 44000 (c, ci, S, G) := fun z hz => cAt_fr hz (fun g hg h9 => by have := rk_lt g h9; unfold cP at hg; omega) c7
  have fin : ∀ (z : ow_MS) (v : Nat → Nat) (x : Int32) (W' C' : Nat), fr rkG z7 z → vI v W' C' → Q (x, v, z) := fun z v x W' C' hz hv' => ⟨⟨_, at4 z hz, hb24⟩, fr_tr f7 (fr_mono (fun g hg => by have := rk_lt g hg; unfold cmG; omega) hz), W', C', hv'⟩
  -- the sum
  have d3 : ∀ (e i : Nat) (x3 : Int32) (v : Nat → Nat) (z : ow_MS) (W' C' : Nat), i + e = 504 → fr rkG z7 z → vI v W' C' → Tt (fun K k => d_X1_compute K k 3 (nI p) x3 (nI i) 43000 4000 v z) (gQ v Q) := by
    intro e
    induction e with
    | zero =>
      intro i x3 v z W' C' hi hz hv'
      refine u_X1_compute_3 ?_; unfold dm_X1_compute_3
      rw [show uw_len (cX v) z (43000 + 18) = 504 from ch_43018]
      exact w_leT (a := 504) (b := i) (by omega) (by omega) (w_some ⟨Nat.le_refl _, fin z v x3 W' C' hz hv'⟩)
    | succ e ih =>
      intro i x3 v z W' C' hi hz hv'
      refine u_X1_compute_3 ?_; unfold dm_X1_compute_3
      rw [show uw_len (cX v) z (43000 + 18) = 504 from ch_43018, nI_1]
      exact w_leF (a := 504) (b := i) (by omega) (by omega) (w_crI ch_43018 rfl (by omega) rfl (ih (i + 1) _ v z W' C' (by omega) hz hv'))
  have d2 : ∀ (e i : Nat) (v : Nat → Nat) (z : ow_MS) (W' C' : Nat), i + e = ci → fr rkG z7 z → vI v W' C' → Tt (fun K k => d_X1_compute K k 2 (nI p) (nI i) 0 43000 4000 v z) (gQ v Q) := by
    intro e
    induction e with
    | zero =>
      intro i v z W' C' hi hz hv'
      refine u_X1_compute_2 ?_; unfold dm_X1_compute_2
      exact w_rdF (at4 z hz).2.1 (w_leT (a := ci) (b := i) (by omega) (by omega) (d3 504 0 _ v z W' C' (by omega) hz hv'))
    | succ e ih =>
      intro i v z W' C' hi hz hv'
      refine u_X1_compute_2 ?_; unfold dm_X1_compute_2
      refine w_rdF (at4 z hz).2.1 (w_leF (a := ci) (b := i) (by omega) (by omega) (w_cs0 tc_addCircle (fun z1 h1 => ?_)))
      rw [nI_1]
      exact ih (i + 1) v z1 W' C' (by omega) (fr_tr hz (fr_mono (fun g hg => Or.inr (Or.inr hg)) h1)) hv'
  have d1 : ∀ (e d : Nat) (v : Nat → Nat) (z : ow_MS) (W' C' : Nat), d + e = 29 → fr rkG z7 z → vI v W' C' → Tt (fun K k => d_X1_compute K k 1 (nI p) (nI d - 10) 0 43000 4000 v z) (gQ v Q) := by
    intro e
    induction e with
    | zero =>
      intro d v z W' C' hd hz hv'
      refine u_X1_compute_1 ?_; unfold dm_X1_compute_1
      exact w_ifT ((dg_c ⟨d, by omega⟩).1.mpr (by dsimp only; omega)) (d2 ci 0 v z W' C' (by omega) hz hv')
    | succ e ih =>
      intro d v z W' C' hd hz hv'
      refine u_X1_compute_1 ?_; unfold dm_X1_compute_1
      refine w_ifF (fun h9 => by have := (dg_c ⟨d, by omega⟩).1.mp h9; dsimp only at this; omega) (w_dc1 (tc_rankDegree hv' (at4 z hz) hvn hc8 (by omega) hwf (LpY_fr hz (by unfold rkG lyG kpG; omega) hL7) (tbP_fr hz (by unfold rkG lyG kpG; omega) htb7) (chP_fr hz (fun g hg => by have := rk_lt g hg; omega) hch7) (((hz 43010 (by unfold rkG lyG kpG; omega)).1).trans p7) hp1 hp2 (fun h => bkF_sz hn9 (hsz h))) ?_)
      rintro x v1 z8 ⟨r1, r2, W2, C2, r3⟩
      refine w_chV r1 ?_
      rw [(dg_c ⟨d, by omega⟩).2]
      exact ih (d + 1) v1 z8 W2 C2 (by omega) (fr_tr hz r2) r3
  rw [show (-10 : Int32) = nI 0 - 10 by decide]
  exact d1 29 0 vl z7 W C (by omega) fr_rf hv
def chG (g : Nat) : Prop := 4001 ≤ g ∧ g ≤ 4011 ∨ cmG g
theorem gM_ch {y1 y2 : ow_MS} (hN : gN y1) (hf : fr (cL 4000) y y1) (hf2 : fr (fun g => cQ 4000 g ∨ cmG g) y1 y2) (h44 : ∃ T, cAt y2 44000 T ∧ ow_b24 T.2.2.1) (h : gM y) : gM y2 := by
  refine ⟨⟨dgC_fr hf2 (fun g g1 g2 h9 => by unfold cQ cmG cP at h9; omega) hN.1, fun h' hh' => ?_, kdC_fr hf2 (fun g hg => by unfold cQ cmG cP at hg; omega) hN.2.2⟩, tbs_fr (fr_tr (fr_mono (fun g hg => Or.inl hg) hf) (fr_mono (fun g hg => Or.inr hg) hf2)) (fun g (hg : cL 4000 g ∨ cQ 4000 g ∨ cmG g) => by unfold cL cQ cmG cP at hg; omega) h.2⟩
  have key : ∀ a, a ∈ nHL → a ≤ 40000 ∨ 44000 = a := by decide
  rcases key h' hh' with h9 | h9
  · obtain ⟨T, t1, t2⟩ := hN.2.1 h' hh'
    have key2 : ∀ a, a ∈ nHL → a = 4000 ∨ 4012 ≤ a := by decide
    have := key2 h' hh'
    exact ⟨T, cAt_fr hf2 (fun g hg h8 => by unfold cP at hg; unfold cQ cmG cP at h8; omega) t1, t2⟩
  · rw [← h9]
    exact h44
/-- every diagram that is kept has gaps of two kinds that alternate -/
def gaS (y : ow_MS) : Prop := ∀ d A sg c, d < 40 → slC y 1000 d (clC sg A) → okL A c → ∃ w, gaA A w
theorem tc_chain {x x' : Int32} (hv : vI vl W C) (hM : gM y) (hg : gaS y) (htb : tbP y) (hch : chP y) : Te (fun K => ce_X11_chain K 0 x x' vl y) (fun r => gM r.2.2.2 ∧ fr chG y r.2.2.2 ∧ dPhi vl ≤ dPhi r.2.2.1 ∧ ∃ W' C', vI r.2.2.1 W' C') := by
  have st : ∀ (a : Nat) (v : Int32), gM y ∧ fr chG y y ∧ dPhi vl ≤ dPhi vl ∧ ∃ W' C', vI vl W' C' := fun _ _ => ⟨hM, fr_rf, Nat.le_refl _, W, C, hv⟩
  unfold ce_X11_chain
  refine w_te0 ?_
  refine w_tc0 (tc_need hM.1.1) ?_ ?_
  · rintro y1 ⟨h1, rfl⟩
    rcases h1 with ⟨-, d, A, sg, c, hd, rfl, hs, hA, hne⟩ | h1
    · refine w_if (fun _ => w_some (st 2 0)) (fun hx2 => w_if (fun _ => w_some (st 2 0)) (fun hx9 => ?_))
      obtain ⟨p, hp31, rfl⟩ := nI_of (x := x') (fun h8 => hx2 (by
        rw [Int32.lt_iff_toInt_lt] at h8 ⊢
        exact Int.lt_trans h8 (by decide)))
      have hp2 : 2 ≤ p := by
        rcases Nat.lt_or_ge p 2 with h8 | h8
        · exact absurd (nI_lt (b := 2) h8 (by omega)) hx2
        · exact h8
      have hp9 : p ≤ 997 := by
        rcases Nat.lt_or_ge 997 p with h8 | h8
        · exact absurd (nI_lt (a := 997) h8 hp31) hx9
        · exact h8
      refine w_cs1 (tc_isPrime hp2 hp9) ?_
      rintro v z ⟨e, -⟩
      dsimp only at e
      subst e
      refine w_if (fun _ => w_some (st 2 0)) (fun _ => ?_)
      refine w_cs0 (tc_ld3 nH4 hM.1 hd hs hA) ?_
      rintro y2 ⟨g1, g2, S, G, g3, g4⟩
      obtain ⟨j1, j2, j3, j4⟩ := g4
      have hc12 : c ≤ 12 := hA.2.2.2.1
      have hnv : nv (c, cirs A, S, G) := g3.2.2.1
      refine w_cs0 (tc_markParts nH4 g3.1 (fun k hk => (j3 k hk).1) hc12) ?_
      rintro y3 ⟨-, q2, q3⟩
      have pe := (np_parts_of (N := S.1) (c := c) (fun k hk => (j3 k hk).1) hc12 (y2.2.1 (4000 + 6))).2
      have pl := mp_out_le S.1 (2 * c) (np_fill (y2.2.1 (4000 + 6)) 0 (2 * c) (-1)) (2 * c)
      dsimp only at q2
      generalize (mp_out S.1 (2 * c) (np_fill (y2.2.1 (4000 + 6)) 0 (2 * c) (-1)) (2 * c)).2 = P at q2 pe pl
      have a3 : cAt y3 4000 (c, cirs A, S, G) := cAt_fr q3 (fun g hg h9 => by unfold cP at hg; unfold cQ at h9; omega) g3.1
      have hci : cirs A ≤ 6 := by
        have h9 : np_rg c S + cirs A ≤ 6 := hnv.2.2.2
        omega
      have f3 : fr chG y y3 := fr_tr (fr_mono (fun g hg => by unfold chG; unfold cL at hg; omega) g2) (fr_mono (fun g hg => by unfold chG; unfold cQ at hg; omega) q3)
      have n44 : ∃ T, cAt y3 44000 T ∧ ow_b24 T.2.2.1 := by
        obtain ⟨T, t1, t2⟩ := g1.2.1 44000 nH44
        exact ⟨T, cAt_fr q3 (fun g hg h9 => by unfold cP at hg; unfold cQ at h9; omega) t1, t2⟩
      refine w_rdF a3.1 (w_rdF q2 (w_rdF a3.2.1 ?_))
      dsimp only
      rw [nI_add, nI_add]
      refine w_le (a := c + P + cirs A) (b := 9) (by omega) (by omega) (fun h9 => ?_) (fun _ => w_some ⟨gM_ch g1 g2 (fr_mono (fun g hg => Or.inl hg) q3) n44 hM, f3, Nat.le_refl _, W, C, hv⟩)
      have hV : isoV A sg (fun x => x) (c, cirs A, S, G) := isoV_of j2 j3
      obtain ⟨w, hw⟩ := hg d A sg c hd hs hA
      have hT : tyI (c, cirs A, S, G) := by
        refine ⟨hnv, fun k hk => ?_, A, sg, fun x => x, w, max 1 (P + cirs A), hV, hw, hA.2.2.2.2, pLe_of hV ?_, by omega, ?_⟩
        · show G k ≠ 0
          rw [j4 k hk]
          split <;> decide
        · show (np_parts c S.1).2 + cirs A ≤ _
          omega
        · show c + max 1 (P + cirs A) ≤ 9
          rcases Nat.eq_zero_or_pos (P + cirs A) with h0 | h0
          · have : c = 0 := by
              rcases Nat.eq_zero_or_pos c with h7 | h7
              · exact h7
              · obtain ⟨-, u2, -⟩ := parts_I j3 hc12
                obtain ⟨r, r1, -⟩ := u2 0 (by omega)
                omega
            omega
          · omega
      refine w_dc1 (tc_compute hv a3 n44 hT (tbP_fr f3 (by unfold chG cmG cP; omega) htb) (chP_fr f3 (fun g hg => by unfold chG cmG cP at hg; omega) hch) hp2 hp9) ?_
      rintro v v1 z1 ⟨r1, r2, r3, W2, C2, r4⟩
      exact w_some ⟨gM_ch g1 g2 (fr_tr (fr_mono (fun g hg => Or.inl hg) q3) (fr_mono (fun g hg => Or.inr hg) r3)) r2 hM, fr_tr f3 (fr_mono (fun g hg => Or.inr hg) r3), r1, W2, C2, r4⟩
    · exact absurd (show (0 : Nat) = 1 from h1.1) (by decide)
  · rintro a y1 ha ⟨h1, rfl⟩
    exact w_some (st a 0)
end CH
