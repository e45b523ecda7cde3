/-! conway: the class's unfold, exactly: the rings -/
section XCE
variable {vl : Nat → Nat} {y : ow_MS} {xp : Int32}
/-- the first ring is done: it is met over everywhere first, met and gone -/
def ufP (f : Nat → Nat) (b1 Mm Gm : Nat) (B : rn_L) : Prop := Mm < 2 ^ 24 ∧ Gm < 2 ^ 24 ∧ gPre B b1 ∧ (∀ u, u < b1 → o_gn Mm (f (crs B u))) ∧ ∀ u, u < b1 → o_gn Gm (lbv B f u)
/-- behind the first ring -/
theorem uf_rest {L dd c n1 b1 : Nat} {f : Nat → Nat} {φ : Int} {W : Nat → Int} (hL : L ≤ 12) (hself : L < 12 → ufS vl L dd) (hc : c + L ≤ 12) (hc0 : 0 < c) : ∀ (d s r : Nat) (pw : Int32) (Mm Gm : Nat) (z : ow_MS) (R : ow_NT) (B : rn_L) (sb : Nat → Bool), s + d = 2 * c → 1 ≤ r → r ≤ s → ufJ L c f φ W n1 b1 z R B sb → ufP f b1 Mm Gm B → (n1 = 1 → r = 1) → (r = 1 → (∀ v, v < s → o_gn Gm v) ∧ ∀ v, v < 2 * c → o_gn Gm v → ∃ u, u < b1 ∧ lbv B f u = v) → Tt (fun K t => c_X8_unfold vl K (cd0_X8_unfold vl K dd) t 1 (nI L) (iI φ) xp (nI L) (nI (2 * c)) pw (nI Mm) (nI Gm) (nI r) (nI s) 0 0 0 0 24000 (lv L) z) (fun z1 => cwC z1 W) := by
  have hh := lv_nH hL
  let Q : ow_MS → Prop := fun z1 => cwC z1 W
  intro d
  induction d with
  | zero =>
    intro s r pw Mm Gm z R B sb hs hr hrs hJ hP hn hg
    obtain ⟨j1, j2, j3, j4, j5, j6, j7, m, j8, j9⟩ := hJ
    obtain ⟨p1, p2, p3, p4, p5⟩ := hP
    have hN := uL_N j5
    have hci : cirs B = R.2.1 := hN.2.2.2.2.2.2.2
    have hlen := hN.2.1
    have hb := (j5.2.2 (by omega)).1
    have hc3 := j3.2.2.2
    refine u_X8_unfold_1 ?_; unfold cm_X8_unfold_1
    refine w_leT (by omega) (by omega) (w_rdF j2.2.1 ?_)
    rw [nI_add]
    refine w_cs0 (xc_addC (show r + R.2.1 < 100 by omega) hL j8) ?_
    rintro z1 h1
    refine w_some (cwC_cg h1 (fun t ht => ?_))
    rw [← j9 t ht]
    by_cases e1 : n1 = 1
    · have hr1 := hn e1
      have h0 := cirs_0 (j6.trans e1) hb
      rw [shf_d (V := skV 13 B sb) (fun k => sk_one (F := 12) (j6.trans e1) (by rw [j7]; exact p3))]
      by_cases e2 : t = L
      · rw [if_pos ⟨by omega, e2⟩, if_pos e2]
      · rw [if_neg (fun h => e2 h.2), if_neg e2]
    · have hb9 : B.length ≠ 0 := fun e => by
        rw [List.eq_nil_of_length_eq_zero e] at hb
        exact absurd hb (by decide)
      have n2 : 2 ≤ B.length := by omega
      rw [shf_0 (V := skV 13 B sb) (fun k => sk_zero 13 B sb k hN.1 ⟨by rw [j7]; exact p3, n2⟩)]
      have hne : ¬ (r + R.2.1 = 1) := fun e => by
        obtain ⟨g1, g2⟩ := hg (by omega)
        have hle : B.flatten.length ≤ rn_b B 1 := by
          rcases Nat.lt_or_ge (rn_b B 1) B.flatten.length with h9 | h9
          · have hlt : lbv B f (rn_b B 1) < 2 * c := by rw [← j4]; exact lbv_lt hN h9
            obtain ⟨u, u1, u2⟩ := g2 _ hlt (g1 _ (by omega))
            have := lbv_inj hN (v := u) (w := rn_b B 1) (by omega) h9 u2
            omega
          · exact h9
        have := cirs_1 n2 hle
        omega
      rw [if_neg (fun h => hne h.1)]
  | succ d ih =>
    intro s r pw Mm Gm z R B sb hs hr hrs hJ hP hn hg
    have c5 : ∀ (r' : Nat) (pw : Int32) (Mm Gm : Nat) (z : ow_MS) (R : ow_NT) (B : rn_L) (sb : Nat → Bool), 1 ≤ r' → r' ≤ s + 1 → ufJ L c f φ W n1 b1 z R B sb → ufP f b1 Mm Gm B → (n1 = 1 → r' = 1) → (r' = 1 → (∀ v, v < s + 1 → o_gn Gm v) ∧ ∀ v, v < 2 * c → o_gn Gm v → ∃ u, u < b1 ∧ lbv B f u = v) → Tt (fun K t => c_X8_unfold vl K (cd0_X8_unfold vl K dd) t 5 (nI L) (iI φ) xp (nI L) (nI (2 * c)) pw (nI Mm) (nI Gm) (nI r') (nI s) 0 0 0 0 24000 (lv L) z) Q := by
      intro r' pw Mm Gm z R B sb h1 h2 h3 h4 h5 h6
      refine u_X8_unfold_5 ?_; unfold cm_X8_unfold_5
      rw [nI_1]
      exact ih (s + 1) r' pw Mm Gm z R B sb (by omega) h1 h2 h3 h4 h5 h6
    have c2 : ∀ (e i v : Nat) (pw : Int32) (Mm Gm : Nat) (z : ow_MS) (R : ow_NT) (B : rn_L) (sb : Nat → Bool), i + e = 2 * c → v < 2 * c → 2 ≤ n1 → ufJ L c f φ W n1 b1 z R B sb → ufP f b1 Mm Gm B → Tt (fun K t => c_X8_unfold vl K (cd0_X8_unfold vl K dd) t 2 (nI L) (iI φ) xp (nI L) (nI (2 * c)) pw (nI Mm) (nI Gm) (nI (r + 1)) (nI s) (nI v) (nI i) 0 0 24000 (lv L) z) Q := by
      intro e
      induction e with
      | zero =>
        intro i v pw Mm Gm z R B sb hi hv hn2 hJ hP
        refine u_X8_unfold_2 ?_; unfold cm_X8_unfold_2
        exact w_leT (by omega) (by omega) (c5 (r + 1) pw Mm Gm z R B sb (by omega) (by omega) hJ hP (by omega) (by omega))
      | succ e ihe =>
        intro i v pw Mm Gm z R B sb hi hv hn2 hJ hP
        obtain ⟨j1, j2, j3, j4, j5, j6, j7, m, j8, j9⟩ := id hJ
        obtain ⟨p1, p2, p3, p4, p5⟩ := id hP
        have hN := uL_N j5
        have hlen := hN.2.1
        obtain ⟨q1, q2⟩ := uf_bits ⟨v, by omega⟩
        have q3 := uf_par ⟨v, by omega⟩
        dsimp only at q1 q2 q3
        have c4 : ∀ (v' : Nat) (pw : Int32) (z : ow_MS) (R : ow_NT) (B : rn_L) (sb : Nat → Bool), v' < 2 * c → ufJ L c f φ W n1 b1 z R B sb → ufP f b1 Mm Gm B → Tt (fun K t => c_X8_unfold vl K (cd0_X8_unfold vl K dd) t 4 (nI L) (iI φ) xp (nI L) (nI (2 * c)) pw (nI Mm) (nI Gm) (nI (r + 1)) (nI s) (nI v') (nI i) (nI (v / 2)) 0 24000 (lv L) z) Q := by
          intro v' pw z R B sb hv' hJ hP
          obtain ⟨k1, k2, k3, k4, k5⟩ := hP
          have hn9 := (hJ.2.2.1.1 v' (by rw [hJ.2.2.2.1]; exact hv')).1
          rw [hJ.2.2.2.1] at hn9
          obtain ⟨o1, o2⟩ := gor9 k1 (show v / 2 < 24 by omega)
          obtain ⟨o3, o4⟩ := gor9 k2 (show v' < 24 by omega)
          refine u_X8_unfold_4 ?_; unfold cm_X8_unfold_4
          rw [nI_1, o1, o3]
          exact w_crI (nH_1 hh) rfl (show v' < 24 by omega) (hJ.2.1.2.2.1 v') (ihe (i + 1) _ pw _ _ z R B sb (by omega) hn9 hn2 hJ ⟨o2, o4, k3, fun u hu => (gn_or _ _ _).mpr (Or.inl (k4 u hu)), fun u hu => (gn_or _ _ _).mpr (Or.inl (k5 u hu))⟩)
        refine u_X8_unfold_2 ?_; unfold cm_X8_unfold_2
        rw [q1, show Int32.ofNat ((cX vl).2 (24000 + 2)).2.1 = nI 13 from rfl]
        refine w_leF (by omega) (by omega) (w_if (fun hg0 => w_if (fun hm0 => w_if (fun hodd => ?_) (fun _ => c4 v pw z R B sb hv hJ hP)) (fun _ => c4 v pw z R B sb hv hJ hP)) (fun _ => c5 (r + 1) pw Mm Gm z R B sb (by omega) (by omega) hJ hP (by omega) (by omega)))
        have hmet := (gbit0 p1 (show v / 2 < 24 by omega)).mp hm0
        obtain ⟨p, pl, pe⟩ := lbv_sur hN (k := v) (by omega)
        have hfx : f (crs B p) = v / 2 := by rw [← pe]; exact (lbv_hf hN pl).1.symm
        have far : ∀ u, u < b1 → crs B u ≠ crs B p := fun u hu e9 => hmet (by rw [← hfx, ← e9]; exact p4 u hu)
        have hb := (j5.2.2 (by omega)).1
        have hle9 := rn_b_le B 1
        have h00 : crs B 0 ≠ crs B p := far 0 (by omega)
        obtain ⟨a, b, hs2⟩ := sm2_ex hN.1 pl
        have hab : b1 ≤ a := by
          rcases Nat.lt_or_ge a b1 with h9 | h9
          · exact absurd hs2.2.2.1 (far a h9)
          · exact h9
        have hgd : gdC B := ⟨by rw [j7]; exact p3, by omega⟩
        have z0 : ∀ k, skV 13 B sb k = 0 := fun k => sk_zero 13 B sb k hN.1 hgd
        have z1 : ∀ k, skV 13 (smV B a b) sb k = 0 := fun k => sk_zero 13 _ sb k (sm_wk hN.1 hs2).1 (gd_sm hN.1 hgd hs2.1 hs2.2.1 (by omega))
        have hgd2 : gdC (chA B (crs B p)) := gd_ch hgd (fun u hu _ => far u (by omega))
        have z2 : ∀ k, skV 13 (chA B (crs B p)) (chS sb (crs B p)) k = 0 := fun k => sk_zero 13 _ _ k (ch_wk hN.1 _) hgd2
        have hV : ∀ k, skV 13 B sb k = (if sb (crs B p) then -1 else 1) * (if k = 0 then 0 else skV 13 (smV B a b) sb (k - 1)) + skV 13 (chA B (crs B p)) (chS sb (crs B p)) k := fun k => by
          rw [z0, z1, z2]
          split <;> split <;> omega
        refine w_crI (nH_3 hh) rfl (show v / 2 < 12 by omega) (x := iI (if sb (crs B p) then -1 else 1)) (by rw [← hfx]; exact (j2.2.2.2.2 _).trans (uL_sg j5 pl)) ?_
        rw [nI_1 L, ← hfx]
        refine w_leF (by omega) (by omega) (uf_bad (by omega) (hself (by omega)) hJ hc pl rfl hs2 h00 hV (fun z3 hK => ?_))
        refine u_X8_unfold_3 ?_; unfold cm_X8_unfold_3
        rw [q2]
        refine uf_flip hL hK pl rfl h00 (fun z4 hJ4 => ?_)
        have := c4 (mt v) (pw + 2 * iI (if sb (crs B p) then -1 else 1)) z4 _ _ _ (mt_lt hv) hJ4 ⟨p1, p2, by have := hgd2.1; rw [b1_ch, j7] at this; exact this, fun u hu => by rw [ch_crs (by omega)]; exact p4 u hu, fun u hu => by
          have e9 : lbv (chA B (crs B p)) f u = lbv B f u := by
            unfold lbv
            rw [ch_crs (by omega), ch_uns (by omega), if_neg (far u hu)]
          rw [e9]
          exact p5 u hu⟩
        rw [← hfx] at this
        exact this
    obtain ⟨p1, p2, p3, p4, p5⟩ := id hP
    obtain ⟨j1, j2, j3, j4, j5, j6, j7, m, j8, j9⟩ := id hJ
    refine u_X8_unfold_1 ?_; unfold cm_X8_unfold_1
    refine w_leF (by omega) (by omega) ?_
    by_cases hgn : o_gn Gm s
    · exact w_ifF (fun h9 => (gbit0 p2 (by omega)).mp h9 hgn) (c5 r pw Mm Gm z R B sb hr (by omega) hJ hP hn (fun h9 => ⟨fun v hv => by
        by_cases e : v = s
        · rw [e]
          exact hgn
        · exact (hg h9).1 v (by omega), (hg h9).2⟩))
    · have hN := uL_N j5
      have hlen := hN.2.1
      obtain ⟨p, pl, pe⟩ := lbv_sur hN (k := s) (by omega)
      have n2 : 2 ≤ n1 := by
        rcases Nat.lt_or_ge n1 2 with h9 | h9
        · exfalso
          have hb : rn_b B 1 = B.flatten.length := by
            have h8 := rn_b_le B 1
            have h7 := rn_b_mono2 (A := B) (show B.length ≤ 1 by omega)
            rw [rn_b_len] at h7
            omega
          exact hgn (by rw [← pe]; exact p5 p (by omega))
        · exact h9
      refine w_ifT ((gbit0 p2 (by omega)).mpr hgn) ?_
      rw [nI_1]
      exact c2 (2 * c) 0 s pw Mm Gm z R B sb (by omega) (by omega) n2 hJ hP
end XCE
