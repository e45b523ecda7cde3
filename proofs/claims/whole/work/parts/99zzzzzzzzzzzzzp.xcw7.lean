/-! conway: the class's unfold, exactly: the first ring -/
section XCF
variable {vl : Nat → Nat} {y : ow_MS} {xp : Int32}
theorem uf_first {L dd c n1 b1 : Nat} {f : Nat → Nat} {φ : Int} {W : Nat → Int} (hL : L ≤ 12) (hself : L < 12 → ufS vl L dd) (hc : c + L ≤ 12) (hc0 : 0 < c) : ∀ (e i v : Nat) (pw : Int32) (Mm Gm : Nat) (z : ow_MS) (R : ow_NT) (B : rn_L) (sb : Nat → Bool), i + e = b1 → (i < b1 → v = lbv B f i) → (i = b1 → v = 0) → ufJ L c f φ W n1 b1 z R B sb → gPre B i → Mm < 2 ^ 24 → Gm < 2 ^ 24 → (∀ x, x < 12 → (o_gn Mm x ↔ ∃ u, u < i ∧ f (crs B u) = x)) → (∀ k, k < 24 → (o_gn Gm k ↔ ∃ u, u < i ∧ lbv B f u = k)) → Tt (fun K t => c_X8_unfold vl K (cd0_X8_unfold vl K dd) t 2 (nI L) (iI φ) xp (nI L) (nI (2 * c)) pw (nI Mm) (nI Gm) (nI 1) (nI 0) (nI v) (nI i) 0 0 24000 (lv L) z) (fun z1 => cwC z1 W) := by
  have hh := lv_nH hL
  let Q : ow_MS → Prop := fun z1 => cwC z1 W
  intro e
  induction e with
  | zero =>
    intro i v pw Mm Gm z R B sb hi hv1 hv2 hJ hg hM hG hme hgo
    obtain ⟨j1, j2, j3, j4, j5, j6, j7, m, j8, j9⟩ := id hJ
    have hN := uL_N j5
    have hlen := hN.2.1
    have hle := rn_b_le B 1
    obtain ⟨hb, hb0⟩ := j5.2.2 (by omega)
    have hib : i = b1 := by omega
    have ev := hv2 hib
    have ltx : ∀ u, u < b1 → f (crs B u) < 12 ∧ lbv B f u < 24 := fun u hu => by
      have h1 := hN.2.2.2.1 u (by omega)
      have h2 := lbv_lt hN (v := u) (by omega)
      omega
    have c5 : Tt (fun K t => c_X8_unfold vl K (cd0_X8_unfold vl K dd) t 5 (nI L) (iI φ) xp (nI L) (nI (2 * c)) pw (nI Mm) (nI Gm) (nI 1) (nI 0) 0 0 0 0 24000 (lv L) z) Q := by
      refine u_X8_unfold_5 ?_; unfold cm_X8_unfold_5
      rw [show nI 0 + 1 = nI 1 from nI_1 0]
      refine uf_rest hL hself hc hc0 (2 * c - 1) 1 1 pw Mm Gm z R B sb (by omega) (by omega) (by omega) hJ ⟨hM, hG, by rw [← hib]; exact hg, fun u hu => (hme _ (ltx u hu).1).mpr ⟨u, by omega, rfl⟩, fun u hu => (hgo _ (ltx u hu).2).mpr ⟨u, by omega, rfl⟩⟩ (fun _ => rfl) (fun _ => ⟨fun k hk => ?_, fun k hk h9 => ?_⟩)
      · rw [show k = 0 by omega]
        exact (hgo 0 (by omega)).mpr ⟨0, by omega, hb0⟩
      · obtain ⟨u, u1, u2⟩ := (hgo k (by omega)).mp h9
        exact ⟨u, by omega, u2⟩
    refine u_X8_unfold_2 ?_; unfold cm_X8_unfold_2
    rw [ev]
    exact w_le (by omega) (by omega) (fun _ => c5) (fun _ => w_ifF (fun h9 => (gbit0 hG (by omega)).mp h9 ((hgo 0 (by omega)).mpr ⟨0, by omega, hb0⟩)) c5)
  | succ e ihe =>
    intro i v pw Mm Gm z R B sb hi hv1 hv2 hJ hg hM hG hme hgo
    obtain ⟨j1, j2, j3, j4, j5, j6, j7, m, j8, j9⟩ := id hJ
    have hN := uL_N j5
    have hlen := hN.2.1
    have hle := rn_b_le B 1
    obtain ⟨hb, hb0⟩ := j5.2.2 (by omega)
    have hil : i < B.flatten.length := by omega
    have ev : v = lbv B f i := hv1 (by omega)
    have hvl : v < 2 * c := by rw [ev, ← j4]; exact lbv_lt hN hil
    obtain ⟨f1, f2⟩ := lbv_hf hN hil
    rw [← ev] at f1 f2
    obtain ⟨q1, q2⟩ := uf_bits ⟨v, by omega⟩
    have q3 := uf_par ⟨v, by omega⟩
    dsimp only at q1 q2 q3
    have c4 : ∀ (v' : Nat) (pw : Int32) (z : ow_MS) (R : ow_NT) (B' : rn_L) (sb : Nat → Bool), v' = lbv B' f i → ufJ L c f φ W n1 b1 z R B' sb → gPre B' (i + 1) → (∀ u, u < i → vAt B' u = vAt B u) → crs B' i = crs B i → Tt (fun K t => c_X8_unfold vl K (cd0_X8_unfold vl K dd) t 4 (nI L) (iI φ) xp (nI L) (nI (2 * c)) pw (nI Mm) (nI Gm) (nI 1) (nI 0) (nI v') (nI i) (nI (v / 2)) 0 24000 (lv L) z) Q := by
      intro v' pw z R B' sb ev' hJ' hg' hpre hci
      obtain ⟨k1, k2, k3, k4, k5, k6, k7, -⟩ := id hJ'
      have hN' := uL_N k5
      have hlen' := hN'.2.1
      have hle' := rn_b_le B' 1
      have hv' : v' < 2 * c := by rw [ev', ← k4]; exact lbv_lt hN' (by omega)
      obtain ⟨o1, o2⟩ := gor9 hM (show v / 2 < 24 by omega)
      obtain ⟨o3, o4⟩ := gor9 hG (show v' < 24 by omega)
      have hnx := uL_nx k5 (v := i) (by omega)
      rw [← ev', k7] at hnx
      have pc : ∀ u, u < i → crs B' u = crs B u := fun u hu => by unfold crs; rw [hpre u hu]
      have pl : ∀ u, u < i → lbv B' f u = lbv B f u := fun u hu => by unfold lbv crs uns; rw [hpre u hu]
      refine u_X8_unfold_4 ?_; unfold cm_X8_unfold_4
      rw [nI_1, o1, o3]
      refine w_crI (nH_1 hh) rfl (show v' < 24 by omega) (k2.2.2.1 v') (ihe (i + 1) _ pw _ _ z R B' sb (by omega) (fun h9 => by rw [hnx, if_pos h9]) (fun h9 => by rw [hnx, if_neg (by omega)]) hJ' hg' o2 o4 (fun x hx => ?_) (fun k hk => ?_))
      · rw [gn_or, hme x hx]
        constructor
        · rintro (⟨u, u1, u2⟩ | h9)
          · exact ⟨u, by omega, by rw [pc u u1]; exact u2⟩
          · exact ⟨i, by omega, by rw [hci, h9, f1]⟩
        · rintro ⟨u, u1, u2⟩
          by_cases eu : u = i
          · rw [eu, hci, ← f1] at u2
            exact Or.inr u2.symm
          · exact Or.inl ⟨u, by omega, by rw [← pc u (by omega)]; exact u2⟩
      · rw [gn_or, hgo k hk]
        constructor
        · rintro (⟨u, u1, u2⟩ | h9)
          · exact ⟨u, by omega, by rw [pl u u1]; exact u2⟩
          · exact ⟨i, by omega, by rw [h9, ev']⟩
        · rintro ⟨u, u1, u2⟩
          by_cases eu : u = i
          · rw [eu, ← ev'] at u2
            exact Or.inr u2.symm
          · exact Or.inl ⟨u, by omega, by rw [← pl u (by omega)]; exact u2⟩
    have hgone : ¬ o_gn Gm v := fun h9 => by
      obtain ⟨u, u1, u2⟩ := (hgo v (by omega)).mp h9
      have := lbv_inj hN (v := u) (w := i) (by omega) hil (u2.trans ev)
      omega
    have good : (¬ (∀ u, u < i → crs B u ≠ crs B i) ∨ uns B i = 0) → gPre B (i + 1) := fun h9 u hu hul hfu => by
      by_cases eu : u = i
      · subst eu
        rcases h9 with h9 | h9
        · exact absurd hfu h9
        · exact h9
      · exact hg u (by omega) hul hfu
    have noflip : (¬ (∀ u, u < i → crs B u ≠ crs B i) ∨ uns B i = 0) → Tt (fun K t => c_X8_unfold vl K (cd0_X8_unfold vl K dd) t 4 (nI L) (iI φ) xp (nI L) (nI (2 * c)) pw (nI Mm) (nI Gm) (nI 1) (nI 0) (nI v) (nI i) (nI (v / 2)) 0 24000 (lv L) z) Q := fun h9 => c4 v pw z R B sb ev hJ (good h9) (fun u _ => rfl) rfl
    refine u_X8_unfold_2 ?_; unfold cm_X8_unfold_2
    rw [q1, show Int32.ofNat ((cX vl).2 (24000 + 2)).2.1 = nI 13 from rfl]
    refine w_leF (by omega) (by omega) (w_ifT ((gbit0 hG (by omega)).mpr hgone) (w_if (fun hm0 => w_if (fun hodd => ?_) (fun hev => noflip (Or.inr ?_))) (fun hm0 => noflip (Or.inl (fun h9 => hm0 ?_)))))
    rotate_left
    · have h7 : ¬ v % 2 = 1 := fun h9 => hev (q3.mpr h9)
      have h2 := (hN.1.2 _ (vAt_mem hil)).2.1
      have h3 : uns B i < 2 := h2
      omega
    · refine (gbit0 hM (by omega)).mpr (fun h8 => ?_)
      obtain ⟨u, u1, u2⟩ := (hme (v / 2) (by omega)).mp h8
      exact h9 u u1 (hN.2.2.2.2.1 u i (by omega) hil (u2.trans f1))
    have hmet := (gbit0 hM (show v / 2 < 24 by omega)).mp hm0
    have hun : uns B i = 1 := by rw [← f2]; exact q3.mp hodd
    have hfst : ∀ u, u < i → crs B u ≠ crs B i := fun u hu e9 => hmet ((hme (v / 2) (by omega)).mpr ⟨u, hu, by rw [e9]; exact f1.symm⟩)
    have hbd : bdF B i := ⟨hil, hfst, by omega, fun u hu hfu => hg u hu (by omega) hfu⟩
    have hi0 : 0 < i := by
      rcases Nat.eq_zero_or_pos i with h9 | h9
      · have := (uL_0 j5 (by omega)).2
        rw [h9, this] at hun
        exact absurd hun (by decide)
      · exact h9
    have h00 : crs B 0 ≠ crs B i := hfst 0 hi0
    have hs2 := sm2_bd j5 hbd
    have hV := fun k => sk_st (sg := sb) (k := k) hN.1 (by omega) hbd
    refine w_crI (nH_3 hh) rfl (show v / 2 < 12 by omega) (x := iI (if sb (crs B i) then -1 else 1)) (by rw [f1]; exact (j2.2.2.2.2 _).trans (uL_sg j5 hil)) ?_
    rw [nI_1 L, f1]
    refine w_leF (by omega) (by omega) (uf_bad (by omega) (hself (by omega)) hJ hc hil rfl hs2 h00 hV (fun z3 hK => ?_))
    refine u_X8_unfold_3 ?_; unfold cm_X8_unfold_3
    rw [q2]
    refine uf_flip hL hK hil rfl h00 (fun z4 hJ4 => ?_)
    have hg2 : gPre (chA B (crs B i)) (i + 1) := fun u hu hul hfu => by
      rw [ch_len] at hul
      rw [ch_uns hul]
      by_cases eu : u = i
      · rw [eu, if_pos rfl, hun]
      · rw [if_neg (hfst u (by omega))]
        refine hg u (by omega) hul (fun t ht e9 => hfu t ht ?_)
        rw [ch_crs (by omega), ch_crs hul]
        exact e9
    have := c4 (mt v) (pw + 2 * iI (if sb (crs B i) then -1 else 1)) z4 _ _ _ (by
      unfold lbv
      rw [ch_crs hil, ch_uns hil, if_pos rfl, hun, ev]
      unfold lbv mt
      rw [hun, if_neg (by omega)]
      omega) hJ4 hg2 (fun u hu => by
      unfold chA
      rw [flp_vAt (by omega)]
      unfold flp
      have : ¬ (crs B u = crs B i) := hfst u hu
      exact if_neg (fun h9 => this (of_decide_eq_true h9))) (ch_crs hil)
    rw [f1] at this
    exact this
/-- one level -/
theorem xc_unfS {L dd : Nat} {T : ow_NT} {A : rn_L} {sg : Nat → Bool} {f : Nat → Nat} {φ : Int} {n : Nat → Int} (hL : L ≤ 12) (hself : L < 12 → ufS vl L dd) (h0 : lvS y) (hT : cAt y (lv L) T) (hv : nvL L T) (hc : T.1 + L ≤ 12) (hu : uL A sg f T) (hn : cwC y n) : Te (fun K => cd0_X8_unfold vl K (dd + 1) 24000 (nI L) (iI φ) xp (nI L) y) (fun z1 => cwC z1 (fun t => n t + φ * shf L (skV 13 A sg) t)) := by
  have hN := uL_N hu
  have hlen := hN.2.1
  obtain ⟨c, hcT⟩ : ∃ c, T.1 = c := ⟨_, rfl⟩
  refine w_cdU ?_
  refine u_X8_unfold_0 ?_; unfold cm_X8_unfold_0
  refine w_crX rfl (show L < 13 by omega) (w_rdF hT.1 ?_)
  rw [hcT, rn_mul2]
  rcases Nat.eq_zero_or_pos c with e0 | e0
  · have hci : cirs A = T.2.1 := hN.2.2.2.2.2.2.2
    have hnil : A.flatten = [] := List.eq_nil_of_length_eq_zero (by omega)
    have h6 := hv.2.2.2
    rw [e0]
    refine u_X8_unfold_1 ?_; unfold cm_X8_unfold_1
    refine w_leT (a := 0) (b := 0) (by omega) (by omega) (w_rdF hT.2.1 ?_)
    rw [show (0 : Int32) + nI T.2.1 = nI (0 + T.2.1) from nI_add 0 T.2.1]
    refine w_cs0 (xc_addC (show 0 + T.2.1 < 100 by omega) hL hn) ?_
    rintro z1 h1
    refine w_some (cwC_cg h1 (fun t ht => ?_))
    have hno : ∀ v, ¬ bdF A v := fun v h9 => by
      have := h9.1
      omega
    rw [cirs_n hnil] at hci
    unfold shf
    by_cases e1 : A.length = 1 ∧ t = L
    · rw [if_pos ⟨by omega, e1.2⟩, if_pos (by omega), sk_none (F := 12) hno, if_pos ⟨e1.1, by omega⟩]
    · rw [if_neg (fun h9 => e1 ⟨by omega, h9.2⟩)]
      by_cases e2 : L ≤ t
      · rw [if_pos e2, sk_none (F := 12) hno, if_neg (fun h9 => e1 ⟨h9.1, by omega⟩)]
      · rw [if_neg e2]
  · obtain ⟨b1, b0⟩ := hu.2.2 (by omega)
    refine u_X8_unfold_1 ?_; unfold cm_X8_unfold_1
    refine w_leF (a := 2 * c) (b := 0) (by omega) (by omega) (w_ifT (by decide) ?_)
    exact uf_first (n1 := A.length) (b1 := rn_b A 1) hL hself (by omega) e0 (rn_b A 1) 0 0 xp 0 0 y T A sg (by omega) (fun _ => b0.symm) (fun h9 => by omega) ⟨h0, hT, hv, hcT, hu, rfl, rfl, n, hn, fun t _ => rfl⟩ (fun v hv => absurd hv (Nat.not_lt_zero _)) (by decide) (by decide) (fun x _ => ⟨fun h9 => absurd h9 (gn_z9 x), fun ⟨u, u1, _⟩ => absurd u1 (Nat.not_lt_zero _)⟩) (fun k _ => ⟨fun h9 => absurd h9 (gn_z9 k), fun ⟨u, u1, _⟩ => absurd u1 (Nat.not_lt_zero _)⟩)
theorem xc_unfD : ∀ (d L : Nat), L + d = 12 → ∀ (R : ow_NT) (B : rn_L) (sb : Nat → Bool) (g : Nat → Nat) (ψ : Int) (m : Nat → Int) (xp : Int32) (z : ow_MS), lvS z → cAt z (lv L) R → nvL L R → R.1 + L ≤ 12 → uL B sb g R → cwC z m → Te (fun K => cd0_X8_unfold vl K (d + 3) 24000 (nI L) (iI ψ) xp (nI L) z) (fun z1 => (lvS z1 ∧ fr (unP L) z z1) ∧ cwC z1 (fun t => m t + ψ * shf L (skV 13 B sb) t)) := by
  intro d
  induction d with
  | zero =>
    intro L hL R B sb g ψ m xp z h0 hT hv hc hu hn
    exact te_and (tc_unfD 0 L hL R _ _ z h0 hT hv) (xc_unfS (dd := 2) (by omega) (fun h => absurd h (by omega)) h0 hT hv hc hu hn)
  | succ d ih =>
    intro L hL R B sb g ψ m xp z h0 hT hv hc hu hn
    exact te_and (tc_unfD (d + 1) L hL R _ _ z h0 hT hv) (xc_unfS (dd := d + 3) (by omega) (fun _ => ih (L + 1) (by omega)) h0 hT hv hc hu hn)
end XCF
