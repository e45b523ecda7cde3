section
/-! 99zzzzzzzzzzzzzn.xcw5 -/
/-! conway: the class's unfold, exactly -/
theorem shf_d {L t : Nat} {V : Nat → Int} (h : ∀ k, V k = if k = 0 then 1 else 0) : shf L V t = if t = L then 1 else 0 := by
  unfold shf
  by_cases e : L ≤ t
  · rw [if_pos e, h]
    by_cases e2 : t = L
    · rw [if_pos e2, if_pos (by omega)]
    · rw [if_neg e2, if_neg (by omega)]
  · rw [if_neg e, if_neg (by omega)]
theorem shf_0 {L t : Nat} {V : Nat → Int} (h : ∀ k, V k = 0) : shf L V t = 0 := by
  unfold shf
  by_cases e : L ≤ t
  · rw [if_pos e, h]
  · rw [if_neg e]
theorem shf_st {L t : Nat} {φ s : Int} {V V1 V2 : Nat → Int} (h : ∀ k, V k = s * (if k = 0 then 0 else V1 (k - 1)) + V2 k) (m : Int) : m + (φ * s) * shf (L + 1) V1 t + φ * shf L V2 t = m + φ * shf L V t := by
  unfold shf
  by_cases e2 : L ≤ t
  · rw [if_pos e2, if_pos e2, h]
    by_cases e3 : L + 1 ≤ t
    · rw [if_pos e3, if_neg (show ¬ t - L = 0 by omega), show t - (L + 1) = t - L - 1 by omega, Int.mul_add, Int.mul_assoc, Int.add_assoc]
    · rw [if_neg e3, if_pos (show t - L = 0 by omega), Int.mul_zero, Int.mul_zero, Int.add_zero, Int.zero_add]
  · rw [if_neg e2, if_neg e2, if_neg (by omega), Int.mul_zero, Int.mul_zero, Int.add_zero, Int.add_zero]
section XCD
variable {vl : Nat → Nat} {y : ow_MS} {xp : Int32}
/-- the state of the net at hand: what it shows, and what is still to come -/
def ufJ (L c : Nat) (f : Nat → Nat) (φ : Int) (W : Nat → Int) (n1 b1 : Nat) (z : ow_MS) (R : ow_NT) (B : rn_L) (sb : Nat → Bool) : Prop := lvS z ∧ cAt z (lv L) R ∧ nvL L R ∧ R.1 = c ∧ uL B sb f R ∧ B.length = n1 ∧ rn_b B 1 = b1 ∧ ∃ m, cwC z m ∧ ∀ t, t < 13 → m t + φ * shf L (skV 13 B sb) t = W t
/-- the same, where the crossing x is still to be changed -/
def ufK (L c : Nat) (f : Nat → Nat) (φ : Int) (W : Nat → Int) (n1 b1 x : Nat) (z : ow_MS) (R : ow_NT) (B : rn_L) (sb : Nat → Bool) : Prop := lvS z ∧ cAt z (lv L) R ∧ nvL L R ∧ R.1 = c ∧ uL B sb f R ∧ B.length = n1 ∧ rn_b B 1 = b1 ∧ ∃ m, cwC z m ∧ ∀ t, t < 13 → m t + φ * shf L (skV 13 (chA B x) (chS sb x)) t = W t
def ufS (vl : Nat → Nat) (L dd : Nat) : Prop := ∀ (R : ow_NT) (B : rn_L) (sb : Nat → Bool) (g : Nat → Nat) (ψ : Int) (m : Nat → Int) (xp : Int32) (z : ow_MS), lvS z → cAt z (lv (L + 1)) R → nvL (L + 1) R → R.1 + (L + 1) ≤ 12 → uL B sb g R → cwC z m → Te (fun K => cd0_X8_unfold vl K dd 24000 (nI (L + 1)) (iI ψ) xp (nI (L + 1)) z) (fun z1 => (lvS z1 ∧ fr (unP (L + 1)) z z1) ∧ cwC z1 (fun t => m t + ψ * shf (L + 1) (skV 13 B sb) t))
/-- a bad visit: the crossing smoothed a level below, then changed here -/
theorem uf_bad {O : Type} {Qo : O → Prop} {L dd c v x a b n1 b1 : Nat} {f : Nat → Nat} {φ : Int} {W : Nat → Int} {z : ow_MS} {R : ow_NT} {B : rn_L} {sb : Nat → Bool} {pw : Int32} {E : ow_MS → Nat → Nat → Option O} (hL : L < 12) (hself : ufS vl L dd) (hJ : ufJ L c f φ W n1 b1 z R B sb) (hc : c + L ≤ 12) (hv : v < B.flatten.length) (ex : crs B v = x) (hs : sm2 B x a b) (h0 : crs B 0 ≠ x) (hV : ∀ k, skV 13 B sb k = (if sb x then -1 else 1) * (if k = 0 then 0 else skV 13 (smV B a b) sb (k - 1)) + skV 13 (chA B x) (chS sb x) k) (H : ∀ z3, ufK L c f φ W n1 b1 x z3 R B sb → Tt (E z3) Qo) : Tt (fun K k => crX 13 (nI (L + 1)) fun j6 => cs0 (ce_X7_copy vl K (24000 + 2000 + 1000 * j6) (lv L) z) fun z7 => crX 13 (nI (L + 1)) fun j8 => cs0 (ce_X7_smoothCrossing vl K (24000 + 2000 + 1000 * j8) (nI (f x)) z7) fun z9 => cs0 (cd0_X8_unfold vl K dd 24000 (nI (L + 1)) (iI φ * iI (if sb x then -1 else 1)) pw (nI (L + 1)) z9) fun z10 => E z10 K k) Qo := by
  obtain ⟨j1, j2, j3, j4, j5, j6, j7, m, j8, j9⟩ := hJ
  have hN := uL_N j5
  have hx : f x < R.1 := by
    rw [← ex]
    exact hN.2.2.2.1 v hv
  have hh := lv_nH (show L ≤ 12 by omega)
  have hh1 := lv_nH (show L + 1 ≤ 12 by omega)
  obtain ⟨T', t1, t2⟩ := j1 (L + 1) (by omega)
  refine w_crX rfl (show L + 1 < 13 by omega) (w_cs0 (tc_copy hh1 hh (by unfold nDj lv; omega) t1 j2 j3.2.1) ?_)
  rintro z1 ⟨g1, g2⟩
  refine w_crX rfl (show L + 1 < 13 by omega) (w_cs0 (tc_smoothCrossing hh1 g1 (nt_copy_b24 t2 j3.2.2.1) (show f x < R.1 by omega) j3.2.1) ?_)
  rintro z2 ⟨g3, g4⟩
  have n2 := nvL_sm (Q := T') (x := f x) j3 t2 hx
  have f2 : fr (cP (lv (L + 1))) z z2 := fr_tr g2 g4
  have l2 : lvS z2 := lvS_fr (L := L + 1) f2 (fun g hg => Or.inl (cP_in hg)) ⟨_, g3, n2.2.2.1⟩ j1
  obtain ⟨f', hu'⟩ := uL_sm (Q := T') j5 hs h0
  have c2 : cwC z2 m := cwC_fr f2 (fun h9 => by unfold cP lv at h9; omega) j8
  rw [iI_mul]
  refine w_cs0 (hself _ _ _ _ _ m _ z2 l2 g3 n2 (show R.1 - 1 + (L + 1) ≤ 12 by omega) hu' c2) ?_
  rintro z3 ⟨⟨l3, f3⟩, c3⟩
  have f23 : fr (unP (L + 1)) z z3 := fr_tr (fr_mono (fun g hg => by unfold cP lv at hg; unfold unP; omega) f2) f3
  have hR3 : cAt z3 (lv L) R := cAt_fr f23 (fun g hg h9 => by unfold cP lv at hg; unfold unP at h9; omega) j2
  refine H z3 ⟨l3, hR3, j3, j4, j5, j6, j7, _, c3, fun t ht => ?_⟩
  rw [← j9 t ht]
  exact shf_st hV (m t)
theorem uf_flip {O : Type} {Qo : O → Prop} {L c v x n1 b1 : Nat} {f : Nat → Nat} {φ : Int} {W : Nat → Int} {z : ow_MS} {R : ow_NT} {B : rn_L} {sb : Nat → Bool} {E : ow_MS → Nat → Nat → Option O} (hL : L ≤ 12) (hJ : ufK L c f φ W n1 b1 x z R B sb) (hv : v < B.flatten.length) (ex : crs B v = x) (h0 : crs B 0 ≠ x) (H : ∀ z3, ufJ L c f φ W n1 b1 z3 (ntF R (f x)) (chA B x) (chS sb x) → Tt (E z3) Qo) : Tt (fun K k => cs0 (ce_X7_flipCrossing vl K (lv L) (nI (f x)) z) fun z11 => E z11 K k) Qo := by
  obtain ⟨j1, j2, j3, j4, j5, j6, j7, m, j8, j9⟩ := hJ
  have hx : f x < R.1 := by
    rw [← ex]
    exact (uL_N j5).2.2.2.1 v hv
  refine w_cs0 (tc_flipCrossing (lv_nH hL) j2 j3.2.2.1 (show f x < 12 by have := j3.2.1; omega)) ?_
  rintro z4 ⟨g5, g6⟩
  have n4 := nvL_flip (x := f x) (G := su R.2.2.2 (f x) (- R.2.2.2 (f x))) j3 hx
  exact H z4 ⟨lvS_fr (L := L) g6 (fun g hg => Or.inl (cP_in hg)) ⟨_, g5, n4.2.2.1⟩ j1, g5, n4, j4, uL_ch j5 hv ex h0, by unfold chA; rw [List.length_map]; exact j6, by rw [b1_ch]; exact j7, m, cwC_fr g6 (fun h9 => by unfold cP lv at h9; omega) j8, j9⟩
end XCD
end
section
/-! 99zzzzzzzzzzzzzo.xcw6 -/
/-! conway: the class's unfold, exactly: the rings -/
section XCE
variable {vl : Nat → Nat} {y : ow_MS} {xp : Int32}
/-- the first ring is done: it is met over everywhere first, met and gone -/
def ufP (f : Nat → Nat) (b1 Mm Gm : Nat) (B : rn_L) : Prop := Mm < 2 ^ 24 ∧ Gm < 2 ^ 24 ∧ gPre B b1 ∧ (∀ u, u < b1 → o_gn Mm (f (crs B u))) ∧ ∀ u, u < b1 → o_gn Gm (lbv B f u)
/-- behind the first ring -/
theorem uf_rest {L dd c n1 b1 : Nat} {f : Nat → Nat} {φ : Int} {W : Nat → Int} (hL : L ≤ 12) (hself : L < 12 → ufS vl L dd) (hc : c + L ≤ 12) (hc0 : 0 < c) : ∀ (d s r : Nat) (pw : Int32) (Mm Gm : Nat) (z : ow_MS) (R : ow_NT) (B : rn_L) (sb : Nat → Bool), s + d = 2 * c → 1 ≤ r → r ≤ s → ufJ L c f φ W n1 b1 z R B sb → ufP f b1 Mm Gm B → (n1 = 1 → r = 1) → (r = 1 → (∀ v, v < s → o_gn Gm v) ∧ ∀ v, v < 2 * c → o_gn Gm v → ∃ u, u < b1 ∧ lbv B f u = v) → Tt (fun K t => c_X8_unfold vl K (cd0_X8_unfold vl K dd) t 1 (nI L) (iI φ) xp (nI L) (nI (2 * c)) pw (nI Mm) (nI Gm) (nI r) (nI s) 0 0 0 0 24000 (lv L) z) (fun z1 => cwC z1 W) := by
  have hh := lv_nH hL
  let Q : ow_MS → Prop := fun z1 => cwC z1 W
  intro d
  induction d with
  | zero =>
    intro s r pw Mm Gm z R B sb hs hr hrs hJ hP hn hg
    obtain ⟨j1, j2, j3, j4, j5, j6, j7, m, j8, j9⟩ := hJ
    obtain ⟨p1, p2, p3, p4, p5⟩ := hP
    have hN := uL_N j5
    have hci : cirs B = R.2.1 := hN.2.2.2.2.2.2.2
    have hlen := hN.2.1
    have hb := (j5.2.2 (by omega)).1
    have hc3 := j3.2.2.2
    refine u_X8_unfold_1 ?_; unfold cm_X8_unfold_1
    refine w_leT (by omega) (by omega) (w_rdF j2.2.1 ?_)
    rw [nI_add]
    refine w_cs0 (xc_addC (show r + R.2.1 < 100 by omega) hL j8) ?_
    rintro z1 h1
    refine w_some (cwC_cg h1 (fun t ht => ?_))
    rw [← j9 t ht]
    by_cases e1 : n1 = 1
    · have hr1 := hn e1
      have h0 := cirs_0 (j6.trans e1) hb
      rw [shf_d (V := skV 13 B sb) (fun k => sk_one (F := 12) (j6.trans e1) (by rw [j7]; exact p3))]
      by_cases e2 : t = L
      · rw [if_pos ⟨by omega, e2⟩, if_pos e2]
      · rw [if_neg (fun h => e2 h.2), if_neg e2]
    · have hb9 : B.length ≠ 0 := fun e => by
        rw [List.eq_nil_of_length_eq_zero e] at hb
        exact absurd hb (by decide)
      have n2 : 2 ≤ B.length := by omega
      rw [shf_0 (V := skV 13 B sb) (fun k => sk_zero 13 B sb k hN.1 ⟨by rw [j7]; exact p3, n2⟩)]
      have hne : ¬ (r + R.2.1 = 1) := fun e => by
        obtain ⟨g1, g2⟩ := hg (by omega)
        have hle : B.flatten.length ≤ rn_b B 1 := by
          rcases Nat.lt_or_ge (rn_b B 1) B.flatten.length with h9 | h9
          · have hlt : lbv B f (rn_b B 1) < 2 * c := by rw [← j4]; exact lbv_lt hN h9
            obtain ⟨u, u1, u2⟩ := g2 _ hlt (g1 _ (by omega))
            have := lbv_inj hN (v := u) (w := rn_b B 1) (by omega) h9 u2
            omega
          · exact h9
        have := cirs_1 n2 hle
        omega
      rw [if_neg (fun h => hne h.1)]
  | succ d ih =>
    intro s r pw Mm Gm z R B sb hs hr hrs hJ hP hn hg
    have c5 : ∀ (r' : Nat) (pw : Int32) (Mm Gm : Nat) (z : ow_MS) (R : ow_NT) (B : rn_L) (sb : Nat → Bool), 1 ≤ r' → r' ≤ s + 1 → ufJ L c f φ W n1 b1 z R B sb → ufP f b1 Mm Gm B → (n1 = 1 → r' = 1) → (r' = 1 → (∀ v, v < s + 1 → o_gn Gm v) ∧ ∀ v, v < 2 * c → o_gn Gm v → ∃ u, u < b1 ∧ lbv B f u = v) → Tt (fun K t => c_X8_unfold vl K (cd0_X8_unfold vl K dd) t 5 (nI L) (iI φ) xp (nI L) (nI (2 * c)) pw (nI Mm) (nI Gm) (nI r') (nI s) 0 0 0 0 24000 (lv L) z) Q := by
      intro r' pw Mm Gm z R B sb h1 h2 h3 h4 h5 h6
      refine u_X8_unfold_5 ?_; unfold cm_X8_unfold_5
      rw [nI_1]
      exact ih (s + 1) r' pw Mm Gm z R B sb (by omega) h1 h2 h3 h4 h5 h6
    have c2 : ∀ (e i v : Nat) (pw : Int32) (Mm Gm : Nat) (z : ow_MS) (R : ow_NT) (B : rn_L) (sb : Nat → Bool), i + e = 2 * c → v < 2 * c → 2 ≤ n1 → ufJ L c f φ W n1 b1 z R B sb → ufP f b1 Mm Gm B → Tt (fun K t => c_X8_unfold vl K (cd0_X8_unfold vl K dd) t 2 (nI L) (iI φ) xp (nI L) (nI (2 * c)) pw (nI Mm) (nI Gm) (nI (r + 1)) (nI s) (nI v) (nI i) 0 0 24000 (lv L) z) Q := by
      intro e
      induction e with
      | zero =>
        intro i v pw Mm Gm z R B sb hi hv hn2 hJ hP
        refine u_X8_unfold_2 ?_; unfold cm_X8_unfold_2
        exact w_leT (by omega) (by omega) (c5 (r + 1) pw Mm Gm z R B sb (by omega) (by omega) hJ hP (by omega) (by omega))
      | succ e ihe =>
        intro i v pw Mm Gm z R B sb hi hv hn2 hJ hP
        obtain ⟨j1, j2, j3, j4, j5, j6, j7, m, j8, j9⟩ := id hJ
        obtain ⟨p1, p2, p3, p4, p5⟩ := id hP
        have hN := uL_N j5
        have hlen := hN.2.1
        obtain ⟨q1, q2⟩ := uf_bits ⟨v, by omega⟩
        have q3 := uf_par ⟨v, by omega⟩
        dsimp only at q1 q2 q3
        have c4 : ∀ (v' : Nat) (pw : Int32) (z : ow_MS) (R : ow_NT) (B : rn_L) (sb : Nat → Bool), v' < 2 * c → ufJ L c f φ W n1 b1 z R B sb → ufP f b1 Mm Gm B → Tt (fun K t => c_X8_unfold vl K (cd0_X8_unfold vl K dd) t 4 (nI L) (iI φ) xp (nI L) (nI (2 * c)) pw (nI Mm) (nI Gm) (nI (r + 1)) (nI s) (nI v') (nI i) (nI (v / 2)) 0 24000 (lv L) z) Q := by
          intro v' pw z R B sb hv' hJ hP
          obtain ⟨k1, k2, k3, k4, k5⟩ := hP
          have hn9 := (hJ.2.2.1.1 v' (by rw [hJ.2.2.2.1]; exact hv')).1
          rw [hJ.2.2.2.1] at hn9
          obtain ⟨o1, o2⟩ := gor9 k1 (show v / 2 < 24 by omega)
          obtain ⟨o3, o4⟩ := gor9 k2 (show v' < 24 by omega)
          refine u_X8_unfold_4 ?_; unfold cm_X8_unfold_4
          rw [nI_1, o1, o3]
          exact w_crI (nH_1 hh) rfl (show v' < 24 by omega) (hJ.2.1.2.2.1 v') (ihe (i + 1) _ pw _ _ z R B sb (by omega) hn9 hn2 hJ ⟨o2, o4, k3, fun u hu => (gn_or _ _ _).mpr (Or.inl (k4 u hu)), fun u hu => (gn_or _ _ _).mpr (Or.inl (k5 u hu))⟩)
        refine u_X8_unfold_2 ?_; unfold cm_X8_unfold_2
        rw [q1, show Int32.ofNat ((cX vl).2 (24000 + 2)).2.1 = nI 13 from rfl]
        refine w_leF (by omega) (by omega) (w_if (fun hg0 => w_if (fun hm0 => w_if (fun hodd => ?_) (fun _ => c4 v pw z R B sb hv hJ hP)) (fun _ => c4 v pw z R B sb hv hJ hP)) (fun _ => c5 (r + 1) pw Mm Gm z R B sb (by omega) (by omega) hJ hP (by omega) (by omega)))
        have hmet := (gbit0 p1 (show v / 2 < 24 by omega)).mp hm0
        obtain ⟨p, pl, pe⟩ := lbv_sur hN (k := v) (by omega)
        have hfx : f (crs B p) = v / 2 := by rw [← pe]; exact (lbv_hf hN pl).1.symm
        have far : ∀ u, u < b1 → crs B u ≠ crs B p := fun u hu e9 => hmet (by rw [← hfx, ← e9]; exact p4 u hu)
        have hb := (j5.2.2 (by omega)).1
        have hle9 := rn_b_le B 1
        have h00 : crs B 0 ≠ crs B p := far 0 (by omega)
        obtain ⟨a, b, hs2⟩ := sm2_ex hN.1 pl
        have hab : b1 ≤ a := by
          rcases Nat.lt_or_ge a b1 with h9 | h9
          · exact absurd hs2.2.2.1 (far a h9)
          · exact h9
        have hgd : gdC B := ⟨by rw [j7]; exact p3, by omega⟩
        have z0 : ∀ k, skV 13 B sb k = 0 := fun k => sk_zero 13 B sb k hN.1 hgd
        have z1 : ∀ k, skV 13 (smV B a b) sb k = 0 := fun k => sk_zero 13 _ sb k (sm_wk hN.1 hs2).1 (gd_sm hN.1 hgd hs2.1 hs2.2.1 (by omega))
        have hgd2 : gdC (chA B (crs B p)) := gd_ch hgd (fun u hu _ => far u (by omega))
        have z2 : ∀ k, skV 13 (chA B (crs B p)) (chS sb (crs B p)) k = 0 := fun k => sk_zero 13 _ _ k (ch_wk hN.1 _) hgd2
        have hV : ∀ k, skV 13 B sb k = (if sb (crs B p) then -1 else 1) * (if k = 0 then 0 else skV 13 (smV B a b) sb (k - 1)) + skV 13 (chA B (crs B p)) (chS sb (crs B p)) k := fun k => by
          rw [z0, z1, z2]
          split <;> split <;> omega
        refine w_crI (nH_3 hh) rfl (show v / 2 < 12 by omega) (x := iI (if sb (crs B p) then -1 else 1)) (by rw [← hfx]; exact (j2.2.2.2.2 _).trans (uL_sg j5 pl)) ?_
        rw [nI_1 L, ← hfx]
        refine w_leF (by omega) (by omega) (uf_bad (by omega) (hself (by omega)) hJ hc pl rfl hs2 h00 hV (fun z3 hK => ?_))
        refine u_X8_unfold_3 ?_; unfold cm_X8_unfold_3
        rw [q2]
        refine uf_flip hL hK pl rfl h00 (fun z4 hJ4 => ?_)
        have := c4 (mt v) (pw + 2 * iI (if sb (crs B p) then -1 else 1)) z4 _ _ _ (mt_lt hv) hJ4 ⟨p1, p2, by have := hgd2.1; rw [b1_ch, j7] at this; exact this, fun u hu => by rw [ch_crs (by omega)]; exact p4 u hu, fun u hu => by
          have e9 : lbv (chA B (crs B p)) f u = lbv B f u := by
            unfold lbv
            rw [ch_crs (by omega), ch_uns (by omega), if_neg (far u hu)]
          rw [e9]
          exact p5 u hu⟩
        rw [← hfx] at this
        exact this
    obtain ⟨p1, p2, p3, p4, p5⟩ := id hP
    obtain ⟨j1, j2, j3, j4, j5, j6, j7, m, j8, j9⟩ := id hJ
    refine u_X8_unfold_1 ?_; unfold cm_X8_unfold_1
    refine w_leF (by omega) (by omega) ?_
    by_cases hgn : o_gn Gm s
    · exact w_ifF (fun h9 => (gbit0 p2 (by omega)).mp h9 hgn) (c5 r pw Mm Gm z R B sb hr (by omega) hJ hP hn (fun h9 => ⟨fun v hv => by
        by_cases e : v = s
        · rw [e]
          exact hgn
        · exact (hg h9).1 v (by omega), (hg h9).2⟩))
    · have hN := uL_N j5
      have hlen := hN.2.1
      obtain ⟨p, pl, pe⟩ := lbv_sur hN (k := s) (by omega)
      have n2 : 2 ≤ n1 := by
        rcases Nat.lt_or_ge n1 2 with h9 | h9
        · exfalso
          have hb : rn_b B 1 = B.flatten.length := by
            have h8 := rn_b_le B 1
            have h7 := rn_b_mono2 (A := B) (show B.length ≤ 1 by omega)
            rw [rn_b_len] at h7
            omega
          exact hgn (by rw [← pe]; exact p5 p (by omega))
        · exact h9
      refine w_ifT ((gbit0 p2 (by omega)).mpr hgn) ?_
      rw [nI_1]
      exact c2 (2 * c) 0 s pw Mm Gm z R B sb (by omega) (by omega) n2 hJ hP
end XCE
end
section
/-! 99zzzzzzzzzzzzzp.xcw7 -/
/-! conway: the class's unfold, exactly: the first ring -/
section XCF
variable {vl : Nat → Nat} {y : ow_MS} {xp : Int32}
theorem uf_first {L dd c n1 b1 : Nat} {f : Nat → Nat} {φ : Int} {W : Nat → Int} (hL : L ≤ 12) (hself : L < 12 → ufS vl L dd) (hc : c + L ≤ 12) (hc0 : 0 < c) : ∀ (e i v : Nat) (pw : Int32) (Mm Gm : Nat) (z : ow_MS) (R : ow_NT) (B : rn_L) (sb : Nat → Bool), i + e = b1 → (i < b1 → v = lbv B f i) → (i = b1 → v = 0) → ufJ L c f φ W n1 b1 z R B sb → gPre B i → Mm < 2 ^ 24 → Gm < 2 ^ 24 → (∀ x, x < 12 → (o_gn Mm x ↔ ∃ u, u < i ∧ f (crs B u) = x)) → (∀ k, k < 24 → (o_gn Gm k ↔ ∃ u, u < i ∧ lbv B f u = k)) → Tt (fun K t => c_X8_unfold vl K (cd0_X8_unfold vl K dd) t 2 (nI L) (iI φ) xp (nI L) (nI (2 * c)) pw (nI Mm) (nI Gm) (nI 1) (nI 0) (nI v) (nI i) 0 0 24000 (lv L) z) (fun z1 => cwC z1 W) := by
  have hh := lv_nH hL
  let Q : ow_MS → Prop := fun z1 => cwC z1 W
  intro e
  induction e with
  | zero =>
    intro i v pw Mm Gm z R B sb hi hv1 hv2 hJ hg hM hG hme hgo
    obtain ⟨j1, j2, j3, j4, j5, j6, j7, m, j8, j9⟩ := id hJ
    have hN := uL_N j5
    have hlen := hN.2.1
    have hle := rn_b_le B 1
    obtain ⟨hb, hb0⟩ := j5.2.2 (by omega)
    have hib : i = b1 := by omega
    have ev := hv2 hib
    have ltx : ∀ u, u < b1 → f (crs B u) < 12 ∧ lbv B f u < 24 := fun u hu => by
      have h1 := hN.2.2.2.1 u (by omega)
      have h2 := lbv_lt hN (v := u) (by omega)
      omega
    have c5 : Tt (fun K t => c_X8_unfold vl K (cd0_X8_unfold vl K dd) t 5 (nI L) (iI φ) xp (nI L) (nI (2 * c)) pw (nI Mm) (nI Gm) (nI 1) (nI 0) 0 0 0 0 24000 (lv L) z) Q := by
      refine u_X8_unfold_5 ?_; unfold cm_X8_unfold_5
      rw [show nI 0 + 1 = nI 1 from nI_1 0]
      refine uf_rest hL hself hc hc0 (2 * c - 1) 1 1 pw Mm Gm z R B sb (by omega) (by omega) (by omega) hJ ⟨hM, hG, by rw [← hib]; exact hg, fun u hu => (hme _ (ltx u hu).1).mpr ⟨u, by omega, rfl⟩, fun u hu => (hgo _ (ltx u hu).2).mpr ⟨u, by omega, rfl⟩⟩ (fun _ => rfl) (fun _ => ⟨fun k hk => ?_, fun k hk h9 => ?_⟩)
      · rw [show k = 0 by omega]
        exact (hgo 0 (by omega)).mpr ⟨0, by omega, hb0⟩
      · obtain ⟨u, u1, u2⟩ := (hgo k (by omega)).mp h9
        exact ⟨u, by omega, u2⟩
    refine u_X8_unfold_2 ?_; unfold cm_X8_unfold_2
    rw [ev]
    exact w_le (by omega) (by omega) (fun _ => c5) (fun _ => w_ifF (fun h9 => (gbit0 hG (by omega)).mp h9 ((hgo 0 (by omega)).mpr ⟨0, by omega, hb0⟩)) c5)
  | succ e ihe =>
    intro i v pw Mm Gm z R B sb hi hv1 hv2 hJ hg hM hG hme hgo
    obtain ⟨j1, j2, j3, j4, j5, j6, j7, m, j8, j9⟩ := id hJ
    have hN := uL_N j5
    have hlen := hN.2.1
    have hle := rn_b_le B 1
    obtain ⟨hb, hb0⟩ := j5.2.2 (by omega)
    have hil : i < B.flatten.length := by omega
    have ev : v = lbv B f i := hv1 (by omega)
    have hvl : v < 2 * c := by rw [ev, ← j4]; exact lbv_lt hN hil
    obtain ⟨f1, f2⟩ := lbv_hf hN hil
    rw [← ev] at f1 f2
    obtain ⟨q1, q2⟩ := uf_bits ⟨v, by omega⟩
    have q3 := uf_par ⟨v, by omega⟩
    dsimp only at q1 q2 q3
    have c4 : ∀ (v' : Nat) (pw : Int32) (z : ow_MS) (R : ow_NT) (B' : rn_L) (sb : Nat → Bool), v' = lbv B' f i → ufJ L c f φ W n1 b1 z R B' sb → gPre B' (i + 1) → (∀ u, u < i → vAt B' u = vAt B u) → crs B' i = crs B i → Tt (fun K t => c_X8_unfold vl K (cd0_X8_unfold vl K dd) t 4 (nI L) (iI φ) xp (nI L) (nI (2 * c)) pw (nI Mm) (nI Gm) (nI 1) (nI 0) (nI v') (nI i) (nI (v / 2)) 0 24000 (lv L) z) Q := by
      intro v' pw z R B' sb ev' hJ' hg' hpre hci
      obtain ⟨k1, k2, k3, k4, k5, k6, k7, -⟩ := id hJ'
      have hN' := uL_N k5
      have hlen' := hN'.2.1
      have hle' := rn_b_le B' 1
      have hv' : v' < 2 * c := by rw [ev', ← k4]; exact lbv_lt hN' (by omega)
      obtain ⟨o1, o2⟩ := gor9 hM (show v / 2 < 24 by omega)
      obtain ⟨o3, o4⟩ := gor9 hG (show v' < 24 by omega)
      have hnx := uL_nx k5 (v := i) (by omega)
      rw [← ev', k7] at hnx
      have pc : ∀ u, u < i → crs B' u = crs B u := fun u hu => by unfold crs; rw [hpre u hu]
      have pl : ∀ u, u < i → lbv B' f u = lbv B f u := fun u hu => by unfold lbv crs uns; rw [hpre u hu]
      refine u_X8_unfold_4 ?_; unfold cm_X8_unfold_4
      rw [nI_1, o1, o3]
      refine w_crI (nH_1 hh) rfl (show v' < 24 by omega) (k2.2.2.1 v') (ihe (i + 1) _ pw _ _ z R B' sb (by omega) (fun h9 => by rw [hnx, if_pos h9]) (fun h9 => by rw [hnx, if_neg (by omega)]) hJ' hg' o2 o4 (fun x hx => ?_) (fun k hk => ?_))
      · rw [gn_or, hme x hx]
        constructor
        · rintro (⟨u, u1, u2⟩ | h9)
          · exact ⟨u, by omega, by rw [pc u u1]; exact u2⟩
          · exact ⟨i, by omega, by rw [hci, h9, f1]⟩
        · rintro ⟨u, u1, u2⟩
          by_cases eu : u = i
          · rw [eu, hci, ← f1] at u2
            exact Or.inr u2.symm
          · exact Or.inl ⟨u, by omega, by rw [← pc u (by omega)]; exact u2⟩
      · rw [gn_or, hgo k hk]
        constructor
        · rintro (⟨u, u1, u2⟩ | h9)
          · exact ⟨u, by omega, by rw [pl u u1]; exact u2⟩
          · exact ⟨i, by omega, by rw [h9, ev']⟩
        · rintro ⟨u, u1, u2⟩
          by_cases eu : u = i
          · rw [eu, ← ev'] at u2
            exact Or.inr u2.symm
          · exact Or.inl ⟨u, by omega, by rw [← pl u (by omega)]; exact u2⟩
    have hgone : ¬ o_gn Gm v := fun h9 => by
      obtain ⟨u, u1, u2⟩ := (hgo v (by omega)).mp h9
      have := lbv_inj hN (v := u) (w := i) (by omega) hil (u2.trans ev)
      omega
    have good : (¬ (∀ u, u < i → crs B u ≠ crs B i) ∨ uns B i = 0) → gPre B (i + 1) := fun h9 u hu hul hfu => by
      by_cases eu : u = i
      · subst eu
        rcases h9 with h9 | h9
        · exact absurd hfu h9
        · exact h9
      · exact hg u (by omega) hul hfu
    have noflip : (¬ (∀ u, u < i → crs B u ≠ crs B i) ∨ uns B i = 0) → Tt (fun K t => c_X8_unfold vl K (cd0_X8_unfold vl K dd) t 4 (nI L) (iI φ) xp (nI L) (nI (2 * c)) pw (nI Mm) (nI Gm) (nI 1) (nI 0) (nI v) (nI i) (nI (v / 2)) 0 24000 (lv L) z) Q := fun h9 => c4 v pw z R B sb ev hJ (good h9) (fun u _ => rfl) rfl
    refine u_X8_unfold_2 ?_; unfold cm_X8_unfold_2
    rw [q1, show Int32.ofNat ((cX vl).2 (24000 + 2)).2.1 = nI 13 from rfl]
    refine w_leF (by omega) (by omega) (w_ifT ((gbit0 hG (by omega)).mpr hgone) (w_if (fun hm0 => w_if (fun hodd => ?_) (fun hev => noflip (Or.inr ?_))) (fun hm0 => noflip (Or.inl (fun h9 => hm0 ?_)))))
    rotate_left
    · have h7 : ¬ v % 2 = 1 := fun h9 => hev (q3.mpr h9)
      have h2 := (hN.1.2 _ (vAt_mem hil)).2.1
      have h3 : uns B i < 2 := h2
      omega
    · refine (gbit0 hM (by omega)).mpr (fun h8 => ?_)
      obtain ⟨u, u1, u2⟩ := (hme (v / 2) (by omega)).mp h8
      exact h9 u u1 (hN.2.2.2.2.1 u i (by omega) hil (u2.trans f1))
    have hmet := (gbit0 hM (show v / 2 < 24 by omega)).mp hm0
    have hun : uns B i = 1 := by rw [← f2]; exact q3.mp hodd
    have hfst : ∀ u, u < i → crs B u ≠ crs B i := fun u hu e9 => hmet ((hme (v / 2) (by omega)).mpr ⟨u, hu, by rw [e9]; exact f1.symm⟩)
    have hbd : bdF B i := ⟨hil, hfst, by omega, fun u hu hfu => hg u hu (by omega) hfu⟩
    have hi0 : 0 < i := by
      rcases Nat.eq_zero_or_pos i with h9 | h9
      · have := (uL_0 j5 (by omega)).2
        rw [h9, this] at hun
        exact absurd hun (by decide)
      · exact h9
    have h00 : crs B 0 ≠ crs B i := hfst 0 hi0
    have hs2 := sm2_bd j5 hbd
    have hV := fun k => sk_st (sg := sb) (k := k) hN.1 (by omega) hbd
    refine w_crI (nH_3 hh) rfl (show v / 2 < 12 by omega) (x := iI (if sb (crs B i) then -1 else 1)) (by rw [f1]; exact (j2.2.2.2.2 _).trans (uL_sg j5 hil)) ?_
    rw [nI_1 L, f1]
    refine w_leF (by omega) (by omega) (uf_bad (by omega) (hself (by omega)) hJ hc hil rfl hs2 h00 hV (fun z3 hK => ?_))
    refine u_X8_unfold_3 ?_; unfold cm_X8_unfold_3
    rw [q2]
    refine uf_flip hL hK hil rfl h00 (fun z4 hJ4 => ?_)
    have hg2 : gPre (chA B (crs B i)) (i + 1) := fun u hu hul hfu => by
      rw [ch_len] at hul
      rw [ch_uns hul]
      by_cases eu : u = i
      · rw [eu, if_pos rfl, hun]
      · rw [if_neg (hfst u (by omega))]
        refine hg u (by omega) hul (fun t ht e9 => hfu t ht ?_)
        rw [ch_crs (by omega), ch_crs hul]
        exact e9
    have := c4 (mt v) (pw + 2 * iI (if sb (crs B i) then -1 else 1)) z4 _ _ _ (by
      unfold lbv
      rw [ch_crs hil, ch_uns hil, if_pos rfl, hun, ev]
      unfold lbv mt
      rw [hun, if_neg (by omega)]
      omega) hJ4 hg2 (fun u hu => by
      unfold chA
      rw [flp_vAt (by omega)]
      unfold flp
      have : ¬ (crs B u = crs B i) := hfst u hu
      exact if_neg (fun h9 => this (of_decide_eq_true h9))) (ch_crs hil)
    rw [f1] at this
    exact this
/-- one level -/
theorem xc_unfS {L dd : Nat} {T : ow_NT} {A : rn_L} {sg : Nat → Bool} {f : Nat → Nat} {φ : Int} {n : Nat → Int} (hL : L ≤ 12) (hself : L < 12 → ufS vl L dd) (h0 : lvS y) (hT : cAt y (lv L) T) (hv : nvL L T) (hc : T.1 + L ≤ 12) (hu : uL A sg f T) (hn : cwC y n) : Te (fun K => cd0_X8_unfold vl K (dd + 1) 24000 (nI L) (iI φ) xp (nI L) y) (fun z1 => cwC z1 (fun t => n t + φ * shf L (skV 13 A sg) t)) := by
  have hN := uL_N hu
  have hlen := hN.2.1
  obtain ⟨c, hcT⟩ : ∃ c, T.1 = c := ⟨_, rfl⟩
  refine w_cdU ?_
  refine u_X8_unfold_0 ?_; unfold cm_X8_unfold_0
  refine w_crX rfl (show L < 13 by omega) (w_rdF hT.1 ?_)
  rw [hcT, rn_mul2]
  rcases Nat.eq_zero_or_pos c with e0 | e0
  · have hci : cirs A = T.2.1 := hN.2.2.2.2.2.2.2
    have hnil : A.flatten = [] := List.eq_nil_of_length_eq_zero (by omega)
    have h6 := hv.2.2.2
    rw [e0]
    refine u_X8_unfold_1 ?_; unfold cm_X8_unfold_1
    refine w_leT (a := 0) (b := 0) (by omega) (by omega) (w_rdF hT.2.1 ?_)
    rw [show (0 : Int32) + nI T.2.1 = nI (0 + T.2.1) from nI_add 0 T.2.1]
    refine w_cs0 (xc_addC (show 0 + T.2.1 < 100 by omega) hL hn) ?_
    rintro z1 h1
    refine w_some (cwC_cg h1 (fun t ht => ?_))
    have hno : ∀ v, ¬ bdF A v := fun v h9 => by
      have := h9.1
      omega
    rw [cirs_n hnil] at hci
    unfold shf
    by_cases e1 : A.length = 1 ∧ t = L
    · rw [if_pos ⟨by omega, e1.2⟩, if_pos (by omega), sk_none (F := 12) hno, if_pos ⟨e1.1, by omega⟩]
    · rw [if_neg (fun h9 => e1 ⟨by omega, h9.2⟩)]
      by_cases e2 : L ≤ t
      · rw [if_pos e2, sk_none (F := 12) hno, if_neg (fun h9 => e1 ⟨h9.1, by omega⟩)]
      · rw [if_neg e2]
  · obtain ⟨b1, b0⟩ := hu.2.2 (by omega)
    refine u_X8_unfold_1 ?_; unfold cm_X8_unfold_1
    refine w_leF (a := 2 * c) (b := 0) (by omega) (by omega) (w_ifT (by decide) ?_)
    exact uf_first (n1 := A.length) (b1 := rn_b A 1) hL hself (by omega) e0 (rn_b A 1) 0 0 xp 0 0 y T A sg (by omega) (fun _ => b0.symm) (fun h9 => by omega) ⟨h0, hT, hv, hcT, hu, rfl, rfl, n, hn, fun t _ => rfl⟩ (fun v hv => absurd hv (Nat.not_lt_zero _)) (by decide) (by decide) (fun x _ => ⟨fun h9 => absurd h9 (gn_z9 x), fun ⟨u, u1, _⟩ => absurd u1 (Nat.not_lt_zero _)⟩) (fun k _ => ⟨fun h9 => absurd h9 (gn_z9 k), fun ⟨u, u1, _⟩ => absurd u1 (Nat.not_lt_zero _)⟩)
theorem xc_unfD : ∀ (d L : Nat), L + d = 12 → ∀ (R : ow_NT) (B : rn_L) (sb : Nat → Bool) (g : Nat → Nat) (ψ : Int) (m : Nat → Int) (xp : Int32) (z : ow_MS), lvS z → cAt z (lv L) R → nvL L R → R.1 + L ≤ 12 → uL B sb g R → cwC z m → Te (fun K => cd0_X8_unfold vl K (d + 3) 24000 (nI L) (iI ψ) xp (nI L) z) (fun z1 => (lvS z1 ∧ fr (unP L) z z1) ∧ cwC z1 (fun t => m t + ψ * shf L (skV 13 B sb) t)) := by
  intro d
  induction d with
  | zero =>
    intro L hL R B sb g ψ m xp z h0 hT hv hc hu hn
    exact te_and (tc_unfD 0 L hL R _ _ z h0 hT hv) (xc_unfS (dd := 2) (by omega) (fun h => absurd h (by omega)) h0 hT hv hc hu hn)
  | succ d ih =>
    intro L hL R B sb g ψ m xp z h0 hT hv hc hu hn
    exact te_and (tc_unfD (d + 1) L hL R _ _ z h0 hT hv) (xc_unfS (dd := d + 3) (by omega) (fun _ => ih (L + 1) (by omega)) h0 hT hv hc hu hn)
end XCF
end
section
/-! 99zzzzzzzzzzzzzq.xcw8 -/
/-! conway: both sides answer the same -/
theorem i64_i32 (v : Int) : (Int64.ofInt v).toInt32 = iI v := by
  apply Int32.toInt_inj.mp
  rw [Int64.toInt_toInt32, Int64.toInt_ofInt, Int32.toInt_ofInt]
  exact Int.bmod_bmod_of_dvd (by decide)
/-- the first visit of a list that is that of its own code -/
theorem nrm_base {A : rn_L} {sg : Nat → Bool} (h : nrm A sg) (hl : 0 < A.flatten.length) : 0 < rn_b A 1 ∧ vAt A 0 = (0, 0) := by
  obtain ⟨T, g, Ds, qs, n1, n2, n3, n4, n5⟩ := h
  have hN := isoS_iff.mp n3.1
  have hc := n1.2.1
  have hv := n1.1
  obtain ⟨i1, i2, i3, i4⟩ := parts_I hv hc
  have hT : 0 < T.1 := by have := hN.2.1; omega
  have hq : 0 < qs.length := by
    have := n4.2.2.1.length_eq
    rw [List.length_range] at this
    obtain ⟨r, r1, -⟩ := i2 0 (by omega)
    omega
  obtain ⟨q0, Q, rfl⟩ : ∃ q0 Q, qs = q0 :: Q := by
    cases qs with
    | nil => exact absurd hq (Nat.lt_irrefl _)
    | cons a b => exact ⟨a, b, rfl⟩
  have hq0 : q0 < (np_parts T.1 T.2.2.1.1).2 := List.mem_range.mp (n4.2.2.1.mem_iff.mp List.mem_cons_self)
  have hlt : q0 < Ds.length := by rw [n4.1]; exact hq0
  obtain ⟨e1, -⟩ := n4.2.1 q0 Ds[q0] (List.getElem?_eq_getElem hlt)
  obtain ⟨w, w1, w2⟩ := i3 q0 hq0
  obtain ⟨v, v1, v2, v3, v4⟩ := epC_le (n0 := ptL T.1 T.2.2.1 q0) (fun v hv1 ev => tf_len_pt T.2.2.2 hv hc hv1 ev) ⟨w, w1, w2⟩ e1
  obtain ⟨t1, t2⟩ := tf_T0 (G := T.2.2.2) (N := T.2.2.1.1) (v := v)
  have head : ∀ u, ∃ L, tfL (tf_code T.2.2.2 T.2.2.1.1 u) = cd_first T.2.2.2 u :: L := fun u => by
    obtain ⟨a1, a2⟩ := tf_T0 (G := T.2.2.2) (N := T.2.2.1.1) (v := u)
    unfold tfL
    obtain ⟨k, hk⟩ : ∃ k, (tf_code T.2.2.2 T.2.2.1.1 u).len = k + 1 := ⟨_, (Nat.succ_pred_eq_of_pos a2).symm⟩
    rw [hk, List.range_succ_eq_map, List.map_cons, a1]
    exact ⟨_, rfl⟩
  have ev : v % 2 = 0 := by
    rcases Nat.mod_two_eq_zero_or_one v with h9 | h9
    · exact h9
    · exfalso
      have hm : mt v = v - 1 := by
        unfold mt
        rw [if_neg (by omega)]
      have h8 := v4 (mt v) (mt_lt v1) ((i1 v v1).2.trans v2)
      obtain ⟨L1, l1⟩ := head v
      obtain ⟨L2, l2⟩ := head (mt v)
      rw [v3, l1, l2] at h8
      have hcd : cd_first T.2.2.2 v = cd_first T.2.2.2 (mt v) + 2 := by
        unfold cd_first
        rw [mt_h2, h9, hm, show (v - 1) % 2 = 0 by omega]
        omega
      have h8 : (if cd_first T.2.2.2 v = cd_first T.2.2.2 (mt v) then lexD L1 L2 else (cd_first T.2.2.2 v : Int) - cd_first T.2.2.2 (mt v)) ≤ 0 := h8
      rw [if_neg (by omega)] at h8
      omega
  have e2 : (cdR Ds (q0 :: Q)).flatten ++ List.replicate T.2.1 0 = ucd sg 0 [] A := congrArg Prod.snd n5
  have e3 : (Ds.getD q0 (0, [])).2 = tfL (tf_code T.2.2.2 T.2.2.1.1 v) := by
    rw [List.getD_eq_getElem?_getD, List.getElem?_eq_getElem hlt]
    exact v3
  obtain ⟨L1, l1⟩ := head v
  have e4 : ∃ Y, ucd sg 0 [] A = cd_first T.2.2.2 v :: Y := by
    rw [← e2]
    unfold cdR
    rw [List.map_cons, List.flatten_cons, e3, l1]
    exact ⟨_, rfl⟩
  obtain ⟨Y, e4⟩ := e4
  have hb := cd_first_lt T.2.2.2 v
  have hf : cd_first T.2.2.2 v ≤ 5 := by
    unfold cd_first
    rw [ev]
    split <;> omega
  cases A with
  | nil => exact absurd hl (by decide)
  | cons B R =>
    cases B with
    | nil =>
      have e4 : 0 :: ucd sg (nxb 0 ([] ++ [[]])) ([] ++ [[]]) R = cd_first T.2.2.2 v :: Y := e4
      have := (List.cons.inj e4).1
      omega
    | cons p B =>
      have e4 : clc sg 0 p :: (B.map (clc sg 0) ++ 0 :: ucd sg (nxb 0 ([] ++ [p :: B])) ([] ++ [p :: B]) R) = cd_first T.2.2.2 v :: Y := e4
      have e5 := (List.cons.inj e4).1
      unfold clc at e5
      have h1 : p.1 = 0 ∧ p.2 = 0 := by
        split at e5 <;> omega
      refine ⟨?_, ?_⟩
      · show 0 < ([p :: B].flatten).length
        rw [List.flatten_cons, List.flatten_nil, List.append_nil, List.length_cons]
        omega
      · exact (vAt_eq (show (List.flatten ((p :: B) :: R))[0]? = some p from rfl)).trans (Prod.ext h1.1 h1.2)
/-- what conway answers -/
def cwN9 (A : rn_L) (sg : Nat → Bool) (x v : Int32) : Prop := (∀ k, k < 40 → x = nI k → v = iI (skV 13 A sg k)) ∧ ((∀ k, k < 40 → x ≠ nI k) → v = 0)
theorem cwN_uni {A : rn_L} {sg : Nat → Bool} {x v w : Int32} (h1 : cwN9 A sg x v) (h2 : cwN9 A sg x w) : v = w := by
  by_cases h : ∃ k, k < 40 ∧ x = nI k
  · obtain ⟨k, k1, k2⟩ := h
    rw [h1.1 k k1 k2, h2.1 k k1 k2]
  · have hn : ∀ k, k < 40 → x ≠ nI k := fun k k1 k2 => h ⟨k, k1, k2⟩
    rw [h1.2 hn, h2.2 hn]
theorem sk_sg : ∀ (F : Nat) (A : rn_L) (sg sg' : Nat → Bool) (k : Nat), wkF A.flatten → (∀ p, p ∈ A.flatten → sg p.1 = sg' p.1) → skV F A sg k = skV F A sg' k
  | 0, _, _, _, _, _, _ => rfl
  | F + 1, A, sg, sg', k, hF, hs => by
    by_cases hx : ∃ v, bdF A v
    · obtain ⟨v, hv⟩ := hx
      obtain ⟨b1, b2, b3⟩ := bd_lt hF hv
      have ex : sg (crs A v) = sg' (crs A v) := hs _ (vAt_mem hv.1)
      obtain ⟨c1, c2, c3⟩ := smC_ok hF b1 b2
      obtain ⟨hg, ho⟩ : gPre A 0 ∧ ouT A 0 (crL A).length := ⟨fun v hv => absurd hv (Nat.not_lt_zero _), crL A, Nat.le_refl _, fun v hv => Or.inr (crL_m hF (u := uns A v) (vAt_mem hv))⟩
      obtain ⟨f1, h1, h2, h3, h4, -⟩ := sk_sm hF hg ho hv.1 b2 b1 b3 hv.2.1 hv.2.2.1 hv.2.2.2 c1 c2 c3
      have e1 : ∀ k, skV F (smV A v (mtf A v)) sg k = skV F (smV A v (mtf A v)) sg' k := fun k => sk_sg F _ sg sg' k h2 (fun p hp => hs p ((sm_perm b1 b2).mem_iff.mpr (List.mem_cons_of_mem _ (List.mem_cons_of_mem _ hp))))
      have e2 : skV F (chA A (crs A v)) (chS sg (crs A v)) k = skV F (chA A (crs A v)) (chS sg' (crs A v)) k := sk_sg F _ _ _ k (ch_wk hF _) (fun p hp => by
        unfold chA at hp
        rw [fl_map2] at hp
        obtain ⟨q, hq, e9⟩ := List.mem_map.mp hp
        have ep : p.1 = q.1 := by rw [← e9, flp_1]
        unfold chS
        rw [ep, hs q hq])
      rw [sk_some hv, sk_some hv, ex, e1, e2]
    · have hn : ∀ v, ¬ bdF A v := fun v hv => hx ⟨v, hv⟩
      rw [sk_none hn, sk_none hn]
/-- the reference's last numbers -/
def cwR (z : ow_MS) : Prop := ∀ T1, rc_At z 43 0 T1 → T1 = [] ∨ ∃ A sg c, okL A c ∧ T1 = tk sg A ∧ cwA z (skV 13 A sg)
theorem cwR_fr {P : Nat → Prop} {z z1 : ow_MS} (hf : fr P z z1) (h1 : ¬ P 42) (h2 : ¬ P 43) (h : cwR z) : cwR z1 := by
  intro T1 hT
  have hT' : rc_At z 43 0 T1 := by
    obtain ⟨a1, a2, a3, a4⟩ := hT
    rw [(hf 43 h2).2.1] at a3
    exact ⟨a1, a2, a3, fun k t hk => by rw [← (hf 43 h2).2.1]; exact a4 k t hk⟩
  rcases h T1 hT' with e | ⟨A, sg, c, q1, q2, q3⟩
  · exact Or.inl e
  · exact Or.inr ⟨A, sg, c, q1, q2, cwA_fr hf h1 q3⟩
section XCG
variable {X : (Nat → Nat → Int32) → Prop} {z : ow_MS} {St : plT}
theorem xq_conway {d x : Int32} (h : gI X z) (hR : relR z St) (hS : okS St) (hJ : cwR z) : Te (fun K => qe_X13_conway K d x z) (fun r => cwR r.2 ∧ (rFl X z 1 r ∧ (∀ e, e < 40 → d = nI e → St e = none) ∨ ∃ e A sg, e < 40 ∧ d = nI e ∧ St e = some (A, sg) ∧ r.2.1 1 = 0 ∧ ∃ sg9 c, tk sg9 A = tk sg A ∧ okL A c ∧ cwN9 A sg9 x r.1)) := by
  let Q : Int32 × ow_MS → Prop := fun r => cwR r.2 ∧ (rFl X z 1 r ∧ (∀ e, e < 40 → d = nI e → St e = none) ∨ ∃ e A sg, e < 40 ∧ d = nI e ∧ St e = some (A, sg) ∧ r.2.1 1 = 0 ∧ ∃ sg9 c, tk sg9 A = tk sg A ∧ okL A c ∧ cwN9 A sg9 x r.1)
  have h1 := gI_1 (c := 0) h
  have hR1 := relR_1 (c := 0) hR
  have f01 : fr rPs z (usF z 1 0) := fr_1
  refine e_X13_conway ?_
  refine u_X13_conway_0 ?_; unfold qm_X13_conway_0
  refine w_wrF (w_hasX hR1 (fun h0 => w_ifT rfl (w_mono (w_failX h1 fr_1) (fun r hr => ⟨cwR_fr hr.2.2 (by unfold rPs rSc; omega) (by unfold rPs rSc; omega) hJ, Or.inl ⟨hr, h0⟩⟩))) (fun e A sg he hx hs hv hne => w_ifF (by decide) ?_))
  subst hx
  have c4 : ∀ {x1 : Int32} {y : ow_MS} {sg9 : Nat → Bool} {c : Nat}, (∀ k, k < 40 → x ≠ nI k) → y.1 1 = 0 → cwR y → tk sg9 A = tk sg A → okL A c → Tt (fun K i => q_X13_conway K i 4 x1 x 0 y) Q := by
    intro x1 y sg9 c hx g2 g4 g5 g6
    refine u_X13_conway_4 ?_; unfold qm_X13_conway_4
    exact w_some ⟨g4, Or.inr ⟨e, A, sg, he, rfl, hs, g2, sg9, c, g5, g6, fun k k1 k2 => absurd k2 (hx k k1), fun _ => rfl⟩⟩
  have c3 : ∀ {x1 : Int32} {y : ow_MS} {sg9 : Nat → Bool} {c : Nat}, y.1 1 = 0 → cwR y → tk sg9 A = tk sg A → okL A c → cwA y (skV 13 A sg9) → Tt (fun K i => q_X13_conway K i 3 x1 x 0 y) Q := by
    intro x1 y sg9 c g2 g4 g5 g6 g7
    refine u_X13_conway_3 ?_; unfold qm_X13_conway_3
    refine w_if (fun h0 => c4 (fun k k1 k2 => ?_) g2 g4 g5 g6) (fun h0 => ?_)
    · rw [k2] at h0
      exact nI_pos (by omega) h0
    · obtain ⟨k, k31, rfl⟩ := nI_of h0
      refine w_lt (b := 40) k31 (by omega) (fun hk => ?_) (fun hk => c4 (fun k' k1 k2 => ?_) g2 g4 g5 g6)
      · refine w_rdJ ml42 rfl hk (g7 k hk) (w_some ⟨g4, Or.inr ⟨e, A, sg, he, rfl, hs, g2, sg9, c, g5, g6, fun k' k1 k2 => ?_, fun h9 => absurd rfl (h9 k hk)⟩⟩)
        rw [← nI_inj9 (a := k) (b := k') (by omega) (by omega) k2]
        exact i64_i32 _
      · have := nI_inj9 (a := k) (b := k') (by omega) (by omega) k2
        omega
  obtain ⟨⟨T1, k1⟩, kC⟩ := h1.2.2.2.2.1
  have hTl := hv.1.1
  obtain ⟨-, -, c, hA⟩ := hS e A sg he hs
  have hFw : wkF A.flatten := okF_wk (by have := hA.2.2.2.1; omega) hA.1
  rw [show (32 : Int32) * nI e = nI (32 * e) from pk_mul 32 e]
  refine w_cs1 (tr_same (o := 32 * e) (p := 0) ml12 ml43 (by omega) (by omega) (by omega) (by omega) hv.1 k1) (fun a y e9 => ?_)
  cases e9
  have hJ1 : cwR (usF z 1 0) := cwR_fr f01 (by unfold rPs rSc; omega) (by unfold rPs rSc; omega) hJ
  refine w_if (fun _ => ?_) (fun h8 => ?_)
  rotate_left
  · have eS : tk sg A = T1 := by
      by_cases q : tk sg A = T1
      · exact q
      · exact absurd (by rw [decide_eq_false q]; rfl) h8
    rcases hJ1 T1 k1 with q | ⟨A9, sg9, c9, q1, q2, q3⟩
    · have := tk_pos (sg := sg) hne
      rw [eS, q] at this
      exact absurd this (by decide)
    · obtain ⟨u1, u2⟩ := tk_inj A A9 (okL_u hA) (okL_u q1) (eS.trans q2)
      subst u1
      exact c3 po_usF_at hJ1 (q2.symm.trans eS.symm) q1 q3
  have lp2 : ∀ (dd i : Nat) (y1 y : ow_MS), i + dd = 32 → y1.2.1 12 = (usF z 1 0).2.1 12 → y1.1 1 = 0 → cwA y1 (skV 13 A sg) → fr (fun g => g = 43) y1 y → (∀ t, t < i → y.2.1 43 t = y1.2.1 12 (32 * e + t)) → Tt (fun K t => q_X13_conway K t 2 (nI e) x (nI i) y) Q := by
    intro dd
    induction dd with
    | zero =>
      intro i y1 y hi e12 e1 h42 hf ht
      have hrow : rc_At y1 12 (32 * e) (tk sg A) := by
        obtain ⟨a1, a2, a3, a4⟩ := hv.1
        exact ⟨a1, a2, by rw [e12]; exact a3, fun k t hk => by rw [e12]; exact a4 k t hk⟩
      have hr43 : rc_At y 43 0 (tk sg A) := rc_cpy hrow (fun t h9 => ht t (by omega))
      have h42' : cwA y (skV 13 A sg) := cwA_fr hf (by decide) h42
      refine u_X13_conway_2 ?_; unfold qm_X13_conway_2
      exact w_leT (a := 32) (by omega) (by omega) (c3 (by rw [(hf 1 (by decide)).1]; exact e1) (fun T9 hT9 => Or.inr ⟨A, sg, c, hA, rc_uni hT9 hr43, h42'⟩) rfl hA h42')
    | succ dd ih =>
      intro i y1 y hi e12 e1 h42 hf ht
      refine u_X13_conway_2 ?_; unfold qm_X13_conway_2
      rw [show (32 : Int32) * nI e = nI (32 * e) from pk_mul 32 e, nI_add, nI_1]
      refine w_leF (a := 32) (by omega) (by omega) (w_rdI ml12 rfl (by omega) rfl (w_wrI ml43 rfl (by omega) (ih (i + 1) y1 _ (by omega) e12 e1 h42 (fr_I2 hf rfl) (fun t h9 => ?_))))
      by_cases hti : t = i
      · rw [hti, po_usI_at, (hf 12 (by decide)).2.1]
      · exact rd_ne hti (ht t (by omega))
  have lp1 : ∀ (dd i : Nat) (y : ow_MS), i + dd = 40 → fr (fun g => g = 42) (usF z 1 0) y → (∀ t, t < i → y.2.2 42 t = Int64.ofInt 0) → Tt (fun K t => q_X13_conway K t 1 (nI e) x (nI i) y) Q := by
    intro dd
    induction dd with
    | zero =>
      intro i y hi hf ht
      have hv9 : vRow y 12 (32 * e) A sg := vRow_fr9 hf (by decide) hv
      refine u_X13_conway_1 ?_; unfold qm_X13_conway_1
      refine w_leT (a := 40) (by omega) (by omega) (w_rdN (i := 0) rfl (by omega) (w_cs0 (to_open (pnL (i := 0) (by omega)) he hv9) (fun z2 ⟨o2, f2⟩ => w_okZ (Or.inl rfl) (w_wrF ?_))))
      have f3 : fr (fun g => g = 46) z2 (usF z2 46 0) := fr_F rfl
      have hA4 : rn_At (usF z2 46 0) (1000 * (0 + 4)) A [] := o2.1.1
      have hS4 : rn_sg (usF z2 46 0) (1000 * (0 + 4)) A.flatten sg := o2.2.1
      have hcw : cwA (usF z2 46 0) (fun _ => 0) := cwA_fr f3 (by decide) (cwA_fr f2 (by omega) (fun t h9 => ht t (by omega)))
      obtain ⟨hg, ho⟩ := ou_all hFw (by have := okF_len hA.1; have := hA.2.2.2.1; omega)
      have hsk : Te (fun K => qe_X13_skein K 0 1 0 0 (usF z2 46 0)) (fun z1 => fr (skH 0) (usF z2 46 0) z1 ∧ cwA z1 (fun t => 0 + 1 * shf 0 (skV 13 A sg) t)) := xr_skein 12 0 16 0 0 A sg 1 (fun _ => 0) (usF z2 46 0) (by omega) (by omega) (by omega) hFw (by have := okF_len hA.1; have := hA.2.2.2.1; omega) (by have := hA.2.2.2.2; omega) hA4 hS4 hg ho po_usF_at hcw
      refine w_cs0 hsk (fun z3 ⟨f4, c4'⟩ => ?_)
      have f5 : fr (fun g => g = 42 ∨ g = 46 ∨ g = 41 ∨ g = 44 ∨ 1000 ≤ g) (usF z 1 0) z3 := fr_tr (fr_mono (fun g hg => Or.inl hg) hf) (fr_tr (fr_mono (fun g hg => by omega) f2) (fr_tr (fr_mono (fun g hg => Or.inr (Or.inl hg)) f3) (fr_mono (fun g hg => by unfold skH at hg; omega) f4)))
      refine lp2 32 0 z3 z3 (by omega) (f5 12 (by omega)).2.1 (by rw [(f5 1 (by omega)).1]; exact po_usF_at) (cwA_cg c4' (fun t ht => ?_)) fr_rf (fun t ht => absurd ht (by omega))
      unfold shf
      rw [if_pos (Nat.zero_le _), Nat.sub_zero, Int.one_mul, Int.zero_add]
    | succ dd ih =>
      intro i y hi hf ht
      refine u_X13_conway_1 ?_; unfold qm_X13_conway_1
      rw [nI_1]
      refine w_leF (a := 40) (by omega) (by omega) (w_wrJ ml42 rfl (by omega) (ih (i + 1) _ (by omega) (fr_J2 hf rfl) (fun t h9 => ?_)))
      by_cases hti : t = i
      · rw [hti, usJ_at]
        rfl
      · rw [usJ_ne hti]
        exact ht t (by omega)
  exact lp1 40 0 (usF z 1 0) (by omega) fr_rf (fun t ht => absurd ht (by omega))
end XCG
end
section
/-! 99zzzzzzzzzzzzzr.xcw9 -/
/-! conway: the class, and both sides -/
/-- the class's last numbers -/
def cwK (y : ow_MS) : Prop := ∃ C, slC y 25000 0 C ∧ cOK C ∧ (C.2 = [] ∨ ∃ A sg c, C = clC sg A ∧ okL A c ∧ cwC y (skV 13 A sg))
section XCH
variable {vl : Nat → Nat} {y : ow_MS} {St : plT} {x x' : Int32}
theorem cwK_fr {P : Nat → Prop} {y1 : ow_MS} (hf : fr P y y1) (hP : ∀ g, P g → ¬ (g = 24003 ∨ 25001 ≤ g ∧ g ≤ 25003)) (h : cwK y) : cwK y1 := by
  obtain ⟨C, c1, c2, c3⟩ := h
  refine ⟨C, slC_fr hf (fun q hq h9 => hP q h9 (by unfold cW at hq; omega)) c1, c2, c3.imp id (fun ⟨A, sg, c, q1, q2, q3⟩ => ⟨A, sg, c, q1, q2, cwC_fr hf (fun h9 => hP _ h9 (by omega)) q3⟩)⟩
theorem xc_unfoldCode {g' p' s' c : Nat} {A : rn_L} {sg : Nat → Bool} (hg' : tH g' p') (hd : g' + 6 ≤ 24000) (hs' : s' < p') (hb : slC y g' s' (clC sg A)) (hA : okL A c) (hby : byR y (g' + 1)) (hn : nrm A sg) (hl : lvS y) (hK : cwK y) : Te (fun K => ce_X8_unfoldCode vl K 24000 g' (nI s') y) (fun y1 => slC y1 25000 0 (clC sg A) ∧ cwC y1 (skV 13 A sg)) := by
  obtain ⟨C, c1, c2, c3⟩ := hK
  have hFw : wkF A.flatten := okF_wk (by have := hA.2.2.2.1; omega) hA.1
  refine e_X8_unfoldCode ?_; unfold cm_X8_unfoldCode_0
  refine w_cs1 (tc_isKnown2 (s := 0) (by omega) hg' (by omega) hs' hb (okL_c hA).2 hby c1 c2) ?_
  rintro v y1 ⟨h1, -, -, f1⟩
  dsimp only at h1 f1
  rcases h1 with ⟨rfl, rfl, eC, hlen⟩ | ⟨rfl, h1⟩
  · refine w_ifF (by decide) (w_some ⟨by rw [← eC]; exact c1, ?_⟩)
    rcases c3 with e | ⟨A', sg', c', q1, q2, q3⟩
    · rw [e] at hlen
      exact absurd hlen (by decide)
    · obtain ⟨u1, u2, u3⟩ := clC_inj hA q2 (eC.symm.trans q1)
      subst u1
      exact cwC_cg q3 (fun t _ => sk_sg 13 A sg' sg t hFw (fun p hp => (u3 p.1 ((hA.1.2 p).mp hp).1).symm))
  · have f1s : fr skP y y1 := fr_mono (fun g hg => by unfold cW at hg; unfold skP; omega) f1
    have l1 : lvS y1 := fun j hj => by
      obtain ⟨T, t1, t2⟩ := hl j hj
      exact ⟨T, cAt_fr f1 (fun g hg h9 => by unfold cP lv at hg; unfold cW at h9; omega) t1, t2⟩
    refine w_ifT rfl (w_cs0 (tc_fillA ch_24003 (by omega)) ?_)
    rintro y2 ⟨z2, f2⟩
    refine w_cs0 (tc_fillA ch_24004 (by omega)) ?_
    rintro y3 ⟨-, f3⟩
    have hc3 : cwC y3 (fun _ => 0) := cwC_fr f3 (by decide) (fun t ht => z2 t ht)
    have f13a : fr (fun g => g = 24003 ∨ g = 24004) y1 y3 := fr_tr (fr_mono (fun g hg => by omega) f2) (fr_mono (fun g hg => by omega) f3)
    have l3 : lvS y3 := fun j hj => by
      obtain ⟨T, t1, t2⟩ := l1 j hj
      exact ⟨T, cAt_fr f13a (fun g hg h9 => by unfold cP lv at hg; omega) t1, t2⟩
    obtain ⟨T, t1, t2⟩ := l3 0 (by omega)
    have s3 : slC y3 g' s' (clC sg A) := slC_fr (fr_tr f1s (fr_mono (fun g hg => by unfold skP; omega) f13a)) (fun q hq h9 => by unfold cW at hq; unfold skP at h9; omega) hb
    refine w_crX (j := 0) rfl (by omega) (w_cs0 (tc_load3 (lv_nH (L := 0) (by omega)) hg' (Or.inr (by omega)) hs' hA s3 t1 t2) ?_)
    rintro y4 ⟨⟨T1, q1, q2, q3, q4⟩, f4⟩
    have n4 := q1.2.2.1
    have l4 : lvS y4 := lvS_fr (L := 0) f4 (fun g hg => Or.inl (cL_in hg)) ⟨T1, q1.1, n4.2.2.1⟩ l3
    have hpm : pm1 T1 := fun x hx => by
      rw [q4 x (by omega)]
      cases sg x
      · exact Or.inl rfl
      · exact Or.inr rfl
    have hu : uL A sg (fun x => x) T1 := ⟨isoV_of q1.2.1 n4.1, hpm, fun h9 => by
      obtain ⟨b1, b2⟩ := nrm_base hn h9
      refine ⟨b1, ?_⟩
      unfold lbv crs uns
      rw [b2]
      rfl⟩
    have hun : Te (fun K => ce_X8_unfold vl K 24000 0 1 0 0 y4) (fun z1 => (lvS z1 ∧ fr (unP 0) y4 z1) ∧ cwC z1 (fun t => 0 + 1 * shf 0 (skV 13 A sg) t)) := xc_unfD 12 0 rfl T1 A sg (fun x => x) 1 (fun _ => 0) 0 y4 l4 q1.1 ⟨n4.1, n4.2.1, n4.2.2.1, by have := n4.2.2.2; omega⟩ (by have := n4.2.1; omega) hu (cwC_fr f4 (fun h9 => by have := cL_in h9; unfold lv at this; omega) hc3)
    refine w_cs0 hun ?_
    rintro y5 ⟨⟨l5, f5⟩, c5⟩
    have f15 : fr (fun g => 24003 ≤ g ∧ g ≤ 24004 ∨ 26001 ≤ g ∧ g ≤ 38011) y1 y5 := fr_tr (fr_mono (fun g hg => by omega) f13a) (fr_tr (fr_mono (fun g hg => by have := cL_in hg; unfold lv at this; omega) f4) (fr_mono (fun g hg => by unfold unP at hg; omega) f5))
    refine w_some ⟨slC_fr f15 (fun q hq h9 => by unfold cW at hq; omega) h1, cwC_cg c5 (fun t _ => ?_)⟩
    unfold shf
    rw [if_pos (Nat.zero_le _), Nat.sub_zero, Int.one_mul, Int.zero_add]
theorem xc_conway (hM : gM y) (hC : relC y St) (hS : okS St) (hK : cwK y) (hm : NM y) : Te (fun K => ce_X11_conway vl K 0 x x' y) (fun r => cwK r.2.2 ∧ ((r.1 = 1 ∧ r.2.2 = y ∧ ∀ d, d < 40 → x = nI d → St d = none) ∨ ∃ d A sg c, d < 40 ∧ x = nI d ∧ St d = some (A, sg) ∧ okL A c ∧ r.1 = 0 ∧ cwN9 A sg x' r.2.1)) := by
  refine e_X11_conway ?_; unfold cm_X11_conway_0
  refine w_tc0 (xc_need hM.1.1 hC hS) ?_ ?_
  · rintro y1 ⟨h1, rfl⟩
    rcases h1 with h1 | ⟨-, d, A, sg, c, hd, rfl, hSt, hs, hA, hne, hpl⟩
    · exact absurd (show (0 : Nat) = 1 from h1.1) (by decide)
    · have hFw : wkF A.flatten := okF_wk (by have := hA.2.2.2.1; omega) hA.1
      refine w_cs0 (xc_unfoldCode ch_1000 (by omega) hd hs hA hM.1.1.1 (hm.1 d A sg c hd hs hA hne) (lvS_ns hM.1.2.1) hK) ?_
      rintro y2 ⟨k2, k3⟩
      refine w_cs1 tc_conwayAt ?_
      rintro v z ⟨e2, a1, a2⟩
      dsimp only at e2 a1 a2
      rw [e2]
      refine w_some ⟨⟨_, k2, (okL_c hA).2, Or.inr ⟨A, sg, c, rfl, hA, k3⟩⟩, Or.inr ⟨d, A, sg, c, hd, rfl, hSt, hA, rfl, fun k hk e => ?_, fun h9 => a2 (fun k hk => h9 k (by omega))⟩⟩
      by_cases h13 : k < 13
      · rw [a1 k h13 e]
        exact k3 k h13
      · rw [a2 (fun k' hk' e' => by
          have := nI_inj9 (a := k) (b := k') (by omega) (by omega) (e.symm.trans e')
          omega), sk_deg 13 A sg k hFw (by have := okF_len hA.1; have := hA.2.2.2.1; omega)]
        rfl
  · rintro a y1 ha ⟨h1, rfl⟩
    rcases h1 with h1 | h1
    · exact w_some ⟨hK, Or.inl ⟨h1.1, rfl, h1.2⟩⟩
    · exact absurd h1.1 ha
end XCH
section XCI
variable {X : (Nat → Nat → Int32) → Prop} {z y : ow_MS} {vl : Nat → Nat} {x x' : Int32}
theorem cwN_sg {A : rn_L} {sg sg' : Nat → Bool} {c : Nat} {v : Int32} (hA : okL A c) (e : tk sg A = tk sg' A) (h : cwN9 A sg x v) : cwN9 A sg' x v := by
  have hFw : wkF A.flatten := okF_wk (by have := hA.2.2.2.1; omega) hA.1
  obtain ⟨-, u2⟩ := tk_inj A A (okL_u hA) (okL_u hA) e
  exact ⟨fun k k1 k2 => by rw [← sk_sg 13 A sg sg' k hFw u2]; exact h.1 k k1 k2, h.2⟩
theorem c_conway (h : rel3 X z y) (hk : knC y) (hm : NM y) (hz : cwR z) (hy : cwK y) : Te (fun K => qe_X13_conway K x x' z) (fun rr => Te (fun K => ce_X11_conway vl K 0 x x' y) (fun rc => (rel3 X rr.2 rc.2.2 ∧ ansI [(1, 1)] rr rc) ∧ cwR rr.2 ∧ cwK rc.2.2 ∧ knC rc.2.2 ∧ fr skP y rc.2.2)) := by
  obtain ⟨⟨St, k⟩, hM, h2⟩ := id h
  refine te_two (te_and (te_fo (tp_conway (d := x) (k := x') k.1) (fun K => ff_X13_conway)) (xq_conway k.1 k.2.2.1 k.2.2.2.2 hz)) (te_and (tc_conway (x := x) (x' := x') hM hk) (xc_conway hM k.2.2.2.1 k.2.2.2.2 hy hm)) (fun rr rc ⟨⟨hgI, fR⟩, jr, hr⟩ ⟨⟨hG, hk2, hf⟩, jc, hc⟩ => ?_)
  have hC : relC rc.2.2 St := relC_fr hf (fun q hq h9 => by unfold cW at hq; unfold skP at h9; omega) k.2.2.2.1
  have h2' : rel2 rr.2 rc.2.2 := by
    obtain ⟨k1, k2, k3, ⟨Ns, q1, q2, q3⟩, Ms, q4, q5, q6⟩ := h2
    exact ⟨relT_k fR hf (by decide) (by unfold skP; omega) k1, relB_k fR hf (by decide) (by unfold skP; omega) k2, brC_fr hf (by unfold skP; omega) k3, ⟨Ns, rlR_k fR (by decide) q1, rlC_k hf (fun q hq => by unfold cV at hq; unfold skP; omega) q2, q3⟩, Ms, rlR_k fR (by decide) q4, rlC_k hf (fun q hq => by unfold cV at hq; unfold skP; omega) q5, q6⟩
  have fin : ansI [(1, 1)] rr rc → ((rel3 X rr.2 rc.2.2 ∧ ansI [(1, 1)] rr rc) ∧ cwR rr.2 ∧ cwK rc.2.2 ∧ knC rc.2.2 ∧ fr skP y rc.2.2) := fun ha => ⟨⟨⟨⟨St, hgI, hG.1, relR_fr fR (by decide) k.2.2.1, hC, k.2.2.2.2⟩, hG, h2'⟩, ha⟩, jr, jc, hk2, hf⟩
  rcases hr with ⟨r1, r2⟩ | ⟨e, A, sg, he, rfl, hSt, r2, sg9, c, r4, r5, r6⟩
  · rcases hc with ⟨c1, -⟩ | ⟨d, A, sg, c, hd, hx, hSt, -⟩
    · exact fin (Or.inr ⟨1, 1, by simp, r1.2.1, c1⟩)
    · rw [r2 d hd hx] at hSt
      cases hSt
  · rcases hc with ⟨-, -, c2⟩ | ⟨d, A', sg', c', hd, hx, hSt', hA', c1, hv⟩
    · rw [c2 e he rfl] at hSt
      cases hSt
    · have ed := nI_inj9 (a := e) (b := d) (by omega) (by omega) hx
      subst ed
      rw [hSt] at hSt'
      cases hSt'
      exact fin (Or.inl ⟨r2, c1, cwN_uni (cwN_sg hA' r4 r6) hv⟩)
end XCI
end
section
/-! 99zzzzzzzzzzzzzs.xst4 -/
/-! the steps of the law with whatever else is kept; what is left of the whole -/
def keepP (H : Nat → Prop) (P : ow_MS → Prop) : Prop := ∀ (F : Nat → Prop) (y y1 : ow_MS), fr F y y1 → (∀ g, F g → ¬ H g) → P y → P y1
def ciX (g : Nat) : Prop := 24001 ≤ g ∧ g ≤ 25003 ∨ 39001 ≤ g ∧ g ≤ 45011
def rfX (g : Nat) : Prop := 42 ≤ g ∧ g ≤ 46 ∨ 58 ≤ g ∧ g ≤ 93 ∨ 97 ≤ g ∧ g ≤ 107
def rfL : List Nat := [42, 43, 44, 45, 46] ++ ((List.range 36).map (fun i => 58 + i) ++ (List.range 11).map (fun i => 97 + i))
theorem rfX_m {g : Nat} : rfX g ↔ g ∈ rfL := by
  unfold rfX rfL
  rw [List.mem_append, List.mem_append, List.mem_map, List.mem_map]
  constructor
  · rintro (h | h | h)
    · exact Or.inl (by
        rcases (show g = 42 ∨ g = 43 ∨ g = 44 ∨ g = 45 ∨ g = 46 by omega) with rfl | rfl | rfl | rfl | rfl <;> decide)
    · exact Or.inr (Or.inl ⟨g - 58, List.mem_range.mpr (by omega), by omega⟩)
    · exact Or.inr (Or.inr ⟨g - 97, List.mem_range.mpr (by omega), by omega⟩)
  · rintro (h | ⟨i, h1, h2⟩ | ⟨i, h1, h2⟩)
    · have key : ∀ a, a ∈ [42, 43, 44, 45, 46] → 42 ≤ a ∧ a ≤ 46 := by decide
      exact Or.inl (key g h)
    · have := List.mem_range.mp h1
      omega
    · have := List.mem_range.mp h1
      omega
theorem pf_rf {L : List Nat} (h : (L.all (fun g => !rfL.contains g)) = true) : ∀ g, pf L [] g → ¬ rfX g := by
  rintro g (h1 | h1 | h1) h9
  · have h2 := List.all_eq_true.mp h g h1
    rw [List.contains_iff_mem.mpr (rfX_m.mp h9)] at h2
    exact absurd h2 (by decide)
  · exact absurd h1 List.not_mem_nil
  · unfold rfX at h9
    omega
def stpX (Pc Pr : ow_MS → Prop) (f : (Nat → Nat) → Nat → Int32 → Int32 → Int32 → Int32 → Int32 → ow_MS → ow_MS → Option ow_LwS) : Prop := ∀ (S : ow_LwS) (x1 x2 x3 x4 x5 : Int32), REL2 S → Pc S.2.1 → Pr S.2.2 → Te (fun K => f S.1 K x1 x2 x3 x4 x5 S.2.1 S.2.2) (fun S1 => (REL2 S1 ∧ dPhi S.1 ≤ dPhi S1.1) ∧ Pc S1.2.1 ∧ Pr S1.2.2)
section XS6
variable {vl : Nat → Nat} {Q : ow_LwS → Prop}
theorem lsV_core {fc : Nat → Option (Nat × Int32 × ow_MS)} {mp : Nat → ow_MS → Option (Int32 × ow_MS)} {fm : Nat → Option (Int32 × ow_MS)} (hmp : ∀ k z r, mp k z = some r → r.2 = z) {K : Nat} {S1 : ow_LwS} (e1 : lsV vl fc mp fm K = some S1) : ∃ k v zc v4 zm, fc K = some (k, v, zc) ∧ fm K = some (v4, zm) ∧ (S1.2.1 = zc ∨ S1.2.1 = usJ zc 52001 0 v.toInt64) ∧ S1.2.2 = zm := by
  unfold lsV at e1
  cases hf : fc K with
  | none =>
    rw [hf] at e1
    cases e1
  | some q =>
    obtain ⟨k, v, zc⟩ := q
    rw [hf] at e1
    have main : ∀ (a : Int32) (zc1 : ow_MS), (cs1 (fm K) fun v4 zm3 => cs1 (qe_X13_thrown K zm3) fun v6 zm5 => (if v6 = a then (if a = 0 then crJ (cX vl) zc1 52001 0 fun v7 => (if (lg_cmp v7 v4.toInt64) = 0 then some (vl, zc1, zm5) else none) else some (vl, zc1, zm5)) else none)) = some S1 → ∃ v4 zm, fm K = some (v4, zm) ∧ S1.2.1 = zc1 ∧ S1.2.2 = zm := by
      intro a zc1 h9
      cases hm : fm K with
      | none =>
        rw [hm] at h9
        cases h9
      | some q =>
        obtain ⟨v4, zm3⟩ := q
        rw [hm] at h9
        have h9 : (if zm3.1 1 = a then (if a = 0 then crJ (cX vl) zc1 52001 0 fun v7 => (if (lg_cmp v7 v4.toInt64) = 0 then some (vl, zc1, zm3) else none) else some (vl, zc1, zm3)) else none) = some S1 := h9
        by_cases c1 : zm3.1 1 = a
        · rw [if_pos c1] at h9
          by_cases c2 : a = 0
          · rw [if_pos c2] at h9
            have h9 : (if lg_cmp (zc1.2.2 52001 0) v4.toInt64 = 0 then some (vl, zc1, zm3) else none) = some S1 := h9
            by_cases c3 : lg_cmp (zc1.2.2 52001 0) v4.toInt64 = 0
            · rw [if_pos c3] at h9
              cases h9
              exact ⟨v4, zm3, rfl, rfl, rfl⟩
            · rw [if_neg c3] at h9
              cases h9
          · rw [if_neg c2] at h9
            cases h9
            exact ⟨v4, zm3, rfl, rfl, rfl⟩
        · rw [if_neg c1] at h9
          cases h9
    by_cases hk : k = 0
    · have e3 : tc1 (some (k, v, zc)) mp (fun v3 z1 => ctJ (cX vl) z1 52001 0 v3.toInt64 fun z4 => some (0, z4)) = some (0, usJ zc 52001 0 v.toInt64) := by
        show (if k = 0 then ctJ (cX vl) zc 52001 0 v.toInt64 (fun z4 => some (0, z4)) else mp k zc) = _
        rw [if_pos hk]
        rfl
      rw [e3] at e1
      obtain ⟨v4, zm, a1, a2, a3⟩ := main 0 _ e1
      exact ⟨k, v, zc, v4, zm, rfl, a1, Or.inr a2, a3⟩
    · have e3 : tc1 (some (k, v, zc)) mp (fun v3 z1 => ctJ (cX vl) z1 52001 0 v3.toInt64 fun z4 => some (0, z4)) = mp k zc := by
        show (if k = 0 then ctJ (cX vl) zc 52001 0 v.toInt64 (fun z4 => some (0, z4)) else mp k zc) = _
        rw [if_neg hk]
      rw [e3] at e1
      cases hm : mp k zc with
      | none =>
        rw [hm] at e1
        cases e1
      | some q =>
        obtain ⟨a, zc1⟩ := q
        have ez : zc1 = zc := hmp k zc _ hm
        rw [hm, ez] at e1
        obtain ⟨v4, zm, a1, a2, a3⟩ := main a zc e1
        exact ⟨k, v, zc, v4, zm, rfl, a1, Or.inl a2, a3⟩
theorem lsV_fo {P P' : Nat → Prop} {y z : ow_MS} {fc : Nat → Option (Nat × Int32 × ow_MS)} {mp : Nat → ow_MS → Option (Int32 × ow_MS)} {fm : Nat → Option (Int32 × ow_MS)} (h : Te (lsV vl fc mp fm) Q) (hc : ∀ K, Fo (fun r => r.2.2) P y (fc K)) (hm : ∀ K, Fo Prod.snd P' z (fm K)) (hmp : ∀ k z r, mp k z = some r → r.2 = z) : Te (lsV vl fc mp fm) (fun S1 => Q S1 ∧ fr (fun g => P g ∨ g = 52001) y S1.2.1 ∧ fr P' z S1.2.2) := by
  obtain ⟨S1, ⟨b1, hb1⟩, hQ⟩ := h
  obtain ⟨k, v, zc, v4, zm, a1, a2, a3, a4⟩ := lsV_core hmp (hb1 b1 (Nat.le_refl _))
  have f1 : fr P y zc := hc b1 _ a1
  have f2 : fr P' z zm := hm b1 _ a2
  refine ⟨S1, ⟨b1, hb1⟩, hQ, ?_, by rw [a4]; exact f2⟩
  rcases a3 with e | e
  · rw [e]
    exact fr_mono (fun g hg => Or.inl hg) f1
  · rw [e]
    exact fr_J2 (fr_mono (fun g hg => Or.inl hg) f1) (Or.inr rfl)
theorem lsV_pp {Pc Pr : ow_MS → Prop} {fc : Nat → Option (Nat × Int32 × ow_MS)} {mp : Nat → ow_MS → Option (Int32 × ow_MS)} {fm : Nat → Option (Int32 × ow_MS)} (h : Te (lsV vl fc mp fm) Q) (hn : Te fc (fun rc => Pc rc.2.2)) (hm : Te fm (fun rr => Pr rr.2)) (hJ : ∀ y v, Pc y → Pc (usJ y 52001 0 v)) (hmp : ∀ k z r, mp k z = some r → r.2 = z) : Te (lsV vl fc mp fm) (fun S1 => Q S1 ∧ Pc S1.2.1 ∧ Pr S1.2.2) := by
  obtain ⟨S1, ⟨b1, hb1⟩, hQ⟩ := h
  obtain ⟨⟨k', v', zc'⟩, ⟨b2, hb2⟩, hN⟩ := hn
  obtain ⟨⟨v4', zm'⟩, ⟨b3, hb3⟩, hz⟩ := hm
  have hN : Pc zc' := hN
  have hz : Pr zm' := hz
  obtain ⟨k, v, zc, v4, zm, a1, a2, a3, a4⟩ := lsV_core hmp (hb1 (b1 + b2 + b3) (by omega))
  rw [hb2 (b1 + b2 + b3) (by omega)] at a1
  rw [hb3 (b1 + b2 + b3) (by omega)] at a2
  cases a1
  cases a2
  refine ⟨S1, ⟨b1, hb1⟩, hQ, ?_, by rw [a4]; exact hz⟩
  rcases a3 with e | e
  · rw [e]
    exact hN
  · rw [e]
    exact hJ _ _ hN
theorem lsB_fo {P P' : Nat → Prop} {y z : ow_MS} {fc fm : Nat → Option (Int32 × ow_MS)} (h : Te (fun K => cs1 (fc K) fun v2 zc1 => cs1 (fm K) fun v4 zm3 => (if v2 = v4 then some (vl, zc1, zm3) else none)) Q) (hc : ∀ K, Fo Prod.snd P y (fc K)) (hm : ∀ K, Fo Prod.snd P' z (fm K)) : Te (fun K => cs1 (fc K) fun v2 zc1 => cs1 (fm K) fun v4 zm3 => (if v2 = v4 then some (vl, zc1, zm3) else none)) (fun S1 => Q S1 ∧ fr P y S1.2.1 ∧ fr P' z S1.2.2) := by
  obtain ⟨S1, ⟨b1, hb1⟩, hQ⟩ := h
  have e1 : (cs1 (fc b1) fun v2 zc1 => cs1 (fm b1) fun v4 zm3 => (if v2 = v4 then some (vl, zc1, zm3) else none)) = some S1 := hb1 b1 (Nat.le_refl _)
  refine ⟨S1, ⟨b1, hb1⟩, hQ, ?_⟩
  cases hf : fc b1 with
  | none =>
    rw [hf] at e1
    cases e1
  | some q =>
    obtain ⟨v, zc⟩ := q
    rw [hf] at e1
    have f1 : fr P y zc := hc b1 _ hf
    cases hg : fm b1 with
    | none =>
      rw [hg] at e1
      cases e1
    | some q =>
      obtain ⟨v4, zm⟩ := q
      rw [hg] at e1
      have f2 : fr P' z zm := hm b1 _ hg
      have e1 : (if v = v4 then some (vl, zc, zm) else none) = some S1 := e1
      by_cases c1 : v = v4
      · rw [if_pos c1] at e1
        cases e1
        exact ⟨f1, f2⟩
      · rw [if_neg c1] at e1
        cases e1
end XS6
section XS7
variable {Pc Pr : ow_MS → Prop}
theorem s3_feed (hc : keepP ciX Pc) (hr : keepP rfX Pr) : stpX Pc Pr lst_feed := by
  intro S x1 x2 x3 x4 x5 h pc pr
  have hs : Te (lsV S.1 (fun K => ce_X11_feed S.1 K 0 x1 x2 x3 x4 x5 S.2.1) (fun k z => if k = 3 then some (1, z) else none) (fun K => qe_X13_feed K x1 x2 x3 x4 x5 S.2.2)) (fun S1 => REL2 S1 ∧ dPhi S.1 ≤ dPhi S1.1) := s2_feed S x1 x2 x3 x4 x5 h
  exact w_monoE (lsV_fo hs (fun K => ff_X11_feed) (fun K => ff_X13_feed) (fun k z r hr => by
    have hr : (if k = 3 then some (1, z) else none) = some r := hr
    by_cases c0 : k = 3
    · rw [if_pos c0] at hr
      cases hr
      rfl
    rw [if_neg c0] at hr
    cases hr)) (fun S1 ⟨q, f1, f2⟩ => ⟨q, hc _ _ _ f1 (fun g hg h9 => by unfold ciX at h9; omega) pc, hr _ _ _ f2 (pf_rf (by decide)) pr⟩)
theorem s3_diagram (hc : keepP ciX Pc) (hr : keepP rfX Pr) : stpX Pc Pr lst_diagram := by
  intro S x1 x2 x3 x4 x5 h pc pr
  have hs : Te (lsV S.1 (fun K => ce_X11_diagram S.1 K 0  S.2.1) (fun k z => if k = 3 then some (1, z) else none) (fun K => qe_X13_diagram K  S.2.2)) (fun S1 => REL2 S1 ∧ dPhi S.1 ≤ dPhi S1.1) := s2_diagram S x1 x2 x3 x4 x5 h
  exact w_monoE (lsV_fo hs (fun K => ff_X11_diagram) (fun K => ff_X13_diagram) (fun k z r hr => by
    have hr : (if k = 3 then some (1, z) else none) = some r := hr
    by_cases c0 : k = 3
    · rw [if_pos c0] at hr
      cases hr
      rfl
    rw [if_neg c0] at hr
    cases hr)) (fun S1 ⟨q, f1, f2⟩ => ⟨q, hc _ _ _ f1 (fun g hg h9 => by unfold ciX at h9; omega) pc, hr _ _ _ f2 (pf_rf (by decide)) pr⟩)
theorem s3_braid (hc : keepP ciX Pc) (hr : keepP rfX Pr) : stpX Pc Pr lst_braid := by
  intro S x1 x2 x3 x4 x5 h pc pr
  have hs : Te (lsV S.1 (fun K => ce_X11_braid S.1 K 0 x1 S.2.1) (fun k z => if k = 2 then some (1, z) else if k = 3 then some (2, z) else none) (fun K => qe_X13_braid K x1 S.2.2)) (fun S1 => REL2 S1 ∧ dPhi S.1 ≤ dPhi S1.1) := s2_braid S x1 x2 x3 x4 x5 h
  exact w_monoE (lsV_fo hs (fun K => ff_X11_braid) (fun K => ff_X13_braid) (fun k z r hr => by
    have hr : (if k = 2 then some (1, z) else if k = 3 then some (2, z) else none) = some r := hr
    by_cases c0 : k = 2
    · rw [if_pos c0] at hr
      cases hr
      rfl
    by_cases c1 : k = 3
    · rw [if_neg c0, if_pos c1] at hr
      cases hr
      rfl
    rw [if_neg c0, if_neg c1] at hr
    cases hr)) (fun S1 ⟨q, f1, f2⟩ => ⟨q, hc _ _ _ f1 (fun g hg h9 => by unfold ciX at h9; omega) pc, hr _ _ _ f2 (pf_rf (by decide)) pr⟩)
theorem s3_figure (hc : keepP ciX Pc) (hr : keepP rfX Pr) : stpX Pc Pr lst_figure := by
  intro S x1 x2 x3 x4 x5 h pc pr
  have hs : Te (lsV S.1 (fun K => ce_X11_figure S.1 K 0 x1 x2 S.2.1) (fun k z => if k = 1 then some (1, z) else if k = 2 then some (2, z) else none) (fun K => qe_X13_figure K x1 x2 S.2.2)) (fun S1 => REL2 S1 ∧ dPhi S.1 ≤ dPhi S1.1) := s2_figure S x1 x2 x3 x4 x5 h
  exact w_monoE (lsV_fo hs (fun K => ff_X11_figure) (fun K => ff_X13_figure) (fun k z r hr => by
    have hr : (if k = 1 then some (1, z) else if k = 2 then some (2, z) else none) = some r := hr
    by_cases c0 : k = 1
    · rw [if_pos c0] at hr
      cases hr
      rfl
    by_cases c1 : k = 2
    · rw [if_neg c0, if_pos c1] at hr
      cases hr
      rfl
    rw [if_neg c0, if_neg c1] at hr
    cases hr)) (fun S1 ⟨q, f1, f2⟩ => ⟨q, hc _ _ _ f1 (fun g hg h9 => by unfold ciX at h9; omega) pc, hr _ _ _ f2 (pf_rf (by decide)) pr⟩)
theorem s3_visit (hc : keepP ciX Pc) (hr : keepP rfX Pr) : stpX Pc Pr lst_visit := by
  intro S x1 x2 x3 x4 x5 h pc pr
  have hs : Te (lsV S.1 (fun K => ce_X11_visit S.1 K 0 x1 x2 x3 S.2.1) (fun k z => if k = 1 then some (1, z) else if k = 2 then some (2, z) else none) (fun K => qe_X13_visit K x1 x2 x3 S.2.2)) (fun S1 => REL2 S1 ∧ dPhi S.1 ≤ dPhi S1.1) := s2_visit S x1 x2 x3 x4 x5 h
  exact w_monoE (lsV_fo hs (fun K => ff_X11_visit) (fun K => ff_X13_visit) (fun k z r hr => by
    have hr : (if k = 1 then some (1, z) else if k = 2 then some (2, z) else none) = some r := hr
    by_cases c0 : k = 1
    · rw [if_pos c0] at hr
      cases hr
      rfl
    by_cases c1 : k = 2
    · rw [if_neg c0, if_pos c1] at hr
      cases hr
      rfl
    rw [if_neg c0, if_neg c1] at hr
    cases hr)) (fun S1 ⟨q, f1, f2⟩ => ⟨q, hc _ _ _ f1 (fun g hg h9 => by unfold ciX at h9; omega) pc, hr _ _ _ f2 (pf_rf (by decide)) pr⟩)
theorem s3_linking (hc : keepP ciX Pc) (hr : keepP rfX Pr) : stpX Pc Pr lst_linking := by
  intro S x1 x2 x3 x4 x5 h pc pr
  have hs : Te (lsV S.1 (fun K => ce_X11_linking S.1 K 0 x1 x2 x3 S.2.1) (fun k z => if k = 1 then some (1, z) else if k = 2 then some (2, z) else none) (fun K => qe_X13_linking K x1 x2 x3 S.2.2)) (fun S1 => REL2 S1 ∧ dPhi S.1 ≤ dPhi S1.1) := s2_linking S x1 x2 x3 x4 x5 h
  exact w_monoE (lsV_fo hs (fun K => ff_X11_linking) (fun K => ff_X13_linking) (fun k z r hr => by
    have hr : (if k = 1 then some (1, z) else if k = 2 then some (2, z) else none) = some r := hr
    by_cases c0 : k = 1
    · rw [if_pos c0] at hr
      cases hr
      rfl
    by_cases c1 : k = 2
    · rw [if_neg c0, if_pos c1] at hr
      cases hr
      rfl
    rw [if_neg c0, if_neg c1] at hr
    cases hr)) (fun S1 ⟨q, f1, f2⟩ => ⟨q, hc _ _ _ f1 (fun g hg h9 => by unfold ciX at h9; omega) pc, hr _ _ _ f2 (pf_rf (by decide)) pr⟩)
theorem s3_mirror (hc : keepP ciX Pc) (hr : keepP rfX Pr) : stpX Pc Pr lst_mirror := by
  intro S x1 x2 x3 x4 x5 h pc pr
  have hs : Te (lsV S.1 (fun K => ce_X11_mirror S.1 K 0 x1 S.2.1) (fun k z => if k = 1 then some (1, z) else if k = 3 then some (2, z) else none) (fun K => qe_X13_mirror K x1 S.2.2)) (fun S1 => REL2 S1 ∧ dPhi S.1 ≤ dPhi S1.1) := s2_mirror S x1 x2 x3 x4 x5 h
  exact w_monoE (lsV_fo hs (fun K => ff_X11_mirror) (fun K => ff_X13_mirror) (fun k z r hr => by
    have hr : (if k = 1 then some (1, z) else if k = 3 then some (2, z) else none) = some r := hr
    by_cases c0 : k = 1
    · rw [if_pos c0] at hr
      cases hr
      rfl
    by_cases c1 : k = 3
    · rw [if_neg c0, if_pos c1] at hr
      cases hr
      rfl
    rw [if_neg c0, if_neg c1] at hr
    cases hr)) (fun S1 ⟨q, f1, f2⟩ => ⟨q, hc _ _ _ f1 (fun g hg h9 => by unfold ciX at h9; omega) pc, hr _ _ _ f2 (pf_rf (by decide)) pr⟩)
theorem s3_reverse (hc : keepP ciX Pc) (hr : keepP rfX Pr) : stpX Pc Pr lst_reverse := by
  intro S x1 x2 x3 x4 x5 h pc pr
  have hs : Te (lsV S.1 (fun K => ce_X11_reverse S.1 K 0 x1 x2 S.2.1) (fun k z => if k = 1 then some (1, z) else if k = 3 then some (2, z) else none) (fun K => qe_X13_reverse K x1 x2 S.2.2)) (fun S1 => REL2 S1 ∧ dPhi S.1 ≤ dPhi S1.1) := s2_reverse S x1 x2 x3 x4 x5 h
  exact w_monoE (lsV_fo hs (fun K => ff_X11_reverse) (fun K => ff_X13_reverse) (fun k z r hr => by
    have hr : (if k = 1 then some (1, z) else if k = 3 then some (2, z) else none) = some r := hr
    by_cases c0 : k = 1
    · rw [if_pos c0] at hr
      cases hr
      rfl
    by_cases c1 : k = 3
    · rw [if_neg c0, if_pos c1] at hr
      cases hr
      rfl
    rw [if_neg c0, if_neg c1] at hr
    cases hr)) (fun S1 ⟨q, f1, f2⟩ => ⟨q, hc _ _ _ f1 (fun g hg h9 => by unfold ciX at h9; omega) pc, hr _ _ _ f2 (pf_rf (by decide)) pr⟩)
theorem s3_change (hc : keepP ciX Pc) (hr : keepP rfX Pr) : stpX Pc Pr lst_change := by
  intro S x1 x2 x3 x4 x5 h pc pr
  have hs : Te (lsV S.1 (fun K => ce_X11_change S.1 K 0 x1 x2 S.2.1) (fun k z => if k = 1 then some (1, z) else if k = 3 then some (2, z) else none) (fun K => qe_X13_change K x1 x2 S.2.2)) (fun S1 => REL2 S1 ∧ dPhi S.1 ≤ dPhi S1.1) := s2_change S x1 x2 x3 x4 x5 h
  exact w_monoE (lsV_fo hs (fun K => ff_X11_change) (fun K => ff_X13_change) (fun k z r hr => by
    have hr : (if k = 1 then some (1, z) else if k = 3 then some (2, z) else none) = some r := hr
    by_cases c0 : k = 1
    · rw [if_pos c0] at hr
      cases hr
      rfl
    by_cases c1 : k = 3
    · rw [if_neg c0, if_pos c1] at hr
      cases hr
      rfl
    rw [if_neg c0, if_neg c1] at hr
    cases hr)) (fun S1 ⟨q, f1, f2⟩ => ⟨q, hc _ _ _ f1 (fun g hg h9 => by unfold ciX at h9; omega) pc, hr _ _ _ f2 (pf_rf (by decide)) pr⟩)
theorem s3_smooth (hc : keepP ciX Pc) (hr : keepP rfX Pr) : stpX Pc Pr lst_smooth := by
  intro S x1 x2 x3 x4 x5 h pc pr
  have hs : Te (lsV S.1 (fun K => ce_X11_smooth S.1 K 0 x1 x2 S.2.1) (fun k z => if k = 1 then some (1, z) else if k = 4 then some (2, z) else if k = 3 then some (3, z) else none) (fun K => qe_X13_smooth K x1 x2 S.2.2)) (fun S1 => REL2 S1 ∧ dPhi S.1 ≤ dPhi S1.1) := s2_smooth S x1 x2 x3 x4 x5 h
  exact w_monoE (lsV_fo hs (fun K => ff_X11_smooth) (fun K => ff_X13_smooth) (fun k z r hr => by
    have hr : (if k = 1 then some (1, z) else if k = 4 then some (2, z) else if k = 3 then some (3, z) else none) = some r := hr
    by_cases c0 : k = 1
    · rw [if_pos c0] at hr
      cases hr
      rfl
    by_cases c1 : k = 4
    · rw [if_neg c0, if_pos c1] at hr
      cases hr
      rfl
    by_cases c2 : k = 3
    · rw [if_neg c0, if_neg c1, if_pos c2] at hr
      cases hr
      rfl
    rw [if_neg c0, if_neg c1, if_neg c2] at hr
    cases hr)) (fun S1 ⟨q, f1, f2⟩ => ⟨q, hc _ _ _ f1 (fun g hg h9 => by unfold ciX at h9; omega) pc, hr _ _ _ f2 (pf_rf (by decide)) pr⟩)
theorem s3_apart (hc : keepP ciX Pc) (hr : keepP rfX Pr) : stpX Pc Pr lst_apart := by
  intro S x1 x2 x3 x4 x5 h pc pr
  have hs : Te (lsV S.1 (fun K => ce_X11_apart S.1 K 0 x1 x2 S.2.1) (fun k z => if k = 1 then some (1, z) else if k = 4 then some (2, z) else if k = 3 then some (3, z) else none) (fun K => qe_X13_apart K x1 x2 S.2.2)) (fun S1 => REL2 S1 ∧ dPhi S.1 ≤ dPhi S1.1) := s2_apart S x1 x2 x3 x4 x5 h
  exact w_monoE (lsV_fo hs (fun K => ff_X11_apart) (fun K => ff_X13_apart) (fun k z r hr => by
    have hr : (if k = 1 then some (1, z) else if k = 4 then some (2, z) else if k = 3 then some (3, z) else none) = some r := hr
    by_cases c0 : k = 1
    · rw [if_pos c0] at hr
      cases hr
      rfl
    by_cases c1 : k = 4
    · rw [if_neg c0, if_pos c1] at hr
      cases hr
      rfl
    by_cases c2 : k = 3
    · rw [if_neg c0, if_neg c1, if_pos c2] at hr
      cases hr
      rfl
    rw [if_neg c0, if_neg c1, if_neg c2] at hr
    cases hr)) (fun S1 ⟨q, f1, f2⟩ => ⟨q, hc _ _ _ f1 (fun g hg h9 => by unfold ciX at h9; omega) pc, hr _ _ _ f2 (pf_rf (by decide)) pr⟩)
theorem s3_join (hc : keepP ciX Pc) (hr : keepP rfX Pr) : stpX Pc Pr lst_join := by
  intro S x1 x2 x3 x4 x5 h pc pr
  have hs : Te (lsV S.1 (fun K => ce_X11_join S.1 K 0 x1 x2 x3 x4 S.2.1) (fun k z => if k = 1 then some (1, z) else if k = 4 then some (2, z) else if k = 3 then some (3, z) else none) (fun K => qe_X13_join K x1 x2 x3 x4 S.2.2)) (fun S1 => REL2 S1 ∧ dPhi S.1 ≤ dPhi S1.1) := s2_join S x1 x2 x3 x4 x5 h
  exact w_monoE (lsV_fo hs (fun K => ff_X11_join) (fun K => ff_X13_join) (fun k z r hr => by
    have hr : (if k = 1 then some (1, z) else if k = 4 then some (2, z) else if k = 3 then some (3, z) else none) = some r := hr
    by_cases c0 : k = 1
    · rw [if_pos c0] at hr
      cases hr
      rfl
    by_cases c1 : k = 4
    · rw [if_neg c0, if_pos c1] at hr
      cases hr
      rfl
    by_cases c2 : k = 3
    · rw [if_neg c0, if_neg c1, if_pos c2] at hr
      cases hr
      rfl
    rw [if_neg c0, if_neg c1, if_neg c2] at hr
    cases hr)) (fun S1 ⟨q, f1, f2⟩ => ⟨q, hc _ _ _ f1 (fun g hg h9 => by unfold ciX at h9; omega) pc, hr _ _ _ f2 (pf_rf (by decide)) pr⟩)
theorem s3_moves (hc : keepP ciX Pc) (hr : keepP rfX Pr) : stpX Pc Pr lst_moves := by
  intro S x1 x2 x3 x4 x5 h pc pr
  have hs : Te (lsV S.1 (fun K => ce_X11_moves S.1 K 0 x1 x2 S.2.1) (fun k z => if k = 1 then some (1, z) else if k = 2 then some (2, z) else none) (fun K => qe_X13_moves K x1 x2 S.2.2)) (fun S1 => REL2 S1 ∧ dPhi S.1 ≤ dPhi S1.1) := s2_moves S x1 x2 x3 x4 x5 h
  exact w_monoE (lsV_fo hs (fun K => ff_X11_moves) (fun K => ff_X13_moves) (fun k z r hr => by
    have hr : (if k = 1 then some (1, z) else if k = 2 then some (2, z) else none) = some r := hr
    by_cases c0 : k = 1
    · rw [if_pos c0] at hr
      cases hr
      rfl
    by_cases c1 : k = 2
    · rw [if_neg c0, if_pos c1] at hr
      cases hr
      rfl
    rw [if_neg c0, if_neg c1] at hr
    cases hr)) (fun S1 ⟨q, f1, f2⟩ => ⟨q, hc _ _ _ f1 (fun g hg h9 => by unfold ciX at h9; omega) pc, hr _ _ _ f2 (pf_rf (by decide)) pr⟩)
theorem s3_moved (hc : keepP ciX Pc) (hr : keepP rfX Pr) : stpX Pc Pr lst_moved := by
  intro S x1 x2 x3 x4 x5 h pc pr
  have hs : Te (lsV S.1 (fun K => ce_X11_moved S.1 K 0 x1 S.2.1) (fun k z => if k = 1 then some (1, z) else if k = 3 then some (2, z) else none) (fun K => qe_X13_moved K x1 S.2.2)) (fun S1 => REL2 S1 ∧ dPhi S.1 ≤ dPhi S1.1) := s2_moved S x1 x2 x3 x4 x5 h
  exact w_monoE (lsV_fo hs (fun K => ff_X11_moved) (fun K => ff_X13_moved) (fun k z r hr => by
    have hr : (if k = 1 then some (1, z) else if k = 3 then some (2, z) else none) = some r := hr
    by_cases c0 : k = 1
    · rw [if_pos c0] at hr
      cases hr
      rfl
    by_cases c1 : k = 3
    · rw [if_neg c0, if_pos c1] at hr
      cases hr
      rfl
    rw [if_neg c0, if_neg c1] at hr
    cases hr)) (fun S1 ⟨q, f1, f2⟩ => ⟨q, hc _ _ _ f1 (fun g hg h9 => by unfold ciX at h9; omega) pc, hr _ _ _ f2 (pf_rf (by decide)) pr⟩)
theorem s3_simplify (hc : keepP ciX Pc) (hr : keepP rfX Pr) : stpX Pc Pr lst_simplify := by
  intro S x1 x2 x3 x4 x5 h pc pr
  have hs : Te (lsV S.1 (fun K => ce_X11_simplify S.1 K 0 x1 S.2.1) (fun k z => if k = 1 then some (1, z) else if k = 3 then some (2, z) else none) (fun K => qe_X13_simplify K x1 S.2.2)) (fun S1 => REL2 S1 ∧ dPhi S.1 ≤ dPhi S1.1) := s2_simplify S x1 x2 x3 x4 x5 h
  exact w_monoE (lsV_fo hs (fun K => ff_X11_simplify) (fun K => ff_X13_simplify) (fun k z r hr => by
    have hr : (if k = 1 then some (1, z) else if k = 3 then some (2, z) else none) = some r := hr
    by_cases c0 : k = 1
    · rw [if_pos c0] at hr
      cases hr
      rfl
    by_cases c1 : k = 3
    · rw [if_neg c0, if_pos c1] at hr
      cases hr
      rfl
    rw [if_neg c0, if_neg c1] at hr
    cases hr)) (fun S1 ⟨q, f1, f2⟩ => ⟨q, hc _ _ _ f1 (fun g hg h9 => by unfold ciX at h9; omega) pc, hr _ _ _ f2 (pf_rf (by decide)) pr⟩)
theorem s3_summand (hc : keepP ciX Pc) (hr : keepP rfX Pr) : stpX Pc Pr lst_summand := by
  intro S x1 x2 x3 x4 x5 h pc pr
  have hs : Te (lsV S.1 (fun K => ce_X11_summand S.1 K 0 x1 S.2.1) (fun k z => if k = 1 then some (1, z) else if k = 3 then some (2, z) else none) (fun K => qe_X13_summand K x1 S.2.2)) (fun S1 => REL2 S1 ∧ dPhi S.1 ≤ dPhi S1.1) := s2_summand S x1 x2 x3 x4 x5 h
  exact w_monoE (lsV_fo hs (fun K => ff_X11_summand) (fun K => ff_X13_summand) (fun k z r hr => by
    have hr : (if k = 1 then some (1, z) else if k = 3 then some (2, z) else none) = some r := hr
    by_cases c0 : k = 1
    · rw [if_pos c0] at hr
      cases hr
      rfl
    by_cases c1 : k = 3
    · rw [if_neg c0, if_pos c1] at hr
      cases hr
      rfl
    rw [if_neg c0, if_neg c1] at hr
    cases hr)) (fun S1 ⟨q, f1, f2⟩ => ⟨q, hc _ _ _ f1 (fun g hg h9 => by unfold ciX at h9; omega) pc, hr _ _ _ f2 (pf_rf (by decide)) pr⟩)
theorem s3_closure (hc : keepP ciX Pc) (hr : keepP rfX Pr) : stpX Pc Pr lst_closure := by
  intro S x1 x2 x3 x4 x5 h pc pr
  have hs : Te (lsV S.1 (fun K => ce_X11_closure S.1 K 0 x1 S.2.1) (fun k z => if k = 1 then some (1, z) else if k = 4 then some (2, z) else if k = 3 then some (3, z) else none) (fun K => qe_X13_closure K x1 S.2.2)) (fun S1 => REL2 S1 ∧ dPhi S.1 ≤ dPhi S1.1) := s2_closure S x1 x2 x3 x4 x5 h
  exact w_monoE (lsV_fo hs (fun K => ff_X11_closure) (fun K => ff_X13_closure) (fun k z r hr => by
    have hr : (if k = 1 then some (1, z) else if k = 4 then some (2, z) else if k = 3 then some (3, z) else none) = some r := hr
    by_cases c0 : k = 1
    · rw [if_pos c0] at hr
      cases hr
      rfl
    by_cases c1 : k = 4
    · rw [if_neg c0, if_pos c1] at hr
      cases hr
      rfl
    by_cases c2 : k = 3
    · rw [if_neg c0, if_neg c1, if_pos c2] at hr
      cases hr
      rfl
    rw [if_neg c0, if_neg c1, if_neg c2] at hr
    cases hr)) (fun S1 ⟨q, f1, f2⟩ => ⟨q, hc _ _ _ f1 (fun g hg h9 => by unfold ciX at h9; omega) pc, hr _ _ _ f2 (pf_rf (by decide)) pr⟩)
theorem s3_product (hc : keepP ciX Pc) (hr : keepP rfX Pr) : stpX Pc Pr lst_product := by
  intro S x1 x2 x3 x4 x5 h pc pr
  have hs : Te (lsV S.1 (fun K => ce_X11_product S.1 K 0 x1 x2 S.2.1) (fun k z => if k = 1 then some (1, z) else if k = 2 then some (2, z) else if k = 4 then some (3, z) else if k = 3 then some (4, z) else none) (fun K => qe_X13_product K x1 x2 S.2.2)) (fun S1 => REL2 S1 ∧ dPhi S.1 ≤ dPhi S1.1) := s2_product S x1 x2 x3 x4 x5 h
  exact w_monoE (lsV_fo hs (fun K => ff_X11_product) (fun K => ff_X13_product) (fun k z r hr => by
    have hr : (if k = 1 then some (1, z) else if k = 2 then some (2, z) else if k = 4 then some (3, z) else if k = 3 then some (4, z) else none) = some r := hr
    by_cases c0 : k = 1
    · rw [if_pos c0] at hr
      cases hr
      rfl
    by_cases c1 : k = 2
    · rw [if_neg c0, if_pos c1] at hr
      cases hr
      rfl
    by_cases c2 : k = 4
    · rw [if_neg c0, if_neg c1, if_pos c2] at hr
      cases hr
      rfl
    by_cases c3 : k = 3
    · rw [if_neg c0, if_neg c1, if_neg c2, if_pos c3] at hr
      cases hr
      rfl
    rw [if_neg c0, if_neg c1, if_neg c2, if_neg c3] at hr
    cases hr)) (fun S1 ⟨q, f1, f2⟩ => ⟨q, hc _ _ _ f1 (fun g hg h9 => by unfold ciX at h9; omega) pc, hr _ _ _ f2 (pf_rf (by decide)) pr⟩)
theorem s3_inverse (hc : keepP ciX Pc) (hr : keepP rfX Pr) : stpX Pc Pr lst_inverse := by
  intro S x1 x2 x3 x4 x5 h pc pr
  have hs : Te (lsV S.1 (fun K => ce_X11_inverse S.1 K 0 x1 S.2.1) (fun k z => if k = 1 then some (1, z) else if k = 3 then some (2, z) else none) (fun K => qe_X13_inverse K x1 S.2.2)) (fun S1 => REL2 S1 ∧ dPhi S.1 ≤ dPhi S1.1) := s2_inverse S x1 x2 x3 x4 x5 h
  exact w_monoE (lsV_fo hs (fun K => ff_X11_inverse) (fun K => ff_X13_inverse) (fun k z r hr => by
    have hr : (if k = 1 then some (1, z) else if k = 3 then some (2, z) else none) = some r := hr
    by_cases c0 : k = 1
    · rw [if_pos c0] at hr
      cases hr
      rfl
    by_cases c1 : k = 3
    · rw [if_neg c0, if_pos c1] at hr
      cases hr
      rfl
    rw [if_neg c0, if_neg c1] at hr
    cases hr)) (fun S1 ⟨q, f1, f2⟩ => ⟨q, hc _ _ _ f1 (fun g hg h9 => by unfold ciX at h9; omega) pc, hr _ _ _ f2 (pf_rf (by decide)) pr⟩)
theorem s3_way (hc : keepP ciX Pc) (hr : keepP rfX Pr) : stpX Pc Pr lst_way := by
  intro S x1 x2 x3 x4 x5 h pc pr
  have hs : Te (lsV S.1 (fun K => ce_X11_way S.1 K 0 x1 x2 S.2.1) (fun k z => if k = 1 then some (1, z) else if k = 4 then some (2, z) else none) (fun K => qe_X13_way K x1 x2 S.2.2)) (fun S1 => REL2 S1 ∧ dPhi S.1 ≤ dPhi S1.1) := s2_way S x1 x2 x3 x4 x5 h
  exact w_monoE (lsV_fo hs (fun K => ff_X11_way) (fun K => ff_X13_way) (fun k z r hr => by
    have hr : (if k = 1 then some (1, z) else if k = 4 then some (2, z) else none) = some r := hr
    by_cases c0 : k = 1
    · rw [if_pos c0] at hr
      cases hr
      rfl
    by_cases c1 : k = 4
    · rw [if_neg c0, if_pos c1] at hr
      cases hr
      rfl
    rw [if_neg c0, if_neg c1] at hr
    cases hr)) (fun S1 ⟨q, f1, f2⟩ => ⟨q, hc _ _ _ f1 (fun g hg h9 => by unfold ciX at h9; omega) pc, hr _ _ _ f2 (pf_rf (by decide)) pr⟩)
theorem s3_summands (hc : keepP ciX Pc) (hr : keepP rfX Pr) : stpX Pc Pr lst_summands := by
  intro S x1 x2 x3 x4 x5 h pc pr
  have hs : Te (lsV S.1 (fun K => ce_X11_summands S.1 K 0 x1 S.2.1) (fun k z => if k = 1 then some (1, z) else none) (fun K => qe_X13_summands K x1 S.2.2)) (fun S1 => REL2 S1 ∧ dPhi S.1 ≤ dPhi S1.1) := s2_summands S x1 x2 x3 x4 x5 h
  exact w_monoE (lsV_fo hs (fun K => ff_X11_summands) (fun K => ff_X13_summands) (fun k z r hr => by
    have hr : (if k = 1 then some (1, z) else none) = some r := hr
    by_cases c0 : k = 1
    · rw [if_pos c0] at hr
      cases hr
      rfl
    rw [if_neg c0] at hr
    cases hr)) (fun S1 ⟨q, f1, f2⟩ => ⟨q, hc _ _ _ f1 (fun g hg h9 => by unfold ciX at h9; omega) pc, hr _ _ _ f2 (pf_rf (by decide)) pr⟩)
theorem s3_alike (hc : keepP ciX Pc) (hr : keepP rfX Pr) : stpX Pc Pr lst_alike := by
  intro S x1 x2 x3 x4 x5 h pc pr
  exact w_monoE (lsB_fo (fc := (fun K => ce_X11_alike S.1 K 0 x1 x2 S.2.1)) (fm := (fun K => qe_X13_alike K x1 x2 S.2.2)) (s2_alike S x1 x2 x3 x4 x5 h) (fun K => ff_X11_alike) (fun K => ff_X13_alike)) (fun S1 ⟨q, f1, f2⟩ => ⟨q, hc _ _ _ f1 (fun g hg => hg.elim) pc, hr _ _ _ f2 (pf_rf (by decide)) pr⟩)
theorem s3_drop (hc : keepP ciX Pc) (hr : keepP rfX Pr) : stpX Pc Pr lst_drop := by
  intro S x1 x2 x3 x4 x5 h pc pr
  exact w_monoE (lsB_fo (fc := (fun K => ce_X11_drop S.1 K 0 x1 S.2.1)) (fm := (fun K => qe_X13_drop K x1 S.2.2)) (s2_drop S x1 x2 x3 x4 x5 h) (fun K => ff_X11_drop) (fun K => ff_X13_drop)) (fun S1 ⟨q, f1, f2⟩ => ⟨q, hc _ _ _ f1 (fun g hg h9 => by unfold ciX at h9; omega) pc, hr _ _ _ f2 (pf_rf (by decide)) pr⟩)
theorem s3_dropBraid (hc : keepP ciX Pc) (hr : keepP rfX Pr) : stpX Pc Pr lst_dropBraid := by
  intro S x1 x2 x3 x4 x5 h pc pr
  exact w_monoE (lsB_fo (fc := (fun K => ce_X11_dropBraid S.1 K 0 x1 S.2.1)) (fm := (fun K => qe_X13_dropBraid K x1 S.2.2)) (s2_dropBraid S x1 x2 x3 x4 x5 h) (fun K => ff_X11_dropBraid) (fun K => ff_X13_dropBraid)) (fun S1 ⟨q, f1, f2⟩ => ⟨q, hc _ _ _ f1 (fun g hg h9 => by unfold ciX at h9; omega) pc, hr _ _ _ f2 (pf_rf (by decide)) pr⟩)
theorem s3_end (hc : keepP ciX Pc) (hr : keepP rfX Pr) : stpX Pc Pr lst_end := by
  intro S x1 x2 x3 x4 x5 h pc pr
  obtain ⟨S1, ⟨b, hb⟩, hQ⟩ := s2_end S x1 x2 x3 x4 x5 h
  refine ⟨S1, ⟨b, hb⟩, hQ, ?_⟩
  have e1 : (cs1 (le_L_end S.1 b 0 x1 S.2.1) fun v2 zc1 => cs0 (qe_X13_end b x1 S.2.2) fun zm3 => cs1 (qe_X13_thrown b zm3) fun v5 zm4 => (if v5 = v2 then some (S.1, zc1, zm4) else none)) = some S1 := hb b (Nat.le_refl _)
  cases q2 : ce_X11_end S.1 b 0 x1 S.2.1 with
  | none =>
    have hl : le_L_end S.1 b 0 x1 S.2.1 = none := by
      unfold le_L_end
      rw [q2]
      rfl
    rw [hl] at e1
    cases e1
  | some q =>
    obtain ⟨k, zc⟩ := q
    have f1 : fr (fun g => g = 0 + 11001) S.2.1 zc := ff_X11_end _ q2
    have hl : le_L_end S.1 b 0 x1 S.2.1 = if k = 0 then some (0, zc) else if k = 2 then some (1, zc) else none := by
      unfold le_L_end
      rw [q2]
      rfl
    rw [hl] at e1
    have main : ∀ a : Int32, (cs0 (qe_X13_end b x1 S.2.2) fun zm3 => cs1 (qe_X13_thrown b zm3) fun v5 zm4 => (if v5 = a then some (S.1, zc, zm4) else none)) = some S1 → Pc S1.2.1 ∧ Pr S1.2.2 := by
      intro a h9
      cases q3 : qe_X13_end b x1 S.2.2 with
      | none =>
        rw [q3] at h9
        cases h9
      | some zm =>
        rw [q3] at h9
        have f2 : fr (pf [1, 11] []) S.2.2 zm := ff_X13_end _ q3
        have h9 : (if zm.1 1 = a then some (S.1, zc, zm) else none) = some S1 := h9
        by_cases c1 : zm.1 1 = a
        · rw [if_pos c1] at h9
          cases h9
          exact ⟨hc _ _ _ f1 (fun g hg h9 => by unfold ciX at h9; omega) pc, hr _ _ _ f2 (pf_rf (by decide)) pr⟩
        · rw [if_neg c1] at h9
          cases h9
    by_cases k0 : k = 0
    · rw [if_pos k0] at e1
      exact main 0 e1
    · rw [if_neg k0] at e1
      by_cases k2 : k = 2
      · rw [if_pos k2] at e1
        exact main 1 e1
      · rw [if_neg k2] at e1
        cases e1
theorem s3_jones (hc : keepP ciX Pc) (hr : keepP rfX Pr) (hj : ∀ y y1, fr jnP y y1 → (∀ D, cOK D → slC y 25000 0 D → slC y1 25000 0 D) → Pc y → Pc y1) : stpX Pc Pr lst_jones := by
  intro S x1 x2 x3 x4 x5 h pc pr
  have hs : Te (lsV S.1 (fun K => ce_X11_jones S.1 K 0 x1 x2 S.2.1) (fun k z => if k = 1 then some (1, z) else none) (fun K => qe_X13_jones K x1 x2 S.2.2)) (fun S1 => REL2 S1 ∧ dPhi S.1 ≤ dPhi S1.1) := s2_jones S x1 x2 x3 x4 x5 h
  have hn : Te (fun K => ce_X11_jones S.1 K 0 x1 x2 S.2.1) (fun rc => Pc rc.2.2) := w_monoE (tc_jones h.1.1.2.1 h.1.2.1.2.1) (fun rc ⟨_, _, hD, _, f, _⟩ => hj _ _ f hD pc)
  obtain ⟨⟨St, k⟩, -⟩ := id h.1.1
  have hm : Te (fun K => qe_X13_jones K x1 x2 S.2.2) (fun rr => Pr rr.2) := w_monoE (te_fo (tp_jones (d := x1) (k := x2) k.1) (fun K => ff_X13_jones)) (fun rr ⟨_, f⟩ => hr _ _ _ f (pf_rf (by decide)) pr)
  exact lsV_pp hs hn hm (fun y v hy => hc (fun g => g = 52001) y _ (fr_J rfl) (fun g hg h9 => by unfold ciX at h9; omega) hy) (fun k z r hr => by
    have hr : (if k = 1 then some (1, z) else none) = some r := hr
    by_cases c0 : k = 1
    · rw [if_pos c0] at hr
      cases hr
      rfl
    rw [if_neg c0] at hr
    cases hr)
end XS7
section XS8
variable {Pc Pr : ow_MS → Prop}
def rel9 (Pc Pr : ow_MS → Prop) (S : ow_LwS) : Prop := REL2 S ∧ Pc S.2.1 ∧ Pr S.2.2
theorem st9 {f : (Nat → Nat) → Nat → Int32 → Int32 → Int32 → Int32 → Int32 → ow_MS → ow_MS → Option ow_LwS} (h : stpX Pc Pr f) (S : ow_LwS) (x1 x2 x3 x4 x5 : Int32) (hS : rel9 Pc Pr S) : Te (fun K => f S.1 K x1 x2 x3 x4 x5 S.2.1 S.2.2) (fun S1 => rel9 Pc Pr S1 ∧ dPhi S.1 ≤ dPhi S1.1) := w_monoE (h S x1 x2 x3 x4 x5 hS.1 hS.2.1 hS.2.2) (fun S1 ⟨⟨q1, q2⟩, q3⟩ => ⟨⟨q1, q3⟩, q2⟩)
end XS8
section XS9
variable {Pc Pr : ow_MS → Prop}
theorem both_init1 : ∃ z8 z0 zA z1 m1 m2 b, (∀ K, b ≤ K → ce_X8i_b8 K 24000 zeroS = some z8 ∧ ce_X0i_b0 K 41000 53001 zeroS = some z0 ∧ ce_X1i_b1 K 43000 zeroS = some zA ∧ ce_X1j_b1b K 43000 53001 (usZ zA [53]) = some z1 ∧ qe_X13_makeSimples_a K Z13 = some m1 ∧ qe_X13_makePermutations_a K m1 = some m2) ∧ REL (vl0, Zc z8 z0 z1, usZ m2 blM) ∧ (∀ g, ¬ spc g → (Zc z8 z0 z1).1 g = 0 ∧ ∀ i, (Zc z8 z0 z1).2.1 g i = 0) ∧ (∀ g, g < 73 → (usZ m2 blM).1 g = 0) ∧ ∀ g i, ¬ (73 ≤ g ∧ g ≤ 76 ∨ 97 ≤ g ∧ g ≤ 107) → (usZ m2 blM).2.1 g i = 0 := by
  obtain ⟨z8, ⟨b8, hb8⟩, k8, f8⟩ := ti_b8 (z := zeroS) (fun m i _ => rfl)
  obtain ⟨z0, ⟨b0, hb0⟩, k0, f0⟩ := ti_b0 (z := zeroS)
  obtain ⟨zA, ⟨bA, hbA⟩, kA, fA⟩ := ti_b1 (z := zeroS) (fun m i _ => rfl)
  have u53 : ∀ r, (usZ zA [53]).2.1 53001 r = 0 := fun r => by
    show (if ([53] : List Nat).contains (53001 / 1000) = true then (fun _ => 0) else zA.2.1 53001) r = 0
    rw [if_pos (by decide)]
  obtain ⟨z1, ⟨b1, hb1⟩, k1, f1⟩ := ti_b1b (z := usZ zA [53]) u53
  obtain ⟨m1, m2, ⟨c1, hc1⟩, ⟨c2, hc2⟩, hgI, hz1, hz2⟩ := ref_init2
  have uA : ∀ g, g / 1000 ≠ 53 → (usZ zA [53]).1 g = zA.1 g ∧ (usZ zA [53]).2.1 g = zA.2.1 g ∧ (usZ zA [53]).2.2 g = zA.2.2 g := fun g hg => by
    have e : ¬ ([53] : List Nat).contains (g / 1000) = true := by
      simp only [List.contains_cons, List.contains_nil, Bool.or_false, beq_iff_eq]
      exact hg
    exact ⟨if_neg e, if_neg e, if_neg e⟩
  have f1' : ∀ g, g / 1000 ≠ 53 → ¬ (45001 ≤ g ∧ g < 45012 ∨ g = 43005) → z1.1 g = 0 ∧ ∀ i, z1.2.1 g i = 0 := fun g h9 hg => by
    obtain ⟨a1, a2, -⟩ := f1 g (by omega)
    obtain ⟨a3, a4, -⟩ := uA g h9
    obtain ⟨a5, a6, -⟩ := fA g (by omega)
    rw [a1, a2, a3, a4, a5, a6]
    exact ⟨rfl, fun _ => rfl⟩
  have hY : ∀ g, ¬ spc g → (Zc z8 z0 z1).1 g = 0 ∧ ∀ i, (Zc z8 z0 z1).2.1 g i = 0 := by
    intro g hg
    unfold spc at hg
    by_cases c8 : 24 ≤ g / 1000 ∧ g / 1000 ≤ 40
    · obtain ⟨e1, e2⟩ := Zj_8 (z8 := z8) (z0 := z0) (z1 := z1) c8.1 c8.2
      rw [e1, e2, (f8 g (by omega)).1, (f8 g (by omega)).2.1]
      exact ⟨rfl, fun _ => rfl⟩
    · by_cases c0 : 41 ≤ g / 1000 ∧ g / 1000 ≤ 42
      · obtain ⟨e1, e2⟩ := Zc_z (z8 := z8) (z0 := z0) (z1 := z1) c0.1 c0.2
        rw [e1, e2, (f0 g (by omega)).1, (f0 g (by omega)).2.1]
        exact ⟨rfl, fun _ => rfl⟩
      · by_cases c1 : 43 ≤ g / 1000 ∧ g / 1000 ≤ 45
        · obtain ⟨e1, e2⟩ := Zj_1 (z8 := z8) (z0 := z0) (z1 := z1) c1.1 c1.2
          rw [e1, e2]
          exact f1' g (by omega) (by omega)
        · obtain ⟨e1, e2⟩ := Zc_n (z8 := z8) (z0 := z0) (z1 := z1) (g := g) (by omega)
          rw [e1, e2]
          exact ⟨rfl, fun _ => rfl⟩
  have n : ∀ g, g < 39001 ∨ 39025 ≤ g ∧ g < 41006 ∨ 41007 < g ∧ g < 43005 → ¬ spc g := fun g hg h9 => by unfold spc at h9; omega
  have hM := gM_0 hY
  obtain ⟨y, hy⟩ : ∃ y, y = Zc z8 z0 z1 := ⟨_, rfl⟩
  obtain ⟨w, hw⟩ : ∃ w, w = usZ m2 blM := ⟨_, rfl⟩
  have e39 : ∀ m, m < 24 → y.2.1 (39001 + m) = z8.2.1 (39001 + m) := fun m hm => by rw [hy]; exact (Zj_8 (by omega) (by omega)).2
  have e41 : ∀ g, 41000 ≤ g → g < 42000 → y.2.1 g = z0.2.1 g := fun g g1 g2 => by rw [hy]; exact (Zc_z (by omega) (by omega)).2
  have e43 : ∀ g, 43000 ≤ g → g < 46000 → y.2.1 g = z1.2.1 g := fun g g1 g2 => by rw [hy]; exact (Zj_1 (by omega) (by omega)).2
  rw [← hy] at hY hM
  rw [← hw] at hgI hz1 hz2
  have sl0 : ∀ (g s : Nat), g + 3 < 39001 → slC y g s (0, []) := fun g s hg => ⟨(hY _ (n _ (by omega))).2 s, (hY _ (n _ (by omega))).2 s, fun i a hi => (by rw [List.getElem?_nil] at hi; cases hi)⟩
  have by0 : ∀ g, g < 39001 → byR y g := fun g hg => by_0 (hY g (n g (by omega))).2
  have hrel : rel3 XR w y := by
    refine ⟨⟨fun _ => none, hgI, hM.1, fun d hd => ⟨fun _ => hz2 12 _ (by omega), fun A sg h9 => by cases h9⟩, fun d hd => ⟨fun _ => (hY 1002 (n _ (by omega))).2 d, fun A sg h9 => by cases h9⟩, fun d A sg hd h9 => by cases h9⟩, hM, ⟨0, by omega, hz1 11 (by omega), (hY 11001 (n _ (by omega))).1, fun k hk => absurd hk (Nat.not_lt_zero _)⟩, fun b hb => ⟨?_, fun h9 => absurd (hz2 96 b (by omega)) h9⟩, fun b hb => ⟨0, 0, by omega, by omega, (hY 15 (n _ (by omega))).2 b, fun h9 => absurd h9 (Nat.lt_irrefl _)⟩, ⟨[], ⟨by decide, hz1 22 (by omega), fun k A sg h9 => (by rw [List.getElem?_nil] at h9; cases h9)⟩, ⟨[], [], tbO_nil (hY 2005 (n _ (by omega))).1 (by0 2001 (by omega)), rfl, fun k A sg h9 => (by rw [List.getElem?_nil] at h9; cases h9)⟩, fun k A sg h9 => (by rw [List.getElem?_nil] at h9; cases h9)⟩, [], ⟨by decide, hz1 36 (by omega), fun k A sg h9 => (by rw [List.getElem?_nil] at h9; cases h9)⟩, ⟨[], [], tbO_nil (hY 3005 (n _ (by omega))).1 (by0 3001 (by omega)), rfl, fun k A sg h9 => (by rw [List.getElem?_nil] at h9; cases h9)⟩, fun k A sg h9 => (by rw [List.getElem?_nil] at h9; cases h9)⟩
    rw [hz2 96 b (by omega), (hY 15 (n _ (by omega))).2 b]
  have hci : CI vl0 y := by
    refine ⟨⟨by0 25001 (by omega), fun s _ => ⟨(0, []), sl0 25000 s (by omega), cOK_0⟩, 0, by omega, (hY 40008 (n _ (by omega))).1⟩, ⟨(0, []), sl0 25000 1 (by omega), cOK_0, Or.inl rfl⟩, fun m i hm hi => ?_, ⟨fun i hi => ?_, fun i hi => ?_, fun i hi => ⟨0, by omega, (hY 41009 (n _ (by omega))).2 i⟩⟩, ⟨0, by omega, (hY 41010 (n _ (by omega))).1, fun s hs => absurd hs (Nat.not_lt_zero _)⟩, fun m hm => ?_, fun i k hi hk => ?_, 640, 20000, rfl, rfl, rfl, rfl, rfl, rfl, by decide, by decide, by decide, by decide⟩
    · rw [e39 m (by omega)]
      exact k8 m i (by omega) hi
    · rw [e41 41006 (by omega) (by omega)]
      exact k0.1 i hi
    · rw [e41 41007 (by omega) (by omega)]
      exact k0.2 i hi
    · rw [e43 43005 (by omega) (by omega)]
      exact k1 m hm
    · rw [e43 (45001 + i) (by omega) (by omega), (f1 (45001 + i) (by omega)).2.1, (uA (45001 + i) (by omega)).2.1, biN_n]
      exact kA i k (by omega) hk
  have hj : jnR w := fun T1 hT => Or.inl (List.eq_nil_of_length_eq_zero (by
    have h9 := hT.2.2.1
    rw [hz2 50 0 (by omega)] at h9
    have hl := hT.1
    have := nI_inj9 (a := 0) (b := T1.length) (by omega) (by omega) h9
    omega))
  exact ⟨z8, z0, zA, z1, m1, m2, b8 + b0 + bA + b1 + c1 + c2, fun K hK => ⟨hb8 K (by omega), hb0 K (by omega), hbA K (by omega), hb1 K (by omega), hc1 K (by omega), hc2 K (by omega)⟩, by rw [← hy, ← hw]; exact ⟨⟨hrel, hci, hj⟩, hY, hz1, hz2⟩⟩
end XS9
end
