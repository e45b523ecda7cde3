/-! two: the class's unfold, exactly -/
def ufT (n : Nat) (Wd : wd9) (L c : Nat) (f : Nat → Nat) (φ : Int) (G : pz9) (n1 : Nat) (z : ow_MS) (R : ow_NT) (B : rn_L) (sb ov : Nat → Bool) (pw : Int) : Prop := lvS z ∧ bnC z ∧ cAt z (lv L) R ∧ nvL L R ∧ R.1 = c ∧ isoV B sb f R ∧ pm1 R ∧ B.length = n1 ∧ bdz n Wd ov B sb ∧ ∃ m, twC z m ∧ ∀ p q : Int, m p q + φ * Fz n Wd ov (p - pw) (q - (L : Int)) = G p q
/-- the same, where the crossing x is still to be changed -/
def ufU (n : Nat) (Wd : wd9) (L c : Nat) (f : Nat → Nat) (φ : Int) (G : pz9) (n1 x : Nat) (z : ow_MS) (R : ow_NT) (B : rn_L) (sb ov : Nat → Bool) (pw : Int) : Prop := lvS z ∧ bnC z ∧ cAt z (lv L) R ∧ nvL L R ∧ R.1 = c ∧ isoV B sb f R ∧ pm1 R ∧ B.length = n1 ∧ bdz n Wd ov B sb ∧ ∃ m, twC z m ∧ ∀ p q : Int, m p q + φ * Fz n Wd (flz ov x) (p - (pw + 2 * sgz (ov x))) (q - (L : Int)) = G p q
def ufS2 (vl : Nat → Nat) (n L dd : Nat) : Prop := ∀ (R : ow_NT) (B : rn_L) (sb ov : Nat → Bool) (Wd : wd9) (g : Nat → Nat) (ψ : Int) (m : pz9) (xp : Int) (z : ow_MS), lvS z → bnC z → cAt z (lv (L + 1)) R → nvL (L + 1) R → R.1 + (L + 1) ≤ 12 → isoV B sb g R → pm1 R → B.length ≤ 6 + (L + 1) → bdz n Wd ov B sb → twC z m → -(100 * ((L : Int) + 1)) ≤ xp → xp ≤ 100 * ((L : Int) + 1) → Te (fun K => cd0_X8_unfold vl K dd 24000 (nI (L + 1)) (iI ψ) (iI xp) (nI (L + 1)) z) (fun z1 => (lvS z1 ∧ fr (unP (L + 1)) z z1) ∧ twC z1 (fun p q => m p q + ψ * Fz n Wd ov (p - xp) (q - ((L : Int) + 1))))
/-- what is met and gone -/
def ufB (f : Nat → Nat) (k Mm Gm : Nat) (B : rn_L) : Prop := Mm < 2 ^ 24 ∧ Gm < 2 ^ 24 ∧ gPre B k ∧ (∀ x, x < 12 → (o_gn Mm x ↔ ∃ u, u < k ∧ f (crs B u) = x)) ∧ ∀ t, t < 24 → (o_gn Gm t ↔ ∃ u, u < k ∧ lbv B f u = t)
theorem fs_b (φ : Int) (b : Bool) : φ * sgz b = if b then φ else 0 - φ := by
  cases b
  · rw [if_neg (by decide), sgz_f, Int.mul_neg, Int.mul_one, Int.zero_sub]
  · rw [if_pos rfl, sgz_t, Int.mul_one]
theorem sg_sb {b s : Bool} (h : s = !b) : (if s then -1 else 1 : Int) = sgz b := by
  rw [h]
  cases b <;> rfl
section XTWN
variable {vl : Nat → Nat} {y : ow_MS}
/-- a bad visit: the crossing smoothed a level below -/
theorem uf_bad2 {O : Type} {Qo : O → Prop} {n L dd c v x a b n1 : Nat} {Wd : wd9} {f : Nat → Nat} {φ pw : Int} {G : pz9} {z : ow_MS} {R : ow_NT} {B : rn_L} {sb ov : Nat → Bool} {E : ow_MS → Nat → Nat → Option O} (hL : L < 12) (hself : ufS2 vl n L dd) (hJ : ufT n Wd L c f φ G n1 z R B sb ov pw) (hn1 : n1 ≤ 6 + L) (hc : c + L ≤ 12) (hv : v < B.flatten.length) (ex : crs B v = x) (hs : sm2 B x a b) (hp1 : -(100 * (L : Int)) - 90 ≤ pw) (hp2 : pw ≤ 100 * (L : Int) + 90) (H : ∀ z3, ufU n Wd L c f φ G n1 x z3 R B sb ov pw → Tt (E z3) Qo) : Tt (fun K k => crX 13 (nI (L + 1)) fun j6 => cs0 (ce_X7_copy vl K (24000 + 2000 + 1000 * j6) (lv L) z) fun z7 => crX 13 (nI (L + 1)) fun j8 => cs0 (ce_X7_smoothCrossing vl K (24000 + 2000 + 1000 * j8) (nI (f x)) z7) fun z9 => cs0 (cd0_X8_unfold vl K dd 24000 (nI (L + 1)) (iI φ * iI (if sb x then -1 else 1)) (iI pw + iI (if sb x then -1 else 1)) (nI (L + 1)) z9) fun z10 => E z10 K k) Qo := by
  obtain ⟨j1, jb, j2, j3, j4, j5, jp, j6, jz, m, j8, j9⟩ := hJ
  have hN := isoS_iff.mp j5.1
  have hx : f x < R.1 := by
    rw [← ex]
    exact hN.2.2.2.1 v hv
  have hxm : x ∈ nmz Wd := by
    rw [← ex]
    exact bd_nm jz (vAt_mem hv)
  have hsx := sg_sb (jz.2.2 x hxm)
  have hh := lv_nH (show L ≤ 12 by omega)
  have hh1 := lv_nH (show L + 1 ≤ 12 by omega)
  obtain ⟨T', t1, t2⟩ := j1 (L + 1) (by omega)
  refine w_crX rfl (show L + 1 < 13 by omega) (w_cs0 (tc_copy hh1 hh (by unfold nDj lv; omega) t1 j2 j3.2.1) ?_)
  rintro z1 ⟨g1, g2⟩
  refine w_crX rfl (show L + 1 < 13 by omega) (w_cs0 (tc_smoothCrossing hh1 g1 (nt_copy_b24 t2 j3.2.2.1) (show f x < R.1 by omega) j3.2.1) ?_)
  rintro z2 ⟨g3, g4⟩
  have n2 := nvL_sm (Q := T') (x := f x) j3 t2 hx
  have f2 : fr (cP (lv (L + 1))) z z2 := fr_tr g2 g4
  have l2 : lvS z2 := lvS_fr (L := L + 1) f2 (fun g hg => Or.inl (cP_in hg)) ⟨_, g3, n2.2.2.1⟩ j1
  obtain ⟨f', hu', hp'⟩ := iS_sm (Q := T') j5 jp hs
  have c2 : twC z2 m := twC_fr f2 (fun h9 => by unfold cP lv at h9; omega) j8
  have b2 : bnC z2 := bnC_fr f2 (fun m hm h9 => by unfold cP lv at h9; omega) jb
  rw [hsx, iI_mul, iI_add]
  have sb1 : sgz (ov x) ≤ 1 ∧ -1 ≤ sgz (ov x) := by
    cases ov x
    · exact ⟨by decide, by decide⟩
    · exact ⟨by decide, by decide⟩
  have hlen := smV_n hs.1 hs.2.1
  refine w_cs0 (hself _ (smV B a b) sb ov (dlz x Wd) f' (φ * sgz (ov x)) m (pw + sgz (ov x)) z2 l2 b2 g3 n2 (show R.1 - 1 + (L + 1) ≤ 12 by omega) hu' hp' (by omega) (bd_sm jz hs.1 hs.2.1 hs.2.2.2) c2 (by omega) (by omega)) ?_
  rintro z3 ⟨⟨l3, f3⟩, c3⟩
  have f23 : fr (unP (L + 1)) z z3 := fr_tr (fr_mono (fun g hg => by unfold cP lv at hg; unfold unP; omega) f2) f3
  have hR3 : cAt z3 (lv L) R := cAt_fr f23 (fun g hg h9 => by unfold cP lv at hg; unfold unP at h9; omega) j2
  have b3 : bnC z3 := bnC_fr f23 (fun m hm h9 => by unfold unP at h9; omega) jb
  refine H z3 ⟨l3, b3, hR3, j3, j4, j5, jp, j6, jz, _, c3, fun p q => ?_⟩
  rw [← j9 p q, fs_b]
  exact tw_st (bd_sk jz hxm) p q pw (L : Int) (m p q)
theorem uf_flip2 {O : Type} {Qo : O → Prop} {n L c v x n1 : Nat} {Wd : wd9} {f : Nat → Nat} {φ pw : Int} {G : pz9} {z : ow_MS} {R : ow_NT} {B : rn_L} {sb ov : Nat → Bool} {E : ow_MS → Nat → Nat → Option O} (hL : L ≤ 12) (hJ : ufU n Wd L c f φ G n1 x z R B sb ov pw) (hv : v < B.flatten.length) (ex : crs B v = x) (H : ∀ z3, ufT n Wd L c f φ G n1 z3 (ntF R (f x)) (chA B x) (chS sb x) (flz ov x) (pw + 2 * sgz (ov x)) → Tt (E z3) Qo) : Tt (fun K k => cs0 (ce_X7_flipCrossing vl K (lv L) (nI (f x)) z) fun z11 => E z11 K k) Qo := by
  obtain ⟨j1, jb, j2, j3, j4, j5, jp, j6, jz, m, j8, j9⟩ := hJ
  have hx : f x < R.1 := by
    rw [← ex]
    exact (isoS_iff.mp j5.1).2.2.2.1 v hv
  refine w_cs0 (tc_flipCrossing (lv_nH hL) j2 j3.2.2.1 (show f x < 12 by have := j3.2.1; omega)) ?_
  rintro z4 ⟨g5, g6⟩
  have n4 := nvL_flip (x := f x) (G := su R.2.2.2 (f x) (- R.2.2.2 (f x))) j3 hx
  obtain ⟨i1, i2⟩ := iS_ch j5 jp hv ex
  exact H z4 ⟨lvS_fr (L := L) g6 (fun g hg => Or.inl (cP_in hg)) ⟨_, g5, n4.2.2.1⟩ j1, bnC_fr g6 (fun m hm h9 => by unfold cP lv at h9; omega) jb, g5, n4, j4, i1, i2, by unfold chA; rw [List.length_map]; exact j6, bd_ch x jz, m, twC_fr g6 (fun h9 => by unfold cP lv at h9; omega) j8, j9⟩
theorem uf_w2 {n L dd c n1 : Nat} {Wd : wd9} {f : Nat → Nat} {φ xp : Int} {G : pz9} (hn : 1 ≤ n) (hL : L ≤ 12) (hself : L < 12 → ufS2 vl n L dd) (hc : c + L ≤ 12) (hn1 : n1 ≤ 6 + L) (hx1 : -(100 * (L : Int)) ≤ xp) (hx2 : xp ≤ 100 * (L : Int)) : ∀ (d s r : Nat) (pw : Int) (Mm Gm : Nat) (z : ow_MS) (R : ow_NT) (B : rn_L) (sb ov : Nat → Bool), s + d = 2 * c → ufT n Wd L c f φ G n1 z R B sb ov pw → ufB f (rn_b B r) Mm Gm B → ufG9 r B → (∀ v, v < s → o_gn Gm v) → xp - 2 * (rn_b B r : Int) ≤ pw → pw ≤ xp + 2 * (rn_b B r : Int) → Tt (fun K t => c_X8_unfold vl K (cd0_X8_unfold vl K dd) t 1 (nI L) (iI φ) (iI xp) (nI L) (nI (2 * c)) (iI pw) (nI Mm) (nI Gm) (nI r) (nI s) 0 0 0 0 24000 (lv L) z) (fun z1 => twC z1 G) := by
  have hh := lv_nH hL
  let Q : ow_MS → Prop := fun z1 => twC z1 G
  intro d
  induction d with
  | zero =>
    intro s r pw Mm Gm z R B sb ov hs hJ hB hR hgs hp1 hp2
    obtain ⟨j1, jb, j2, j3, j4, j5, jp, j6, jz, m, j8, j9⟩ := hJ
    obtain ⟨p1, p2, p3, p4, p5⟩ := hB
    have hN := isoS_iff.mp j5.1
    have hci : cirs B = R.2.1 := hN.2.2.2.2.2.2.2
    have hlen := hN.2.1
    have hle := rn_b_le B r
    have hall : rn_b B r = B.flatten.length := by
      rcases Nat.lt_or_ge (rn_b B r) B.flatten.length with h9 | h9
      · exfalso
        have hlt : lbv B f (rn_b B r) < 2 * c := by rw [← j4]; exact lbv_lt hN h9
        obtain ⟨u, u1, u2⟩ := (p5 (lbv B f (rn_b B r)) (by omega)).mp (hgs _ (by omega))
        have := lbv_inj hN (v := u) (w := rn_b B r) (by omega) h9 u2
        omega
      · omega
    have hend := ufG9_e hR hall
    have hl1 := bd_len hn jz
    refine u_X8_unfold_1 ?_; unfold cm_X8_unfold_1
    refine w_leT (by omega) (by omega) (w_rdF j2.2.1 ?_)
    rw [nI_add, show r + R.2.1 = n1 by omega]
    refine w_cs0 (xc_addT (q := n1) (by omega) (by omega) hL (by omega) (by omega) jb j8) ?_
    rintro z1 h1
    refine w_some (twC_cg h1 (fun p q => ?_))
    rw [← j9 p q, bd_lf jz (by rw [← hall]; exact p3), j6]
  | succ d ih =>
    intro s r pw Mm Gm z R B sb ov hs hJ hB hR hgs hp1 hp2
    have c5 : ∀ (r' : Nat) (pw : Int) (Mm Gm : Nat) (z : ow_MS) (R : ow_NT) (B : rn_L) (sb ov : Nat → Bool), ufT n Wd L c f φ G n1 z R B sb ov pw → ufB f (rn_b B r') Mm Gm B → ufG9 r' B → (∀ v, v < s + 1 → o_gn Gm v) → xp - 2 * (rn_b B r' : Int) ≤ pw → pw ≤ xp + 2 * (rn_b B r' : Int) → Tt (fun K t => c_X8_unfold vl K (cd0_X8_unfold vl K dd) t 5 (nI L) (iI φ) (iI xp) (nI L) (nI (2 * c)) (iI pw) (nI Mm) (nI Gm) (nI r') (nI s) 0 0 0 0 24000 (lv L) z) Q := by
      intro r' pw Mm Gm z R B sb ov h3 h4 h5 h6 h7 h8
      refine u_X8_unfold_5 ?_; unfold cm_X8_unfold_5
      rw [nI_1]
      exact ih (s + 1) r' pw Mm Gm z R B sb ov (by omega) h3 h4 h5 h6 h7 h8
    have c2 : ∀ (e i v : Nat) (pw : Int) (Mm Gm : Nat) (z : ow_MS) (R : ow_NT) (B : rn_L) (sb ov : Nat → Bool), rn_b B r + i + e = rn_b B (r + 1) → (rn_b B r + i < rn_b B (r + 1) → v = lbv B f (rn_b B r + i)) → (rn_b B r + i = rn_b B (r + 1) → v = s) → ufT n Wd L c f φ G n1 z R B sb ov pw → ufB f (rn_b B r + i) Mm Gm B → ufG9 (r + 1) B → lbv B f (rn_b B r) = s → (∀ v, v < s → o_gn Gm v) → xp - 2 * ((rn_b B r : Int) + i) ≤ pw → pw ≤ xp + 2 * ((rn_b B r : Int) + i) → Tt (fun K t => c_X8_unfold vl K (cd0_X8_unfold vl K dd) t 2 (nI L) (iI φ) (iI xp) (nI L) (nI (2 * c)) (iI pw) (nI Mm) (nI Gm) (nI (r + 1)) (nI s) (nI v) (nI i) 0 0 24000 (lv L) z) Q := by
      intro e
      induction e with
      | zero =>
        intro i v pw Mm Gm z R B sb ov hi hv1 hv2 hJ hB hR hb0 hgs hp1 hp2
        obtain ⟨j1, jb, j2, j3, j4, j5, jp, j6, jz, m, j8, j9⟩ := id hJ
        obtain ⟨k1, k2, k3, k4, k5⟩ := id hB
        have hN := isoS_iff.mp j5.1
        have hlen := hN.2.1
        have hle := rn_b_le B (r + 1)
        have hnz := hR.2 r (by omega)
        have e9 : rn_b B r + i = rn_b B (r + 1) := by omega
        rw [e9] at hB k5
        have gs : o_gn Gm s := (k5 s (by omega)).mpr ⟨rn_b B r, hnz, hb0⟩
        have fin5 := c5 (r + 1) pw Mm Gm z R B sb ov hJ hB hR (fun v hv => by
          by_cases ev : v = s
          · rw [ev]
            exact gs
          · exact hgs v (by omega)) (by omega) (by omega)
        refine u_X8_unfold_2 ?_; unfold cm_X8_unfold_2
        rw [hv2 e9]
        exact w_le (by omega) (by omega) (fun _ => fin5) (fun _ => w_ifF (fun h9 => (gbit0 k2 (by omega)).mp h9 gs) fin5)
      | succ e ihe =>
        intro i v pw Mm Gm z R B sb ov hi hv1 hv2 hJ hB hR hb0 hgs hp1 hp2
        obtain ⟨j1, jb, j2, j3, j4, j5, jp, j6, jz, m, j8, j9⟩ := id hJ
        obtain ⟨hM, hG, hg, hme, hgo⟩ := id hB
        have hN := isoS_iff.mp j5.1
        have hlen := hN.2.1
        have hle := rn_b_le B (r + 1)
        have hnz := hR.2 r (by omega)
        have hil : rn_b B r + i < B.flatten.length := by omega
        have ev : v = lbv B f (rn_b B r + i) := hv1 (by omega)
        have hvl : v < 2 * c := by rw [ev, ← j4]; exact lbv_lt hN hil
        obtain ⟨f1, f2⟩ := lbv_hf hN hil
        rw [← ev] at f1 f2
        obtain ⟨q1, q2⟩ := uf_bits ⟨v, by omega⟩
        have q3 := uf_par ⟨v, by omega⟩
        dsimp only at q1 q2 q3
        have c4 : ∀ (v' : Nat) (pw : Int) (z : ow_MS) (R : ow_NT) (B' : rn_L) (sb ov : Nat → Bool), v' = lbv B' f (rn_b B r + i) → ufT n Wd L c f φ G n1 z R B' sb ov pw → gPre B' (rn_b B r + i + 1) → (∀ u, u < rn_b B r + i → vAt B' u = vAt B u) → crs B' (rn_b B r + i) = crs B (rn_b B r + i) → (∀ t, rn_b B' t = rn_b B t) → (i = 0 → v' = s) → xp - 2 * ((rn_b B r : Int) + i + 1) ≤ pw → pw ≤ xp + 2 * ((rn_b B r : Int) + i + 1) → Tt (fun K t => c_X8_unfold vl K (cd0_X8_unfold vl K dd) t 4 (nI L) (iI φ) (iI xp) (nI L) (nI (2 * c)) (iI pw) (nI Mm) (nI Gm) (nI (r + 1)) (nI s) (nI v') (nI i) (nI (v / 2)) 0 24000 (lv L) z) Q := by
          intro v' pw z R B' sb ov ev' hJ' hg' hpre hci hrb hi0 hq1 hq2
          obtain ⟨m1, mb, m2, m3, m4, m5, mp, m6, mz, -⟩ := id hJ'
          have hN' := isoS_iff.mp m5.1
          have hlen' := hN'.2.1
          have hle' := rn_b_le B' (r + 1)
          rw [hrb] at hle'
          have hv' : v' < 2 * c := by rw [ev', ← m4]; exact lbv_lt hN' (by omega)
          obtain ⟨o1, o2⟩ := gor9 hM (show v / 2 < 24 by omega)
          obtain ⟨o3, o4⟩ := gor9 hG (show v' < 24 by omega)
          have hnx := iS_nx (r := r) hN' (v := rn_b B r + i) (by rw [hrb]; omega) (by rw [hrb]; omega)
          rw [← ev', hrb, hrb] at hnx
          have pc : ∀ u, u < rn_b B r + i → crs B' u = crs B u := fun u hu => by unfold crs; rw [hpre u hu]
          have pl : ∀ u, u < rn_b B r + i → lbv B' f u = lbv B f u := fun u hu => by unfold lbv crs uns; rw [hpre u hu]
          have hb0' : lbv B' f (rn_b B r) = s := by
            rcases Nat.eq_zero_or_pos i with h9 | h9
            · have h8 := hi0 h9
              rw [ev', h9] at h8
              exact h8
            · rw [pl _ (by omega)]
              exact hb0
          refine u_X8_unfold_4 ?_; unfold cm_X8_unfold_4
          rw [nI_1, o1, o3]
          refine w_crI (nH_1 hh) rfl (show v' < 24 by omega) (m2.2.2.1 v') (ihe (i + 1) _ pw _ _ z R B' sb ov (by rw [hrb, hrb]; omega) (fun h9 => ?_) (fun h9 => ?_) hJ' ⟨o2, o4, by rw [hrb]; exact hg', fun x hx => ?_, fun k hk => ?_⟩ ⟨by rw [m6, ← j6]; exact hR.1, fun t ht => by rw [hrb, hrb]; exact hR.2 t ht⟩ (by rw [hrb]; exact hb0') (fun t ht => (gn_or _ _ _).mpr (Or.inl (hgs t ht))) (by rw [hrb]; omega) (by rw [hrb]; omega))
          · rw [hrb, hrb] at h9
            rw [hnx, if_pos (by omega), hrb]
            rfl
          · rw [hrb, hrb] at h9
            rw [hnx, if_neg (by omega)]
            exact hb0'
          · rw [hrb, gn_or, hme x hx]
            constructor
            · rintro (⟨u, u1, u2⟩ | h9)
              · exact ⟨u, by omega, by rw [pc u u1]; exact u2⟩
              · exact ⟨rn_b B r + i, by omega, by rw [hci, h9, f1]⟩
            · rintro ⟨u, u1, u2⟩
              by_cases eu : u = rn_b B r + i
              · rw [eu, hci, ← f1] at u2
                exact Or.inr u2.symm
              · exact Or.inl ⟨u, by omega, by rw [← pc u (by omega)]; exact u2⟩
          · rw [hrb, gn_or, hgo k hk]
            constructor
            · rintro (⟨u, u1, u2⟩ | h9)
              · exact ⟨u, by omega, by rw [pl u u1]; exact u2⟩
              · exact ⟨rn_b B r + i, by omega, by rw [h9, ev']⟩
            · rintro ⟨u, u1, u2⟩
              by_cases eu : u = rn_b B r + i
              · rw [eu, ← ev'] at u2
                exact Or.inr u2.symm
              · exact Or.inl ⟨u, by omega, by rw [← pl u (by omega)]; exact u2⟩
        have hgone : ¬ o_gn Gm v := fun h9 => by
          obtain ⟨u, u1, u2⟩ := (hgo v (by omega)).mp h9
          have := lbv_inj hN (v := u) (w := rn_b B r + i) (by omega) hil (u2.trans ev)
          omega
        have vs : i = 0 → v = s := fun h9 => by
          rw [ev, h9]
          exact hb0
        have good : (¬ (∀ u, u < rn_b B r + i → crs B u ≠ crs B (rn_b B r + i)) ∨ uns B (rn_b B r + i) = 0) → gPre B (rn_b B r + i + 1) := fun h9 u hu hul hfu => by
          by_cases eu : u = rn_b B r + i
          · subst eu
            rcases h9 with h9 | h9
            · exact absurd hfu h9
            · exact h9
          · exact hg u (by omega) hul hfu
        have noflip : (¬ (∀ u, u < rn_b B r + i → crs B u ≠ crs B (rn_b B r + i)) ∨ uns B (rn_b B r + i) = 0) → Tt (fun K t => c_X8_unfold vl K (cd0_X8_unfold vl K dd) t 4 (nI L) (iI φ) (iI xp) (nI L) (nI (2 * c)) (iI pw) (nI Mm) (nI Gm) (nI (r + 1)) (nI s) (nI v) (nI i) (nI (v / 2)) 0 24000 (lv L) z) Q := fun h9 => c4 v pw z R B sb ov ev hJ (good h9) (fun u _ => rfl) rfl (fun _ => rfl) vs (by omega) (by omega)
        refine u_X8_unfold_2 ?_; unfold cm_X8_unfold_2
        rw [q1, show Int32.ofNat ((cX vl).2 (24000 + 2)).2.1 = nI 13 from rfl]
        refine w_leF (by omega) (by omega) (w_ifT ((gbit0 hG (by omega)).mpr hgone) (w_if (fun hm0 => w_if (fun hodd => ?_) (fun hev => noflip (Or.inr ?_))) (fun hm0 => noflip (Or.inl (fun h9 => hm0 ?_)))))
        rotate_left
        · have h7 : ¬ v % 2 = 1 := fun h9 => hev (q3.mpr h9)
          have h2 := (hN.1.2 _ (vAt_mem hil)).2.1
          have h3 : uns B (rn_b B r + i) < 2 := h2
          omega
        · refine (gbit0 hM (by omega)).mpr (fun h8 => ?_)
          obtain ⟨u, u1, u2⟩ := (hme (v / 2) (by omega)).mp h8
          exact h9 u u1 (hN.2.2.2.2.1 u (rn_b B r + i) (by omega) hil (u2.trans f1))
        have hmet := (gbit0 hM (show v / 2 < 24 by omega)).mp hm0
        have hun : uns B (rn_b B r + i) = 1 := by rw [← f2]; exact q3.mp hodd
        have hfst : ∀ u, u < rn_b B r + i → crs B u ≠ crs B (rn_b B r + i) := fun u hu e9 => hmet ((hme (v / 2) (by omega)).mpr ⟨u, hu, by rw [e9]; exact f1.symm⟩)
        have hbd : bdF B (rn_b B r + i) := ⟨hil, hfst, by omega, fun u hu hfu => hg u hu (by omega) hfu⟩
        have hs2 := sm2_b2 hN hbd
        have hxm : crs B (rn_b B r + i) ∈ nmz Wd := bd_nm jz (vAt_mem hil)
        have hsx := sg_sb (jz.2.2 _ hxm)
        have sb1 : sgz (ov (crs B (rn_b B r + i))) ≤ 1 ∧ -1 ≤ sgz (ov (crs B (rn_b B r + i))) := by
          cases ov (crs B (rn_b B r + i))
          · exact ⟨by decide, by decide⟩
          · exact ⟨by decide, by decide⟩
        refine w_crI (nH_3 hh) rfl (show v / 2 < 12 by omega) (x := iI (if sb (crs B (rn_b B r + i)) then -1 else 1)) (by rw [f1]; exact (j2.2.2.2.2 _).trans (iS_sg j5 jp hil)) ?_
        rw [nI_1 L, f1]
        refine w_leF (by omega) (by omega) (uf_bad2 (by omega) (hself (by omega)) hJ hn1 hc hil rfl hs2 (by omega) (by omega) (fun z3 hK => ?_))
        refine u_X8_unfold_3 ?_; unfold cm_X8_unfold_3
        rw [q2]
        refine uf_flip2 hL hK hil rfl (fun z4 hJ4 => ?_)
        have hg2 : gPre (chA B (crs B (rn_b B r + i))) (rn_b B r + i + 1) := fun u hu hul hfu => by
          rw [ch_len] at hul
          rw [ch_uns hul]
          by_cases eu : u = rn_b B r + i
          · rw [eu, if_pos rfl, hun]
          · rw [if_neg (hfst u (by omega))]
            refine hg u (by omega) hul (fun t ht e9 => hfu t ht ?_)
            rw [ch_crs (by omega), ch_crs hul]
            exact e9
        have hlb : mt v = lbv (chA B (crs B (rn_b B r + i))) f (rn_b B r + i) := by
          unfold lbv
          rw [ch_crs hil, ch_uns hil, if_pos rfl, hun, ev]
          unfold lbv mt
          rw [hun, if_neg (by omega)]
          omega
        have key := c4 (mt v) (pw + 2 * sgz (ov (crs B (rn_b B r + i)))) z4 _ _ _ _ hlb hJ4 hg2 (fun u hu => by
          unfold chA
          rw [flp_vAt (by omega)]
          unfold flp
          have : ¬ (crs B u = crs B (rn_b B r + i)) := hfst u hu
          exact if_neg (fun h9 => this (of_decide_eq_true h9))) (ch_crs hil) (bc_ch _) (fun h9 => by
          exfalso
          have h8 := vs h9
          rw [h9, Nat.add_zero] at hun
          have h7 : s % 2 = 1 := by rw [← h8]; exact q3.mp hodd
          have h6 := hgs (s - 1) (by omega)
          obtain ⟨u, u1, u2⟩ := (hgo (s - 1) (by omega)).mp h6
          have h5 := lbv_hf hN (v := u) (by omega)
          refine hfst u (by omega) (hN.2.2.2.2.1 u (rn_b B r + i) (by omega) hil ?_)
          rw [← h5.1, u2, ← f1, h8]
          omega) (by omega) (by omega)
        rw [f1] at key
        rw [hsx, show (2 : Int32) * iI (sgz (ov (crs B (rn_b B r + i)))) = iI (2 * sgz (ov (crs B (rn_b B r + i)))) from iI_mul 2 _, iI_add]
        exact key
    obtain ⟨p1, p2, p3, p4, p5⟩ := id hB
    obtain ⟨j1, jb, j2, j3, j4, j5, jp, j6, jz, m, j8, j9⟩ := id hJ
    have hN := isoS_iff.mp j5.1
    have hlen := hN.2.1
    refine u_X8_unfold_1 ?_; unfold cm_X8_unfold_1
    refine w_leF (by omega) (by omega) ?_
    by_cases hgn : o_gn Gm s
    · exact w_ifF (fun h9 => (gbit0 p2 (by omega)).mp h9 hgn) (c5 r pw Mm Gm z R B sb ov hJ hB hR (fun v hv => by
        by_cases e : v = s
        · rw [e]
          exact hgn
        · exact hgs v (by omega)) hp1 hp2)
    · obtain ⟨p, pl, pe⟩ := lbv_sur hN (k := s) (by omega)
      have hpr : rn_b B r ≤ p := by
        rcases Nat.lt_or_ge p (rn_b B r) with h9 | h9
        · exact absurd ((p5 s (by omega)).mpr ⟨p, h9, pe⟩) hgn
        · exact h9
      obtain ⟨B', b1, b2, b3, b4, b5, b6, b7, b8⟩ := mv_ring j5 jz hR.1 hpr pl
      have hN' := isoS_iff.mp b1.1
      have hle := rn_b_le B r
      have lb0 : lbv B' f (rn_b B' r) = s := by
        rw [b4 r (Nat.le_refl r), ← pe]
        unfold lbv crs uns
        rw [b6]
      have pc : ∀ u, u < rn_b B r → crs B' u = crs B u := fun u hu => by unfold crs; rw [b5 u hu]
      have pu : ∀ u, u < rn_b B r → uns B' u = uns B u := fun u hu => by unfold uns; rw [b5 u hu]
      have plb : ∀ u, u < rn_b B r → lbv B' f u = lbv B f u := fun u hu => by unfold lbv; rw [pc u hu, pu u hu]
      have e4 := b4 r (Nat.le_refl r)
      refine w_ifT ((gbit0 p2 (by omega)).mpr hgn) ?_
      rw [nI_1]
      refine c2 (rn_b B' (r + 1) - rn_b B' r) 0 s pw Mm Gm z R B' sb ov (by omega) (fun _ => lb0.symm) (fun h9 => by omega) ⟨j1, jb, j2, j3, j4, b1, jp, b3.trans j6, b2, m, j8, j9⟩ ⟨p1, p2, fun u hu hul hfu => ?_, fun x hx => ?_, fun k hk => ?_⟩ ⟨by omega, fun i hi => ?_⟩ lb0 hgs (by omega) (by omega)
      · rw [e4] at hu
        rw [pu u (by omega)]
        refine p3 u (by omega) (by omega) (fun t ht e9 => hfu t ht ?_)
        rw [pc t (by omega), pc u (by omega)]
        exact e9
      · rw [p4 x hx, e4]
        exact ⟨fun ⟨u, u1, u2⟩ => ⟨u, by omega, by rw [pc u u1]; exact u2⟩, fun ⟨u, u1, u2⟩ => ⟨u, by omega, by rw [← pc u (by omega)]; exact u2⟩⟩
      · rw [p5 k hk, e4]
        exact ⟨fun ⟨u, u1, u2⟩ => ⟨u, by omega, by rw [plb u u1]; exact u2⟩, fun ⟨u, u1, u2⟩ => ⟨u, by omega, by rw [← plb u (by omega)]; exact u2⟩⟩
      · by_cases e : i = r
        · rw [e, e4]
          exact b7
        · rw [b4 i (by omega), b4 (i + 1) (by omega)]
          exact hR.2 i (by omega)
/-- one level -/
theorem xc_unfS2 {n L dd : Nat} {T : ow_NT} {A : rn_L} {sg ov : Nat → Bool} {Wd : wd9} {f : Nat → Nat} {φ xp : Int} {m : pz9} (hn : 1 ≤ n) (hL : L ≤ 12) (hself : L < 12 → ufS2 vl n L dd) (h0 : lvS y) (hb : bnC y) (hT : cAt y (lv L) T) (hv : nvL L T) (hc : T.1 + L ≤ 12) (hu : isoV A sg f T) (hp : pm1 T) (h6 : A.length ≤ 6 + L) (hz : bdz n Wd ov A sg) (hm : twC y m) (hx1 : -(100 * (L : Int)) ≤ xp) (hx2 : xp ≤ 100 * (L : Int)) : Te (fun K => cd0_X8_unfold vl K (dd + 1) 24000 (nI L) (iI φ) (iI xp) (nI L) y) (fun z1 => twC z1 (fun p q => m p q + φ * Fz n Wd ov (p - xp) (q - (L : Int)))) := by
  obtain ⟨c, hcT⟩ : ∃ c, T.1 = c := ⟨_, rfl⟩
  refine w_cdU ?_
  refine u_X8_unfold_0 ?_; unfold cm_X8_unfold_0
  refine w_crX rfl (show L < 13 by omega) (w_rdF hT.1 ?_)
  rw [hcT, rn_mul2]
  have z0 : rn_b A 0 = 0 := rfl
  exact uf_w2 (n1 := A.length) hn hL hself (by omega) h6 hx1 hx2 (2 * c) 0 0 xp 0 0 y T A sg ov (by omega) ⟨h0, hb, hT, hv, hcT, hu, hp, rfl, hz, m, hm, fun p q => rfl⟩ ⟨by decide, by decide, fun v hv => absurd hv (by rw [z0]; omega), fun x _ => ⟨fun h9 => absurd h9 (gn_z9 x), fun ⟨u, u1, _⟩ => absurd u1 (by rw [z0]; omega)⟩, fun k _ => ⟨fun h9 => absurd h9 (gn_z9 k), fun ⟨u, u1, _⟩ => absurd u1 (by rw [z0]; omega)⟩⟩ ⟨by omega, fun i hi => absurd hi (Nat.not_lt_zero _)⟩ (fun v hv => absurd hv (Nat.not_lt_zero _)) (by rw [z0]; omega) (by rw [z0]; omega)
theorem xc_unfD2 {n : Nat} (hn : 1 ≤ n) : ∀ (d L : Nat), L + d = 12 → ∀ (R : ow_NT) (B : rn_L) (sb ov : Nat → Bool) (Wd : wd9) (g : Nat → Nat) (ψ : Int) (m : pz9) (xp : Int) (z : ow_MS), lvS z → bnC z → cAt z (lv L) R → nvL L R → R.1 + L ≤ 12 → isoV B sb g R → pm1 R → B.length ≤ 6 + L → bdz n Wd ov B sb → twC z m → -(100 * (L : Int)) ≤ xp → xp ≤ 100 * (L : Int) → Te (fun K => cd0_X8_unfold vl K (d + 3) 24000 (nI L) (iI ψ) (iI xp) (nI L) z) (fun z1 => (lvS z1 ∧ fr (unP L) z z1) ∧ twC z1 (fun p q => m p q + ψ * Fz n Wd ov (p - xp) (q - (L : Int)))) := by
  intro d
  induction d with
  | zero =>
    intro L hL R B sb ov Wd g ψ m xp z h0 hb hT hv hc hu hp h6 hz hm hx1 hx2
    exact te_and (tc_unfD 0 L hL R _ _ z h0 hT hv) (xc_unfS2 (dd := 2) hn (by omega) (fun h => absurd h (by omega)) h0 hb hT hv hc hu hp h6 hz hm hx1 hx2)
  | succ d ih =>
    intro L hL R B sb ov Wd g ψ m xp z h0 hb hT hv hc hu hp h6 hz hm hx1 hx2
    refine te_and (tc_unfD (d + 1) L hL R _ _ z h0 hT hv) (xc_unfS2 (dd := d + 3) hn (by omega) (fun _ => fun R B sb ov Wd g ψ m xp z a1 a2 a3 a4 a5 a6 a7 a8 a9 a10 a11 a12 => ?_) h0 hb hT hv hc hu hp h6 hz hm hx1 hx2)
    exact ih (L + 1) (by omega) R B sb ov Wd g ψ m xp z a1 a2 a3 a4 a5 a6 a7 a8 a9 a10 (by show -(100 * ((L : Int) + 1)) ≤ xp; exact a11) (by show xp ≤ 100 * ((L : Int) + 1); exact a12)
end XTWN
