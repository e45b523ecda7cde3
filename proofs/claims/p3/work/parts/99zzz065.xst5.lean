section
/-! 99zzzzzzzzzzzzzzf.xst5 -/
/-! normal, factor, equal are steps of the law -/
section XSA
variable {Pc Pr : ow_MS → Prop}
theorem s3_normal (hc : keepP ciX Pc) (hr : keepP rfX Pr) : stpX Pc Pr lst_normal := by
  intro S x1 x2 x3 x4 x5 h pc pr
  have hc0 := rel_of (vl := S.1) (y := S.2.1) (z := S.2.2) (em := [(1, 1), (2, 2)]) (fc := fun K => ce_X11_normal S.1 K 0 x1 x2 S.2.1) (fm := fun K => qe_X13_normal K x1 x2 S.2.2) h.1 (c_normal (fun _ => XR_G) h.1.1 ) (fun K => ff_X13_normal) (fun K => ff_X11_normal) (by decide) (fun g hg h9 => by unfold ciH at h9; omega)
  have hn : Te (fun K => ce_X11_normal S.1 K 0 x1 x2 S.2.1) (fun rc => NM rc.2.2) := te_nmF (te_in hc0) (fun K => ff_X11_normal) (fun g hg h9 => by omega) h.2
  have hs0 : Te (lsV S.1 (fun K => ce_X11_normal S.1 K 0 x1 x2 S.2.1) (fun k z => if k = 1 then some (1, z) else if k = 2 then some (2, z) else none) (fun K => qe_X13_normal K x1 x2 S.2.2)) (fun S1 => REL S1 ∧ dPhi S.1 ≤ dPhi S1.1) := by
    refine st_int hc0 (fun j k hm => ?_)
    simp only [List.mem_cons, List.not_mem_nil, or_false, Prod.mk.injEq] at hm
    rcases hm with ⟨rfl, rfl⟩ | ⟨rfl, rfl⟩ <;> exact ⟨by decide, by decide, by decide, fun _ => rfl⟩
  have hmp : ∀ (k : Nat) (z : ow_MS) (r : Int32 × ow_MS), ((fun k z => if k = 1 then some (1, z) else if k = 2 then some (2, z) else none) : Nat → ow_MS → Option (Int32 × ow_MS)) k z = some r → r.2 = z := (fun k z r hr => by
    have hr : (if k = 1 then some (1, z) else if k = 2 then some (2, z) else none) = some r := hr
    by_cases c0 : k = 1
    · rw [if_pos c0] at hr
      cases hr
      rfl
    by_cases c1 : k = 2
    · rw [if_neg c0, if_pos c1] at hr
      cases hr
      rfl
    rw [if_neg c0, if_neg c1] at hr
    cases hr)
  have hs : Te (lsV S.1 (fun K => ce_X11_normal S.1 K 0 x1 x2 S.2.1) (fun k z => if k = 1 then some (1, z) else if k = 2 then some (2, z) else none) (fun K => qe_X13_normal K x1 x2 S.2.2)) (fun S1 => REL2 S1 ∧ dPhi S.1 ≤ dPhi S1.1) := w_monoE (lsV_nm hs0 hn hmp) (fun S1 ⟨⟨q1, q2⟩, q3⟩ => ⟨⟨q1, q3⟩, q2⟩)
  exact w_monoE (lsV_fo hs (fun K => ff_X11_normal) (fun K => ff_X13_normal) hmp) (fun S1 ⟨q, f1, f2⟩ => ⟨q, hc _ _ _ f1 (fun g hg h9 => by unfold ciX at h9; omega) pc, hr _ _ _ f2 (pf_rf (by decide)) pr⟩)
theorem s3_factor (hc : keepP ciX Pc) (hr : keepP rfX Pr) (hE : ∀ z, Pr z → enW z) : stpX Pc Pr lst_factor := by
  intro S x1 x2 x3 x4 x5 h pc pr
  have hc0 := rel_of (vl := S.1) (y := S.2.1) (z := S.2.2) (em := [(1, 1)]) (fc := fun K => ce_X11_factor S.1 K 0 x1 x2 x3 S.2.1) (fm := fun K => qe_X13_factor K x1 x2 x3 S.2.2) h.1 (c_factor (fun _ => XR_G) h.1.1 (hE _ pr)) (fun K => ff_X13_factor) (fun K => ff_X11_factor) (by decide) (fun g hg h9 => by unfold ciH at h9; omega)
  have hn : Te (fun K => ce_X11_factor S.1 K 0 x1 x2 x3 S.2.1) (fun rc => NM rc.2.2) := te_nmF (te_in hc0) (fun K => ff_X11_factor) (fun g hg h9 => by omega) h.2
  have hs0 : Te (lsV S.1 (fun K => ce_X11_factor S.1 K 0 x1 x2 x3 S.2.1) (fun k z => if k = 1 then some (1, z) else none) (fun K => qe_X13_factor K x1 x2 x3 S.2.2)) (fun S1 => REL S1 ∧ dPhi S.1 ≤ dPhi S1.1) := by
    refine st_int hc0 (fun j k hm => ?_)
    simp only [List.mem_cons, List.not_mem_nil, or_false, Prod.mk.injEq] at hm
    obtain ⟨rfl, rfl⟩ := hm
    exact ⟨by decide, by decide, by decide, fun _ => rfl⟩
  have hmp : ∀ (k : Nat) (z : ow_MS) (r : Int32 × ow_MS), ((fun k z => if k = 1 then some (1, z) else none) : Nat → ow_MS → Option (Int32 × ow_MS)) k z = some r → r.2 = z := (fun k z r hr => by
    have hr : (if k = 1 then some (1, z) else none) = some r := hr
    by_cases c0 : k = 1
    · rw [if_pos c0] at hr
      cases hr
      rfl
    rw [if_neg c0] at hr
    cases hr)
  have hs : Te (lsV S.1 (fun K => ce_X11_factor S.1 K 0 x1 x2 x3 S.2.1) (fun k z => if k = 1 then some (1, z) else none) (fun K => qe_X13_factor K x1 x2 x3 S.2.2)) (fun S1 => REL2 S1 ∧ dPhi S.1 ≤ dPhi S1.1) := w_monoE (lsV_nm hs0 hn hmp) (fun S1 ⟨⟨q1, q2⟩, q3⟩ => ⟨⟨q1, q3⟩, q2⟩)
  exact w_monoE (lsV_fo hs (fun K => ff_X11_factor) (fun K => ff_X13_factor) hmp) (fun S1 ⟨q, f1, f2⟩ => ⟨q, hc _ _ _ f1 (fun g hg h9 => by unfold ciX at h9; omega) pc, hr _ _ _ f2 (pf_rf (by decide)) pr⟩)
theorem s3_equal (hc : keepP ciX Pc) (hr : keepP rfX Pr) : stpX Pc Pr lst_equal := by
  intro S x1 x2 x3 x4 x5 h pc pr
  have hs0 := st_bool (vl := S.1) (y := S.2.1) (z := S.2.2) (fc := fun K => ce_X11_equal S.1 K 0 x1 x2 S.2.1) (fm := fun K => qe_X13_equal K x1 x2 S.2.2) h.1 (c_equal (fun _ => XR_G) h.1.1) (fun K => ff_X13_equal) (fun K => ff_X11_equal) (by decide) (fun g hg h9 => by unfold ciH at h9; omega)
  have hn : Te (fun K => ce_X11_equal S.1 K 0 x1 x2 S.2.1) (fun rc => NM rc.2) := w_monoE (te_fo (te_in (c_equal (fun _ => XR_G) h.1.1)) (fun K => ff_X11_equal)) (fun rc ⟨_, f⟩ => NM_fr f (fun g hg h9 => by omega) h.2)
  exact w_monoE (lsB_fo (w_monoE (lsB_nm hs0 hn) (fun S1 ⟨⟨q1, q2⟩, q3⟩ => (⟨⟨q1, q3⟩, q2⟩ : REL2 S1 ∧ dPhi S.1 ≤ dPhi S1.1))) (fun K => ff_X11_equal) (fun K => ff_X13_equal)) (fun S1 ⟨q, f1, f2⟩ => ⟨q, hc _ _ _ f1 (fun g hg h9 => by unfold ciX at h9; omega) pc, hr _ _ _ f2 (pf_rf (by decide)) pr⟩)
theorem en_init {m1 m2 : ow_MS} {b : Nat} (hb : ∀ K, b ≤ K → qe_X13_makeSimples_a K Z13 = some m1 ∧ qe_X13_makePermutations_a K m1 = some m2) : enW (usZ m2 blM) := by
  have h2 : ∀ g i, g ≠ 73 → Z13.2.1 g i = 0 := fun g i hg => by
    show (if g = 73 then fT13 else fun _ => 0) i = 0
    rw [if_neg hg]
  obtain ⟨r1, ⟨b1, hb1⟩, ⟨hD, hf1⟩⟩ := tp_simE (z := Z13) (fun n _ => h2 100 _ (by omega))
  have er1 : r1 = m1 := Option.some.inj ((hb1 (b + b1) (by omega)).symm.trans (hb (b + b1) (by omega)).1)
  subst er1
  have m1I : ∀ g i, ¬ (97 ≤ g ∧ g ≤ 107) → g ≠ 73 → r1.2.1 g i = 0 := fun g i hg h9 => by
    rw [(hf1 g hg).2.1]
    exact h2 g i h9
  obtain ⟨r2, ⟨b2, hb2⟩, -, hf2⟩ := tp_perms_a (z := r1) ⟨fun i => ⟨0, by omega, m1I 74 i (by omega) (by omega)⟩, fun m g1 g4 o p ho hp => ⟨⟨0, by omega, m1I 75 _ (by omega) (by omega)⟩, 0, by omega, m1I 76 _ (by omega) (by omega)⟩⟩
  have er2 : r2 = m2 := Option.some.inj ((hb2 (b + b2) (by omega)).symm.trans (hb (b + b2) (by omega)).2)
  subst er2
  intro n s j n2 n5 hs hj
  have e : (usZ r2 blM).2.1 98 = r1.2.1 98 := (uz_I (m := r2) (by omega)).trans (hf2 98 (by unfold pmP; omega)).2.1
  rw [e]
  exact (hD n n2 n5).2 s hs j hj
end XSA
end
section
/-! 99zzzzzzzzzzzzzzg.xst6 -/
/-! conway is a step of the law; what is left of the whole -/
section XSB
variable {vl : Nat → Nat} {y : ow_MS}
theorem te_in2 {O P : Type} {f : Nat → Option O} {g : Nat → Option P} {M : O → P → Prop} (h : Te f (fun a => Te g (fun b => M a b))) : Te g (fun b => ∃ a, M a b) := by
  obtain ⟨a, -, ⟨b, hb, hM⟩⟩ := h
  exact ⟨b, hb, a, hM⟩
theorem te_out {O P : Type} {f : Nat → Option O} {g : Nat → Option P} {M : O → P → Prop} (h : Te f (fun a => Te g (fun b => M a b))) : Te f (fun a => ∃ b, M a b) := by
  obtain ⟨a, ha, ⟨b, hb, hM⟩⟩ := h
  exact ⟨a, ha, b, hM⟩
theorem tc_unfK {g' p' s' c : Nat} {A : rn_L} {sg : Nat → Bool} (hg' : tH g' p') (hd : g' + 6 ≤ 24000) (hs' : s' < p') (hb : slC y g' s' (clC sg A)) (hA : okL A c) (hby : byR y (g' + 1)) (hk : knC y) (hl : lvS y) : Te (fun K => ce_X8_unfoldCode vl K 24000 g' (nI s') y) (fun y1 => ∀ D, cOK D → slC y 25000 1 D → slC y1 25000 1 D) := by
  obtain ⟨C, cc1, cc2⟩ := hk.2.1 0 (by omega)
  refine e_X8_unfoldCode ?_; unfold cm_X8_unfoldCode_0
  refine w_cs1 (tc_isKnown2 (s := 0) (by omega) hg' (by omega) hs' hb (okL_c hA).2 hby cc1 cc2) ?_
  rintro v y1 ⟨h1, k1, -, f1⟩
  dsimp only at h1 k1 f1
  have f1s : fr skP y y1 := fr_mono (fun g hg => by unfold cW at hg; unfold skP; omega) f1
  have l1 : lvS y1 := fun j hj => by
    obtain ⟨T, t1, t2⟩ := hl j hj
    exact ⟨T, cAt_fr f1 (fun g hg h9 => by unfold cP lv at hg; unfold cW at h9; omega) t1, t2⟩
  refine w_if (fun _ => ?_) (fun _ => w_some (fun D hD hs => k1 1 D (by omega) hD hs))
  refine w_cs0 (tc_fillA ch_24003 (by omega)) ?_
  rintro y2 ⟨-, f2⟩
  refine w_cs0 (tc_fillA ch_24004 (by omega)) ?_
  rintro y3 ⟨-, f3⟩
  have f13 : fr skP y1 y3 := fr_tr (fr_mono (fun g hg => by unfold skP; omega) f2) (fr_mono (fun g hg => by unfold skP; omega) f3)
  have f13a : fr (fun g => g = 24003 ∨ g = 24004) y1 y3 := fr_tr (fr_mono (fun g hg => by omega) f2) (fr_mono (fun g hg => by omega) f3)
  have l3 : lvS y3 := fun j hj => by
    obtain ⟨T, t1, t2⟩ := l1 j hj
    exact ⟨T, cAt_fr f13a (fun g hg h9 => by unfold cP lv at hg; omega) t1, t2⟩
  obtain ⟨T, t1, t2⟩ := l3 0 (by omega)
  have s3 : slC y3 g' s' (clC sg A) := slC_fr (fr_tr f1s f13) (fun q hq h9 => by unfold cW at hq; unfold skP at h9; omega) hb
  refine w_crX (j := 0) rfl (by omega) (w_cs0 (tc_load2 (lv_nH (L := 0) (by omega)) hg' (Or.inr (by omega)) hs' hA s3 t1 t2) ?_)
  rintro y4 ⟨⟨T1, q1, q2, q3⟩, f4⟩
  have n4 := q1.2.2.1
  have l4 : lvS y4 := lvS_fr (L := 0) f4 (fun g hg => Or.inl (cL_in hg)) ⟨T1, q1.1, n4.2.2.1⟩ l3
  refine w_cs0 (tc_unfold l4 q1.1 ⟨n4.1, n4.2.1, n4.2.2.1, by have := n4.2.2.2; omega⟩) ?_
  rintro y5 ⟨l5, f5⟩
  have f45 : fr (fun g => 24003 ≤ g ∧ g ≤ 24004 ∨ 26001 ≤ g ∧ g ≤ 38011) y1 y5 := fr_tr (fr_mono (fun g hg => by omega) f13a) (fr_tr (fr_mono (fun g hg => by unfold cL at hg; omega) f4) (fr_mono (fun g hg => by unfold unP at hg; omega) f5))
  exact w_some (fun D hD hs => slC_fr f45 (fun q hq h9 => by unfold cW at hq; omega) (k1 1 D (by omega) hD hs))
theorem tc_conK {x x' : Int32} (hM : gM y) (hk : knC y) : Te (fun K => ce_X11_conway vl K 0 x x' y) (fun r => ∀ D, cOK D → slC y 25000 1 D → slC r.2.2 25000 1 D) := by
  refine e_X11_conway ?_; unfold cm_X11_conway_0
  refine w_tc0 (tc_need hM.1.1) ?_ ?_
  · rintro y1 ⟨h1, rfl⟩
    rcases h1 with ⟨-, d, A, sg, c, hd, rfl, hs, hA, hne⟩ | h1
    · refine w_cs0 (tc_unfK ch_1000 (by omega) hd hs hA hM.1.1.1 hk (lvS_ns hM.1.2.1)) ?_
      rintro y2 k2
      refine w_cs1 tc_conwayAt ?_
      rintro v z ⟨e2, -⟩
      dsimp only at e2
      rw [e2]
      exact w_some k2
    · exact absurd (show (0 : Nat) = 1 from h1.1) (by decide)
  · rintro a y1 ha ⟨h1, rfl⟩
    exact w_some (fun D _ hs => hs)
/-- what the class keeps besides, where only the skein's rows changed -/
theorem CI_sk {y1 : ow_MS} (hf : fr skP y y1) (h1 : knC y1) (h2 : ∀ D, cOK D → slC y 25000 1 D → slC y1 25000 1 D) (h : CI vl y) : CI vl y1 := by
  obtain ⟨-, ⟨C, c1, c2, c3⟩, i3, i4, i5, i6, i7, i8⟩ := h
  have no : ∀ g, 24005 ≤ g ∧ g ≤ 25000 ∨ 38012 ≤ g → ¬ skP g := fun g hg h9 => by unfold skP at h9; omega
  refine ⟨h1, ⟨C, h2 C c2 c1, c2, c3.imp id (fun ⟨A, sg, c, q1, S, G, q2, q3, q4, q5⟩ => ⟨A, sg, c, q1, S, G, q2, (hf 40008 (no _ (by omega))).1.trans q3, (hf 24009 (no _ (by omega))).1.trans q4, fun k hk => by rw [(hf 24006 (no _ (by omega))).2.1]; exact q5 k hk⟩)⟩, bnC_fr hf (fun m hm => no _ (by omega)) i3, mpC_fr hf ⟨no _ (by omega), no _ (by omega), no _ (by omega)⟩ i4, ?_, fun m hm => ?_, fun i k hi hk => ?_, i8⟩
  · obtain ⟨k, k1, k2, k3⟩ := i5
    refine ⟨k, k1, by rw [(hf 41010 (no _ (by omega))).1]; exact k2, fun s hs => ?_⟩
    rw [(hf 41012 (no _ (by omega))).2.1, (hf 41013 (no _ (by omega))).2.1, (hf 41014 (no _ (by omega))).2.1]
    exact k3 s hs
  · rw [(hf 43005 (no _ (by omega))).2.1]
    exact i6 m hm
  · rw [(hf (45001 + i) (no _ (by omega))).2.1]
    exact i7 i k hi hk
variable {Pc Pr : ow_MS → Prop}
end XSB
end
section
/-! 99zzzzzzzzzzzzzzh.xmp0 -/
/-! permutations: the reference's tables as numbers, checked -/
def gPX (m : Nat) : Nat := if m = 4 then 0xe4e1d8d2c9c6b4b19c938d8778726c634e4b39362d271e1b else if m = 3 then 0xe4e1d8d2c9c6 else if m = 2 then 0xe4e1 else 0xe4
def gDN9 (m : Nat) : Nat := if m = 4 then 0xbdab49ca307b9ac5a928398a418820bda53a5630635cf214430054b424c7bcab3a5927599487b62c83823208a0bcad49d527428cb18444015af645d0bd6549d840204a363a2f834c85a547bd6d3a4840194244192b3a9cc7c5b0bd92818a305a8a47bab4005ac9c8c7bd843426302154b63653399cfa5420b892345aa0785d459624828d3649a7b8ac81a6a0a382f99a4c3b4ab24550ba4481da47619b322a2b814347d5c0ba6c340a479b4cca06af039445c4b0bca2c209277b42359ab301548a59d0bc84464527185af42ad4838cb9d4a0b8a2464aa0594d3785233b5d445950b8a4c246a0998aba3ac88282f1a5a7bc44c24ad0439541b52f384b35d4c0bc64460ad0a29c8996ab019a37a427bd62f5a440638c8206543a8a39d9b0bd52b7c440419cc196d383424a4947ba62b7d6472283461848039b31d8b0ba6af5c647a05449b6c3814cc409c0bc52f5d6d01b4b34384c0195424827bc6ab7a6d0995a3a2a44385c8608c0 else if m = 3 then 0xa41882000000000000000000000000a40044300000000000000000000000a01844400000000000000000000000a02082300000000000000000000000a30082400000000000000000000000a320440 else if m = 2 then 0x20000000000000000000000000000020 else 0x0
def gBK9 (m : Nat) : Nat := if m = 4 then 0xbdab49ca307b9ac5a928398a418820bda53a5630635cf214430054b424c7bcab3a5927599487b62c83823208a0bd6549d840204a363a2f834c85a547bcad49d527428cb18444015af645d0bd6d3a4840194244192b3a9cc7c5b0bd92818a305a8a47bab4005ac9c8c7bd843426302154b63653399cfa5420bca2c209277b42359ab301548a59d0bd62f5a440638c8206543a8a39d9b0bc84464527185af42ad4838cb9d4a0bd52b7c440419cc196d383424a4947b892345aa0785d459624828d3649a7ba4481da47619b322a2b814347d5c0b8a2464aa0594d3785233b5d445950ba62b7d6472283461848039b31d8b0bc44c24ad0439541b52f384b35d4c0bc52f5d6d01b4b34384c0195424827b8ac81a6a0a382f99a4c3b4ab24550ba6c340a479b4cca06af039445c4b0b8a4c246a0998aba3ac88282f1a5a7ba6af5c647a05449b6c3814cc409c0bc64460ad0a29c8996ab019a37a427bc6ab7a6d0995a3a2a44385c8608c0 else if m = 3 then 0xa41882000000000000000000000000a40044300000000000000000000000a01844400000000000000000000000a30082400000000000000000000000a02082300000000000000000000000a320440 else if m = 2 then 0x20000000000000000000000000000020 else 0x0
def pmX (m p : Nat) : Nat := dgN (gPX m) 8 p
def imP (m p a : Nat) : Nat := pmX m p / 4 ^ a % 4
def dnM (m o x : Nat) : Nat := dgN (gDN9 m) 5 (24 * o + x)
def bkM (m o x : Nat) : Nat := dgN (gBK9 m) 5 (24 * o + x)
def acO (m o x w : Nat) : Nat → Bool
  | 0 => true
  | a + 1 => acO m o x w a && decide (imP m w (imP m o a) = imP m o (imP m x a))
def acT (m o x w : Nat) : Nat → Bool
  | 0 => true
  | a + 1 => acT m o x w a && decide (imP m o (imP m w a) = imP m x (imP m o a))
def pmW (m : Nat) : Nat → Nat → Nat → Bool
  | 0, _, _ => true
  | d + 1, c, k => if pmA m c = true then (decide (pmX m k = c) && pmW m d (c + 1) (k + 1)) else pmW m d (c + 1) k
theorem pmW_c : pmW 1 256 0 0 = true ∧ pmW 2 256 0 0 = true ∧ pmW 3 256 0 0 = true ∧ pmW 4 256 0 0 = true := by decide +kernel
theorem pmW_n {m : Nat} (h1 : 1 ≤ m) (h4 : m ≤ 4) : pmW m 256 0 0 = true := by
  obtain ⟨a, b, c, d⟩ := pmW_c
  have : m = 1 ∨ m = 2 ∨ m = 3 ∨ m = 4 := by omega
  rcases this with rfl | rfl | rfl | rfl
  · exact a
  · exact b
  · exact c
  · exact d
theorem pmW_at {m : Nat} : ∀ (d c : Nat), pmW m d c (pmC m c) = true → ∀ c', c ≤ c' → c' < c + d → pmA m c' = true → pmX m (pmC m c') = c'
  | 0, c, _, c', h1, h3, _ => by omega
  | d + 1, c, h, c', h1, h3, hA => by
    rw [pmW] at h
    have e : pmC m (c + 1) = pmC m c + (if pmA m c = true then 1 else 0) := rfl
    by_cases q : pmA m c = true
    · rw [if_pos q] at h
      rw [if_pos q] at e
      obtain ⟨a1, a2⟩ := (Bool.and_eq_true _ _).mp h
      by_cases k : c' = c
      · rw [k]
        exact of_decide_eq_true a1
      · exact pmW_at d (c + 1) (by rw [e]; exact a2) c' (by omega) (by omega) hA
    · rw [if_neg q] at h
      rw [if_neg q, Nat.add_zero] at e
      by_cases k : c' = c
      · rw [k] at hA
        exact absurd hA q
      · exact pmW_at d (c + 1) (by rw [e]; exact h) c' (by omega) (by omega) hA
theorem pmX_at {m c : Nat} (h1 : 1 ≤ m) (h4 : m ≤ 4) (hc : c < 256) (hA : pmA m c = true) : pmX m (pmC m c) = c := pmW_at 256 0 (pmW_n h1 h4) c (Nat.zero_le _) (by omega) hA
def gAC (m o x w : Nat) : Bool := (acO m o x w m == decide (w = dnM m o x)) && (acT m o x w m == decide (w = bkM m o x)) && decide (dnM m o x < thM m) && decide (bkM m o x < thM m)
theorem ac_1 : ∀ o : Fin 1, ∀ x : Fin 1, ∀ w : Fin 1, gAC 1 o.val x.val w.val = true := by decide +kernel
theorem ac_2 : ∀ o : Fin 2, ∀ x : Fin 2, ∀ w : Fin 2, gAC 2 o.val x.val w.val = true := by decide +kernel
theorem ac_3 : ∀ o : Fin 6, ∀ x : Fin 6, ∀ w : Fin 6, gAC 3 o.val x.val w.val = true := by decide +kernel
theorem ac_4 : ∀ o : Fin 24, ∀ x : Fin 24, ∀ w : Fin 24, gAC 4 o.val x.val w.val = true := by decide +kernel
theorem ac_n {m o x w : Nat} (h1 : 1 ≤ m) (h4 : m ≤ 4) (ho : o < thM m) (hx : x < thM m) (hw : w < thM m) : (acO m o x w m = true ↔ w = dnM m o x) ∧ (acT m o x w m = true ↔ w = bkM m o x) ∧ dnM m o x < thM m ∧ bkM m o x < thM m := by
  have k : gAC m o x w = true := by
    have : m = 1 ∨ m = 2 ∨ m = 3 ∨ m = 4 := by omega
    rcases this with rfl | rfl | rfl | rfl
    · exact ac_1 ⟨o, ho⟩ ⟨x, hx⟩ ⟨w, hw⟩
    · exact ac_2 ⟨o, ho⟩ ⟨x, hx⟩ ⟨w, hw⟩
    · exact ac_3 ⟨o, ho⟩ ⟨x, hx⟩ ⟨w, hw⟩
    · exact ac_4 ⟨o, ho⟩ ⟨x, hx⟩ ⟨w, hw⟩
  unfold gAC at k
  simp only [Bool.and_eq_true, beq_iff_eq, decide_eq_true_eq] at k
  obtain ⟨⟨⟨a1, a2⟩, a3⟩, a4⟩ := k
  exact ⟨by rw [a1, decide_eq_true_eq], by rw [a2, decide_eq_true_eq], a3, a4⟩
end
section
/-! 99zzzzzzzzzzzzzzi.xmp1 -/
/-! permutations: the reference makes its tables as they should be -/
def e74 (y : ow_MS) (m n : Nat) : Prop := ∀ p a, p < n → a < 4 → y.2.1 74 (96 * m + 4 * p + a) = nI (imP m p a)
def e75 (y : ow_MS) (m o x : Nat) : Prop := ∀ o' x', o' < thM m → x' < thM m → (o' < o ∨ o' = o ∧ x' < x) → y.2.1 75 (576 * m + 24 * o' + x') = nI (dnM m o' x') ∧ y.2.1 76 (576 * m + 24 * o' + x') = nI (bkM m o' x')
def eP9 (y : ow_MS) (m : Nat) : Prop := e74 y m (thM m) ∧ e75 y m (thM m) 0
def bI9 (b : Bool) : Int32 := if b = true then 1 else 0
theorem bI_and {b : Bool} {c : Prop} [Decidable c] : bI9 b &&& (if c then 1 else 0) = bI9 (b && decide c) := by
  by_cases h : c <;> cases b <;> simp [bI9, h]
theorem bI_0 {b : Bool} (e : bI9 b = 0) : b = false := by
  cases b
  · rfl
  · exact absurd e (by decide)
theorem bI_1 {b : Bool} (e : bI9 b ≠ 0) : b = true := by
  cases b
  · exact absurd rfl e
  · rfl
theorem imP_4 {m p a : Nat} : imP m p a < 4 := Nat.mod_lt _ (by omega)
theorem e74_74 {y : ow_MS} {m m' n p a : Nat} {v : Int32} (hm : m' ≠ m) (hn : n ≤ 24) (hp : p < 24) (ha : a < 4) (h : e74 y m' n) : e74 (usI y 74 (96 * m + 4 * p + a) v) m' n := fun p' a' h1 h3 => rd_ne (by omega) (h p' a' h1 h3)
theorem e74_o {y : ow_MS} {m n g i : Nat} {v : Int32} (hg : g ≠ 74) (h : e74 y m n) : e74 (usI y g i v) m n := fun p' a' h1 h3 => rd_ot (Ne.symm hg) (h p' a' h1 h3)
theorem e75_o {y : ow_MS} {m o x i : Nat} {v : Int32} (h : e75 y m o x) : e75 (usI y 74 i v) m o x := fun o' x' h1 h3 h4 => ⟨rd_ot (by omega) (h o' x' h1 h3 h4).1, rd_ot (by omega) (h o' x' h1 h3 h4).2⟩
theorem e75_7 {y : ow_MS} {m m' o x o1 x1 g : Nat} {v : Int32} (hm : m' ≠ m ∨ m' = m ∧ o1 = o ∧ x1 = x) (ho : o < 24) (hx : x < 24) (h : e75 y m' o1 x1) : e75 (usI y g (576 * m + 24 * o + x) v) m' o1 x1 := fun o' x' h1 h3 h4 => by
  have := (thM_le m').2
  have k := h o' x' h1 h3 h4
  have ne : 576 * m' + 24 * o' + x' ≠ 576 * m + 24 * o + x := by
    rcases hm with hm | ⟨rfl, rfl, rfl⟩ <;> omega
  constructor
  · by_cases e : (75 : Nat) = g
    · subst e
      exact rd_ne ne k.1
    · exact rd_ot e k.1
  · by_cases e : (76 : Nat) = g
    · subst e
      exact rd_ne ne k.2
    · exact rd_ot e k.2
theorem tp_image_e {y : ow_MS} {m n p a : Nat} (hy : e74 y m n) (hm : m ≤ 4) (hp : p < n) (hn : n ≤ 24) (ha : a < 4) : Te (fun K => qe_X13_image_a K (nI m) (nI p) (nI a) y) (fun r => r.1 = nI (imP m p a) ∧ r.2 = y) := by
  refine e_X13_image_a ?_; unfold qm_X13_image_0_a
  exact w_rdI ma74 (by rw [show (96 : Int32) * nI m = nI (96 * m) from pk_mul 96 m, show (4 : Int32) * nI p = nI (4 * p) from pk_mul 4 p, nI_add, nI_add]) (by omega) (hy p a hp ha) (w_some ⟨rfl, rfl⟩)
theorem tp_permE {z : ow_MS} : Te (fun K => qe_X13_makePermutations_a K z) (fun z1 => (∀ m, 1 ≤ m → m ≤ 4 → eP9 z1 m) ∧ fr pmP z z1) := by
  let Q : ow_MS → Prop := fun z1 => (∀ m, 1 ≤ m → m ≤ 4 → eP9 z1 m) ∧ fr pmP z z1
  have key : ∀ (dm m : Nat) (y : ow_MS), m + dm = 5 → 1 ≤ m → (∀ m', 1 ≤ m' → m' < m → eP9 y m') → fr pmP z y → Tt (fun K t => q_X13_makePermutations_a K t 1 (nI m) 0 0 0 0 0 0 0 0 0 y) Q := by
    intro dm
    induction dm with
    | zero =>
      intro m y hm h1 hy hf
      refine u_X13_makePermutations_a_1 ?_; unfold qm_X13_makePermutations_1_a
      exact w_ltT (a := 4) (by omega) (by omega) (w_some ⟨fun m' a b => hy m' a (by omega), hf⟩)
    | succ dm ihm =>
      intro m y hm h1 hy hf
      have h4 : m ≤ 4 := by omega
      have hT := thM_le m
      have ac := fun o x w => ac_n (m := m) (o := o) (x := x) (w := w) h1 h4
      have e75d : ∀ {y : ow_MS} {o x}, e75 y m o x = ∀ o' x', o' < thM m → x' < thM m → (o' < o ∨ o' = o ∧ x' < x) → y.2.1 75 (576 * m + 24 * o' + x') = nI (dnM m o' x') ∧ y.2.1 76 (576 * m + 24 * o' + x') = nI (bkM m o' x') := rfl
      have ePd : ∀ {y : ow_MS}, eP9 y m = (e74 y m (thM m) ∧ e75 y m (thM m) 0) := rfl
      generalize hTT : thM m = T at hT ac e75d ePd
      let S : Nat → Nat → ow_MS → Prop := fun o x y' => (∀ m', 1 ≤ m' → m' < m → eP9 y' m') ∧ e74 y' m T ∧ e75 y' m o x ∧ fr pmP z y'
      let R : Nat → Nat → Nat → Nat → ow_MS → Prop := fun o x w1 w2 y' => S o x y' ∧ (dnM m o x < w1 → y'.2.1 75 (576 * m + 24 * o + x) = nI (dnM m o x)) ∧ (bkM m o x < w2 → y'.2.1 76 (576 * m + 24 * o + x) = nI (bkM m o x))
      have S7 : ∀ {o x g : Nat} {v : Int32} {y' : ow_MS}, o < T → x < T → (g = 75 ∨ g = 76) → S o x y' → S o x (usI y' g (576 * m + 24 * o + x) v) := fun {o x g v y'} ho hx hg h => by
        refine ⟨fun m' a b => ⟨e74_o (by omega) (h.1 m' a b).1, e75_7 (Or.inl (by omega)) (by omega) (by omega) (h.1 m' a b).2⟩, e74_o (by omega) h.2.1, e75_7 (Or.inr ⟨rfl, rfl, rfl⟩) (by omega) (by omega) h.2.2.1, fr_I2 h.2.2.2 (by unfold pmP; omega)⟩
      -- the three loops over o, x, y
      have c12 : ∀ (o x w : Nat), o < T → x < T → w < T → (∀ y', R o x (w + 1) (w + 1) y' → Tt (fun K t => q_X13_makePermutations_a K t 11 (nI m) (nI T) (nI o) (nI x) (nI (w + 1)) 0 0 0 0 0 y') Q) → ∀ (d a : Nat) (y' : ow_MS), a + d = m → R o x w w y' → Tt (fun K t => q_X13_makePermutations_a K t 12 (nI m) (nI T) (nI o) (nI x) (nI w) (bI9 (acO m o x w a)) (bI9 (acT m o x w a)) (nI a) 0 0 y') Q := by
        intro o x w ho hx hw K11 d
        obtain ⟨ac1, ac2, ac3, ac4⟩ := ac o x w ho hx hw
        have k16 : ∀ (x6 x7 x8 : Int32) (y' : ow_MS), R o x (w + 1) (w + 1) y' → Tt (fun K t => q_X13_makePermutations_a K t 16 (nI m) (nI T) (nI o) (nI x) (nI w) x6 x7 x8 0 0 y') Q := by
          intro x6 x7 x8 y' hy'
          refine u_X13_makePermutations_a_16 ?_; unfold qm_X13_makePermutations_16_a
          rw [nI_1]
          exact K11 y' hy'
        have k15 : ∀ (x6 x8 : Int32) (y' : ow_MS), R o x (w + 1) w y' → Tt (fun K t => q_X13_makePermutations_a K t 15 (nI m) (nI T) (nI o) (nI x) (nI w) x6 (bI9 (acT m o x w m)) x8 0 0 y') Q := by
          intro x6 x8 y' hy'
          refine u_X13_makePermutations_a_15 ?_; unfold qm_X13_makePermutations_15_a
          rw [pm576]
          refine w_if (fun e => k16 _ _ _ _ ⟨hy'.1, hy'.2.1, fun h9 => hy'.2.2 ?_⟩) (fun e => w_wrI ma76 rfl (by omega) (k16 _ _ _ _ ⟨S7 ho hx (Or.inr rfl) hy'.1, fun h9 => rd_ot (by omega) (hy'.2.1 h9), fun h9 => ?_⟩))
          · have : ¬ w = bkM m o x := fun h8 => by
              rw [ac2.mpr h8] at e
              exact absurd e (by decide)
            omega
          · have := ac2.mp (bI_1 e)
            rw [← this]
            exact po_usI_at
        induction d with
        | zero =>
          intro a y' ha hy'
          have ea : a = m := by omega
          rw [ea]
          refine u_X13_makePermutations_a_12 ?_; unfold qm_X13_makePermutations_12_a
          rw [pm576]
          refine w_leT (by omega) (by omega) (w_if (fun e => k15 _ _ _ ⟨hy'.1, fun h9 => hy'.2.1 ?_, hy'.2.2⟩) (fun e => w_wrI ma75 rfl (by omega) (k15 _ _ _ ⟨S7 ho hx (Or.inl rfl) hy'.1, fun h9 => ?_, fun h9 => rd_ot (by omega) (hy'.2.2 h9)⟩)))
          · have : ¬ w = dnM m o x := fun h8 => by
              rw [ac1.mpr h8] at e
              exact absurd e (by decide)
            omega
          · have := ac1.mp (bI_1 e)
            rw [← this]
            exact po_usI_at
        | succ d ih =>
          intro a y' ha hy'
          have g74 := hy'.1.2.1
          have im : ∀ {p a : Nat}, p < T → a < 4 → Te (fun K => qe_X13_image_a K (nI m) (nI p) (nI a) y') (fun r => r.1 = nI (imP m p a) ∧ r.2 = y') := fun hp ha => tp_image_e g74 h4 hp (by omega) ha
          have i4 : ∀ {p a : Nat}, imP m p a < 2 ^ 31 := fun {p a} => by have := imP_4 (m := m) (p := p) (a := a); omega
          have k14 : ∀ (x6 t0 : Int32), x6 = bI9 (acO m o x w (a + 1)) → t0 = (if imP m o (imP m w a) = imP m x (imP m o a) then 1 else 0) → Tt (fun K t => q_X13_makePermutations_a K t 14 (nI m) (nI T) (nI o) (nI x) (nI w) x6 (bI9 (acT m o x w a)) (nI a) t0 (bI9 (acT m o x w a)) y') Q := by
            intro x6 t0 e6 e0
            subst e6
            subst e0
            refine u_X13_makePermutations_a_14 ?_; unfold qm_X13_makePermutations_14_a
            rw [nI_1, bI_and]
            exact ih (a + 1) y' (by omega) hy'
          have k13 : ∀ (t0 : Int32), t0 = (if imP m w (imP m o a) = imP m o (imP m x a) then 1 else 0) → Tt (fun K t => q_X13_makePermutations_a K t 13 (nI m) (nI T) (nI o) (nI x) (nI w) (bI9 (acO m o x w a)) (bI9 (acT m o x w a)) (nI a) t0 (bI9 (acO m o x w a)) y') Q := by
            intro t0 e0
            subst e0
            refine u_X13_makePermutations_a_13 ?_; unfold qm_X13_makePermutations_13_a
            refine w_cs1 (im hw (by omega)) ?_
            rintro v y1 ⟨e2, e1⟩
            dsimp only at e1 e2
            rw [e1, e2]
            refine w_cs1 (im ho imP_4) ?_
            rintro v y1 ⟨e2, e1⟩
            dsimp only at e1 e2
            rw [e1, e2]
            refine w_cs1 (im ho (by omega)) ?_
            rintro v y1 ⟨e2, e1⟩
            dsimp only at e1 e2
            rw [e1, e2]
            refine w_cs1 (im hx imP_4) ?_
            rintro v y1 ⟨e2, e1⟩
            dsimp only at e1 e2
            rw [e1, e2, bI_and]
            exact w_eqN i4 i4 (fun e => k14 _ _ rfl (if_pos e).symm) (fun e => k14 _ _ rfl (if_neg e).symm)
          refine u_X13_makePermutations_a_12 ?_; unfold qm_X13_makePermutations_12_a
          refine w_leF (by omega) (by omega) ?_
          refine w_cs1 (im ho (by omega)) ?_
          rintro v y1 ⟨e2, e1⟩
          dsimp only at e1 e2
          rw [e1, e2]
          refine w_cs1 (im hw imP_4) ?_
          rintro v y1 ⟨e2, e1⟩
          dsimp only at e1 e2
          rw [e1, e2]
          refine w_cs1 (im hx (by omega)) ?_
          rintro v y1 ⟨e2, e1⟩
          dsimp only at e1 e2
          rw [e1, e2]
          refine w_cs1 (im ho imP_4) ?_
          rintro v y1 ⟨e2, e1⟩
          dsimp only at e1 e2
          rw [e1, e2]
          exact w_eqN i4 i4 (fun e => k13 _ (if_pos e).symm) (fun e => k13 _ (if_neg e).symm)
      have c11 : ∀ (o x : Nat), o < T → x < T → (∀ y', S o (x + 1) y' → Tt (fun K t => q_X13_makePermutations_a K t 10 (nI m) (nI T) (nI o) (nI (x + 1)) 0 0 0 0 0 0 y') Q) → ∀ (d w : Nat) (y' : ow_MS), w + d = T → R o x w w y' → Tt (fun K t => q_X13_makePermutations_a K t 11 (nI m) (nI T) (nI o) (nI x) (nI w) 0 0 0 0 0 y') Q := by
        intro o x ho hx K10 d
        induction d with
        | zero =>
          intro w y' hw hy'
          obtain ⟨ac1, ac2, ac3, ac4⟩ := ac o x 0 ho hx (by omega)
          refine u_X13_makePermutations_a_11 ?_; unfold qm_X13_makePermutations_11_a
          rw [nI_1]
          refine w_leT (by omega) (by omega) (K10 y' ⟨hy'.1.1, hy'.1.2.1, ?_, hy'.1.2.2.2⟩)
          rw [e75d]
          intro o' x' g1 g2 g3
          by_cases e : o' = o ∧ x' = x
          · rw [e.1, e.2]
            exact ⟨hy'.2.1 (by omega), hy'.2.2 (by omega)⟩
          · have k := hy'.1.2.2.1
            rw [e75d] at k
            exact k o' x' g1 g2 (by omega)
        | succ d ih =>
          intro w y' hw hy'
          refine u_X13_makePermutations_a_11 ?_; unfold qm_X13_makePermutations_11_a
          exact w_leF (by omega) (by omega) (c12 o x w ho hx (by omega) (fun y2 h2 => ih (w + 1) y2 (by omega) h2) m 0 y' (by omega) hy')
      have c10 : ∀ (o : Nat), o < T → (∀ y', S (o + 1) 0 y' → Tt (fun K t => q_X13_makePermutations_a K t 9 (nI m) (nI T) (nI (o + 1)) 0 0 0 0 0 0 0 y') Q) → ∀ (d x : Nat) (y' : ow_MS), x + d = T → S o x y' → Tt (fun K t => q_X13_makePermutations_a K t 10 (nI m) (nI T) (nI o) (nI x) 0 0 0 0 0 0 y') Q := by
        intro o ho K9 d
        induction d with
        | zero =>
          intro x y' hx hy'
          refine u_X13_makePermutations_a_10 ?_; unfold qm_X13_makePermutations_10_a
          rw [nI_1]
          refine w_leT (by omega) (by omega) (K9 y' ⟨hy'.1, hy'.2.1, ?_, hy'.2.2.2⟩)
          rw [e75d]
          intro o' x' g1 g2 g3
          have k := hy'.2.2.1
          rw [e75d] at k
          exact k o' x' g1 g2 (by omega)
        | succ d ih =>
          intro x y' hx hy'
          refine u_X13_makePermutations_a_10 ?_; unfold qm_X13_makePermutations_10_a
          exact w_leF (by omega) (by omega) (c11 o x ho (by omega) (fun y2 h2 => ih (x + 1) y2 (by omega) h2) T 0 y' (by omega) ⟨hy', fun h9 => absurd h9 (Nat.not_lt_zero _), fun h9 => absurd h9 (Nat.not_lt_zero _)⟩)
      have c9 : ∀ (d o : Nat) (y' : ow_MS), o + d = T → S o 0 y' → Tt (fun K t => q_X13_makePermutations_a K t 9 (nI m) (nI T) (nI o) 0 0 0 0 0 0 0 y') Q := by
        intro d
        induction d with
        | zero =>
          intro o y' ho hy'
          have eo : o = T := by omega
          refine u_X13_makePermutations_a_9 ?_; unfold qm_X13_makePermutations_9_a
          rw [nI_1]
          refine w_leT (by omega) (by omega) (ihm (m + 1) y' (by omega) (by omega) (fun m' a b => ?_) hy'.2.2.2)
          by_cases em : m' = m
          · rw [em, ePd]
            exact ⟨hy'.2.1, by rw [← eo]; exact hy'.2.2.1⟩
          · exact hy'.1 m' a (by omega)
        | succ d ih =>
          intro o y' ho hy'
          refine u_X13_makePermutations_a_9 ?_; unfold qm_X13_makePermutations_9_a
          exact w_leF (by omega) (by omega) (c10 o (by omega) (fun y2 h2 => ih (o + 1) y2 (by omega) h2) T 0 y' (by omega) hy')
      let V : Nat → ow_MS → Prop := fun n y' => (∀ m', 1 ≤ m' → m' < m → eP9 y' m') ∧ e74 y' m n ∧ fr pmP z y'
      -- the codes
      have c2 : ∀ (d c : Nat) (y' : ow_MS), c + d = 256 → V (pmC m c) y' → Tt (fun K t => q_X13_makePermutations_a K t 2 (nI m) (nI (pmC m c)) (nI c) 0 0 0 0 0 0 0 y') Q := by
        intro d
        induction d with
        | zero =>
          intro c y' hc hy'
          have e : c = 256 := by omega
          subst e
          refine u_X13_makePermutations_a_2 ?_; unfold qm_X13_makePermutations_2_a
          rw [pmC_th h1 h4, hTT]
          rw [pmC_th h1 h4, hTT] at hy'
          exact w_leT (a := 256) (by omega) (by omega) (c9 T 0 y' (by omega) ⟨hy'.1, hy'.2.1, fun o' x' _ _ g3 => by omega, hy'.2.2⟩)
        | succ d ih =>
          intro c y' hc hy'
          have k8 : ∀ (x2 x4 x5 : Int32) (y2 : ow_MS), x2 = nI (pmC m (c + 1)) → V (pmC m (c + 1)) y2 → Tt (fun K t => q_X13_makePermutations_a K t 8 (nI m) x2 (nI c) x4 x5 0 0 0 0 0 y2) Q := by
            intro x2 x4 x5 y2 e h2
            subst e
            refine u_X13_makePermutations_a_8 ?_; unfold qm_X13_makePermutations_8_a
            rw [nI_1]
            exact ih (c + 1) y2 (by omega) h2
          have k7 : pmA m c = true → ∀ (dd a : Nat) (x4 : Int32) (y2 : ow_MS), a + dd = 4 → V (pmC m c) y2 → (∀ a', a' < a → y2.2.1 74 (96 * m + 4 * pmC m c + a') = nI (imP m (pmC m c) a')) → Tt (fun K t => q_X13_makePermutations_a K t 7 (nI m) (nI (pmC m c)) (nI c) x4 (nI a) 0 0 0 0 0 y2) Q := by
            intro hA dd
            have hlt := pmC_lt h1 h4 (show c < 256 by omega) hA
            rw [hTT] at hlt
            induction dd with
            | zero =>
              intro a x4 y2 ha h2 h3
              have ec : pmC m (c + 1) = pmC m c + 1 := by
                show pmC m c + (if pmA m c = true then 1 else 0) = _
                rw [if_pos hA]
              refine u_X13_makePermutations_a_7 ?_; unfold qm_X13_makePermutations_7_a
              refine w_leT (a := 4) (by omega) (by omega) (k8 _ _ _ _ ?_ ⟨h2.1, ?_, h2.2.2⟩)
              · rw [nI_1, ec]
              · rw [ec]
                intro p' a' g1 g2
                by_cases e : p' = pmC m c
                · rw [e]
                  exact h3 a' (by omega)
                · exact h2.2.1 p' a' (by omega) g2
            | succ dd ihd =>
              intro a x4 y2 ha h2 h3
              have e : sP (nI c) (nI a) = nI (c / 4 ^ a % 4) := sP_c ⟨c, by omega⟩ ⟨a, by omega⟩
              have ei : imP m (pmC m c) a = c / 4 ^ a % 4 := by
                unfold imP
                rw [pmX_at h1 h4 (by omega) hA]
              unfold sP at e
              refine u_X13_makePermutations_a_7 ?_; unfold qm_X13_makePermutations_7_a
              rw [pm96, e, nI_1 a, ← ei]
              refine w_leF (a := 4) (by omega) (by omega) (w_wrI ma74 rfl (by omega) (ihd (a + 1) x4 _ (by omega) ⟨fun m' g1 g2 => ⟨e74_74 (by omega) (thM_le m').2 (by omega) (by omega) (h2.1 m' g1 g2).1, e75_o (h2.1 m' g1 g2).2⟩, fun p' a' g1 g2 => rd_ne (by omega) (h2.2.1 p' a' g1 g2), fr_I2 h2.2.2 (Or.inl rfl)⟩ (fun a' g1 => ?_)))
              by_cases e9 : a' = a
              · rw [e9]
                exact po_usI_at
              · exact rd_ne (by omega) (h3 a' (by omega))
          have k3 : ∀ (dd a : Nat) (x4 : Int32), a + dd = 4 → pmO m c dd a x4 = pmO m c 4 0 1 → Tt (fun K t => q_X13_makePermutations_a K t 3 (nI m) (nI (pmC m c)) (nI c) x4 (nI a) 0 0 0 0 0 y') Q := by
            intro dd
            induction dd with
            | zero =>
              intro a x4 ha e
              have e : x4 = pmO m c 4 0 1 := e
              refine u_X13_makePermutations_a_3 ?_; unfold qm_X13_makePermutations_3_a
              refine w_leT (a := 4) (by omega) (by omega) (w_if (fun h0 => ?_) (fun h0 => ?_))
              · have ec : pmC m (c + 1) = pmC m c := by
                  show pmC m c + (if pmA m c = true then 1 else 0) = _
                  rw [if_neg (fun h9 => (of_decide_eq_true h9) (e ▸ h0))]
                  rfl
                exact k8 _ _ _ _ (by rw [ec]) (by rw [ec]; exact hy')
              · exact k7 (decide_eq_true (fun h9 => h0 (e.trans h9))) 4 0 _ _ (by omega) hy' (fun a' g1 => absurd g1 (Nat.not_lt_zero _))
            | succ dd ihd =>
              intro a x4 ha e
              have k5 : ∀ (e5 b : Nat) (x4' : Int32), b + e5 = a → pmO m c dd (a + 1) (pmI (nI c) (sP (nI c) (nI a)) e5 b x4') = pmO m c 4 0 1 → Tt (fun K t => q_X13_makePermutations_a K t 5 (nI m) (nI (pmC m c)) (nI c) x4' (nI a) (sP (nI c) (nI a)) (nI b) 0 0 0 y') Q := by
                intro e5
                induction e5 with
                | zero =>
                  intro b x4' hb e'
                  refine u_X13_makePermutations_a_5 ?_; unfold qm_X13_makePermutations_5_a
                  rw [nI_1]
                  exact w_leT (by omega) (by omega) (ihd (a + 1) x4' (by omega) e')
                | succ e5 ih5 =>
                  intro b x4' hb e'
                  have e' : pmO m c dd (a + 1) (pmI (nI c) (sP (nI c) (nI a)) e5 (b + 1) (x4' &&& (if sP (nI c) (nI b) = sP (nI c) (nI a) then 0 else 1))) = pmO m c 4 0 1 := e'
                  have k6 : ∀ (t0 : Int32), t0 = (if sP (nI c) (nI b) = sP (nI c) (nI a) then 0 else 1) → Tt (fun K t => q_X13_makePermutations_a K t 6 (nI m) (nI (pmC m c)) (nI c) x4' (nI a) (sP (nI c) (nI a)) (nI b) 0 t0 x4' y') Q := by
                    intro t0 ht
                    subst ht
                    refine u_X13_makePermutations_a_6 ?_; unfold qm_X13_makePermutations_6_a
                    rw [nI_1]
                    exact ih5 (b + 1) _ (by omega) e'
                  refine u_X13_makePermutations_a_5 ?_; unfold qm_X13_makePermutations_5_a
                  refine w_leF (by omega) (by omega) (w_if (fun h9 => k6 _ ?_) (fun h9 => k6 _ ?_))
                  · exact (if_pos h9).symm
                  · exact (if_neg h9).symm
              have e : pmO m c dd (a + 1) (pmI (nI c) (sP (nI c) (nI a)) a 0 (x4 &&& (if nI m ≤ nI a then (if sP (nI c) (nI a) = nI a then 1 else 0) else (if nI m ≤ sP (nI c) (nI a) then 0 else 1)))) = pmO m c 4 0 1 := e
              have k4 : ∀ (t0 : Int32), t0 = (if nI m ≤ nI a then (if sP (nI c) (nI a) = nI a then 1 else 0) else (if nI m ≤ sP (nI c) (nI a) then 0 else 1)) → Tt (fun K t => q_X13_makePermutations_a K t 4 (nI m) (nI (pmC m c)) (nI c) x4 (nI a) (sP (nI c) (nI a)) 0 0 t0 x4 y') Q := by
                intro t0 ht
                subst ht
                refine u_X13_makePermutations_a_4 ?_; unfold qm_X13_makePermutations_4_a
                exact k5 a 0 _ (by omega) e
              refine u_X13_makePermutations_a_3 ?_; unfold qm_X13_makePermutations_3_a
              refine w_leF (a := 4) (by omega) (by omega) (w_if (fun h9 => w_if (fun h8 => k4 _ ?_) (fun h8 => k4 _ ?_)) (fun h9 => w_if (fun h8 => k4 _ ?_) (fun h8 => k4 _ ?_)))
              · exact ((if_pos h9).trans (if_pos h8)).symm
              · exact ((if_pos h9).trans (if_neg h8)).symm
              · exact ((if_neg h9).trans (if_pos h8)).symm
              · exact ((if_neg h9).trans (if_neg h8)).symm
          refine u_X13_makePermutations_a_2 ?_; unfold qm_X13_makePermutations_2_a
          exact w_leF (a := 256) (by omega) (by omega) (k3 4 0 1 (by omega) rfl)
      refine u_X13_makePermutations_a_1 ?_; unfold qm_X13_makePermutations_1_a
      exact w_ltF (a := 4) (by omega) (by omega) (c2 256 0 y (by omega) ⟨hy, fun p a h9 => absurd h9 (Nat.not_lt_zero _), hf⟩)
  refine e_X13_makePermutations_a ?_
  refine u_X13_makePermutations_a_0 ?_; unfold qm_X13_makePermutations_0_a
  exact key 4 1 z (by omega) (by omega) (fun m' a b => by omega) fr_rf
end
section
/-! 99zzzzzzzzzzzzzzj.xmp2 -/
/-! permutations: the class's tables; how its numbers go with the reference's -/
def lpA9 (x2 : Int32) : Int32 := ((((((1 : Int32) <<< (((3 - (x2 &&& 3)) : Int32) &&& 31)) ||| ((1 : Int32) <<< (((3 - (((x2 : Int32) >>> ((2 : Int32) &&& 31)) &&& 3)) : Int32) &&& 31))) ||| ((1 : Int32) <<< (((3 - (((x2 : Int32) >>> ((4 : Int32) &&& 31)) &&& 3)) : Int32) &&& 31))) ||| ((1 : Int32) <<< (((3 - ((x2 : Int32) >>> ((6 : Int32) &&& 31))) : Int32) &&& 31))))
def lpV (x2 : Int32) : Int32 := ((((3 - (x2 &&& 3)) ||| (((3 - (((x2 : Int32) >>> ((2 : Int32) &&& 31)) &&& 3)) : Int32) <<< ((4 : Int32) &&& 31))) ||| (((3 - (((x2 : Int32) >>> ((4 : Int32) &&& 31)) &&& 3)) : Int32) <<< ((8 : Int32) &&& 31))) ||| (((3 - ((x2 : Int32) >>> ((6 : Int32) &&& 31))) : Int32) <<< ((12 : Int32) &&& 31)))
def gPK9 : Nat := 0x12301320213023103120321102310321203123013021320201320312103213023012310301230213102312032013210
def gCJ9 : Nat := 0xbc6ab7a6d0995a3a2a44385c8608c0858b31b6375d52f249543844c438c0ba6af5c647a05449b6c3814cc409c03c834229377d62b1d9b381448619c0834a39d947206545a62fbd4c8638403a824a49b0196d37c52bbd5cc41840859c8a2a3760a447a5a3386ab994c0bc44c24ad0439541b52f384b35d4c0829d4459a77852364a24b88d3596a03b42f1a550a3ac82464cb88ab99aa0bc84464527185af42ad4838cb9d4a03a4237b65720a2ca594883ab3598a03c8cc9b53740ac35c544816afa05c0ba4481da47619b322a2b814347d5c03b4d3649505962445923b89d4786a0828ab245a799a4c1a6c8b882fa3aa0bd843426302154b63653399cfa5420844a45aad7189289c9ac39ab47b8203a8c85a5b063a2f9da54bd4a320440835cc7c5474192ba4ad3bd424194403a4cb42a579d6d4645af83844184a0bcab3a5927599487b62c83823208a0845cf636d7a56534254b3984321420bdab49ca307b9ac5a928398a418820
def gIV9 : Nat := 0xbc6af5a6d0a39489b64c398a320820
def gBJ9 (m : Nat) : Nat := if m = 4 then 0x443214c74254b635cf84653a56d7 else if m = 3 then 0x110c85 else if m = 2 then 0x1 else 0x0
def pk9 (k : Nat) : Int32 := nI (dgN gPK9 16 k)
def cjG (o x : Nat) : Nat := dgN gCJ9 5 (24 * o + x)
def ivC (o : Nat) : Nat := dgN gIV9 5 o
def bjM (m p : Nat) : Nat := dgN (gBJ9 m) 5 p
def lpC : Nat → Nat
  | 0 => 0
  | c + 1 => lpC c + (if lpA9 (nI c) = 15 then 1 else 0)
def lpW : Nat → Nat → Nat → Bool
  | 0, _, k => decide (k = 24)
  | d + 1, c, k => if lpA9 (nI c) = 15 then (decide (pk9 k = lpV (nI c)) && decide (k < 24) && lpW d (c + 1) (k + 1)) else lpW d (c + 1) k
theorem lpW_c : lpW 256 0 0 = true := by decide +kernel
theorem lpW_at : ∀ (d c : Nat), lpW d c (lpC c) = true → (∀ c', c ≤ c' → c' < c + d → lpA9 (nI c') = 15 → pk9 (lpC c') = lpV (nI c') ∧ lpC c' < 24) ∧ lpC (c + d) = 24
  | 0, c, h => ⟨fun c' h1 h3 _ => by omega, of_decide_eq_true h⟩
  | d + 1, c, h => by
    rw [lpW] at h
    have e : lpC (c + 1) = lpC c + (if lpA9 (nI c) = 15 then 1 else 0) := rfl
    have ed : c + 1 + d = c + (d + 1) := by omega
    by_cases q : lpA9 (nI c) = 15
    · rw [if_pos q] at h
      rw [if_pos q] at e
      obtain ⟨a1, a2⟩ := (Bool.and_eq_true _ _).mp h
      obtain ⟨a3, a4⟩ := (Bool.and_eq_true _ _).mp a1
      obtain ⟨i1, i2⟩ := lpW_at d (c + 1) (by rw [e]; exact a2)
      refine ⟨fun c' h1 h3 hA => ?_, by rw [← ed]; exact i2⟩
      by_cases k : c' = c
      · rw [k]
        exact ⟨of_decide_eq_true a3, of_decide_eq_true a4⟩
      · exact i1 c' (by omega) (by omega) hA
    · rw [if_neg q] at h
      rw [if_neg q, Nat.add_zero] at e
      obtain ⟨i1, i2⟩ := lpW_at d (c + 1) (by rw [e]; exact h)
      refine ⟨fun c' h1 h3 hA => ?_, by rw [← ed]; exact i2⟩
      by_cases k : c' = c
      · rw [k] at hA
        exact absurd hA q
      · exact i1 c' (by omega) (by omega) hA
def cjW (o x : Int32) : Nat → Int32
  | 0 => 0
  | j + 1 => cjW o x j ||| (foJ o (foJ x (nI j)) <<< (((4 * foJ o (nI j)) : Int32) &&& 31))
theorem cj_c : ∀ o : Fin 24, ∀ x : Fin 24, cjW (pk9 o.val) (pk9 x.val) 4 = pk9 (cjG o.val x.val) ∧ cjG o.val x.val < 24 := by decide +kernel
theorem iv_c : ∀ o : Fin 24, foV (pk9 o.val) 4 = pk9 (ivC o.val) ∧ ivC o.val < 24 := by decide +kernel
theorem pk_i9 : ∀ o : Fin 24, ∀ x : Fin 24, pk9 o.val = pk9 x.val → o.val = x.val := by decide +kernel
def gBT (m o x : Nat) : Bool := decide (bjM m o < thM m) && decide (cjG (bjM m o) (bjM m x) = bjM m (dnM m o x)) && decide (cjG (ivC (bjM m o)) (bjM m x) = bjM m (bkM m o x)) && (decide (bjM m o = bjM m x) == decide (o = x))
theorem bt_1 : ∀ o : Fin 1, ∀ x : Fin 1, gBT 1 o.val x.val = true := by decide +kernel
theorem bt_2 : ∀ o : Fin 2, ∀ x : Fin 2, gBT 2 o.val x.val = true := by decide +kernel
theorem bt_3 : ∀ o : Fin 6, ∀ x : Fin 6, gBT 3 o.val x.val = true := by decide +kernel
theorem bt_4 : ∀ o : Fin 24, ∀ x : Fin 24, gBT 4 o.val x.val = true := by decide +kernel
theorem bt_n {m o x : Nat} (h1 : 1 ≤ m) (h4 : m ≤ 4) (ho : o < thM m) (hx : x < thM m) : bjM m o < thM m ∧ cjG (bjM m o) (bjM m x) = bjM m (dnM m o x) ∧ cjG (ivC (bjM m o)) (bjM m x) = bjM m (bkM m o x) ∧ (bjM m o = bjM m x ↔ o = x) := by
  have k : gBT m o x = true := by
    have : m = 1 ∨ m = 2 ∨ m = 3 ∨ m = 4 := by omega
    rcases this with rfl | rfl | rfl | rfl
    · exact bt_1 ⟨o, ho⟩ ⟨x, hx⟩
    · exact bt_2 ⟨o, ho⟩ ⟨x, hx⟩
    · exact bt_3 ⟨o, ho⟩ ⟨x, hx⟩
    · exact bt_4 ⟨o, ho⟩ ⟨x, hx⟩
  unfold gBT at k
  simp only [Bool.and_eq_true, beq_iff_eq, decide_eq_true_eq, decide_eq_decide] at k
  exact ⟨k.1.1.1, k.1.1.2, k.1.2, k.2⟩
section XMQ
variable {z : ow_MS}
theorem ti_permE : Te (fun K => ce_X0_listPermutations_b0 K 53001 z) (fun z1 => (∀ k, k < 24 → z1.2.1 53001 k = pk9 k) ∧ fr (fun g => g = 53001) z z1) := by
  let Q : ow_MS → Prop := fun z1 => (∀ k, k < 24 → z1.2.1 53001 k = pk9 k) ∧ fr (fun g => g = 53001) z z1
  obtain ⟨w1, w2⟩ := lpW_at 256 0 lpW_c
  have mono : ∀ d c, lpC c ≤ lpC (c + d) := by
    intro d
    induction d with
    | zero => exact fun c => Nat.le_refl _
    | succ d ih => exact fun c => Nat.le_trans (ih c) (by show _ ≤ lpC (c + d) + _; omega)
  have c1 : ∀ (d m : Nat) (y : ow_MS), m + d = 256 → (∀ k, k < lpC m → y.2.1 53001 k = pk9 k) → fr (fun g => g = 53001) z y → Tt (fun K t => c_X0_listPermutations_b0 K t 1 (nI (lpC m)) (nI m) 0 0 0 0 53001 y) Q := by
    intro d
    induction d with
    | zero =>
      intro m y hm hk hf
      have e : m = 0 + 256 := by omega
      rw [e, w2] at hk
      refine u_X0_listPermutations_b0_1 ?_; unfold cm_X0_listPermutations_1_b0
      exact w_leT (a := 256) (by omega) (by omega) (w_some ⟨hk, hf⟩)
    | succ d ih =>
      intro m y hm hk hf
      have ec : lpC (m + 1) = lpC m + (if lpA9 (nI m) = 15 then 1 else 0) := rfl
      have b24 : lpC m ≤ 24 := by
        have := mono (256 - m) m
        rw [show m + (256 - m) = 0 + 256 by omega, w2] at this
        exact this
      have c2 : ∀ (k : Nat) (a b c e : Int32) (y : ow_MS), k = lpC (m + 1) → (∀ k, k < lpC (m + 1) → y.2.1 53001 k = pk9 k) → fr (fun g => g = 53001) z y → Tt (fun K t => c_X0_listPermutations_b0 K t 2 (nI k) (nI m) a b c e 53001 y) Q := by
        intro k a b c e y hk1 hk hf
        refine u_X0_listPermutations_b0_2 ?_; unfold cm_X0_listPermutations_2_b0
        rw [nI_1, hk1]
        exact ih (m + 1) y (by omega) hk hf
      refine u_X0_listPermutations_b0_1 ?_; unfold cm_X0_listPermutations_1_b0
      rw [show nI (lpC m) + 1 = nI (lpC m + 1) from nI_1 _]
      refine w_leF (a := 256) (by omega) (by omega) (w_le (a := 24) (by omega) (by omega) (fun h24 => w_some ⟨fun k hk1 => hk k (by omega), hf⟩) (fun h24 => w_if (fun e => ?_) (fun e => ?_)))
      · have e : lpA9 (nI m) = 15 := e
        rw [if_pos e] at ec
        obtain ⟨v1, v2⟩ := w1 m (Nat.zero_le _) (by omega) e
        refine w_ctI ch_0r rfl (show lpC m < 24 by omega) (c2 (lpC m + 1) _ _ _ _ _ ec.symm (fun k hk1 => ?_) (fr_I2 hf rfl))
        by_cases ek : k = lpC m
        · rw [ek, po_usI_at]
          exact v1.symm
        · rw [po_usI_ne ek]
          exact hk k (by omega)
      · have e : ¬ lpA9 (nI m) = 15 := e
        rw [if_neg e, Nat.add_zero] at ec
        exact c2 (lpC m) _ _ _ _ _ ec.symm (fun k hk1 => hk k (by omega)) hf
  refine e_X0_listPermutations_b0 ?_
  refine u_X0_listPermutations_b0_0 ?_; unfold cm_X0_listPermutations_0_b0
  exact c1 256 0 z (by omega) (fun k hk => absurd hk (Nat.not_lt_zero _)) fr_rf
theorem ti_indexE {k : Nat} (hk : k < 24) (hz : ∀ k, k < 24 → z.2.1 53001 k = pk9 k) : Te (fun K => ce_X0_indexOf_b0 K 53001 (pk9 k) z) (fun r => r.1 = nI k ∧ r.2 = z) := by
  let Q : Int32 × ow_MS → Prop := fun r => r.1 = nI k ∧ r.2 = z
  have hl : (Int32.ofNat (uw_len cT0 z 53001)) = nI 24 := by
    show nI (cT0.2 53001).2.1 = nI 24
    rw [ch_0r]
  have c1 : ∀ (d m : Nat), m + d = k → Tt (fun K t => c_X0_indexOf_b0 K t 1 (pk9 k) (nI m) 53001 z) Q := by
    intro d
    induction d with
    | zero =>
      intro m hm
      have em : m = k := by omega
      subst em
      refine u_X0_indexOf_b0_1 ?_; unfold cm_X0_indexOf_1_b0
      rw [hl]
      exact w_leF (by omega) (by omega) (w_crI ch_0r rfl (show m < 24 by omega) (hz m hk) (w_ifT rfl (w_some ⟨rfl, rfl⟩)))
    | succ d ih =>
      intro m hm
      refine u_X0_indexOf_b0_1 ?_; unfold cm_X0_indexOf_1_b0
      rw [hl, nI_1]
      refine w_leF (by omega) (by omega) (w_crI ch_0r rfl (show m < 24 by omega) (hz m (by omega)) (w_ifF (fun e => ?_) (ih (m + 1) (by omega))))
      have := pk_i9 ⟨m, by omega⟩ ⟨k, hk⟩ e
      have : m = k := this
      omega
  refine e_X0_indexOf_b0 ?_
  refine u_X0_indexOf_b0_0 ?_; unfold cm_X0_indexOf_0_b0
  exact c1 k 0 (by omega)
theorem ti_imageE {a b : Int32} : Te (fun K => ce_X5_image_b0 K a b z) (fun r => r.1 = foJ a b ∧ r.2 = z) := by
  refine e_X5_image_b0 ?_; unfold cm_X5_image_0_b0
  exact w_some ⟨rfl, rfl⟩
theorem ti_invertE {a : Int32} : Te (fun K => ce_X5_invert_b0 K a 4 z) (fun r => r.1 = foV a 4 ∧ r.2 = z) := by
  have c1 : ∀ (d m : Nat), m + d = 4 → Tt (fun K t => c_X5_invert_b0 K t 1 a 4 (foV a m) (nI m) z) (fun r => r.1 = foV a 4 ∧ r.2 = z) := by
    intro d
    induction d with
    | zero =>
      intro m hm
      have em : m = 4 := by omega
      subst em
      refine u_X5_invert_b0_1 ?_; unfold cm_X5_invert_1_b0
      exact w_leT (a := 4) (by omega) (by omega) (w_some ⟨rfl, rfl⟩)
    | succ d ih =>
      intro m hm
      refine u_X5_invert_b0_1 ?_; unfold cm_X5_invert_1_b0
      refine w_leF (a := 4) (by omega) (by omega) (w_cs1 ti_imageE (fun v y1 ⟨e0, e⟩ => ?_))
      have e : y1 = z := e
      have e0 : v = foJ a (nI m) := e0
      rw [e, e0, nI_1]
      exact ih (m + 1) (by omega)
  refine e_X5_invert_b0 ?_
  refine u_X5_invert_b0_0 ?_; unfold cm_X5_invert_0_b0
  exact c1 4 0 (by omega)
/-- the class's tables -/
def cjT (y : ow_MS) : Prop := (∀ o x, o < 24 → x < 24 → y.2.1 41006 (24 * o + x) = nI (cjG o x)) ∧ ∀ o, o < 24 → y.2.1 41007 o = nI (ivC o)
theorem ti_b0E : Te (fun K => ce_X0i_b0 K 41000 53001 z) cjT := by
  let I : Nat → Nat → ow_MS → Prop := fun m n y => (∀ o x, o < 24 → x < 24 → (o < m ∨ o = m ∧ x < n) → y.2.1 41006 (24 * o + x) = nI (cjG o x)) ∧ (∀ o, o < m → y.2.1 41007 o = nI (ivC o)) ∧ ∀ k, k < 24 → y.2.1 53001 k = pk9 k
  have c1 : ∀ (d m : Nat) (y : ow_MS), m + d = 24 → I m 0 y → Tt (fun K t => c_X0i_b0 K t 1 (nI m) 0 0 0 41000 53001 y) cjT := by
    intro d
    induction d with
    | zero =>
      intro m y hm hI
      have e : m = 24 := by omega
      subst e
      refine u_X0i_b0_1 ?_; unfold cm_X0i_1_b0
      exact w_leT (a := 24) (by omega) (by omega) (w_some ⟨fun o x ho hx => hI.1 o x ho hx (Or.inl ho), fun o ho => hI.2.1 o ho⟩)
    | succ d ih =>
      intro m y hm hI
      have c2 : ∀ (e n : Nat) (y : ow_MS), n + e = 24 → I m n y → Tt (fun K t => c_X0i_b0 K t 2 (nI m) (nI n) 0 0 41000 53001 y) cjT := by
        intro e
        induction e with
        | zero =>
          intro n y hn hI
          have e : n = 24 := by omega
          subst e
          obtain ⟨v1, v2⟩ := iv_c ⟨m, by omega⟩
          refine u_X0i_b0_2 ?_; unfold cm_X0i_2_b0
          refine w_leT (a := 24) (by omega) (by omega) (w_crI ch_0r rfl (show m < 24 by omega) (hI.2.2 m (by omega)) (w_cs1 ti_invertE (fun v y1 ⟨e0, e⟩ => ?_)))
          have e : y1 = y := e
          have e0 : v = foV (pk9 m) 4 := e0
          rw [e, e0, show foV (pk9 m) 4 = pk9 (ivC m) from v1]
          refine w_cs1 (ti_indexE v2 hI.2.2) (fun v y2 ⟨k2, e⟩ => ?_)
          have e : y2 = y := e
          have k2 : v = nI (ivC m) := k2
          rw [e, k2, nI_1]
          refine w_ctB ch_07 rfl (show m < 24 by omega) ?_
          rw [nar_24 ⟨ivC m, v2⟩]
          refine ih (m + 1) _ (by omega) ⟨fun o x ho hx h9 => rd_ot (by omega) (hI.1 o x ho hx (by omega)), fun o ho => ?_, fun k hk => rd_ot (by omega) (hI.2.2 k hk)⟩
          by_cases e9 : o = m
          · rw [e9]
            exact po_usI_at
          · exact rd_ne e9 (hI.2.1 o (by omega))
        | succ e ihe =>
          intro n y hn hI
          have hm24 : m < 24 := by omega
          have hn24 : n < 24 := by omega
          obtain ⟨v1, v2⟩ := cj_c ⟨m, hm24⟩ ⟨n, hn24⟩
          have c3 : ∀ (e5 q : Nat), q + e5 = 4 → Tt (fun K t => c_X0i_b0 K t 3 (nI m) (nI n) (cjW (pk9 m) (pk9 n) q) (nI q) 41000 53001 y) cjT := by
            intro e5
            induction e5 with
            | zero =>
              intro q hq
              have eq : q = 4 := by omega
              subst eq
              refine u_X0i_b0_3 ?_; unfold cm_X0i_3_b0
              rw [show cjW (pk9 m) (pk9 n) 4 = pk9 (cjG m n) from v1]
              refine w_leT (a := 4) (by omega) (by omega) (w_cs1 (ti_indexE v2 hI.2.2) (fun v y2 ⟨k2, e⟩ => ?_))
              have e : y2 = y := e
              have k2 : v = nI (cjG m n) := k2
              rw [e, k2, nI_1, show (24 : Int32) * nI m = nI (24 * m) from pk_mul 24 m, nI_add]
              refine w_ctB ch_06 rfl (show 24 * m + n < 576 by omega) ?_
              rw [nar_24 ⟨cjG m n, v2⟩]
              refine ihe (n + 1) _ (by omega) ⟨fun o x ho hx h9 => ?_, fun o ho => rd_ot (by omega) (hI.2.1 o ho), fun k hk => rd_ot (by omega) (hI.2.2 k hk)⟩
              by_cases e9 : o = m ∧ x = n
              · rw [e9.1, e9.2]
                exact po_usI_at
              · exact rd_ne (by omega) (hI.1 o x ho hx (by omega))
            | succ e5 ih5 =>
              intro q hq
              refine u_X0i_b0_3 ?_; unfold cm_X0i_3_b0
              refine w_leF (a := 4) (by omega) (by omega) (w_crI ch_0r rfl hm24 (hI.2.2 m hm24) (w_cs1 ti_imageE (fun w1 y1 ⟨e0, e⟩ => ?_)))
              have e : y1 = y := e
              have e0 : w1 = foJ (pk9 m) (nI q) := e0
              rw [e, e0]
              refine w_crI ch_0r rfl hm24 (hI.2.2 m hm24) (w_crI ch_0r rfl hn24 (hI.2.2 n hn24) (w_cs1 ti_imageE (fun w2 y2 ⟨e0, e⟩ => ?_)))
              have e : y2 = y := e
              have e0 : w2 = foJ (pk9 n) (nI q) := e0
              rw [e, e0]
              refine w_cs1 ti_imageE (fun w3 y3 ⟨e0, e⟩ => ?_)
              have e : y3 = y := e
              have e0 : w3 = foJ (pk9 m) (foJ (pk9 n) (nI q)) := e0
              rw [e, e0, nI_1]
              exact ih5 (q + 1) (by omega)
          refine u_X0i_b0_2 ?_; unfold cm_X0i_2_b0
          exact w_leF (a := 24) (by omega) (by omega) (c3 4 0 (by omega))
      refine u_X0i_b0_1 ?_; unfold cm_X0i_1_b0
      exact w_leF (a := 24) (by omega) (by omega) (c2 24 0 y (by omega) hI)
  refine e_X0i_b0 ?_
  refine u_X0i_b0_0 ?_; unfold cm_X0i_0_b0
  exact w_cs0 ti_permE (fun y ⟨hp, _⟩ => c1 24 0 y (by omega) ⟨fun o x _ _ h9 => by omega, fun o ho => absurd ho (Nat.not_lt_zero _), hp⟩)
end XMQ
end
section
/-! 99zzzzzzzzzzzzzzk.xmp3 -/
/-! counting: a property that just n things have -/
def cnt9 {α : Type} (Φ : α → Prop) (n : Nat) : Prop := ∃ Ls : List α, Ls.Nodup ∧ (∀ L, L ∈ Ls ↔ Φ L) ∧ Ls.length = n
def sm9 (f : Nat → Nat) : Nat → Nat
  | 0 => 0
  | k + 1 => sm9 f k + f k
section CNT
variable {α β : Type} {Φ Ψ : α → Prop} {n : Nat}
theorem cnt_uni [DecidableEq α] {n' : Nat} (h : cnt9 Φ n) (h' : cnt9 Φ n') : n = n' := by
  obtain ⟨l, a1, a2, a3⟩ := h
  obtain ⟨l', b1, b2, b3⟩ := h'
  have k1 := nodup_le l l' a1 (fun x hx => (b2 x).mpr ((a2 x).mp hx))
  have k2 := nodup_le l' l b1 (fun x hx => (a2 x).mpr ((b2 x).mp hx))
  omega
theorem cnt_cg (e : ∀ L, Φ L ↔ Ψ L) (h : cnt9 Φ n) : cnt9 Ψ n := by
  obtain ⟨l, a1, a2, a3⟩ := h
  exact ⟨l, a1, fun L => (a2 L).trans (e L), a3⟩
theorem cnt_0 (h : ∀ L, ¬ Φ L) : cnt9 Φ 0 := ⟨[], List.nodup_nil, fun L => ⟨fun h9 => absurd h9 List.not_mem_nil, fun h9 => absurd h9 (h L)⟩, rfl⟩
theorem cnt_1 {L0 : α} (h : ∀ L, Φ L ↔ L = L0) : cnt9 Φ 1 := ⟨[L0], List.nodup_cons.mpr ⟨List.not_mem_nil, List.nodup_nil⟩, fun L => by rw [List.mem_singleton]; exact (h L).symm, rfl⟩
theorem cnt_bij {Θ : β → Prop} (f : α → β) (hf : ∀ x, Φ x → Θ (f x)) (hi : ∀ x y, Φ x → Φ y → f x = f y → x = y) (hs : ∀ y, Θ y → ∃ x, Φ x ∧ f x = y) (h : cnt9 Φ n) : cnt9 Θ n := by
  obtain ⟨l, a1, a2, a3⟩ := h
  refine ⟨l.map f, ?_, fun y => ?_, by rw [List.length_map]; exact a3⟩
  · have key : ∀ l : List α, l.Nodup → (∀ x, x ∈ l → Φ x) → (l.map f).Nodup := by
      intro l
      induction l with
      | nil => exact fun _ _ => List.nodup_nil
      | cons a l ih =>
        intro hn hx
        obtain ⟨n1, n2⟩ := List.nodup_cons.mp hn
        refine List.nodup_cons.mpr ⟨fun h9 => ?_, ih n2 (fun x h9 => hx x (List.mem_cons_of_mem _ h9))⟩
        obtain ⟨b, b1, b2⟩ := List.mem_map.mp h9
        have := hi b a (hx b (List.mem_cons_of_mem _ b1)) (hx a List.mem_cons_self) b2
        rw [this] at b1
        exact n1 b1
    exact key l a1 (fun x hx => (a2 x).mp hx)
  · rw [List.mem_map]
    constructor
    · rintro ⟨x, x1, rfl⟩
      exact hf x ((a2 x).mp x1)
    · intro hy
      obtain ⟨x, x1, x2⟩ := hs y hy
      exact ⟨x, (a2 x).mpr x1, x2⟩
theorem cnt_or {n' : Nat} (hd : ∀ L, Φ L → Ψ L → False) (h : cnt9 Φ n) (h' : cnt9 Ψ n') : cnt9 (fun L => Φ L ∨ Ψ L) (n + n') := by
  obtain ⟨l, a1, a2, a3⟩ := h
  obtain ⟨l', b1, b2, b3⟩ := h'
  refine ⟨l ++ l', List.nodup_append.mpr ⟨a1, b1, fun x hx y hy e => ?_⟩, fun L => ?_, by rw [List.length_append, a3, b3]⟩
  · rw [← e] at hy
    exact hd x ((a2 x).mp hx) ((b2 x).mp hy)
  · rw [List.mem_append]
    exact or_congr (a2 L) (b2 L)
theorem cnt_sm {Φ : Nat → α → Prop} {f : Nat → Nat} (hd : ∀ L p q, Φ p L → Φ q L → p = q) : ∀ (k : Nat), (∀ p, p < k → cnt9 (Φ p) (f p)) → cnt9 (fun L => ∃ p, p < k ∧ Φ p L) (sm9 f k)
  | 0, _ => cnt_0 (fun L ⟨p, hp, _⟩ => absurd hp (Nat.not_lt_zero _))
  | k + 1, h => by
    have ih := cnt_sm hd k (fun p hp => h p (by omega))
    refine cnt_cg (fun L => ?_) (cnt_or (fun L ⟨p, p1, p2⟩ q => ?_) ih (h k (by omega)))
    · constructor
      · rintro (⟨p, p1, p2⟩ | h9)
        · exact ⟨p, by omega, p2⟩
        · exact ⟨k, by omega, h9⟩
      · rintro ⟨p, p1, p2⟩
        by_cases e : p = k
        · rw [e] at p2
          exact Or.inr p2
        · exact Or.inl ⟨p, by omega, p2⟩
    · have := hd L p k p2 q
      omega
end CNT
end
section
/-! 99zzzzzzzzzzzzzzl.xmp4 -/
/-! maps: the reference gives and takes back -/
section XM4
variable {z : ow_MS}
theorem xp_give {a m b q : Nat} {T : List Nat} (ha : a ≤ 18) (hI : mgI z a m T) (hb : b < a) (hn : b ∉ T) : Te (fun K => qe_X13_give K (nI b) (nI q) z) (fun z1 => z1.2.1 77 b = nI q ∧ ∀ b', b' ≠ b → z1.2.1 77 b' = z.2.1 77 b') := by
  have hr := mgI_room hI hb hn
  obtain ⟨h1, -⟩ := hI
  refine e_X13_give ?_; unfold qm_X13_give_0
  exact w_wrI ml77 rfl (by omega) (w_rdF (x := nI T.length) h1 (w_wrI ml78 rfl (by omega) (w_rdF (x := nI T.length) h1 (w_wrF (w_some ⟨rd_ot (by omega) po_usI_at, fun b' hb' => rd_ot (by omega) (rd_ne hb' rfl)⟩)))))
theorem xp_takeBack {a m k : Nat} (ha : a ≤ 18) : ∀ {z : ow_MS} {T E : List Nat}, mgI z a m (T ++ E) → T.length = k → Te (fun K => qe_X13_takeBack K (nI k) z) (fun z1 => (mgI z1 a m T ∧ fr gvH z z1) ∧ ∀ b, b ∈ T → z1.2.1 77 b = z.2.1 77 b) := by
  intro z T E hI hk
  have key : ∀ (d : Nat) (E : List Nat) (y : ow_MS), E.length = d → mgI y a m (T ++ E) → fr gvH z y → (∀ b, b ∈ T → y.2.1 77 b = z.2.1 77 b) → Tt (fun K i => q_X13_takeBack K i 0 (nI k) y) (fun z1 => (mgI z1 a m T ∧ fr gvH z z1) ∧ ∀ b, b ∈ T → z1.2.1 77 b = z.2.1 77 b) := by
    intro d
    induction d with
    | zero =>
      intro E y hE hI hf hu
      have hE : E = [] := List.length_eq_zero_iff.mp hE
      subst hE
      rw [List.append_nil] at hI
      have := mgI_len hI
      refine u_X13_takeBack_0 ?_; unfold qm_X13_takeBack_0
      exact w_rdF hI.1 (w_leT (by omega) (by omega) (w_some ⟨⟨hI, hf⟩, hu⟩))
    | succ d ih =>
      intro E y hE hI hf hu
      have hlen := mgI_len hI
      rw [List.length_append] at hlen
      obtain ⟨F, b, rfl⟩ : ∃ F b, E = F ++ [b] := by
        rcases List.eq_nil_or_concat E with h9 | ⟨F, b, h9⟩
        · rw [h9] at hE
          cases hE
        · exact ⟨F, b, by rw [h9, List.concat_eq_append]⟩
      rw [List.length_append] at hE hlen
      have hE : F.length + 1 = d + 1 := hE
      have hlen : T.length + (F.length + 1) ≤ a := hlen
      obtain ⟨h1, h2, h3, h4, h5⟩ := hI
      rw [← List.append_assoc] at h1 h2 h3 h4 h5
      have hb : b < a := h3 b (List.mem_append_right _ (List.mem_singleton.mpr rfl))
      have hL : ((T ++ F) ++ [b]).length = T.length + F.length + 1 := by
        rw [List.length_append, List.length_append]
        rfl
      rw [hL] at h1
      have h78 := h4 (T.length + F.length) b (by rw [List.getElem?_append_right (by rw [List.length_append]; exact Nat.le_refl _), List.length_append, Nat.sub_self]; rfl)
      have hnb : b ∉ T ++ F := fun h9 => (List.nodup_append.mp h2).2.2 b h9 b (List.mem_singleton.mpr rfl) rfl
      have e79 : nI (T.length + F.length + 1) - 1 = nI (T.length + F.length) := pk_sub (b := 1) (by omega)
      refine u_X13_takeBack_0 ?_; unfold qm_X13_takeBack_0
      refine w_rdF h1 (w_leF (by omega) (by omega) (w_rdF h1 (w_wrF (w_rdF (x := nI (T.length + F.length)) (po_usF_at.trans e79) (w_rdI ml78 rfl (by omega) h78 (w_wrI ml77 rfl (by omega) (ih F _ (by omega) ⟨?_, (List.nodup_append.mp h2).1, fun c hc => h3 c (List.mem_append_left _ hc), fun i c hc => ?_, fun c hc => ?_⟩ (fr_I2 (fr_F2 hf (by unfold gvH; omega)) (by unfold gvH; omega)) (fun c hc => rd_ne (fun e => hnb (e ▸ List.mem_append_left _ hc)) (hu c hc)))))))))
      · show (usF y 79 (nI (T.length + F.length + 1) - 1)).1 79 = _
        rw [po_usF_at, e79, List.length_append]
      · show (usI (usF y 79 (nI (T.length + F.length + 1) - 1)) 77 b (-1)).2.1 78 i = nI c
        refine rd_ot (by omega) (h4 i c ?_)
        rw [List.getElem?_append_left (List.getElem?_eq_some_iff.mp hc).1]
        exact hc
      · show (c ∉ T ++ F ∧ (usI (usF y 79 (nI (T.length + F.length + 1) - 1)) 77 b (-1)).2.1 77 c = -1) ∨ (c ∈ T ++ F ∧ ∃ q, q < thM m ∧ (usI (usF y 79 (nI (T.length + F.length + 1) - 1)) 77 b (-1)).2.1 77 c = nI q)
        by_cases hcb : c = b
        · rw [hcb]
          exact Or.inl ⟨hnb, po_usI_at⟩
        · rcases h5 c hc with ⟨k1, k2⟩ | ⟨k1, q, k3, k4⟩
          · exact Or.inl ⟨fun h9 => k1 (List.mem_append_left _ h9), rd_ne hcb k2⟩
          · refine Or.inr ⟨?_, q, k3, rd_ne hcb k4⟩
            rcases List.mem_append.mp k1 with h8 | h8
            · exact h8
            · exact absurd (by simpa using h8) hcb
  refine e_X13_takeBack ?_
  exact key E.length E z rfl hI fr_rf (fun _ _ => rfl)
end XM4
end
section
/-! 99zzzzzzzzzzzzzzm.xmp5 -/
/-! maps: the reference follows what is given -/
def opM (m : Nat) (s : Bool) (o p : Nat) : Nat := if s = true then bkM m o p else dnM m o p
def gIB (m o p : Nat) : Bool := decide (bkM m o (dnM m o p) = p) && decide (dnM m o (bkM m o p) = p)
theorem ib_1 : ∀ o : Fin 1, ∀ p : Fin 1, gIB 1 o.val p.val = true := by decide +kernel
theorem ib_2 : ∀ o : Fin 2, ∀ p : Fin 2, gIB 2 o.val p.val = true := by decide +kernel
theorem ib_3 : ∀ o : Fin 6, ∀ p : Fin 6, gIB 3 o.val p.val = true := by decide +kernel
theorem ib_4 : ∀ o : Fin 24, ∀ p : Fin 24, gIB 4 o.val p.val = true := by decide +kernel
theorem ib_n {m o p : Nat} (h1 : 1 ≤ m) (h4 : m ≤ 4) (ho : o < thM m) (hp : p < thM m) (s : Bool) : opM m (!s) o (opM m s o p) = p ∧ opM m s o p < thM m := by
  have k : gIB m o p = true := by
    have : m = 1 ∨ m = 2 ∨ m = 3 ∨ m = 4 := by omega
    rcases this with rfl | rfl | rfl | rfl
    · exact ib_1 ⟨o, ho⟩ ⟨p, hp⟩
    · exact ib_2 ⟨o, ho⟩ ⟨p, hp⟩
    · exact ib_3 ⟨o, ho⟩ ⟨p, hp⟩
    · exact ib_4 ⟨o, ho⟩ ⟨p, hp⟩
  unfold gIB at k
  simp only [Bool.and_eq_true, decide_eq_true_eq] at k
  have b := (ac_n (m := m) (o := o) (x := p) (w := p) h1 h4 ho hp hp).2.2
  cases s
  · exact ⟨k.1, b.1⟩
  · exact ⟨k.2, b.2⟩
/-- the arcs, the part, the tables -/
def arX (y : ow_MS) (c a : Nat) (ov iv fv : Nat → Nat) : Prop := ∀ x, x < c → (y.2.1 61 x = nI (ov x) ∧ ov x < a) ∧ (y.2.1 62 x = nI (iv x) ∧ iv x < a) ∧ y.2.1 63 x = nI (fv x) ∧ fv x < a
def pY9 (y : ow_MS) (c : Nat) (pt : Nat → Bool) : Prop := ∀ x, x < c → y.2.1 80 x = bI9 (pt x)
def mcX (y : ow_MS) (n m : Nat) (A : rn_L) (sg : Nat → Bool) (c a : Nat) (ov iv fv : Nat → Nat) (pt : Nat → Bool) : Prop := oNet y n A sg ∧ arX y c a ov iv fv ∧ e75 y m (thM m) 0 ∧ pY9 y c pt
def usP (c : Nat) (ov iv fv : Nat → Nat) (pt : Nat → Bool) (b : Nat) : Prop := ∃ x, x < c ∧ pt x = true ∧ (b = ov x ∨ b = iv x ∨ b = fv x)
def slM (m c a : Nat) (sg : Nat → Bool) (ov iv fv : Nat → Nat) (pt : Nat → Bool) (L : List Nat) : Prop := L.length = a ∧ (∀ b q, L[b]? = some q → q < thM m ∧ (¬ usP c ov iv fv pt b → q = 0)) ∧ ∀ x, x < c → pt x = true → ∀ o i j, L[ov x]? = some o → L[iv x]? = some i → L[fv x]? = some j → j = opM m (sg x) o i
def exT (y : ow_MS) (m : Nat) (T L : List Nat) : Prop := ∀ b q, b ∈ T → q < thM m → y.2.1 77 b = nI q → L[b]? = some q
def clX (y : ow_MS) (m : Nat) (sg : Nat → Bool) (ov iv fv : Nat → Nat) (pt : Nat → Bool) (U : List Nat) (x : Nat) : Prop := pt x = true → ov x ∈ U → (iv x ∈ U ↔ fv x ∈ U) ∧ ∀ o i j, o < thM m → i < thM m → j < thM m → iv x ∈ U → y.2.1 77 (ov x) = nI o → y.2.1 77 (iv x) = nI i → y.2.1 77 (fv x) = nI j → j = opM m (sg x) o i
section XM5
variable {z : ow_MS}
theorem mcX_fr {n m c a : Nat} {y y1 : ow_MS} {A : rn_L} {sg : Nat → Bool} {ov iv fv : Nat → Nat} {pt : Nat → Bool} (hn : mw_net n) (hf : fr gvH y y1) (h : mcX y n m A sg c a ov iv fv pt) : mcX y1 n m A sg c a ov iv fv pt := by
  have no : ∀ g, ¬ (77 ≤ g ∧ g ≤ 79) → ¬ gvH g := fun g hg => hg
  refine ⟨oNet_fr hf (fun g hg => by have := net_mod hn; unfold gvH at hg; omega) h.1, fun x hx => ?_, fun o x ho hx hl => ?_, fun x hx => ?_⟩
  · rw [(hf 61 (no _ (by omega))).2.1, (hf 62 (no _ (by omega))).2.1, (hf 63 (no _ (by omega))).2.1]
    exact h.2.1 x hx
  · rw [(hf 75 (no _ (by omega))).2.1, (hf 76 (no _ (by omega))).2.1]
    exact h.2.2.1 o x ho hx hl
  · rw [(hf 80 (no _ (by omega))).2.1]
    exact h.2.2.2 x hx
theorem exT_g {y y1 : ow_MS} {m b q : Nat} {T L : List Nat} (hq : q < thM m) (h1 : y1.2.1 77 b = nI q) (h2 : ∀ b', b' ≠ b → y1.2.1 77 b' = y.2.1 77 b') (hb : L[b]? = some q) (h : exT y m T L) : exT y1 m (T ++ [b]) L := fun b' q' hb' hq' e => by
  have := (thM_le m).2
  by_cases c : b' = b
  · rw [c, h1] at e
    rw [c, ← nI_inj9 (by omega) (by omega) e]
    exact hb
  · rw [h2 b' c] at e
    rcases List.mem_append.mp hb' with h9 | h9
    · exact h b' q' h9 hq' e
    · exact absurd (List.mem_singleton.mp h9) c
end XM5
end
section
/-! 99zzzzzzzzzzzzzzn.xmp6 -/
/-! maps: the reference follows what is given, exactly -/
section XM6
variable {z : ow_MS}
theorem xp_follows {n m c a : Nat} {A : rn_L} {sg : Nat → Bool} {ov iv fv : Nat → Nat} {pt : Nat → Bool} (hn : mw_net n) (hm1 : 1 ≤ m) (hm4 : m ≤ 4) (hV : A.flatten.length = 2 * c) (hc : c ≤ 12) (ha : a ≤ 18) {T : List Nat} (hI : mgI z a m T) (hM : mcX z n m A sg c a ov iv fv pt) : Te (fun K => qe_X13_follows K n (nI m) z) (fun r => ∃ E, mgI r.2 a m (T ++ E) ∧ fr gvH z r.2 ∧ (∀ b, b ∈ T → r.2.2.1 77 b = z.2.1 77 b) ∧ (∀ b, b ∈ E → usP c ov iv fv pt b) ∧ ((r.1 = 0 ∧ ∀ L, slM m c a sg ov iv fv pt L → exT z m T L → False) ∨ (r.1 = 1 ∧ (∀ L, slM m c a sg ov iv fv pt L → exT z m T L → exT r.2 m (T ++ E) L) ∧ ∀ x, x < c → clX r.2 m sg ov iv fv pt (T ++ E) x))) := by
  let J : List Nat → ow_MS → Prop := fun E y => mgI y a m (T ++ E) ∧ fr gvH z y ∧ (∀ b, b ∈ T → y.2.1 77 b = z.2.1 77 b) ∧ (∀ b, b ∈ E → usP c ov iv fv pt b) ∧ ∀ L, slM m c a sg ov iv fv pt L → exT z m T L → exT y m (T ++ E) L
  let Q : Int32 × ow_MS → Prop := fun r => ∃ E, mgI r.2 a m (T ++ E) ∧ fr gvH z r.2 ∧ (∀ b, b ∈ T → r.2.2.1 77 b = z.2.1 77 b) ∧ (∀ b, b ∈ E → usP c ov iv fv pt b) ∧ ((r.1 = 0 ∧ ∀ L, slM m c a sg ov iv fv pt L → exT z m T L → False) ∨ (r.1 = 1 ∧ (∀ L, slM m c a sg ov iv fv pt L → exT z m T L → exT r.2 m (T ++ E) L) ∧ ∀ x, x < c → clX r.2 m sg ov iv fv pt (T ++ E) x))
  have hth := thM_le m
  have mF : ∀ {y : ow_MS}, fr gvH z y → mcX y n m A sg c a ov iv fv pt := fun hf => mcX_fr hn hf hM
  have tab : ∀ {y : ow_MS}, fr gvH z y → ∀ (s : Bool) (r g q : Nat), r = (if s = true then 76 else 75) → g < thM m → q < thM m → y.2.1 r (576 * m + 24 * g + q) = nI (opM m s g q) := by
    intro y hf s r g q er hg hq
    have k := (mF hf).2.2.1 g q hg hq (Or.inl hg)
    rw [er]
    cases s
    · exact k.1
    · exact k.2
  have gv : ∀ {F : List Nat} {y : ow_MS} {b q : Nat}, J F y → b < a → b ∉ T ++ F → q < thM m → usP c ov iv fv pt b → (∀ L, slM m c a sg ov iv fv pt L → exT y m (T ++ F) L → L[b]? = some q) → Te (fun K => qe_X13_give K (nI b) (nI q) y) (fun y1 => J (F ++ [b]) y1) := by
    intro F y b q hJ hb hnb hq hu hv
    refine w_monoE (te_and (tp_give ha hJ.1 hb hnb hq) (xp_give (q := q) ha hJ.1 hb hnb)) (fun y1 ⟨⟨k1, k2⟩, k3, k4⟩ => ⟨?_, fr_tr hJ.2.1 k2, fun b' hb' => (k4 b' (fun e => hnb (e ▸ List.mem_append_left _ hb'))).trans (hJ.2.2.1 b' hb'), fun b' hb' => ?_, fun L hL hx => ?_⟩)
    · rw [← List.append_assoc]
      exact k1
    · rcases List.mem_append.mp hb' with h9 | h9
      · exact hJ.2.2.2.1 b' h9
      · rw [List.mem_singleton.mp h9]
        exact hu
    · rw [← List.append_assoc]
      have k := hJ.2.2.2.2 L hL hx
      exact exT_g hq k3 k4 (hv L hL k) k
  have key : ∀ (k : Nat) (E : List Nat) (y : ow_MS), a - (T ++ E).length ≤ k → J E y → Tt (fun K i => q_X13_follows K i 1 (nI m) 1 0 0 0 0 n 0 0 0 y) Q := by
    intro k
    induction k using Nat.strongRecOn with
    | ind k ih =>
    intro E y hk hJ
    have pass : ∀ (d x : Nat) (F : List Nat) (x3 : Int32) (y : ow_MS), x + d = c → J F y → (x3 = 0 ∧ F = E ∧ (∀ x', x' < x → clX y m sg ov iv fv pt (T ++ E) x') ∨ x3 = 1 ∧ (T ++ E).length < (T ++ F).length) → Tt (fun K i => q_X13_follows K i 2 (nI m) x3 (nI x) 0 0 0 n 0 0 0 y) Q := by
      intro d
      induction d with
      | zero =>
        intro x F x3 y hx hJ h3
        refine u_X13_follows_2 ?_; unfold qm_X13_follows_2
        refine w_rdF (mF hJ.2.1).1.1.V (w_nzI (by decide) ?_)
        rw [hV, half_V (by omega)]
        refine w_leT (by omega) (by omega) ?_
        rcases h3 with ⟨h3, eF, hcl⟩ | ⟨h3, h4⟩
        · rw [h3]
          rw [eF] at hJ
          refine u_X13_follows_1 ?_; unfold qm_X13_follows_1
          exact w_ifT rfl (w_okZ (Or.inr rfl) (w_some ⟨E, hJ.1, hJ.2.1, hJ.2.2.1, hJ.2.2.2.1, Or.inr ⟨rfl, hJ.2.2.2.2, fun x' hx' => hcl x' (by omega)⟩⟩))
        · rw [h3]
          have := mgI_len hJ.1
          exact ih (a - (T ++ F).length) (by omega) F y (Nat.le_refl _) hJ
      | succ d ihp =>
        intro x F x3 y hx hJ h3
        have hMy := mF hJ.2.1
        have hxc : x < c := by omega
        obtain ⟨⟨e61, lo⟩, ⟨e62, li⟩, e63, lf⟩ := hMy.2.1 x hxc
        have e80 := hMy.2.2.2 x hxc
        have st := hJ.1.2.2.2.2
        have hle0 : (T ++ E).length ≤ (T ++ F).length := by
          rcases h3 with ⟨-, eF, -⟩ | ⟨-, h4⟩
          · rw [eF]
            exact Nat.le_refl _
          · exact Nat.le_of_lt h4
        have c7 : ∀ (x5 : Int32), (F = E → clX y m sg ov iv fv pt (T ++ E) x) → Tt (fun K i => q_X13_follows K i 7 (nI m) x3 (nI x) x5 0 0 n 0 0 0 y) Q := by
          intro x5 hcl
          refine u_X13_follows_7 ?_; unfold qm_X13_follows_7
          rw [nI_1]
          refine ihp (x + 1) F x3 y (by omega) hJ (h3.imp (fun ⟨p1, p2, p3⟩ => ⟨p1, p2, fun x' hx' => ?_⟩) id)
          by_cases e : x' = x
          · rw [e]
            exact hcl p2
          · exact p3 x' (by omega)
        have c7g : ∀ (b : Nat) (x5 : Int32) (y1 : ow_MS), J (F ++ [b]) y1 → Tt (fun K i => q_X13_follows K i 7 (nI m) 1 (nI x) x5 0 0 n 0 0 0 y1) Q := by
          intro b x5 y1 hJ1
          refine u_X13_follows_7 ?_; unfold qm_X13_follows_7
          rw [nI_1]
          refine ihp (x + 1) (F ++ [b]) 1 y1 (by omega) hJ1 (Or.inr ⟨rfl, ?_⟩)
          rw [← List.append_assoc, List.length_append (as := T ++ F)]
          show _ < _ + 1
          omega
        refine u_X13_follows_2 ?_; unfold qm_X13_follows_2
        refine w_rdF hMy.1.1.V (w_nzI (by decide) ?_)
        rw [hV, half_V (by omega)]
        refine w_leF (by omega) (by omega) (w_rdI ml61 rfl (by omega) e61 (w_rdI ml77 rfl (by omega) rfl (w_rdI ml80 rfl (by omega) e80 (w_if (fun e0 => c7 _ (fun _ hp => ?_)) (fun e1 => ?_)))))
        · rw [bI_0 e0] at hp
          cases hp
        have hpt := bI_1 e1
        rcases st (ov x) (by omega) with ⟨k1, k2⟩ | ⟨koT, g, hg, eg⟩
        · rw [k2]
          exact w_ifT rfl (c7 _ (fun eF _ h9 => absurd h9 (by rw [← eF]; exact k1)))
        rw [eg]
        refine w_ifF (rn_neg1 (by omega)) ?_
        obtain ⟨c', hok, -⟩ := hMy.1.2.2.1
        have hcc : c' = c := by have := okF_len hok; omega
        rw [hcc] at hok
        obtain ⟨t, t1, t2, -⟩ := ok_u hok hxc 0 (by omega)
        have sx : y.2.1 (n + 6) x = if sg x then -1 else 1 := by
          have := hMy.1.2.1 _ (vAt_mem t1)
          rw [show (vAt A t).1 = x from t2] at this
          exact this
        have c4 : ∀ (r6 r7 : Nat), r6 = (if sg x = true then 76 else 75) → r7 = (if (!sg x) = true then 76 else 75) → Tt (fun K i => q_X13_follows K i 4 (nI m) x3 (nI x) (nI g) 0 0 n r6 0 r7 y) Q := by
          intro r6 r7 hr6 hr7
          have l6 : (mX.2 r6).2.1 = 2880 := tb_len (by rw [hr6]; cases sg x; exact Or.inl rfl; exact Or.inr rfl)
          have l7 : (mX.2 r7).2.1 = 2880 := tb_len (by rw [hr7]; cases sg x; exact Or.inr rfl; exact Or.inl rfl)
          have sol : ∀ L, slM m c a sg ov iv fv pt L → exT y m (T ++ F) L → ∃ i j, L[ov x]? = some g ∧ L[iv x]? = some i ∧ L[fv x]? = some j ∧ i < thM m ∧ j = opM m (sg x) g i := fun L hL hxL => by
            have g1 := hxL (ov x) g koT hg eg
            have g2 : L[iv x]? = some (L[iv x]'(by rw [hL.1]; exact li)) := List.getElem?_eq_getElem (by rw [hL.1]; exact li)
            have g3 : L[fv x]? = some (L[fv x]'(by rw [hL.1]; exact lf)) := List.getElem?_eq_getElem (by rw [hL.1]; exact lf)
            exact ⟨_, _, g1, g2, g3, (hL.2.1 _ _ g2).1, hL.2.2 x hxc hpt _ _ _ g1 g2 g3⟩
          rcases st (iv x) (by omega) with ⟨i1, i2⟩ | ⟨i1, q8, h8, e8⟩
          · rcases st (fv x) (by omega) with ⟨f1, f2⟩ | ⟨f1, q10, h10, e10⟩
            · refine u_X13_follows_4 ?_; unfold qm_X13_follows_4
              refine w_rdI ml62 rfl (by omega) e62 (w_rdI ml77 rfl (by omega) i2 (w_rdI ml63 rfl (by omega) e63 (w_rdI ml77 rfl (by omega) f2 (w_ifT rfl ?_))))
              refine u_X13_follows_5 ?_; unfold qm_X13_follows_5
              refine w_ifT rfl ?_
              refine u_X13_follows_6 ?_; unfold qm_X13_follows_6
              refine w_ifT rfl (w_ifT rfl (c7 _ (fun eF _ _ => ⟨⟨fun h9 => absurd h9 (by rw [← eF]; exact i1), fun h9 => absurd h9 (by rw [← eF]; exact f1)⟩, fun _ _ _ _ _ _ h9 => absurd h9 (by rw [← eF]; exact i1)⟩)))
            · have ib := ib_n hm1 hm4 hg h10 (!sg x)
              refine u_X13_follows_4 ?_; unfold qm_X13_follows_4
              refine w_rdI ml62 rfl (by omega) e62 (w_rdI ml77 rfl (by omega) i2 (w_rdI ml63 rfl (by omega) e63 (w_rdI ml77 rfl (by omega) e10 (w_ifT rfl ?_))))
              refine u_X13_follows_5 ?_; unfold qm_X13_follows_5
              refine w_ifT rfl ?_
              refine u_X13_follows_6 ?_; unfold qm_X13_follows_6
              rw [tb_ix]
              refine w_ifT rfl (w_ifF (rn_neg1 (by omega)) (w_rdI ml62 rfl (by omega) e62 (w_rdI l7 rfl (by omega) (tab hJ.2.1 (!sg x) r7 g q10 hr7 hg h10) (w_cs0 (gv hJ li i1 ib.2 ⟨x, hxc, hpt, Or.inr (Or.inl rfl)⟩ (fun L hL hxL => ?_)) (fun y1 hJ1 => c7g _ _ _ hJ1)))))
              obtain ⟨i, j, s1, s2, s3, s4, s5⟩ := sol L hL hxL
              have s6 := hxL (fv x) q10 f1 h10 e10
              rw [s6] at s3
              have ej : q10 = j := Option.some.inj s3
              rw [s2, ej, s5, (ib_n hm1 hm4 hg s4 (sg x)).1]
          · rcases st (fv x) (by omega) with ⟨f1, f2⟩ | ⟨f1, q10, h10, e10⟩
            · have ib := ib_n hm1 hm4 hg h8 (sg x)
              refine u_X13_follows_4 ?_; unfold qm_X13_follows_4
              refine w_rdI ml62 rfl (by omega) e62 (w_rdI ml77 rfl (by omega) e8 (w_rdI ml63 rfl (by omega) e63 (w_rdI ml77 rfl (by omega) f2 (w_ifF (rn_neg1 (by omega)) (w_ifT rfl ?_)))))
              refine u_X13_follows_5 ?_; unfold qm_X13_follows_5
              rw [tb_ix]
              refine w_ifF (rn_neg1 (by omega)) (w_ifT rfl (w_rdI ml63 rfl (by omega) e63 (w_rdI l6 rfl (by omega) (tab hJ.2.1 (sg x) r6 g q8 hr6 hg h8) (w_cs0 (gv hJ lf f1 ib.2 ⟨x, hxc, hpt, Or.inr (Or.inr rfl)⟩ (fun L hL hxL => ?_)) (fun y1 hJ1 => c7g _ _ _ hJ1)))))
              obtain ⟨i, j, s1, s2, s3, s4, s5⟩ := sol L hL hxL
              have s6 := hxL (iv x) q8 i1 h8 e8
              rw [s6] at s2
              have ei : q8 = i := Option.some.inj s2
              rw [s3, s5, ei]
            · have ib := ib_n hm1 hm4 hg h8 (sg x)
              refine u_X13_follows_4 ?_; unfold qm_X13_follows_4
              refine w_rdI ml62 rfl (by omega) e62 (w_rdI ml77 rfl (by omega) e8 (w_rdI ml63 rfl (by omega) e63 (w_rdI ml77 rfl (by omega) e10 (w_ifF (rn_neg1 (by omega)) (w_ifF (rn_neg1 (by omega)) (w_rdI (i := 576 * m + 24 * g + q8) l6 tb_ix (by omega) (tab hJ.2.1 (sg x) r6 g q8 hr6 hg h8) (w_eqN (by omega) (by omega) (fun eq => ?_) (fun ne => w_okZ (Or.inl rfl) (w_some ⟨F, hJ.1, hJ.2.1, hJ.2.2.1, hJ.2.2.2.1, Or.inl ⟨rfl, fun L hL hx0 => ?_⟩⟩)))))))))
              · refine u_X13_follows_5 ?_; unfold qm_X13_follows_5
                refine w_ifF (rn_neg1 (by omega)) (w_ifF (rn_neg1 (by omega)) ?_)
                refine u_X13_follows_6 ?_; unfold qm_X13_follows_6
                refine w_ifF (rn_neg1 (by omega)) (c7 _ (fun eF _ _ => ⟨⟨fun _ => by rw [← eF]; exact f1, fun _ => by rw [← eF]; exact i1⟩, fun o' i' j' o1 o2 o3 _ o4 o5 o6 => ?_⟩))
                rw [eg] at o4
                rw [e8] at o5
                rw [e10] at o6
                rw [← nI_inj9 (by omega) (by omega) o4, ← nI_inj9 (by omega) (by omega) o5, ← nI_inj9 (by omega) (by omega) o6]
                exact eq.symm
              · obtain ⟨i, j, s1, s2, s3, s4, s5⟩ := sol L hL (hJ.2.2.2.2 L hL hx0)
                have hxL := hJ.2.2.2.2 L hL hx0
                have s6 := hxL (iv x) q8 i1 h8 e8
                have s7 := hxL (fv x) q10 f1 h10 e10
                rw [s6] at s2
                rw [s7] at s3
                have ei : q8 = i := Option.some.inj s2
                have ej : q10 = j := Option.some.inj s3
                exact ne (by rw [ej, ei]; exact s5.symm)
        cases hs : sg x
        · rw [hs] at sx c4
          refine w_rdI (pl6 hn) rfl (by omega) sx (w_ifF (by decide) ?_)
          refine u_X13_follows_3 ?_; unfold qm_X13_follows_3
          exact w_rdI (pl6 hn) rfl (by omega) sx (w_ifF (by decide) (c4 75 76 rfl rfl))
        · rw [hs] at sx c4
          refine w_rdI (pl6 hn) rfl (by omega) sx (w_ifT (by decide) ?_)
          refine u_X13_follows_3 ?_; unfold qm_X13_follows_3
          exact w_rdI (pl6 hn) rfl (by omega) sx (w_ifT (by decide) (c4 76 75 rfl rfl))
    refine u_X13_follows_1 ?_; unfold qm_X13_follows_1
    exact w_ifF (by decide) (pass c 0 E 0 y (by omega) hJ (Or.inl ⟨rfl, rfl, fun x' hx' => absurd hx' (Nat.not_lt_zero _)⟩))
  refine e_X13_follows ?_
  refine u_X13_follows_0 ?_; unfold qm_X13_follows_0
  refine key (a - (T ++ []).length) [] z (Nat.le_refl _) ⟨by rw [List.append_nil]; exact hI, fr_rf, fun _ _ => rfl, fun b hb => absurd hb List.not_mem_nil, fun L _ hx => by rw [List.append_nil]; exact hx⟩
end XM6
end
section
/-! 99zzzzzzzzzzzzzzo.xmp7 -/
/-! maps: the reference counts all that goes on from what is given -/
section XM7
theorem exT_eq {y y1 : ow_MS} {m : Nat} {T L : List Nat} (h : ∀ b, b ∈ T → y1.2.1 77 b = y.2.1 77 b) (hx : exT y m T L) : exT y1 m T L := fun b q hb hq e => hx b q hb hq (by rw [← h b hb]; exact e)
theorem exT_sub {y : ow_MS} {m : Nat} {T E L : List Nat} (hx : exT y m (T ++ E) L) : exT y m T L := fun b q hb hq e => hx b q (List.mem_append_left _ hb) hq e
theorem xp_mapsOf {n m c a : Nat} {A : rn_L} {sg : Nat → Bool} {ov iv fv : Nat → Nat} {pt : Nat → Bool} (hn : mw_net n) (hm1 : 1 ≤ m) (hm4 : m ≤ 4) (hV : A.flatten.length = 2 * c) (hc : c ≤ 12) (ha : a ≤ 18) : ∀ (k dd : Nat) (T : List Nat) (z : ow_MS), a - T.length ≤ k → k < dd → mgI z a m T → mcX z n m A sg c a ov iv fv pt → z.2.1 73 m = nI (thM m) → (∀ b, b ∈ T → usP c ov iv fv pt b) → Te (fun K => qd_X13_mapsOf K dd n (nI m) z) (fun r => (mgI r.2 a m T ∧ fr gvH z r.2) ∧ (∀ b, b ∈ T → r.2.2.1 77 b = z.2.1 77 b) ∧ ∃ N, r.1 = nI N ∧ cnt9 (fun L => slM m c a sg ov iv fv pt L ∧ exT z m T L) N) := by
  intro k
  induction k using Nat.strongRecOn with
  | ind k ih =>
  intro dd T z hk hdd hI hM h73 hTu
  obtain ⟨dd, rfl⟩ : ∃ d', dd = d' + 1 := ⟨dd - 1, by omega⟩
  have hth := thM_le m
  have hT := mgI_len hI
  let Q : Int32 × ow_MS → Prop := fun r => (mgI r.2 a m T ∧ fr gvH z r.2) ∧ (∀ b, b ∈ T → r.2.2.1 77 b = z.2.1 77 b) ∧ ∃ N, r.1 = nI N ∧ cnt9 (fun L => slM m c a sg ov iv fv pt L ∧ exT z m T L) N
  have mF : ∀ {y : ow_MS}, fr gvH z y → mcX y n m A sg c a ov iv fv pt := fun hf => mcX_fr hn hf hM
  have f73 : ∀ {y : ow_MS}, fr gvH z y → y.2.1 73 m = nI (thM m) := fun hf => by
    rw [(hf 73 (by unfold gvH; omega)).2.1]
    exact h73
  have c6 : ∀ (x4 : Int32) (N : Nat) (E : List Nat) (y : ow_MS), x4 = nI N → cnt9 (fun L => slM m c a sg ov iv fv pt L ∧ exT z m T L) N → mgI y a m (T ++ E) → fr gvH z y → (∀ b, b ∈ T → y.2.1 77 b = z.2.1 77 b) → Tt (fun K i => q_X13_mapsOf K (qd_X13_mapsOf K dd) i 6 (nI m) (nI T.length) x4 0 0 0 n 0 y) Q := by
    intro x4 N E y e4 hN hI hf hu
    refine u_X13_mapsOf_6 ?_; unfold qm_X13_mapsOf_6
    exact w_cs0 (xp_takeBack ha hI rfl) (fun y1 ⟨⟨I1, f1⟩, u1⟩ => w_some ⟨⟨I1, fr_tr hf f1⟩, fun b hb => (u1 b hb).trans (hu b hb), N, e4, hN⟩)
  refine w_qdM ?_
  refine u_X13_mapsOf_0 ?_; unfold qm_X13_mapsOf_0
  refine w_rdF hI.1 (w_cs1 (xp_follows hn hm1 hm4 hV hc ha hI hM) (fun v y h9 => ?_))
  obtain ⟨E, IE, fE, uE, eE, hv⟩ := h9
  have IE : mgI y a m (T ++ E) := IE
  have fE : fr gvH z y := fE
  have uE : ∀ b, b ∈ T → y.2.1 77 b = z.2.1 77 b := uE
  rcases hv with ⟨v0, v1⟩ | ⟨v0, v1, v2⟩
  · have v0 : v = 0 := v0
    rw [v0]
    exact w_ifT rfl (c6 0 0 E y rfl (cnt_0 (fun L hL => v1 L hL.1 hL.2)) IE fE uE)
  have v0 : v = 1 := v0
  rw [v0]
  refine w_ifF (by decide) ?_
  have hMy := mF fE
  have hU : ∀ b, b ∈ T ++ E → usP c ov iv fv pt b := fun b hb => (List.mem_append.mp hb).elim (hTu b) (eE b)
  have sq : ∀ L, slM m c a sg ov iv fv pt L → (exT z m T L ↔ exT y m (T ++ E) L) := fun L hL => ⟨v1 L hL, fun hx => exT_eq (fun b hb => (uE b hb).symm) (exT_sub hx)⟩
  have st := IE.2.2.2.2
  have c4 : ∀ (x6 : Int32) (x5 : Int32), (x5 = -1 ∧ (∀ b, usP c ov iv fv pt b → b ∈ T ++ E) ∨ ∃ b, x5 = nI b ∧ b < a ∧ b ∉ T ++ E ∧ usP c ov iv fv pt b) → Tt (fun K i => q_X13_mapsOf K (qd_X13_mapsOf K dd) i 4 (nI m) (nI T.length) 0 x5 x6 0 n 0 y) Q := by
    intro x6 x5 h5
    refine u_X13_mapsOf_4 ?_; unfold qm_X13_mapsOf_4
    rcases h5 with ⟨rfl, hall⟩ | ⟨b, rfl, hb, hbT, hbu⟩
    · refine w_ifT rfl (c6 1 1 E y rfl ?_ IE fE uE)
      obtain ⟨w, hw⟩ : ∃ w : Nat → Nat, ∀ b, b < 40 → (b ∈ T ++ E → w b < thM m ∧ y.2.1 77 b = nI (w b)) ∧ (b ∉ T ++ E → w b = 0) := by
        refine Classical.axiomOfChoice (r := fun b q => b < 40 → (b ∈ T ++ E → q < thM m ∧ y.2.1 77 b = nI q) ∧ (b ∉ T ++ E → q = 0)) (fun b => ?_)
        by_cases hb : b < 40
        · rcases st b hb with ⟨k1, -⟩ | ⟨k1, q, k3, k4⟩
          · exact ⟨0, fun _ => ⟨fun h9 => absurd h9 k1, fun _ => rfl⟩⟩
          · exact ⟨q, fun _ => ⟨fun _ => ⟨k3, k4⟩, fun h9 => absurd k1 h9⟩⟩
        · exact ⟨0, fun h9 => absurd h9 hb⟩
      have g0 : ∀ b q, ((List.range a).map w)[b]? = some q → b < a ∧ q = w b := fun b q e => by
        have l := (List.getElem?_eq_some_iff.mp e).1
        rw [List.length_map, List.length_range] at l
        rw [List.getElem?_map, List.getElem?_range l] at e
        exact ⟨l, (Option.some.inj e).symm⟩
      have g1 : ∀ b, b < a → ((List.range a).map w)[b]? = some (w b) := fun b hb => by
        rw [List.getElem?_map, List.getElem?_range hb]
        rfl
      refine cnt_1 (L0 := (List.range a).map w) (fun L => ⟨fun ⟨hL, hx⟩ => ?_, fun e => ?_⟩)
      · have hxy := (sq L hL).mp hx
        refine List.ext_getElem? (fun b => ?_)
        by_cases hb : b < a
        · rw [g1 b hb]
          by_cases hbU : b ∈ T ++ E
          · obtain ⟨w1, w2⟩ := (hw b (by omega)).1 hbU
            exact hxy b (w b) hbU w1 w2
          · have e1 : L[b]? = some (L[b]'(by rw [hL.1]; exact hb)) := List.getElem?_eq_getElem (by rw [hL.1]; exact hb)
            rw [e1, (hw b (by omega)).2 hbU, (hL.2.1 b _ e1).2 (fun h9 => hbU (hall b h9))]
        · rw [List.getElem?_eq_none (by rw [hL.1]; omega), List.getElem?_eq_none (by rw [List.length_map, List.length_range]; omega)]
      · rw [e]
        have hL : slM m c a sg ov iv fv pt ((List.range a).map w) := by
          refine ⟨by rw [List.length_map, List.length_range], fun b q e1 => ?_, fun x hx hp o i j e1 e2 e3 => ?_⟩
          · obtain ⟨l, rfl⟩ := g0 b q e1
            refine ⟨?_, fun h9 => (hw b (by omega)).2 (fun h8 => h9 (hU b h8))⟩
            by_cases hbU : b ∈ T ++ E
            · exact ((hw b (by omega)).1 hbU).1
            · rw [(hw b (by omega)).2 hbU]
              omega
          · obtain ⟨l1, rfl⟩ := g0 _ _ e1
            obtain ⟨l2, rfl⟩ := g0 _ _ e2
            obtain ⟨l3, rfl⟩ := g0 _ _ e3
            have u1 := hall _ ⟨x, hx, hp, Or.inl rfl⟩
            have u2 := hall _ ⟨x, hx, hp, Or.inr (Or.inl rfl)⟩
            have u3 := hall _ ⟨x, hx, hp, Or.inr (Or.inr rfl)⟩
            obtain ⟨p1, p2⟩ := (hw _ (show ov x < 40 by omega)).1 u1
            obtain ⟨p3, p4⟩ := (hw _ (show iv x < 40 by omega)).1 u2
            obtain ⟨p5, p6⟩ := (hw _ (show fv x < 40 by omega)).1 u3
            exact (v2 x hx hp u1).2 _ _ _ p1 p3 p5 u2 p2 p4 p6
        refine ⟨hL, (sq _ hL).mpr (fun b q hb hq e1 => ?_)⟩
        have lb := IE.2.2.1 b hb
        obtain ⟨p1, p2⟩ := (hw b (by omega)).1 hb
        rw [p2] at e1
        rw [g1 b lb, nI_inj9 (by omega) (by omega) e1]
    · refine w_ifF (rn_neg1 (by omega)) ?_
      have hroom := mgI_room IE hb hbT
      have c5 : ∀ (d p N : Nat) (y' : ow_MS), p + d = thM m → mgI y' a m (T ++ E) → fr gvH z y' → (∀ b', b' ∈ T ++ E → y'.2.1 77 b' = y.2.1 77 b') → cnt9 (fun L => ∃ p', p' < p ∧ (slM m c a sg ov iv fv pt L ∧ exT z m T L) ∧ L[b]? = some p') N → Tt (fun K i => q_X13_mapsOf K (qd_X13_mapsOf K dd) i 5 (nI m) (nI T.length) (nI N) (nI b) (nI (T ++ E).length) (nI p) n 0 y') Q := by
        intro d
        induction d with
        | zero =>
          intro p N y' hp I1 f1 u1 hN
          have ep : p = thM m := by omega
          refine u_X13_mapsOf_5 ?_; unfold qm_X13_mapsOf_5
          refine w_rdI ml73 rfl (by omega) (f73 f1) (w_leT (by omega) (by omega) (c6 _ N E y' rfl (cnt_cg (fun L => ⟨fun ⟨p', _, q2, _⟩ => q2, fun q2 => ?_⟩) hN) I1 f1 (fun b' hb' => (u1 b' (List.mem_append_left _ hb')).trans (uE b' hb'))))
          have e1 : L[b]? = some (L[b]'(by rw [q2.1.1]; exact hb)) := List.getElem?_eq_getElem (by rw [q2.1.1]; exact hb)
          exact ⟨_, by rw [ep]; exact (q2.1.2.1 b _ e1).1, q2, e1⟩
        | succ d ih5 =>
          intro p N y' hp I1 f1 u1 hN
          have hpT : p < thM m := by omega
          refine u_X13_mapsOf_5 ?_; unfold qm_X13_mapsOf_5
          rw [nI_1]
          refine w_rdI ml73 rfl (by omega) (f73 f1) (w_leF (by omega) (by omega) (w_cs0 (te_and (tp_give ha I1 hb hbT hpT) (xp_give (q := p) ha I1 hb hbT)) (fun y2 ⟨⟨I2, f2⟩, g1, g2⟩ => w_cs1 (ih (a - ((T ++ E) ++ [b]).length) ?_ dd _ y2 (Nat.le_refl _) ?_ I2 (mF (fr_tr f1 f2)) (f73 (fr_tr f1 f2)) (fun b' hb' => ?_)) (fun v y3 h9 => ?_))))
          · rw [List.length_append]
            show a - ((T ++ E).length + 1) < k
            rw [List.length_append] at hroom ⊢
            omega
          · rw [List.length_append]
            show a - ((T ++ E).length + 1) < dd
            rw [List.length_append] at hroom ⊢
            omega
          · rcases List.mem_append.mp hb' with h8 | h8
            · exact hU b' h8
            · rw [List.mem_singleton.mp h8]
              exact hbu
          obtain ⟨⟨I3, f3⟩, u3, N1, e1, hN1⟩ := h9
          have e1 : v = nI N1 := e1
          rw [e1]
          refine w_cs0 (xp_takeBack ha I3 rfl) (fun y4 ⟨⟨I4, f4⟩, u4⟩ => ?_)
          rw [nI_add]
          refine ih5 (p + 1) (N + N1) y4 (by omega) I4 (fr_tr f1 (fr_tr f2 (fr_tr f3 f4))) (fun b' hb' => ?_) ?_
          · have ne : b' ≠ b := fun e => hbT (e ▸ hb')
            rw [u4 b' hb']
            exact (u3 b' (List.mem_append_left _ hb')).trans ((g2 b' ne).trans (u1 b' hb'))
          · have eqv : ∀ L, (slM m c a sg ov iv fv pt L ∧ exT y2 m ((T ++ E) ++ [b]) L) ↔ ((slM m c a sg ov iv fv pt L ∧ exT z m T L) ∧ L[b]? = some p) := fun L => by
              constructor
              · rintro ⟨q1, q2⟩
                refine ⟨⟨q1, (sq L q1).mpr (exT_eq (fun b' hb' => ?_) (exT_sub q2))⟩, q2 b p (List.mem_append_right _ (List.mem_singleton.mpr rfl)) hpT g1⟩
                have ne : b' ≠ b := fun e => hbT (e ▸ hb')
                exact (u1 b' hb').symm.trans (g2 b' ne).symm
              · rintro ⟨⟨q1, q2⟩, q3⟩
                exact ⟨q1, exT_g hpT g1 g2 q3 (exT_eq u1 ((sq L q1).mp q2))⟩
            refine cnt_cg (fun L => ?_) (cnt_or (fun L ⟨p', q1, _, q3⟩ q4 => ?_) hN (cnt_cg eqv hN1))
            · constructor
              · rintro (⟨p', q1, q2⟩ | q2)
                · exact ⟨p', by omega, q2⟩
                · exact ⟨p, by omega, q2⟩
              · rintro ⟨p', q1, q2⟩
                by_cases e : p' = p
                · rw [e] at q2
                  exact Or.inr q2
                · exact Or.inl ⟨p', by omega, q2⟩
            · rw [q3] at q4
              have := Option.some.inj q4.2
              omega
      exact w_rdF IE.1 (c5 (thM m) 0 0 y (by omega) IE fE (fun _ _ => rfl) (cnt_0 (fun L ⟨p', q1, _⟩ => absurd q1 (Nat.not_lt_zero _))))
  have c1 : ∀ (d x : Nat) (x5 : Int32), x + d = c → (x5 = -1 ∧ (∀ x', x' < x → pt x' = true → ov x' ∈ T ++ E ∧ iv x' ∈ T ++ E ∧ fv x' ∈ T ++ E) ∨ ∃ b, x5 = nI b ∧ b < a ∧ b ∉ T ++ E ∧ usP c ov iv fv pt b) → Tt (fun K i => q_X13_mapsOf K (qd_X13_mapsOf K dd) i 1 (nI m) (nI T.length) 0 x5 (nI x) 0 n 0 y) Q := by
    intro d
    induction d with
    | zero =>
      intro x x5 hx h5
      refine u_X13_mapsOf_1 ?_; unfold qm_X13_mapsOf_1
      refine w_rdF hMy.1.1.V (w_nzI (by decide) ?_)
      rw [hV, half_V (by omega)]
      refine w_leT (by omega) (by omega) (c4 _ _ (h5.imp (fun ⟨p1, p2⟩ => ⟨p1, fun b ⟨x', q1, q2, q3⟩ => ?_⟩) id))
      obtain ⟨r1, r2, r3⟩ := p2 x' (by omega) q2
      rcases q3 with rfl | rfl | rfl
      · exact r1
      · exact r2
      · exact r3
    | succ d ih1 =>
      intro x x5 hx h5
      have hxc : x < c := by omega
      obtain ⟨⟨e61, lo⟩, ⟨e62, li⟩, e63, lf⟩ := hMy.2.1 x hxc
      have e80 := hMy.2.2.2 x hxc
      have c3 : ∀ (x5 : Int32), (x5 = -1 ∧ (∀ x', x' < x + 1 → pt x' = true → ov x' ∈ T ++ E ∧ iv x' ∈ T ++ E ∧ fv x' ∈ T ++ E) ∨ ∃ b, x5 = nI b ∧ b < a ∧ b ∉ T ++ E ∧ usP c ov iv fv pt b) → Tt (fun K i => q_X13_mapsOf K (qd_X13_mapsOf K dd) i 3 (nI m) (nI T.length) 0 x5 (nI x) 0 n 0 y) Q := by
        intro x5 h5
        refine u_X13_mapsOf_3 ?_; unfold qm_X13_mapsOf_3
        rw [nI_1]
        exact ih1 (x + 1) x5 (by omega) h5
      have c2 : ∀ (x5 t0 : Int32), (t0 = -1 ∧ (∀ x', x' < x + 1 → pt x' = true → ov x' ∈ T ++ E ∧ iv x' ∈ T ++ E ∧ fv x' ∈ T ++ E) ∨ ∃ b, t0 = nI b ∧ b < a ∧ b ∉ T ++ E ∧ usP c ov iv fv pt b) → Tt (fun K i => q_X13_mapsOf K (qd_X13_mapsOf K dd) i 2 (nI m) (nI T.length) 0 x5 (nI x) 0 n t0 y) Q := by
        intro x5 t0 h5
        refine u_X13_mapsOf_2 ?_; unfold qm_X13_mapsOf_2
        exact c3 t0 h5
      refine u_X13_mapsOf_1 ?_; unfold qm_X13_mapsOf_1
      refine w_rdF hMy.1.1.V (w_nzI (by decide) ?_)
      rw [hV, half_V (by omega)]
      refine w_leF (by omega) (by omega) ?_
      rcases h5 with ⟨rfl, hall⟩ | ⟨b, rfl, hb, hbT, hbu⟩
      · refine w_ifT rfl (w_rdI ml80 rfl (by omega) e80 (w_if (fun e0 => c3 _ (Or.inl ⟨rfl, fun x' hx' hp => ?_⟩)) (fun e1 => ?_)))
        · by_cases e : x' = x
          · rw [e, bI_0 e0] at hp
            cases hp
          · exact hall x' (by omega) hp
        have hpt := bI_1 e1
        rcases st (ov x) (by omega) with ⟨k1, k2⟩ | ⟨k1, g, hg, k2⟩
        · exact w_rdI ml61 rfl (by omega) e61 (w_rdI ml77 rfl (by omega) k2 (w_ifT rfl (w_rdI ml61 rfl (by omega) e61 (c2 _ _ (Or.inr ⟨_, rfl, lo, k1, x, hxc, hpt, Or.inl rfl⟩)))))
        refine w_rdI ml61 rfl (by omega) e61 (w_rdI ml77 rfl (by omega) k2 (w_ifF (rn_neg1 (by omega)) ?_))
        rcases st (iv x) (by omega) with ⟨i1, i2⟩ | ⟨i1, q8, h8, i2⟩
        · exact w_rdI ml62 rfl (by omega) e62 (w_rdI ml77 rfl (by omega) i2 (w_ifT rfl (w_rdI ml62 rfl (by omega) e62 (c2 _ _ (Or.inr ⟨_, rfl, li, i1, x, hxc, hpt, Or.inr (Or.inl rfl)⟩)))))
        refine w_rdI ml62 rfl (by omega) e62 (w_rdI ml77 rfl (by omega) i2 (w_ifF (rn_neg1 (by omega)) ?_))
        rcases st (fv x) (by omega) with ⟨f1, f2⟩ | ⟨f1, q10, h10, f2⟩
        · exact w_rdI ml63 rfl (by omega) e63 (w_rdI ml77 rfl (by omega) f2 (w_ifT rfl (w_rdI ml63 rfl (by omega) e63 (c2 _ _ (Or.inr ⟨_, rfl, lf, f1, x, hxc, hpt, Or.inr (Or.inr rfl)⟩)))))
        refine w_rdI ml63 rfl (by omega) e63 (w_rdI ml77 rfl (by omega) f2 (w_ifF (rn_neg1 (by omega)) (c2 _ _ (Or.inl ⟨rfl, fun x' hx' hp => ?_⟩))))
        by_cases e : x' = x
        · rw [e]
          exact ⟨k1, i1, f1⟩
        · exact hall x' (by omega) hp
      · exact w_ifF (rn_neg1 (by omega)) (c4 _ _ (Or.inr ⟨b, rfl, hb, hbT, hbu⟩))
  exact c1 c 0 (-1) (by omega) (Or.inl ⟨rfl, fun x' hx' => absurd hx' (Nat.not_lt_zero _)⟩)
end XM7
end
