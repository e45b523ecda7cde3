-- CHAIN: the class's tidy leaves the numbers
section XCI2
variable {A : rn_L} {sg : Nat → Bool} {nm nm' : Nat → Nat} {n c k x y : Nat} {p d b : Int} {r9 : Nat}
theorem cu_any (hp : pr9 p) (hi : iv9 p) (hO : nmO A nm c) (hO' : nmO A nm' c) (hC : cuL9 A sg nm c) : cuL9 A sg nm' c := by
  obtain ⟨E, N, he⟩ := fi_en (Sg_en (k := 0) (d := 0) hC)
  exact (bL_any (k := 0) (d := 0) (r := 0) (b := (N 1 : Int) - rn9 p E N (D9 (fun y => gV9 (nm y, 0)) (fun y => gV9 (prA9 A (nm y, 0))) (fun y => gV9 (prA9 A (nm y, 0))) (relL9 A sg nm c) c) 1 - rn9 p E N (D9 (fun y => gV9 (nm y, 0)) (fun y => gV9 (prA9 A (nm y, 0))) (fun y => gV9 (prA9 A (nm y, 0))) (relL9 A sg nm c) c) 0) hp hi hO hO' hC ⟨E, N, he, by rw [Nat.zero_add]; omega⟩).1
/-- a loop goes -/
theorem td_1 (hp : pr9 p) (hi : iv9 p) (hk : 1 ≤ k) (hb : bdA A) (hO : nmO A nm (n + 1)) (hO' : nmO (wox A x) nm' n) (hC : cuL9 A sg nm (n + 1)) (hC' : cuL9 (wox A x) sg nm' n) (h0 : (x, 0) ∈ A.flatten) (ha : adjA A (x, 0) (x, 1)) (hB : bL9 p A sg nm (n + 1) k d r9 b) : bL9 p (wox A x) sg nm' n (k + (if sg x = true then 1 else 0)) (d + 1 - 3 * (if sg x = true then 1 else 0)) r9 b := by
  have u2 : ∀ p, p ∈ A.flatten → p.2 < 2 := fun p hp => (hb.2.1 p hp).2
  obtain ⟨n1, o1, e1⟩ := nm_last hO h0
  obtain ⟨C1, B1⟩ := bL_any hp hi hO o1 hC hB
  have o2 : nmO (wox A x) n1 n := nmO_wox u2 o1 e1
  have C2 := cu_any hp hi hO' o2 hC'
  obtain ⟨L, r, r', hkk, hw⟩ : ∃ L r r', kkO A L (n1 n) r r' ∧ rmv (rmv A r) r' = wox A x := by
    rw [e1]
    obtain ⟨L, hL, m0, m1, e | e⟩ := ha
    · exact ⟨L, (x, 0), (x, 1), ⟨hL, m0, e, Or.inl ⟨rfl, rfl⟩⟩, rfl⟩
    · exact ⟨L, (x, 1), (x, 0), ⟨hL, m1, e, Or.inr ⟨rfl, rfl⟩⟩, rmv_cm⟩
  have C2' : cuL9 (rmv (rmv A r) r') sg n1 n := by
    rw [hw]
    exact C2
  obtain ⟨f1, f2⟩ := cR1 hp hi hb o1 hkk C1 C2' B1
  rw [e1, hw] at f1 f2
  by_cases s : sg x = true
  · rw [if_pos s, if_pos s]
    have f3 := f2 s hk
    rw [show d + 1 - 3 * 1 = d - 2 by omega]
    exact (bL_any hp hi o2 hO' C2 f3).2
  · rw [if_neg s, if_neg s]
    have f3 := f1 (ff_of s)
    rw [show d + 1 - 3 * 0 = d + 1 by omega]
    exact (bL_any hp hi o2 hO' C2 f3).2
theorem rm4 {a b c e : vT} : rmv (rmv (rmv (rmv A a) b) c) e = rmv (rmv (rmv (rmv A a) c) b) e := by rw [rmv_cm (A := rmv A a) (r := b) (s := c)]
/-- a pair goes -/
theorem td_2 (hp : pr9 p) (hi : iv9 p) (hk : 1 ≤ k) (hb : bdA A) (hO : nmO A nm (n + 2)) (hO' : nmO (wox (wox A x) y) nm' n) (hC : cuL9 A sg nm (n + 2)) (hC' : cuL9 (wox (wox A x) y) sg nm' n) (x0 : (x, 0) ∈ A.flatten) (y0 : (y, 0) ∈ A.flatten) (hne : x ≠ y) (hs : sg x ≠ sg y) (h0 : adjA A (x, 0) (y, 0)) (h1 : adjA A (x, 1) (y, 1)) (hB : bL9 p A sg nm (n + 2) k d r9 b) : bL9 p (wox (wox A x) y) sg nm' n (k + 1) (d - 1) r9 b := by
  have u2 : ∀ p, p ∈ A.flatten → p.2 < 2 := fun p hp => (hb.2.1 p hp).2
  obtain ⟨L0, r0, r0', a1, a2, a3, a4⟩ : ∃ L r r', L ∈ A ∧ r ∈ L ∧ sc L r = r' ∧ ((r = (x, 0) ∧ r' = (y, 0)) ∨ (r = (y, 0) ∧ r' = (x, 0))) := by
    obtain ⟨L, hL, m0, m1, e | e⟩ := h0
    · exact ⟨L, _, _, hL, m0, e, Or.inl ⟨rfl, rfl⟩⟩
    · exact ⟨L, _, _, hL, m1, e, Or.inr ⟨rfl, rfl⟩⟩
  obtain ⟨L1, r1, r1', b1, b2, b3, b4⟩ : ∃ L r r', L ∈ A ∧ r ∈ L ∧ sc L r = r' ∧ ((r = (x, 1) ∧ r' = (y, 1)) ∨ (r = (y, 1) ∧ r' = (x, 1))) := by
    obtain ⟨L, hL, m0, m1, e | e⟩ := h1
    · exact ⟨L, _, _, hL, m0, e, Or.inl ⟨rfl, rfl⟩⟩
    · exact ⟨L, _, _, hL, m1, e, Or.inr ⟨rfl, rfl⟩⟩
  have hw : rmv (rmv (rmv (rmv A r0) r0') r1) r1' = wox (wox A x) y := by
    unfold wox
    rcases a4 with ⟨rfl, rfl⟩ | ⟨rfl, rfl⟩ <;> rcases b4 with ⟨rfl, rfl⟩ | ⟨rfl, rfl⟩
    · exact rm4
    · rw [rmv_cm (A := rmv (rmv A (x, 0)) (y, 0)) (r := (y, 1)) (s := (x, 1))]
      exact rm4
    · rw [rmv_cm (A := A) (r := (y, 0)) (s := (x, 0))]
      exact rm4
    · rw [rmv_cm (A := A) (r := (y, 0)) (s := (x, 0)), rmv_cm (A := rmv (rmv A (x, 0)) (y, 0)) (r := (y, 1)) (s := (x, 1))]
      exact rm4
  -- which is which
  obtain ⟨X, Y, xy, hS⟩ : ∃ X Y, ((X = x ∧ Y = y) ∨ (X = y ∧ Y = x)) ∧ bgS sg X Y r0 r1 := by
    have key : ∀ t : Bool, ∃ X Y, ((X = x ∧ Y = y) ∨ (X = y ∧ Y = x)) ∧ sg X = t ∧ sg Y = !t := fun t => by
      by_cases c1 : sg x = t
      · refine ⟨x, y, Or.inl ⟨rfl, rfl⟩, c1, ?_⟩
        rw [c1] at hs
        revert hs
        cases sg y <;> cases t <;> simp
      · refine ⟨y, x, Or.inr ⟨rfl, rfl⟩, ?_, ?_⟩
        · revert hs c1
          cases sg x <;> cases sg y <;> cases t <;> simp
        · revert c1
          cases sg x <;> cases t <;> simp
    by_cases c1 : r1.1 = r0.1
    · obtain ⟨X, Y, h2, h3, h4⟩ := key false
      exact ⟨X, Y, h2, Or.inl ⟨c1, h3, h4⟩⟩
    · obtain ⟨X, Y, h2, h3, h4⟩ := key true
      exact ⟨X, Y, h2, Or.inr ⟨c1, h3, h4⟩⟩
  have hX : (X, 0) ∈ A.flatten ∧ (Y, 0) ∈ A.flatten ∧ X ≠ Y := by
    rcases xy with ⟨rfl, rfl⟩ | ⟨rfl, rfl⟩
    · exact ⟨x0, y0, hne⟩
    · exact ⟨y0, x0, hne.symm⟩
  have hG : bgO A L0 L1 X Y r0 r0' r1 r1' := by
    refine ⟨⟨a1, a2, a3⟩, ⟨b1, b2, b3⟩, hX.2.2, ?_, ?_⟩
    · rcases xy with ⟨rfl, rfl⟩ | ⟨rfl, rfl⟩
      · exact a4
      · exact a4.symm
    · rcases xy with ⟨rfl, rfl⟩ | ⟨rfl, rfl⟩
      · exact b4
      · exact b4.symm
  obtain ⟨n1, o1, e1, e2⟩ := nm_last2 hO hX.1 hX.2.1 hX.2.2
  obtain ⟨C1, B1⟩ := bL_any hp hi hO o1 hC hB
  have o2 : nmO (wox (wox A x) y) n1 n := by
    have q1 : nmO (wox A Y) n1 (n + 1) := nmO_wox u2 o1 e2
    have q2 : nmO (wox (wox A Y) X) n1 n := nmO_wox (fun p hp => u2 p ((wox_mem u2).mp hp).1) q1 e1
    have q3 : wox (wox A Y) X = wox (wox A x) y := by
      rcases xy with ⟨rfl, rfl⟩ | ⟨rfl, rfl⟩
      · unfold wox
        rw [rm4, rmv_cm (A := A) (r := (Y, 0)) (s := (X, 0)), rmv_cm (A := rmv (rmv A (X, 0)) (Y, 0)) (r := (Y, 1)) (s := (X, 1)), rm4]
      · rfl
    rw [← q3]
    exact q2
  have C2 := cu_any hp hi hO' o2 hC'
  have C2' : cuL9 (rmv (rmv (rmv (rmv A r0) r0') r1) r1') sg n1 n := by
    rw [hw]
    exact C2
  rw [← e1, ← e2] at hG hS
  have f := cR2 hp hi hk hb o1 hG hS C1 C2' B1
  rw [hw] at f
  exact (bL_any hp hi o2 hO' C2 f).2
end XCI2
/-- the numbers of A, told by A' -/
def tdT (p : Int) (sg : Nat → Bool) (A : rn_L) (c : Nat) (A' : rn_L) (c' : Nat) : Prop := ∃ κ, (ng9 A sg = ng9 A' sg + κ ∧ c' + κ ≤ c) ∧ ∀ nm nm', nmO A nm c → nmO A' nm' c' → ∀ (k : Nat) (d : Int) (r : Nat) (b : Int), 1 ≤ k → bL9 p A sg nm c k d r b → bL9 p A' sg nm' c' (k + κ) (d + c - c' - 3 * κ) r b
def tdJ (p : Int) (sg : Nat → Bool) (A0 : rn_L) (c0 : Nat) (T : ow_NT) : Prop := pm1 T ∧ ∃ A f w, isoV A sg f T ∧ gaA A w ∧ bdA A ∧ tdT p sg A0 c0 A T.1
section XCI3
variable {A A0 : rn_L} {sg : Nat → Bool} {f : Nat → Nat} {w : vT → Bool} {nm : Nat → Nat} {p : Int} {c0 : Nat} {T : ow_NT}
theorem nmT_ex (h : isoV A sg f T) : ∃ nm, nmT A f nm T.1 := ⟨fun y => @dite _ (y < T.1) (Classical.propDecidable _) (fun hy => (nm_of h hy).choose) (fun _ => 0), fun y hy => by
  dsimp only
  rw [dif_pos hy]
  exact ⟨(nm_of h hy).choose_spec.1, (nm_of h hy).choose_spec.2.1⟩⟩
theorem cuA (hp : pr9 p) (hi : iv9 p) (h : isoV A sg f T) (hT : pm1 T) (hw : gaA A w) (hb : bdA A) (hO : nmO A nm T.1) : cuL9 A sg nm T.1 := by
  obtain ⟨n1, hn⟩ := nmT_ex h
  refine cu_any hp hi (nm_O h hn) hO (cuL h (fun x hx => ?_) hw hn hb.2.2)
  rcases hT x hx with e | e <;> rw [e] <;> decide
theorem wox_bd {x : Nat} (hb : bdA A) : bdA (wox A x) := rm_bd hb
theorem tdJ_1 {x : Nat} (hp : pr9 p) (hi : iv9 p) (h : tdJ p sg A0 c0 T) (hx : x < T.1) (e : mv_bs T.2.2.1.1 (2 * x) (2 * x + 1) = true) : tdJ p sg A0 c0 (nt_rm T x) := by
  obtain ⟨hT, A, f, w, h3, h4, h5, κ, k1, k2⟩ := h
  obtain ⟨x0, rfl, m0, m1⟩ := nm_of h3 hx
  obtain ⟨f', i1, -⟩ := iso_rm h3 m0
  have ad := bs_adj h3 m0 m1 e
  have g2 := gaA_1 h3.1.1.1 h4 ad
  have hT2 := pm1_rm hT hx
  have hb2 : bdA (wox A x0) := wox_bd h5
  refine ⟨hT2, wox A x0, f', w, i1, g2, hb2, κ + (if sg x0 = true then 1 else 0), ⟨?_, ?_⟩, fun nm nm' o1 o2 k d r b hk hB => ?_⟩
  · rw [k1.1, ng_wox h3.1.1.1 m0]
    omega
  · have := k1.2
    show T.1 - 1 + _ ≤ _
    split <;> omega
  · obtain ⟨n1, hn⟩ := nmT_ex h3
    have o3 := nm_O h3 hn
    have B2 := k2 nm n1 o1 o3 k d r b hk hB
    have C3 := cuA hp hi h3 hT h4 h5 o3
    have C4 := cuA hp hi i1 hT2 g2 hb2 o2
    have hc : T.1 = (T.1 - 1) + 1 := by omega
    have hc2 : (nt_rm T (f x0)).1 = T.1 - 1 := rfl
    rw [hc2] at o2 C4 ⊢
    rw [hc] at o3 C3 B2
    have R := td_1 hp hi (by omega) h5 o3 o2 C3 C4 m0 ad B2
    rw [Nat.add_assoc] at R
    have e2 : d + (c0 : Int) - ((T.1 - 1 + 1 : Nat) : Int) - 3 * (κ : Int) + 1 - 3 * (if sg x0 = true then 1 else 0) = d + c0 - ((T.1 - 1 : Nat) : Int) - 3 * ((κ + (if sg x0 = true then 1 else 0) : Nat) : Int) := by
      split <;> omega
    rw [e2] at R
    exact R
theorem tdJ_2 {x y : Nat} (hp : pr9 p) (hi : iv9 p) (h : tdJ p sg A0 c0 T) (hx : x < T.1) (hy : y < x) (e : mv_pair T.2.2.1.1 T.2.2.2 x y = true) : tdJ p sg A0 c0 (nt_rm (nt_rm T x) y) := by
  obtain ⟨hT, A, f, w, h3, h4, h5, κ, k1, k2⟩ := h
  obtain ⟨x0, rfl, m0, m1⟩ := nm_of h3 hx
  obtain ⟨y0, rfl, n0, n1⟩ := nm_of h3 (show y < T.1 by omega)
  have hne : x0 ≠ y0 := fun h9 => by
    rw [h9] at hy
    omega
  unfold mv_pair at e
  obtain ⟨e1, e2⟩ := Bool.and_eq_true_iff.mp e
  obtain ⟨e0, e1⟩ := Bool.and_eq_true_iff.mp e1
  have hu := fun (p : vT) (hp : p ∈ A.flatten) => (h3.1.1.2 p hp).2.1
  have hs : sg x0 ≠ sg y0 := fun h9 => by
    have e0 := of_decide_eq_true e0
    have a := h3.1.2.2.2.2.2.2.1 _ m0
    have a2 := h3.1.2.2.2.2.2.2.1 _ n0
    simp only [] at a a2
    rw [← h9] at a2
    rcases hT _ hx with q | q <;> rcases hT (f y0) (by omega) with q2 | q2
    · exact e0 (q.trans q2.symm)
    · rw [q] at a
      rw [q2] at a2
      exact absurd (a.mpr (a2.mp (by decide))) (by decide)
    · rw [q] at a
      rw [q2] at a2
      exact absurd (a2.mpr (a.mp (by decide))) (by decide)
    · exact e0 (q.trans q2.symm)
  obtain ⟨f', i1, i2⟩ := iso_rm h3 m0
  have i3 := i2 y0
  rw [if_neg (by omega)] at i3
  have n2 : (y0, 0) ∈ (wox A x0).flatten := (wox_mem hu).mpr ⟨n0, fun h9 => hne h9.symm⟩
  obtain ⟨f2, j1, -⟩ := iso_rm i1 n2
  rw [i3] at j1
  have hx1 : (nt_rm T (f x0)).1 = T.1 - 1 := rfl
  have ad0 := bs_adj h3 m0 n0 e1
  have ad1 := bs_adj h3 m1 n1 e2
  have g2 := gaA_2 h3.1.1.1 h4 hne ad0 ad1
  have hT2 : pm1 (nt_rm (nt_rm T (f x0)) (f y0)) := pm1_rm (pm1_rm hT hx) (by omega)
  have hb2 : bdA (wox (wox A x0) y0) := wox_bd (wox_bd h5)
  refine ⟨hT2, wox (wox A x0) y0, f2, w, j1, g2, hb2, κ + 1, ⟨?_, ?_⟩, fun nm nm' o1 o2 k d r b hk hB => ?_⟩
  · have u1 := ng_wox (sg := sg) h3.1.1.1 m0
    have u2 := ng_wox (sg := sg) (wox_bd h5).1 n2
    rw [k1.1, u1, u2]
    have : (if sg x0 = true then 1 else 0) + (if sg y0 = true then 1 else 0) = 1 := by
      revert hs
      cases sg x0 <;> cases sg y0 <;> simp
    omega
  · have := k1.2
    show T.1 - 1 - 1 + _ ≤ _
    omega
  · obtain ⟨n3, hn⟩ := nmT_ex h3
    have o3 := nm_O h3 hn
    have B2 := k2 nm n3 o1 o3 k d r b hk hB
    have C3 := cuA hp hi h3 hT h4 h5 o3
    have C4 := cuA hp hi j1 hT2 g2 hb2 o2
    have hc : T.1 = (T.1 - 2) + 2 := by omega
    have hc2 : (nt_rm (nt_rm T (f x0)) (f y0)).1 = T.1 - 2 := rfl
    rw [hc2] at o2 C4 ⊢
    rw [hc] at o3 C3 B2
    have R := td_2 hp hi (by omega) h5 o3 o2 C3 C4 m0 n0 hne hs ad0 ad1 B2
    rw [Nat.add_assoc] at R
    have e3 : d + (c0 : Int) - ((T.1 - 2 + 2 : Nat) : Int) - 3 * (κ : Int) - 1 = d + c0 - ((T.1 - 2 : Nat) : Int) - 3 * ((κ + 1 : Nat) : Int) := by omega
    rw [e3] at R
    exact R
theorem tdJ_0 (hT : pm1 T) (h : isoV A sg f T) (hw : gaA A w) (hb : bdA A) (hp : pr9 p) (hi : iv9 p) : tdJ p sg A T.1 T := by
  refine ⟨hT, A, f, w, h, hw, hb, 0, ⟨rfl, Nat.le_refl _⟩, fun nm nm' o1 o2 k d r b hk hB => ?_⟩
  have R := (bL_any hp hi o1 o2 (cuA hp hi h hT hw hb o1) hB).2
  rw [Nat.add_zero, show d + (T.1 : Int) - T.1 - 3 * ((0 : Nat) : Int) = d by omega]
  exact R
end XCI3
section XCI4
variable {vl : Nat → Nat} {y : ow_MS} {T : ow_NT} {J : ow_NT → Prop}
theorem te_tidyOnce (h1 : ∀ T x, J T → tyI T → x < T.1 → mv_bs T.2.2.1.1 (2 * x) (2 * x + 1) = true → J (nt_rm T x)) (h2 : ∀ T x u, J T → tyI T → x < T.1 → u < x → mv_pair T.2.2.1.1 T.2.2.2 x u = true → J (nt_rm (nt_rm T x) u)) (hy : cAt y 44000 T) (hT : tyI T) (hJ : J T) : Te (fun K => ce_X1_tidyOnce vl K 43000 y) (fun r => (∃ T', cAt r.2 44000 T' ∧ tyI T' ∧ J T') ∧ fr (cP 44000) y r.2) := by
  let Q : Int32 × ow_MS → Prop := fun r => (∃ T', cAt r.2 44000 T' ∧ tyI T' ∧ J T') ∧ fr (cP 44000) y r.2
  have hb := hT.1.2.2.1
  have h12 := hT.1.2.1
  have c1 : ∀ (d x : Nat), x + d = T.1 → Tt (fun K k => c_X1_tidyOnce vl K k 1 (nI x) 0 43000 y) Q := by
    intro d
    induction d with
    | zero =>
      intro x hx
      refine u_X1_tidyOnce_1 ?_; unfold cm_X1_tidyOnce_1
      exact w_rdF hy.1 (w_leT (by omega) (by omega) (w_okZ (Or.inl rfl) (w_some ⟨⟨T, hy, hT, hJ⟩, fr_rf⟩)))
    | succ d ih =>
      intro x hx
      have c2 : ∀ (d2 u : Nat), u + d2 = x → Tt (fun K k => c_X1_tidyOnce vl K k 2 (nI x) (nI u) 43000 y) Q := by
        intro d2
        induction d2 with
        | zero =>
          intro u hu
          refine u_X1_tidyOnce_2 ?_; unfold cm_X1_tidyOnce_2
          refine w_leT (by omega) (by omega) ?_
          rw [nI_1]
          exact ih (x + 1) (by omega)
        | succ d2 ih2 =>
          intro u hu
          refine u_X1_tidyOnce_2 ?_; unfold cm_X1_tidyOnce_2
          refine w_leF (by omega) (by omega) (w_cs1 (tc_isPair nH44 hy hb (by omega) (by omega)) ?_)
          rintro a z1 ⟨r1, r2⟩
          dsimp only at r1 r2
          subst r2
          rw [r1]
          cases e : mv_pair T.2.2.1.1 T.2.2.2 x u with
          | false =>
            refine w_ifT rfl ?_
            rw [nI_1]
            exact ih2 (u + 1) (by omega)
          | true =>
            refine w_ifF (by decide) (w_cs0 (tc_removeCrossing nH44 hy hb (by omega) h12) ?_)
            rintro z2 ⟨q1, q2⟩
            have hx1 : (nt_rm T x).1 = T.1 - 1 := rfl
            have hv1 := nv_rm hT.1 (show x < T.1 by omega)
            refine w_cs0 (tc_removeCrossing nH44 q1 hv1.2.2.1 (by omega) hv1.2.1) ?_
            rintro z3 ⟨q3, q4⟩
            exact w_okZ (Or.inr rfl) (w_some ⟨⟨_, q3, tyI_2 hT (by omega) (by omega) e, h2 T x u hJ hT (by omega) (by omega) e⟩, fr_tr q2 q4⟩)
      refine u_X1_tidyOnce_1 ?_; unfold cm_X1_tidyOnce_1
      refine w_rdF hy.1 (w_leF (by omega) (by omega) (w_cs1 (tc_isLoop nH44 hy hb (by omega)) ?_))
      rintro a z1 ⟨r1, r2⟩
      dsimp only at r1 r2
      subst r2
      rw [r1]
      cases e : mv_bs T.2.2.1.1 (2 * x) (2 * x + 1) with
      | false => exact w_ifT rfl (c2 x 0 (by omega))
      | true =>
        refine w_ifF (by decide) (w_cs0 (tc_removeCrossing nH44 hy hb (by omega) h12) ?_)
        rintro z2 ⟨q1, q2⟩
        exact w_okZ (Or.inr rfl) (w_some ⟨⟨_, q1, tyI_1 hT (by omega) e, h1 T x hJ hT (by omega) e⟩, q2⟩)
  refine e_X1_tidyOnce ?_
  refine u_X1_tidyOnce_0 ?_; unfold cm_X1_tidyOnce_0
  exact c1 T.1 0 (by omega)
theorem te_tidy (h1 : ∀ T x, J T → tyI T → x < T.1 → mv_bs T.2.2.1.1 (2 * x) (2 * x + 1) = true → J (nt_rm T x)) (h2 : ∀ T x u, J T → tyI T → x < T.1 → u < x → mv_pair T.2.2.1.1 T.2.2.2 x u = true → J (nt_rm (nt_rm T x) u)) (hy : cAt y 44000 T) (hT : tyI T) (hJ : J T) : Te (fun K => ce_X1_tidy vl K 43000 y) (fun y1 => (∃ T', cAt y1 44000 T' ∧ tyI T' ∧ J T') ∧ fr (cP 44000) y y1) := by
  let Q : ow_MS → Prop := fun y1 => (∃ T', cAt y1 44000 T' ∧ tyI T' ∧ J T') ∧ fr (cP 44000) y y1
  have c1 : ∀ (d i : Nat) (x1 : Int32) (z : ow_MS), i + d = 9 → Q z → Tt (fun K k => c_X1_tidy vl K k 1 x1 (nI i) 43000 z) Q := by
    intro d
    induction d with
    | zero =>
      intro i x1 z hi hz
      refine u_X1_tidy_1 ?_; unfold cm_X1_tidy_1
      exact w_ltT (a := 8) (b := i) (by omega) (by omega) (w_some hz)
    | succ d ih =>
      intro i x1 z hi hz
      refine u_X1_tidy_1 ?_; unfold cm_X1_tidy_1
      refine w_ltF (a := 8) (b := i) (by omega) (by omega) (w_if (fun _ => w_some hz) (fun _ => ?_))
      obtain ⟨⟨T1, t1, t2, t4⟩, t3⟩ := hz
      refine w_cs1 (te_tidyOnce h1 h2 t1 t2 t4) ?_
      rintro a z1 ⟨q1, q2⟩
      rw [nI_1]
      exact ih (i + 1) _ z1 (by omega) ⟨q1, fr_tr t3 q2⟩
  refine e_X1_tidy ?_
  refine u_X1_tidy_0 ?_; unfold cm_X1_tidy_0
  exact c1 9 0 _ y (by omega) ⟨⟨T, hy, hT, hJ⟩, fr_rf⟩
end XCI4
