/-! maps: the class's arcs; classes of permutations -/
/-- alike along visits over -/
def hC9 (S : ow_NP) (c : Nat) (h : Nat → Nat) : Prop := ∀ v, v < 2 * c → S.1 v % 2 = 0 → h (S.1 v) = h v
def hI9 (S : ow_NP) (c : Nat) (f : Nat → Option Nat) : Prop := ∀ h : Nat → Nat, hC9 S c h → ∀ v l, v < 2 * c → f v = some l → l < c → h v = h (2 * l + 1)
def hA9 (S : ow_NP) (c : Nat) (a : Nat → Nat) : Prop := ∀ h : Nat → Nat, hC9 S c h → ∀ v, v < 2 * c → a v < c → h v = h (2 * a v + 1)
section XMG
variable {vl : Nat → Nat} {y : ow_MS} {S : ow_NP} {G : Nat → Int32} {c ci : Nat} {q : Nat → Nat}
theorem hI9_ge {f : Nat → Option Nat} {v l : Nat} (hl : c ≤ l) (h : hI9 S c f) : hI9 S c (stO f v l) := fun g hg w k hw e hk => by
  by_cases ew : w = v
  · rw [ew, stO_at] at e
    have := Option.some.inj e
    omega
  · rw [stO_ne ew] at e
    exact h g hg w k hw e hk
theorem hI9_0 {f : Nat → Option Nat} {k : Nat} (h : hI9 S c f) : hI9 S c (stO f (2 * k + 1) k) := fun g hg w l hw e hk => by
  by_cases ew : w = 2 * k + 1
  · rw [ew, stO_at] at e
    rw [ew, ← Option.some.inj e]
  · rw [stO_ne ew] at e
    exact h g hg w l hw e hk
theorem hI9_s {f : Nat → Option Nat} {k v : Nat} (hv : vn c S) (hvc : v < 2 * c) (h2 : v % 2 = 0) (hp : f (S.2 v) = some k) (h : hI9 S c f) : hI9 S c (stO f v k) := fun g hg w l hw e hk => by
  by_cases ew : w = v
  · rw [ew, stO_at] at e
    have el := Option.some.inj e
    obtain ⟨-, b2, -, b4⟩ := hv v hvc
    have h1 := hg (S.2 v) b2 (by rw [b4]; exact h2)
    rw [b4] at h1
    rw [ew, h1, ← el]
    exact h g hg (S.2 v) k b2 hp (by omega)
  · rw [stO_ne ew] at e
    exact h g hg w l hw e hk
theorem xc_markArcs {h m : Nat} {R : List Nat} (hh : nH h) (hy : cAt y h (c, ci, S, G)) (hv : vn c S) (hc : c ≤ 12) (hci : ci ≤ 6) (hq : ∀ v, v < 2 * c → q (S.1 v) = q v) (hr : ∀ v w, v < 2 * c → w < 2 * c → q v = q w → ∃ i, it S.1 i v = w) (hR : R.length ≤ m) (hR2 : ∀ v, v < 2 * c → q v ∈ R) (hm : m ≤ 6) : Te (fun K => ce_X0_markArcs vl K 41000 h y) (fun y1 => (∃ a n, arcS y1 S c ci q a n ∧ n ≤ c + m ∧ c ≤ n ∧ hA9 S c a) ∧ fr arP y y1) := by
  let Q : ow_MS → Prop := fun y1 => (∃ a n, arcS y1 S c ci q a n ∧ n ≤ c + m ∧ c ≤ n ∧ hA9 S c a) ∧ fr arP y y1
  have h4 : 4000 ≤ h ∧ h ≤ 44000 := nH_all (P := fun h => 4000 ≤ h ∧ h ≤ 44000) (by decide) hh
  have h41 : ¬ (arP (h + 1) ∨ arP (h + 2) ∨ arP (h + 3) ∨ arP (h + 8) ∨ arP (h + 9)) := by
    have key : ∀ a, a ∈ nHL → a ≠ 41000 ∧ a % 1000 = 0 := by decide
    have := key h hh
    unfold arP
    omega
  have hA : ∀ z, fr arP y z → cAt z h (c, ci, S, G) := fun z hf => cAt_fr hf (fun g hg h9 => by unfold cP at hg; unfold arP at h9 h41; omega) hy
  let J : ow_MS → (Nat → Option Nat) → Nat → Prop := fun z f n => (∀ v, v < 24 → z.2.1 41001 v = oM (f v)) ∧ z.1 41002 = nI n ∧ fr arP y z ∧ hI9 S c f
  have Jset : ∀ z f n v l, J z f n → l = n → hI9 S c (stO f v l) → J (usI z 41001 v (nI l)) (stO f v l) n := by
    rintro z f n v l ⟨j1, j2, j3, j4⟩ rfl j5
    refine ⟨fun w hw => ?_, j2, fr_I2 j3 (Or.inl rfl), j5⟩
    by_cases e : w = v
    · rw [e, po_usI_at, stO_at]
      rfl
    · rw [stO_ne e]
      exact rd_ne e (j1 w hw)
  -- the last: circles come
  have fin : ∀ z f U s, ar2 S c q s U f → 2 * c ≤ s → J z f (c + U.length) → Tt (fun K k => c_X0_markArcs vl K k 1 (nI (2 * c)) (nI 0 + -1) 0 0 0 41000 h z) Q := by
    rintro z f U s ⟨a1, a2, a3, a4, ⟨u1, u2, u3, u4⟩, a6⟩ hs ⟨j1, j2, j3, j4⟩
    have hU : U.length ≤ m := Nat.le_trans (nodup_le U R u1 (fun r hr2 => by
      obtain ⟨v, v1, v2⟩ := u2 r hr2
      rw [← v2]
      exact hR2 v v1)) hR
    have all : ∀ v, v < 2 * c → ∃ l, f v = some l := by
      intro v hv2
      rcases Nat.mod_two_eq_zero_or_one v with h9 | h9
      · cases hf : f v with
        | none => exact absurd hf (a6 v hv2 (by omega) h9)
        | some l => exact ⟨l, rfl⟩
      · have := a1 (v / 2) (by omega)
        rw [show 2 * (v / 2) + 1 = v by omega] at this
        exact ⟨_, this⟩
    refine u_X0_markArcs_1 ?_; unfold cm_X0_markArcs_1
    refine w_ifT (by decide) (w_rdF j2 (w_rdF (hA z j3).2.1 (w_wrF (w_some ⟨⟨fun v => (f v).getD 0, c + U.length, ⟨fun v hv2 => ?_, fun x hx => ?_, fun v hv2 he => ?_, fun v w hv2 hw hl e => ?_, ?_⟩, by omega, by omega, fun h hh v hv2 hl => ?_⟩, fr_F2 j3 (Or.inr rfl)⟩))))
    · obtain ⟨l, hl⟩ := all v hv2
      refine ⟨(j1 v (by omega)).trans ?_, ?_⟩
      · dsimp only
        rw [hl]
        rfl
      · dsimp only
        rw [hl]
        exact (a2 v l hv2 hl).1
    · dsimp only
      rw [a1 x hx]
      rfl
    · obtain ⟨l, hl⟩ := all v hv2
      dsimp only
      rw [hl, (a2 v l hv2 hl).2.2 he]
    · obtain ⟨l, e1⟩ := all v hv2
      obtain ⟨l', e2⟩ := all w hw
      dsimp only at hl e
      rw [e1] at hl e
      rw [e2] at e
      have e : l = l' := e
      subst e
      have q1 := u3 v l hv2 e1 hl
      have q2 := u3 w l hw e2 hl
      rw [q1] at q2
      injection q2
    · rw [po_usF_at, nI_add]
    · obtain ⟨l, e1⟩ := all v hv2
      dsimp only at hl ⊢
      rw [e1] at hl ⊢
      exact j4 h hh v l hv2 e1 hl
  -- the even visits
  have p2 : ∀ (d s : Nat) (U : List Nat) (z : ow_MS) (f : Nat → Option Nat), s + 2 * d = 2 * c + 2 → s % 2 = 0 → ar2 S c q s U f → J z f (c + U.length) → Tt (fun K k => c_X0_markArcs vl K k 2 (nI (2 * c)) (nI 0) (nI s) 0 0 41000 h z) Q := by
    intro d
    induction d with
    | zero =>
      intro s U z f hs he ha hJ
      refine u_X0_markArcs_2 ?_; unfold cm_X0_markArcs_2
      exact w_leT (by omega) (by omega) (fin z f U s ha (by omega) hJ)
    | succ d ih =>
      intro s U z f hs he ha hJ
      have c6 : ∀ (U' : List Nat) (z : ow_MS) (f : Nat → Option Nat), ar2 S c q (s + 2) U' f → J z f (c + U'.length) → Tt (fun K k => c_X0_markArcs vl K k 6 (nI (2 * c)) (nI 0) (nI s) 0 0 41000 h z) Q := by
        intro U' z f ha hJ
        refine u_X0_markArcs_6 ?_; unfold cm_X0_markArcs_6
        rw [show nI s + (2 : Int32) = nI (s + 2) from nI_add s 2]
        exact ih (s + 2) U' z f (by omega) (by omega) ha hJ
      have c5 : ∀ (v i : Int32) (z : ow_MS) (f : Nat → Option Nat), ar2 S c q (s + 2) (U ++ [q s]) f → J z f (c + U.length) → Tt (fun K k => c_X0_markArcs vl K k 5 (nI (2 * c)) (nI 0) (nI s) v i 41000 h z) Q := by
        rintro v i z f ha ⟨j1, j2, j3, j4⟩
        refine u_X0_markArcs_5 ?_; unfold cm_X0_markArcs_5
        refine w_rdF j2 (w_wrF (c6 (U ++ [q s]) _ f ha ⟨j1, ?_, fr_F2 j3 (Or.inr rfl), j4⟩))
        rw [po_usF_at, nI_1, List.length_append]
        rfl
      by_cases hsc : s < 2 * c
      · have c3 : ∀ (e i v : Nat) (z : ow_MS) (f : Nat → Option Nat), i + e = 2 * c → v < 2 * c → i + ucn f (2 * c) ≤ 2 * c → ax2 S c q s U f v → J z f (c + U.length) → 0 < i → Tt (fun K k => c_X0_markArcs vl K k 3 (nI (2 * c)) (nI 0) (nI s) (nI v) (nI i) 41000 h z) Q := by
          intro e
          induction e with
          | zero =>
            intro i v z f hi hvc hu hx hJ hi0
            refine u_X0_markArcs_3 ?_; unfold cm_X0_markArcs_3
            exact w_leT (by omega) (by omega) (c5 _ _ z f (ax2_e hv hr hsc he (ucn_0 _ (by omega) v hvc) hx) hJ)
          | succ e ihe =>
            intro i v z f hi hvc hu hx hJ hi0
            by_cases hn : f v = none
            · have hv2 : v % 2 = 0 := by
                rcases Nat.mod_two_eq_zero_or_one v with h9 | h9
                · exact h9
                · have := hx.1 (v / 2) (by omega)
                  rw [show 2 * (v / 2) + 1 = v by omega, hn] at this
                  cases this
              have uc := ucn_st (l := c + U.length) hn (2 * c) hvc
              obtain ⟨j1, j2, j3, j4⟩ := id hJ
              refine u_X0_markArcs_3 ?_; unfold cm_X0_markArcs_3
              refine w_leF (by omega) (by omega) (w_ifF (fun h9 => by have := (nI_eq (a := i) (b := 0) (by omega) (by omega)).mp h9; omega) (w_ifT ((vm2 ⟨v, by omega⟩).mpr hv2) ?_))
              refine u_X0_markArcs_4 ?_; unfold cm_X0_markArcs_4
              refine w_crI ch_41001 rfl (by omega) ((j1 v (by omega)).trans (by rw [hn]; rfl)) (w_ifT rfl (w_rdF j2 (w_ctI ch_41001 rfl (by omega) (w_crI (nH_1 hh) rfl (show v < 24 by omega) (rd_ot (by unfold arP at h41; omega) ((hA z j3).2.2.1 v)) ?_))))
              rw [nI_1]
              have hU6 : U.length ≤ 1000 := by
                have := nodup_le U R hx.2.2.2.2.1.1 (fun r hr2 => by
                  obtain ⟨v, v1, v2⟩ := hx.2.2.2.2.1.2.1 r hr2
                  rw [← v2]
                  exact hR2 v v1)
                omega
              exact ihe (i + 1) (S.1 v) _ _ (by omega) (hv v hvc).1 (by omega) (ax2_s hv hq hsc hvc hn hx) (Jset z f _ v _ hJ rfl (hI9_ge (by omega) j4)) (by omega)
            · obtain ⟨j1, j2, j3, j4⟩ := id hJ
              have hU6 : U.length ≤ 1000 := by
                have := nodup_le U R hx.2.2.2.2.1.1 (fun r hr2 => by
                  obtain ⟨v, v1, v2⟩ := hx.2.2.2.2.1.2.1 r hr2
                  rw [← v2]
                  exact hR2 v v1)
                omega
              have e5 := c5 (nI v) (nI i) z f (ax2_e hv hr hsc he hn hx) hJ
              obtain ⟨l, hl⟩ : ∃ l, f v = some l := by
                cases hf : f v with
                | none => exact absurd hf hn
                | some l => exact ⟨l, rfl⟩
              have hl2 := (hx.2.1 v l hvc hl).1
              refine u_X0_markArcs_3 ?_; unfold cm_X0_markArcs_3
              refine w_leF (by omega) (by omega) (w_if (fun _ => ?_) (fun _ => w_if (fun _ => ?_) (fun _ => e5)))
              · refine u_X0_markArcs_4 ?_; unfold cm_X0_markArcs_4
                exact w_crI ch_41001 rfl (by omega) ((j1 v (by omega)).trans (by rw [hl])) (w_ifF (oM_n (by omega)) e5)
              · refine u_X0_markArcs_4 ?_; unfold cm_X0_markArcs_4
                exact w_crI ch_41001 rfl (by omega) ((j1 v (by omega)).trans (by rw [hl])) (w_ifF (oM_n (by omega)) e5)
        obtain ⟨j1, j2, j3, j4⟩ := id hJ
        by_cases hn : f s = none
        · have uc := ucn_st (l := c + U.length) hn (2 * c) hsc
          have ul := ucn_le f (2 * c)
          have x0 := ax2_0 hv hq hsc he hn ha
          refine u_X0_markArcs_2 ?_; unfold cm_X0_markArcs_2
          refine w_leF (by omega) (by omega) (w_crI ch_41001 rfl (by omega) ((j1 s (by omega)).trans (by rw [hn]; rfl)) (w_ifT rfl ?_))
          refine u_X0_markArcs_3 ?_; unfold cm_X0_markArcs_3
          refine w_leF (b := 0) (by omega) (by omega) (w_ifT rfl ?_)
          refine u_X0_markArcs_4 ?_; unfold cm_X0_markArcs_4
          refine w_crI ch_41001 rfl (by omega) ((j1 s (by omega)).trans (by rw [hn]; rfl)) (w_ifT rfl (w_rdF j2 (w_ctI ch_41001 rfl (by omega) (w_crI (nH_1 hh) rfl (show s < 24 by omega) (rd_ot (by unfold arP at h41; omega) ((hA z j3).2.2.1 s)) ?_))))
          exact c3 (2 * c - 1) 1 (S.1 s) _ _ (by omega) (hv s hsc).1 (by omega) x0 (Jset z f _ s _ hJ rfl (hI9_ge (by omega) j4)) (by omega)
        · obtain ⟨l, hl⟩ : ∃ l, f s = some l := by
            cases hf : f s with
            | none => exact absurd hf hn
            | some l => exact ⟨l, rfl⟩
          have hl2 := (ha.2.1 s l hsc hl).1
          have hU6 : U.length ≤ 1000 := by
            have := nodup_le U R ha.2.2.2.2.1.1 (fun r hr2 => by
              obtain ⟨v, v1, v2⟩ := ha.2.2.2.2.1.2.1 r hr2
              rw [← v2]
              exact hR2 v v1)
            omega
          refine u_X0_markArcs_2 ?_; unfold cm_X0_markArcs_2
          exact w_leF (by omega) (by omega) (w_crI ch_41001 rfl (by omega) ((j1 s (by omega)).trans (by rw [hl])) (w_ifF (oM_n (by omega)) (c6 U z f (ar2_k (fun _ => hn) ha he) hJ)))
      · refine u_X0_markArcs_2 ?_; unfold cm_X0_markArcs_2
        exact w_leT (by omega) (by omega) (fin z f U s ha (by omega) hJ)
  -- the odd visits
  have p1 : ∀ (d k : Nat) (z : ow_MS) (f : Nat → Option Nat), k + d = c → ar1 S c k f → J z f k → Tt (fun K t => c_X0_markArcs vl K t 2 (nI (2 * c)) (nI 1) (nI (2 * k + 1)) 0 0 41000 h z) Q := by
    intro d
    induction d with
    | zero =>
      intro k z f hk ha hJ
      have hk : k = c := by omega
      subst hk
      refine u_X0_markArcs_2 ?_; unfold cm_X0_markArcs_2
      refine w_leT (by omega) (by omega) ?_
      rw [show nI 1 + (-1 : Int32) = nI 0 from by decide]
      refine u_X0_markArcs_1 ?_; unfold cm_X0_markArcs_1
      refine w_ifF (by decide) ?_
      exact p2 (k + 1) 0 [] z f (by omega) (by omega) (ar2_0 hv ha) hJ
    | succ d ih =>
      intro k z f hk ha hJ
      have c5 : ∀ (v i : Int32) (z : ow_MS) (f : Nat → Option Nat), ar1 S c (k + 1) f → J z f k → Tt (fun K t => c_X0_markArcs vl K t 5 (nI (2 * c)) (nI 1) (nI (2 * k + 1)) v i 41000 h z) Q := by
        rintro v i z f ha ⟨j1, j2, j3, j4⟩
        refine u_X0_markArcs_5 ?_; unfold cm_X0_markArcs_5
        refine w_rdF j2 (w_wrF ?_)
        refine u_X0_markArcs_6 ?_; unfold cm_X0_markArcs_6
        rw [show nI (2 * k + 1) + (2 : Int32) = nI (2 * (k + 1) + 1) from nI_add _ 2]
        refine ih (k + 1) _ f (by omega) ha ⟨j1, ?_, fr_F2 j3 (Or.inr rfl), j4⟩
        rw [po_usF_at, nI_1]
      have c3 : ∀ (e i v : Nat) (z : ow_MS) (f : Nat → Option Nat), i + e = 2 * c → v < 2 * c → i + ucn f (2 * c) ≤ 2 * c → ax1 S c k f v → J z f k → 0 < i → Tt (fun K t => c_X0_markArcs vl K t 3 (nI (2 * c)) (nI 1) (nI (2 * k + 1)) (nI v) (nI i) 41000 h z) Q := by
        intro e
        induction e with
        | zero =>
          intro i v z f hi hvc hu hx hJ hi0
          refine u_X0_markArcs_3 ?_; unfold cm_X0_markArcs_3
          exact w_leT (by omega) (by omega) (c5 _ _ z f (ax1_e hv hvc (Or.inr (ucn_0 _ (by omega) v hvc)) hx) hJ)
        | succ e ihe =>
          intro i v z f hi hvc hu hx hJ hi0
          obtain ⟨j1, j2, j3, j4⟩ := id hJ
          have hi9 : ¬ nI i = 0 := fun h9 => by have := (nI_eq (a := i) (b := 0) (by omega) (by omega)).mp h9; omega
          rcases Nat.mod_two_eq_zero_or_one v with hv2 | hv2
          · by_cases hn : f v = none
            · have uc := ucn_st (l := k) hn (2 * c) hvc
              refine u_X0_markArcs_3 ?_; unfold cm_X0_markArcs_3
              refine w_leF (by omega) (by omega) (w_ifF hi9 (w_ifT ((vm2 ⟨v, by omega⟩).mpr hv2) ?_))
              refine u_X0_markArcs_4 ?_; unfold cm_X0_markArcs_4
              refine w_crI ch_41001 rfl (by omega) ((j1 v (by omega)).trans (by rw [hn]; rfl)) (w_ifT rfl (w_rdF j2 (w_ctI ch_41001 rfl (by omega) (w_crI (nH_1 hh) rfl (show v < 24 by omega) (rd_ot (by unfold arP at h41; omega) ((hA z j3).2.2.1 v)) ?_))))
              rw [nI_1]
              exact ihe (i + 1) (S.1 v) _ _ (by omega) (hv v hvc).1 (by omega) (ax1_s hv hvc hv2 hn hx) (Jset z f _ v _ hJ rfl (hI9_s hv hvc hv2 hx.2.2.2.2 j4)) (by omega)
            · obtain ⟨l, hl⟩ : ∃ l, f v = some l := by
                cases hf : f v with
                | none => exact absurd hf hn
                | some l => exact ⟨l, rfl⟩
              have hl2 := (hx.2.2.1 v l hvc hl).1
              refine u_X0_markArcs_3 ?_; unfold cm_X0_markArcs_3
              refine w_leF (by omega) (by omega) (w_ifF hi9 (w_ifT ((vm2 ⟨v, by omega⟩).mpr hv2) ?_))
              refine u_X0_markArcs_4 ?_; unfold cm_X0_markArcs_4
              exact w_crI ch_41001 rfl (by omega) ((j1 v (by omega)).trans (by rw [hl])) (w_ifF (oM_n (by omega)) (c5 (nI v) (nI i) z f (ax1_e hv hvc (Or.inr hn) hx) hJ))
          · refine u_X0_markArcs_3 ?_; unfold cm_X0_markArcs_3
            exact w_leF (by omega) (by omega) (w_ifF hi9 (w_ifF (fun h9 => by have := (vm2 ⟨v, by omega⟩).mp h9; dsimp only at this; omega) (c5 (nI v) (nI i) z f (ax1_e hv hvc (Or.inl hv2) hx) hJ)))
      obtain ⟨j1, j2, j3, j4⟩ := id hJ
      have hn := ha.2.1 k (Nat.le_refl _)
      have uc := ucn_st (l := k) hn (2 * c) (by omega)
      have ul := ucn_le f (2 * c)
      refine u_X0_markArcs_2 ?_; unfold cm_X0_markArcs_2
      refine w_leF (by omega) (by omega) (w_crI ch_41001 rfl (by omega) ((j1 _ (by omega)).trans (by rw [hn]; rfl)) (w_ifT rfl ?_))
      refine u_X0_markArcs_3 ?_; unfold cm_X0_markArcs_3
      refine w_leF (b := 0) (by omega) (by omega) (w_ifT rfl ?_)
      refine u_X0_markArcs_4 ?_; unfold cm_X0_markArcs_4
      refine w_crI ch_41001 rfl (by omega) ((j1 _ (by omega)).trans (by rw [hn]; rfl)) (w_ifT rfl (w_rdF j2 (w_ctI ch_41001 rfl (by omega) (w_crI (nH_1 hh) rfl (show 2 * k + 1 < 24 by omega) (rd_ot (by unfold arP at h41; omega) ((hA z j3).2.2.1 _)) ?_))))
      exact c3 (2 * c - 1) 1 (S.1 (2 * k + 1)) _ _ (by omega) (hv _ (by omega)).1 (by omega) (ax1_0 hv (by omega) ha) (Jset z f _ _ _ hJ rfl (hI9_0 j4)) (by omega)
  refine e_X0_markArcs ?_
  refine u_X0_markArcs_0 ?_; unfold cm_X0_markArcs_0
  refine w_rdF hy.1 (w_cs0 (tc_fillA ch_41001 (by omega)) ?_)
  rintro y2 ⟨g1, g2⟩
  refine w_wrF ?_
  rw [rn_mul2]
  refine u_X0_markArcs_1 ?_; unfold cm_X0_markArcs_1
  refine w_ifF (by decide) ?_
  refine p1 c 0 _ (fun _ => none) (by omega) ⟨fun x hx => absurd hx (by omega), fun x _ => rfl, fun v l _ h9 => (by cases h9), fun v l _ _ h9 => (by cases h9)⟩ ⟨fun v hv2 => ?_, po_usF_at, fr_F2 (fr_mono (fun g hg => Or.inl hg) g2) (Or.inr rfl), fun h _ v l _ h9 => (by cases h9)⟩
  exact g1 v hv2
/-- one number: one arc -/
theorem arc_lb {a : Nat → Nat} {n : Nat} (hv : vn c S) (hq : ∀ v, v < 2 * c → q (S.1 v) = q v) (hr : ∀ v w, v < 2 * c → w < 2 * c → q v = q w → ∃ i, it S.1 i v = w) (hs : arcS y S c ci q a n) (hA : hA9 S c a) : lb9 n c S a := by
  obtain ⟨s1, s2, s3, s4, -⟩ := hs
  refine ⟨fun w hw => (s1 w hw).2, fun x hx => ?_, fun h hh v w hv1 hw1 e => ?_⟩
  · obtain ⟨-, b2, -, b4⟩ := hv (2 * x) (by omega)
    have := s3 (S.2 (2 * x)) b2 (by rw [b4]; omega)
    rw [b4] at this
    exact this
  · have hc : hC9 S c h := fun u hu e0 => by
      obtain ⟨b1, -, b3, -⟩ := hv u hu
      have := hh (S.1 u / 2) (by omega)
      rw [show 2 * (S.1 u / 2) = S.1 u by omega, b3] at this
      exact this
    by_cases hl : a v < c
    · rw [hA h hc v hv1 hl, hA h hc w hw1 (by omega), e]
    · have lt : ∀ i x, x < 2 * c → a x < c → a (it S.1 i x) < c := by
        intro i
        induction i with
        | zero => exact fun x _ h9 => h9
        | succ i ih =>
          intro x hx h9
          have b := it_lt hv hx i
          show a (S.1 (it S.1 i x)) < c
          have b1 := (hv _ b).1
          by_cases e0 : S.1 (it S.1 i x) % 2 = 0
          · rw [s3 _ b e0]
            exact ih x hx h9
          · have := s2 (S.1 (it S.1 i x) / 2) (by omega)
            rw [show 2 * (S.1 (it S.1 i x) / 2) + 1 = S.1 (it S.1 i x) by omega] at this
            omega
      have qi : ∀ i, q (it S.1 i v) = q v := by
        intro i
        induction i with
        | zero => rfl
        | succ i ih => exact (hq _ (it_lt hv hv1 i)).trans ih
      have ev : ∀ i, it S.1 i v % 2 = 0 := by
        intro i
        rcases Nat.mod_two_eq_zero_or_one (it S.1 i v) with h9 | h9
        · exact h9
        · have b := it_lt hv hv1 i
          have := s2 (it S.1 i v / 2) (by omega)
          rw [show 2 * (it S.1 i v / 2) + 1 = it S.1 i v by omega] at this
          obtain ⟨j, ej⟩ := hr _ v b hv1 (qi i)
          have := lt j _ b (by omega)
          rw [ej] at this
          exact absurd this hl
      have hi : ∀ i, h (it S.1 i v) = h v := by
        intro i
        induction i with
        | zero => rfl
        | succ i ih => exact (hc _ (it_lt hv hv1 i) (ev (i + 1))).trans ih
      obtain ⟨i, ei⟩ := hr v w hv1 hw1 (s4 v w hv1 hw1 (by omega) e)
      rw [← ei]
      exact (hi i).symm
/-- the least that is conjugate -/
def lsM (x : Nat) : Nat → Nat
  | 0 => x
  | o + 1 => if cjG o x < lsM x o then cjG o x else lsM x o
def csz (g : Nat) : Nat → Nat → Nat
  | 0, _ => 0
  | k + 1, l => csz g k l + if lsM k g = l then 1 else 0
theorem csz_le {g l : Nat} : ∀ k, csz g k l ≤ k
  | 0 => Nat.le_refl _
  | k + 1 => by
    have := csz_le (g := g) (l := l) k
    show csz g k l + (if lsM k g = l then 1 else 0) ≤ k + 1
    split <;> omega
theorem lsM_or {x : Nat} : ∀ g, lsM x g = x ∨ ∃ o, o < g ∧ lsM x g = cjG o x
  | 0 => Or.inl rfl
  | g + 1 => by
    show (if cjG g x < lsM x g then cjG g x else lsM x g) = x ∨ ∃ o, o < g + 1 ∧ (if cjG g x < lsM x g then cjG g x else lsM x g) = cjG o x
    by_cases e : cjG g x < lsM x g
    · rw [if_pos e]
      exact Or.inr ⟨g, by omega, rfl⟩
    · rw [if_neg e]
      rcases lsM_or (x := x) g with h | ⟨o, o1, o2⟩
      · exact Or.inl h
      · exact Or.inr ⟨o, by omega, o2⟩
theorem lsM_lt {x g : Nat} (hx : x < 24) (hg : g ≤ 24) : lsM x g < 24 := by
  rcases lsM_or (x := x) g with h | ⟨o, o1, o2⟩
  · rw [h]
    exact hx
  · rw [o2]
    exact (ca9 (h := o) (o := x) (by omega) hx).2.2.2.1
theorem xc_findCl {g : Nat} (hg : g ≤ 24) (h : cjT y) : Te (fun K => ce_X0_findClasses vl K 41000 (nI g) y) (fun y1 => (∀ l, l < 24 → y1.2.1 41008 l = nI (csz g g l)) ∧ fr (fun q => q = 41008) y y1) := by
  let Q : ow_MS → Prop := fun z => (∀ l, l < 24 → z.2.1 41008 l = nI (csz g g l)) ∧ fr (fun q => q = 41008) y z
  have c1 : ∀ (d x : Nat) (z : ow_MS), x + d = g → (∀ l, l < 24 → z.2.1 41008 l = nI (csz g x l)) → fr (fun q => q = 41008) y z → Tt (fun K k => c_X0_findClasses vl K k 1 (nI g) (nI x) 0 0 41000 z) Q := by
    intro d
    induction d with
    | zero =>
      intro x z hx hz hf
      have ex : x = g := by omega
      rw [ex] at hz
      refine u_X0_findClasses_1 ?_; unfold cm_X0_findClasses_1
      exact w_leT (by omega) (by omega) (w_some ⟨hz, hf⟩)
    | succ d ih =>
      intro x z hx hz hf
      have c2 : ∀ (e o : Nat), o + e = g → Tt (fun K k => c_X0_findClasses vl K k 2 (nI g) (nI x) (nI (lsM x o)) (nI o) 41000 z) Q := by
        intro e
        induction e with
        | zero =>
          intro o ho
          have eo : o = g := by omega
          subst eo
          have hm := lsM_lt (x := x) (g := o) (by omega) hg
          refine u_X0_findClasses_2 ?_; unfold cm_X0_findClasses_2
          refine w_leT (by omega) (by omega) (w_crI ch_41008 rfl hm (hz _ hm) (w_ctI ch_41008 rfl hm ?_))
          rw [nI_1, nI_1]
          refine ih (x + 1) _ (by omega) (fun l hl => ?_) (fr_I2 hf rfl)
          show (usI z 41008 (lsM x o) (nI (csz o x (lsM x o) + 1))).2.1 41008 l = nI (csz o x l + if lsM x o = l then 1 else 0)
          by_cases el : l = lsM x o
          · rw [if_pos el.symm, el]
            exact po_usI_at
          · rw [if_neg (fun h9 => el h9.symm)]
            exact rd_ne el (hz l hl)
        | succ e ihe =>
          intro o ho
          have k2 := h.1 o x (by omega) (by omega)
          have k1 := (ca9 (h := o) (o := x) (by omega) (by omega)).2.2.2.1
          have hm := lsM_lt (x := x) (g := o) (by omega) (by omega)
          have e1 : lsM x (o + 1) = if cjG o x < lsM x o then cjG o x else lsM x o := rfl
          refine u_X0_findClasses_2 ?_; unfold cm_X0_findClasses_2
          rw [show (24 : Int32) * nI o = nI (24 * o) from pk_mul 24 o, nI_add, nI_1, nI_1]
          refine w_leF (by omega) (by omega) (w_crI ch_41006 rfl (by omega) ((congrFun (hf 41006 (by decide)).2.1 _).trans k2) ?_)
          by_cases hk : cjG o x < lsM x o
          · rw [if_pos hk] at e1
            rw [if_pos (nI_lt hk (by omega)), ← e1]
            exact ihe (o + 1) (by omega)
          · rw [if_neg hk] at e1
            rw [if_neg (nI_nlt (by omega) (by omega)), ← e1]
            exact ihe (o + 1) (by omega)
      refine u_X0_findClasses_1 ?_; unfold cm_X0_findClasses_1
      exact w_leF (by omega) (by omega) (c2 g 0 (by omega))
  refine e_X0_findClasses ?_
  refine u_X0_findClasses_0 ?_; unfold cm_X0_findClasses_0
  refine w_cs0 (tc_fillA ch_41008 (by omega)) ?_
  rintro z ⟨hz, hf⟩
  exact c1 g 0 z (by omega) (fun l hl => hz l hl) hf
end XMG
