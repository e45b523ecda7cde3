section
/-! 99zzzzzzy.carc2 -/
/-! the class: markArcs; cover, colours have an answer -/
/-- the arcs of a net: a label for the gap behind each visit -/
def arcS (y : ow_MS) (S : ow_NP) (c ci : Nat) (q : Nat → Nat) (a : Nat → Nat) (n : Nat) : Prop := (∀ v, v < 2 * c → y.2.1 41001 v = nI (a v) ∧ a v < n) ∧ (∀ x, x < c → a (2 * x + 1) = x) ∧ (∀ v, v < 2 * c → S.1 v % 2 = 0 → a (S.1 v) = a v) ∧ (∀ v w, v < 2 * c → w < 2 * c → c ≤ a v → a v = a w → q v = q w) ∧ y.1 41002 = nI (n + ci)
section CMA
variable {vl : Nat → Nat} {y : ow_MS} {S : ow_NP} {G : Nat → Int32} {c ci : Nat} {q : Nat → Nat}
def arP (g : Nat) : Prop := g = 41001 ∨ g = 41002
theorem oM_n {l : Nat} (hl : l < 2 ^ 31) : oM (some l) ≠ -1 := fun e => nI_pos hl (by
  have e : nI l = -1 := e
  rw [e]
  decide)
theorem vm2 : ∀ v : Fin 24, ((nI v.val &&& 1) = 0 ↔ v.val % 2 = 0) := by decide +kernel
theorem u_X0_markArcs_1 {vl : Nat → Nat} {x2 : Int32} {x3 : Int32} {x4 : Int32} {x5 : Int32} {x6 : Int32} {r0 : Nat} {r1 : Nat} {z : ow_MS} {Q : ow_MS → Prop} (H : Tt (fun K k => cm_X0_markArcs_1 vl K (c_X0_markArcs vl K k) x2 x3 x4 x5 x6 r0 r1 z) Q) : Tt (fun K k => c_X0_markArcs vl K k 1 x2 x3 x4 x5 x6 r0 r1 z) Q := w_un (fun _ _ => rfl) H
theorem u_X0_markArcs_2 {vl : Nat → Nat} {x2 : Int32} {x3 : Int32} {x4 : Int32} {x5 : Int32} {x6 : Int32} {r0 : Nat} {r1 : Nat} {z : ow_MS} {Q : ow_MS → Prop} (H : Tt (fun K k => cm_X0_markArcs_2 vl K (c_X0_markArcs vl K k) x2 x3 x4 x5 x6 r0 r1 z) Q) : Tt (fun K k => c_X0_markArcs vl K k 2 x2 x3 x4 x5 x6 r0 r1 z) Q := w_un (fun _ _ => rfl) H
theorem u_X0_markArcs_6 {vl : Nat → Nat} {x2 : Int32} {x3 : Int32} {x4 : Int32} {x5 : Int32} {x6 : Int32} {r0 : Nat} {r1 : Nat} {z : ow_MS} {Q : ow_MS → Prop} (H : Tt (fun K k => cm_X0_markArcs_6 vl K (c_X0_markArcs vl K k) x2 x3 x4 x5 x6 r0 r1 z) Q) : Tt (fun K k => c_X0_markArcs vl K k 6 x2 x3 x4 x5 x6 r0 r1 z) Q := w_un (fun _ _ => rfl) H
theorem u_X0_markArcs_5 {vl : Nat → Nat} {x2 : Int32} {x3 : Int32} {x4 : Int32} {x5 : Int32} {x6 : Int32} {r0 : Nat} {r1 : Nat} {z : ow_MS} {Q : ow_MS → Prop} (H : Tt (fun K k => cm_X0_markArcs_5 vl K (c_X0_markArcs vl K k) x2 x3 x4 x5 x6 r0 r1 z) Q) : Tt (fun K k => c_X0_markArcs vl K k 5 x2 x3 x4 x5 x6 r0 r1 z) Q := w_un (fun _ _ => rfl) H
theorem u_X0_markArcs_3 {vl : Nat → Nat} {x2 : Int32} {x3 : Int32} {x4 : Int32} {x5 : Int32} {x6 : Int32} {r0 : Nat} {r1 : Nat} {z : ow_MS} {Q : ow_MS → Prop} (H : Tt (fun K k => cm_X0_markArcs_3 vl K (c_X0_markArcs vl K k) x2 x3 x4 x5 x6 r0 r1 z) Q) : Tt (fun K k => c_X0_markArcs vl K k 3 x2 x3 x4 x5 x6 r0 r1 z) Q := w_un (fun _ _ => rfl) H
theorem u_X0_markArcs_4 {vl : Nat → Nat} {x2 : Int32} {x3 : Int32} {x4 : Int32} {x5 : Int32} {x6 : Int32} {r0 : Nat} {r1 : Nat} {z : ow_MS} {Q : ow_MS → Prop} (H : Tt (fun K k => cm_X0_markArcs_4 vl K (c_X0_markArcs vl K k) x2 x3 x4 x5 x6 r0 r1 z) Q) : Tt (fun K k => c_X0_markArcs vl K k 4 x2 x3 x4 x5 x6 r0 r1 z) Q := w_un (fun _ _ => rfl) H
theorem e_X0_markArcs {vl : Nat → Nat} {r0 : Nat} {r1 : Nat} {z : ow_MS} {Q : ow_MS → Prop} (H : Tt (fun K k => c_X0_markArcs vl K k 0 0 0 0 0 0 r0 r1 z) Q) : Te (fun K => ce_X0_markArcs vl K r0 r1 z) Q := w_te H
theorem u_X0_markArcs_0 {vl : Nat → Nat} {x2 : Int32} {x3 : Int32} {x4 : Int32} {x5 : Int32} {x6 : Int32} {r0 : Nat} {r1 : Nat} {z : ow_MS} {Q : ow_MS → Prop} (H : Tt (fun K k => cm_X0_markArcs_0 vl K (c_X0_markArcs vl K k) x2 x3 x4 x5 x6 r0 r1 z) Q) : Tt (fun K k => c_X0_markArcs vl K k 0 x2 x3 x4 x5 x6 r0 r1 z) Q := w_un (fun _ _ => rfl) H
theorem tc_markArcs {h m : Nat} {R : List Nat} (hh : nH h) (hy : cAt y h (c, ci, S, G)) (hv : vn c S) (hc : c ≤ 12) (hci : ci ≤ 6) (hq : ∀ v, v < 2 * c → q (S.1 v) = q v) (hr : ∀ v w, v < 2 * c → w < 2 * c → q v = q w → ∃ i, it S.1 i v = w) (hR : R.length ≤ m) (hR2 : ∀ v, v < 2 * c → q v ∈ R) (hm : m ≤ 6) : Te (fun K => ce_X0_markArcs vl K 41000 h y) (fun y1 => (∃ a n, arcS y1 S c ci q a n ∧ n ≤ c + m ∧ c ≤ n) ∧ fr arP y y1) := by
  let Q : ow_MS → Prop := fun y1 => (∃ a n, arcS y1 S c ci q a n ∧ n ≤ c + m ∧ c ≤ n) ∧ fr arP y y1
  have h4 : 4000 ≤ h ∧ h ≤ 44000 := nH_all (P := fun h => 4000 ≤ h ∧ h ≤ 44000) (by decide) hh
  have h41 : ¬ (arP (h + 1) ∨ arP (h + 2) ∨ arP (h + 3) ∨ arP (h + 8) ∨ arP (h + 9)) := by
    have key : ∀ a, a ∈ nHL → a ≠ 41000 ∧ a % 1000 = 0 := by decide
    have := key h hh
    unfold arP
    omega
  have hA : ∀ z, fr arP y z → cAt z h (c, ci, S, G) := fun z hf => cAt_fr hf (fun g hg h9 => by unfold cP at hg; unfold arP at h9 h41; omega) hy
  let J : ow_MS → (Nat → Option Nat) → Nat → Prop := fun z f n => (∀ v, v < 24 → z.2.1 41001 v = oM (f v)) ∧ z.1 41002 = nI n ∧ fr arP y z
  have Jset : ∀ z f n v l, J z f n → l = n → J (usI z 41001 v (nI l)) (stO f v l) n := by
    rintro z f n v l ⟨j1, j2, j3⟩ rfl
    refine ⟨fun w hw => ?_, j2, fr_I2 j3 (Or.inl rfl)⟩
    by_cases e : w = v
    · rw [e, po_usI_at, stO_at]
      rfl
    · rw [stO_ne e]
      exact rd_ne e (j1 w hw)
  -- the last: circles come
  have fin : ∀ z f U s, ar2 S c q s U f → 2 * c ≤ s → J z f (c + U.length) → Tt (fun K k => c_X0_markArcs vl K k 1 (nI (2 * c)) (nI 0 + -1) 0 0 0 41000 h z) Q := by
    rintro z f U s ⟨a1, a2, a3, a4, ⟨u1, u2, u3, u4⟩, a6⟩ hs ⟨j1, j2, j3⟩
    have hU : U.length ≤ m := Nat.le_trans (nodup_le U R u1 (fun r hr2 => by
      obtain ⟨v, v1, v2⟩ := u2 r hr2
      rw [← v2]
      exact hR2 v v1)) hR
    have all : ∀ v, v < 2 * c → ∃ l, f v = some l := by
      intro v hv2
      rcases Nat.mod_two_eq_zero_or_one v with h9 | h9
      · cases hf : f v with
        | none => exact absurd hf (a6 v hv2 (by omega) h9)
        | some l => exact ⟨l, rfl⟩
      · have := a1 (v / 2) (by omega)
        rw [show 2 * (v / 2) + 1 = v by omega] at this
        exact ⟨_, this⟩
    refine u_X0_markArcs_1 ?_; unfold cm_X0_markArcs_1
    refine w_ifT (by decide) (w_rdF j2 (w_rdF (hA z j3).2.1 (w_wrF (w_some ⟨⟨fun v => (f v).getD 0, c + U.length, ⟨fun v hv2 => ?_, fun x hx => ?_, fun v hv2 he => ?_, fun v w hv2 hw hl e => ?_, ?_⟩, by omega, by omega⟩, fr_F2 j3 (Or.inr rfl)⟩))))
    · obtain ⟨l, hl⟩ := all v hv2
      refine ⟨(j1 v (by omega)).trans ?_, ?_⟩
      · dsimp only
        rw [hl]
        rfl
      · dsimp only
        rw [hl]
        exact (a2 v l hv2 hl).1
    · dsimp only
      rw [a1 x hx]
      rfl
    · obtain ⟨l, hl⟩ := all v hv2
      dsimp only
      rw [hl, (a2 v l hv2 hl).2.2 he]
    · obtain ⟨l, e1⟩ := all v hv2
      obtain ⟨l', e2⟩ := all w hw
      dsimp only at hl e
      rw [e1] at hl e
      rw [e2] at e
      have e : l = l' := e
      subst e
      have q1 := u3 v l hv2 e1 hl
      have q2 := u3 w l hw e2 hl
      rw [q1] at q2
      injection q2
    · rw [po_usF_at, nI_add]
  -- the even visits
  have p2 : ∀ (d s : Nat) (U : List Nat) (z : ow_MS) (f : Nat → Option Nat), s + 2 * d = 2 * c + 2 → s % 2 = 0 → ar2 S c q s U f → J z f (c + U.length) → Tt (fun K k => c_X0_markArcs vl K k 2 (nI (2 * c)) (nI 0) (nI s) 0 0 41000 h z) Q := by
    intro d
    induction d with
    | zero =>
      intro s U z f hs he ha hJ
      refine u_X0_markArcs_2 ?_; unfold cm_X0_markArcs_2
      exact w_leT (by omega) (by omega) (fin z f U s ha (by omega) hJ)
    | succ d ih =>
      intro s U z f hs he ha hJ
      have c6 : ∀ (U' : List Nat) (z : ow_MS) (f : Nat → Option Nat), ar2 S c q (s + 2) U' f → J z f (c + U'.length) → Tt (fun K k => c_X0_markArcs vl K k 6 (nI (2 * c)) (nI 0) (nI s) 0 0 41000 h z) Q := by
        intro U' z f ha hJ
        refine u_X0_markArcs_6 ?_; unfold cm_X0_markArcs_6
        rw [show nI s + (2 : Int32) = nI (s + 2) from nI_add s 2]
        exact ih (s + 2) U' z f (by omega) (by omega) ha hJ
      have c5 : ∀ (v i : Int32) (z : ow_MS) (f : Nat → Option Nat), ar2 S c q (s + 2) (U ++ [q s]) f → J z f (c + U.length) → Tt (fun K k => c_X0_markArcs vl K k 5 (nI (2 * c)) (nI 0) (nI s) v i 41000 h z) Q := by
        rintro v i z f ha ⟨j1, j2, j3⟩
        refine u_X0_markArcs_5 ?_; unfold cm_X0_markArcs_5
        refine w_rdF j2 (w_wrF (c6 (U ++ [q s]) _ f ha ⟨j1, ?_, fr_F2 j3 (Or.inr rfl)⟩))
        rw [po_usF_at, nI_1, List.length_append]
        rfl
      by_cases hsc : s < 2 * c
      · have c3 : ∀ (e i v : Nat) (z : ow_MS) (f : Nat → Option Nat), i + e = 2 * c → v < 2 * c → i + ucn f (2 * c) ≤ 2 * c → ax2 S c q s U f v → J z f (c + U.length) → 0 < i → Tt (fun K k => c_X0_markArcs vl K k 3 (nI (2 * c)) (nI 0) (nI s) (nI v) (nI i) 41000 h z) Q := by
          intro e
          induction e with
          | zero =>
            intro i v z f hi hvc hu hx hJ hi0
            refine u_X0_markArcs_3 ?_; unfold cm_X0_markArcs_3
            exact w_leT (by omega) (by omega) (c5 _ _ z f (ax2_e hv hr hsc he (ucn_0 _ (by omega) v hvc) hx) hJ)
          | succ e ihe =>
            intro i v z f hi hvc hu hx hJ hi0
            by_cases hn : f v = none
            · have hv2 : v % 2 = 0 := by
                rcases Nat.mod_two_eq_zero_or_one v with h9 | h9
                · exact h9
                · have := hx.1 (v / 2) (by omega)
                  rw [show 2 * (v / 2) + 1 = v by omega, hn] at this
                  cases this
              have uc := ucn_st (l := c + U.length) hn (2 * c) hvc
              obtain ⟨j1, j2, j3⟩ := id hJ
              refine u_X0_markArcs_3 ?_; unfold cm_X0_markArcs_3
              refine w_leF (by omega) (by omega) (w_ifF (fun h9 => by have := (nI_eq (a := i) (b := 0) (by omega) (by omega)).mp h9; omega) (w_ifT ((vm2 ⟨v, by omega⟩).mpr hv2) ?_))
              refine u_X0_markArcs_4 ?_; unfold cm_X0_markArcs_4
              refine w_crI ch_41001 rfl (by omega) ((j1 v (by omega)).trans (by rw [hn]; rfl)) (w_ifT rfl (w_rdF j2 (w_ctI ch_41001 rfl (by omega) (w_crI (nH_1 hh) rfl (show v < 24 by omega) (rd_ot (by unfold arP at h41; omega) ((hA z j3).2.2.1 v)) ?_))))
              rw [nI_1]
              have hU6 : U.length ≤ 1000 := by
                have := nodup_le U R hx.2.2.2.2.1.1 (fun r hr2 => by
                  obtain ⟨v, v1, v2⟩ := hx.2.2.2.2.1.2.1 r hr2
                  rw [← v2]
                  exact hR2 v v1)
                omega
              exact ihe (i + 1) (S.1 v) _ _ (by omega) (hv v hvc).1 (by omega) (ax2_s hv hq hsc hvc hn hx) (Jset z f _ v _ hJ rfl) (by omega)
            · obtain ⟨j1, j2, j3⟩ := id hJ
              have hU6 : U.length ≤ 1000 := by
                have := nodup_le U R hx.2.2.2.2.1.1 (fun r hr2 => by
                  obtain ⟨v, v1, v2⟩ := hx.2.2.2.2.1.2.1 r hr2
                  rw [← v2]
                  exact hR2 v v1)
                omega
              have e5 := c5 (nI v) (nI i) z f (ax2_e hv hr hsc he hn hx) hJ
              obtain ⟨l, hl⟩ : ∃ l, f v = some l := by
                cases hf : f v with
                | none => exact absurd hf hn
                | some l => exact ⟨l, rfl⟩
              have hl2 := (hx.2.1 v l hvc hl).1
              refine u_X0_markArcs_3 ?_; unfold cm_X0_markArcs_3
              refine w_leF (by omega) (by omega) (w_if (fun _ => ?_) (fun _ => w_if (fun _ => ?_) (fun _ => e5)))
              · refine u_X0_markArcs_4 ?_; unfold cm_X0_markArcs_4
                exact w_crI ch_41001 rfl (by omega) ((j1 v (by omega)).trans (by rw [hl])) (w_ifF (oM_n (by omega)) e5)
              · refine u_X0_markArcs_4 ?_; unfold cm_X0_markArcs_4
                exact w_crI ch_41001 rfl (by omega) ((j1 v (by omega)).trans (by rw [hl])) (w_ifF (oM_n (by omega)) e5)
        obtain ⟨j1, j2, j3⟩ := id hJ
        by_cases hn : f s = none
        · have uc := ucn_st (l := c + U.length) hn (2 * c) hsc
          have ul := ucn_le f (2 * c)
          have x0 := ax2_0 hv hq hsc he hn ha
          refine u_X0_markArcs_2 ?_; unfold cm_X0_markArcs_2
          refine w_leF (by omega) (by omega) (w_crI ch_41001 rfl (by omega) ((j1 s (by omega)).trans (by rw [hn]; rfl)) (w_ifT rfl ?_))
          refine u_X0_markArcs_3 ?_; unfold cm_X0_markArcs_3
          refine w_leF (b := 0) (by omega) (by omega) (w_ifT rfl ?_)
          refine u_X0_markArcs_4 ?_; unfold cm_X0_markArcs_4
          refine w_crI ch_41001 rfl (by omega) ((j1 s (by omega)).trans (by rw [hn]; rfl)) (w_ifT rfl (w_rdF j2 (w_ctI ch_41001 rfl (by omega) (w_crI (nH_1 hh) rfl (show s < 24 by omega) (rd_ot (by unfold arP at h41; omega) ((hA z j3).2.2.1 s)) ?_))))
          exact c3 (2 * c - 1) 1 (S.1 s) _ _ (by omega) (hv s hsc).1 (by omega) x0 (Jset z f _ s _ hJ rfl) (by omega)
        · obtain ⟨l, hl⟩ : ∃ l, f s = some l := by
            cases hf : f s with
            | none => exact absurd hf hn
            | some l => exact ⟨l, rfl⟩
          have hl2 := (ha.2.1 s l hsc hl).1
          have hU6 : U.length ≤ 1000 := by
            have := nodup_le U R ha.2.2.2.2.1.1 (fun r hr2 => by
              obtain ⟨v, v1, v2⟩ := ha.2.2.2.2.1.2.1 r hr2
              rw [← v2]
              exact hR2 v v1)
            omega
          refine u_X0_markArcs_2 ?_; unfold cm_X0_markArcs_2
          exact w_leF (by omega) (by omega) (w_crI ch_41001 rfl (by omega) ((j1 s (by omega)).trans (by rw [hl])) (w_ifF (oM_n (by omega)) (c6 U z f (ar2_k (fun _ => hn) ha he) hJ)))
      · refine u_X0_markArcs_2 ?_; unfold cm_X0_markArcs_2
        exact w_leT (by omega) (by omega) (fin z f U s ha (by omega) hJ)
  -- the odd visits
  have p1 : ∀ (d k : Nat) (z : ow_MS) (f : Nat → Option Nat), k + d = c → ar1 S c k f → J z f k → Tt (fun K t => c_X0_markArcs vl K t 2 (nI (2 * c)) (nI 1) (nI (2 * k + 1)) 0 0 41000 h z) Q := by
    intro d
    induction d with
    | zero =>
      intro k z f hk ha hJ
      have hk : k = c := by omega
      subst hk
      refine u_X0_markArcs_2 ?_; unfold cm_X0_markArcs_2
      refine w_leT (by omega) (by omega) ?_
      rw [show nI 1 + (-1 : Int32) = nI 0 from by decide]
      refine u_X0_markArcs_1 ?_; unfold cm_X0_markArcs_1
      refine w_ifF (by decide) ?_
      exact p2 (k + 1) 0 [] z f (by omega) (by omega) (ar2_0 hv ha) hJ
    | succ d ih =>
      intro k z f hk ha hJ
      have c5 : ∀ (v i : Int32) (z : ow_MS) (f : Nat → Option Nat), ar1 S c (k + 1) f → J z f k → Tt (fun K t => c_X0_markArcs vl K t 5 (nI (2 * c)) (nI 1) (nI (2 * k + 1)) v i 41000 h z) Q := by
        rintro v i z f ha ⟨j1, j2, j3⟩
        refine u_X0_markArcs_5 ?_; unfold cm_X0_markArcs_5
        refine w_rdF j2 (w_wrF ?_)
        refine u_X0_markArcs_6 ?_; unfold cm_X0_markArcs_6
        rw [show nI (2 * k + 1) + (2 : Int32) = nI (2 * (k + 1) + 1) from nI_add _ 2]
        refine ih (k + 1) _ f (by omega) ha ⟨j1, ?_, fr_F2 j3 (Or.inr rfl)⟩
        rw [po_usF_at, nI_1]
      have c3 : ∀ (e i v : Nat) (z : ow_MS) (f : Nat → Option Nat), i + e = 2 * c → v < 2 * c → i + ucn f (2 * c) ≤ 2 * c → ax1 S c k f v → J z f k → 0 < i → Tt (fun K t => c_X0_markArcs vl K t 3 (nI (2 * c)) (nI 1) (nI (2 * k + 1)) (nI v) (nI i) 41000 h z) Q := by
        intro e
        induction e with
        | zero =>
          intro i v z f hi hvc hu hx hJ hi0
          refine u_X0_markArcs_3 ?_; unfold cm_X0_markArcs_3
          exact w_leT (by omega) (by omega) (c5 _ _ z f (ax1_e hv hvc (Or.inr (ucn_0 _ (by omega) v hvc)) hx) hJ)
        | succ e ihe =>
          intro i v z f hi hvc hu hx hJ hi0
          obtain ⟨j1, j2, j3⟩ := id hJ
          have hi9 : ¬ nI i = 0 := fun h9 => by have := (nI_eq (a := i) (b := 0) (by omega) (by omega)).mp h9; omega
          rcases Nat.mod_two_eq_zero_or_one v with hv2 | hv2
          · by_cases hn : f v = none
            · have uc := ucn_st (l := k) hn (2 * c) hvc
              refine u_X0_markArcs_3 ?_; unfold cm_X0_markArcs_3
              refine w_leF (by omega) (by omega) (w_ifF hi9 (w_ifT ((vm2 ⟨v, by omega⟩).mpr hv2) ?_))
              refine u_X0_markArcs_4 ?_; unfold cm_X0_markArcs_4
              refine w_crI ch_41001 rfl (by omega) ((j1 v (by omega)).trans (by rw [hn]; rfl)) (w_ifT rfl (w_rdF j2 (w_ctI ch_41001 rfl (by omega) (w_crI (nH_1 hh) rfl (show v < 24 by omega) (rd_ot (by unfold arP at h41; omega) ((hA z j3).2.2.1 v)) ?_))))
              rw [nI_1]
              exact ihe (i + 1) (S.1 v) _ _ (by omega) (hv v hvc).1 (by omega) (ax1_s hv hvc hv2 hn hx) (Jset z f _ v _ hJ rfl) (by omega)
            · obtain ⟨l, hl⟩ : ∃ l, f v = some l := by
                cases hf : f v with
                | none => exact absurd hf hn
                | some l => exact ⟨l, rfl⟩
              have hl2 := (hx.2.2.1 v l hvc hl).1
              refine u_X0_markArcs_3 ?_; unfold cm_X0_markArcs_3
              refine w_leF (by omega) (by omega) (w_ifF hi9 (w_ifT ((vm2 ⟨v, by omega⟩).mpr hv2) ?_))
              refine u_X0_markArcs_4 ?_; unfold cm_X0_markArcs_4
              exact w_crI ch_41001 rfl (by omega) ((j1 v (by omega)).trans (by rw [hl])) (w_ifF (oM_n (by omega)) (c5 (nI v) (nI i) z f (ax1_e hv hvc (Or.inr hn) hx) hJ))
          · refine u_X0_markArcs_3 ?_; unfold cm_X0_markArcs_3
            exact w_leF (by omega) (by omega) (w_ifF hi9 (w_ifF (fun h9 => by have := (vm2 ⟨v, by omega⟩).mp h9; dsimp only at this; omega) (c5 (nI v) (nI i) z f (ax1_e hv hvc (Or.inl hv2) hx) hJ)))
      obtain ⟨j1, j2, j3⟩ := id hJ
      have hn := ha.2.1 k (Nat.le_refl _)
      have uc := ucn_st (l := k) hn (2 * c) (by omega)
      have ul := ucn_le f (2 * c)
      refine u_X0_markArcs_2 ?_; unfold cm_X0_markArcs_2
      refine w_leF (by omega) (by omega) (w_crI ch_41001 rfl (by omega) ((j1 _ (by omega)).trans (by rw [hn]; rfl)) (w_ifT rfl ?_))
      refine u_X0_markArcs_3 ?_; unfold cm_X0_markArcs_3
      refine w_leF (b := 0) (by omega) (by omega) (w_ifT rfl ?_)
      refine u_X0_markArcs_4 ?_; unfold cm_X0_markArcs_4
      refine w_crI ch_41001 rfl (by omega) ((j1 _ (by omega)).trans (by rw [hn]; rfl)) (w_ifT rfl (w_rdF j2 (w_ctI ch_41001 rfl (by omega) (w_crI (nH_1 hh) rfl (show 2 * k + 1 < 24 by omega) (rd_ot (by unfold arP at h41; omega) ((hA z j3).2.2.1 _)) ?_))))
      exact c3 (2 * c - 1) 1 (S.1 (2 * k + 1)) _ _ (by omega) (hv _ (by omega)).1 (by omega) (ax1_0 hv (by omega) ha) (Jset z f _ _ _ hJ rfl) (by omega)
  refine e_X0_markArcs ?_
  refine u_X0_markArcs_0 ?_; unfold cm_X0_markArcs_0
  refine w_rdF hy.1 (w_cs0 (tc_fillA ch_41001 (by omega)) ?_)
  rintro y2 ⟨g1, g2⟩
  refine w_wrF ?_
  rw [rn_mul2]
  refine u_X0_markArcs_1 ?_; unfold cm_X0_markArcs_1
  refine w_ifF (by decide) ?_
  refine p1 c 0 _ (fun _ => none) (by omega) ⟨fun x hx => absurd hx (by omega), fun x _ => rfl, fun v l _ h9 => (by cases h9), fun v l _ _ h9 => (by cases h9)⟩ ⟨fun v hv2 => ?_, po_usF_at, fr_F2 (fr_mono (fun g hg => Or.inl hg) g2) (Or.inr rfl)⟩
  exact g1 v hv2
end CMA
/-- the ring of a visit, out of the list that a net shows -/
theorem iso_q {A : rn_L} {sg : Nat → Bool} {c ci : Nat} {S : ow_NP} {G : Nat → Int32} (hi : isoN A sg (fun x => x) (c, ci, S, G)) (hv : vn c S) : ∃ q : Nat → Nat, (∀ v, v < A.flatten.length → q (lbv A (fun x => x) v) = rn_c A v) ∧ (∀ v, v < 2 * c → q (S.1 v) = q v) ∧ (∀ v w, v < 2 * c → w < 2 * c → q v = q w → ∃ i, it S.1 i v = w) ∧ ∃ R : List Nat, R.length ≤ neC A ∧ ∀ v, v < 2 * c → q v ∈ R := by
  have hl : A.flatten.length = 2 * c := hi.2.1
  obtain ⟨F, hF⟩ : ∃ F : Nat → Nat, ∀ a, a < 2 * c → F a < A.flatten.length ∧ lbv A (fun x => x) (F a) = a := by
    refine ⟨fun a => if ha : a < 2 * c then Classical.choose (lbv_sur hi ha) else 0, fun a ha => ?_⟩
    dsimp only
    rw [dif_pos ha]
    exact Classical.choose_spec (lbv_sur hi ha)
  have hFi : ∀ v, v < A.flatten.length → F (lbv A (fun x => x) v) = v := fun v hv1 => by
    obtain ⟨q1, q2⟩ := hF _ (lbv_lt hi hv1)
    exact lbv_inj hi q1 hv1 q2
  refine ⟨fun a => rn_c A (F a), fun v hv1 => (by dsimp only; rw [hFi v hv1]), fun v hv1 => ?_, fun v w hv1 hw e => ?_, ((List.range A.length).filter (fun c => decide (rn_b A c < rn_b A (c + 1)))), Nat.le_refl _, fun v hv1 => ?_⟩
  · obtain ⟨f1, f2⟩ := hF v hv1
    have h1 : S.1 (lbv A (fun x => x) (F v)) = lbv A (fun x => x) (rn_nx A (F v)) := hi.2.2.2.2.2.1 (F v) f1
    rw [f2] at h1
    dsimp only
    rw [h1, hFi _ (rn_nx_lt f1), c_nx f1]
  · obtain ⟨f1, f2⟩ := hF v hv1
    obtain ⟨g1, g2⟩ := hF w hw
    obtain ⟨i, -, hi2⟩ := iso_same hi f1 g1 e.symm
    rw [f2, g2] at hi2
    exact ⟨i, hi2⟩
  · obtain ⟨f1, f2⟩ := hF v hv1
    obtain ⟨h1, h2, h3⟩ := rn_c_in A (F v) f1
    exact List.mem_filter.mpr ⟨List.mem_range.mpr h1, decide_eq_true (Nat.lt_of_le_of_lt h2 h3)⟩
section CFC
variable {vl : Nat → Nat} {y : ow_MS}
def cvP (g : Nat) : Prop := 41001 ≤ g ∧ g ≤ 41005 ∨ 42001 ≤ g ∧ g ≤ 42012
/-- how many divisors are there -/
def dvC (y : ow_MS) : Prop := ∃ n, n ≤ 18 ∧ y.1 41005 = nI n
theorem u_J7_fill_d0a16_1 {vl : Nat → Nat} {x3 : Int32} {x4 : Int32} {w1 : Int64} {r0 : Nat} {z : ow_MS} {Q : ow_MS → Prop} (H : Tt (fun K k => cm_J7_fill_d0a16_1 vl K (c_J7_fill_d0a16 vl K k) x3 x4 w1 r0 z) Q) : Tt (fun K k => c_J7_fill_d0a16 vl K k 1 x3 x4 w1 r0 z) Q := w_un (fun _ _ => rfl) H
theorem e_J7_fill_d0a16 {vl : Nat → Nat} {r0 : Nat} {w1 : Int64} {z : ow_MS} {Q : ow_MS → Prop} (H : Tt (fun K k => c_J7_fill_d0a16 vl K k 0 0 0 w1 r0 z) Q) : Te (fun K => ce_J7_fill_d0a16 vl K r0 w1 z) Q := w_te H
theorem u_J7_fill_d0a16_0 {vl : Nat → Nat} {x3 : Int32} {x4 : Int32} {w1 : Int64} {r0 : Nat} {z : ow_MS} {Q : ow_MS → Prop} (H : Tt (fun K k => cm_J7_fill_d0a16_0 vl K (c_J7_fill_d0a16 vl K k) x3 x4 w1 r0 z) Q) : Tt (fun K k => c_J7_fill_d0a16 vl K k 0 x3 x4 w1 r0 z) Q := w_un (fun _ _ => rfl) H
theorem tc_fillJ {g l : Nat} {w : Int64} (hL : ((cX vl).2 g).2.1 = l) (hl : l < 2 ^ 31) : Te (fun K => ce_J7_fill_d0a16 vl K g w y) (fun y1 => (∀ j, j < l → y1.2.2 g j = w) ∧ fr (fun q => q = g) y y1) := by
  have key : ∀ (d i : Nat) (z : ow_MS), i + d = l → fr (fun q => q = g) y z → (∀ j, j < i → z.2.2 g j = w) → Tt (fun K k => c_J7_fill_d0a16 vl K k 1 (nI i) (nI l) w g z) (fun y1 => (∀ j, j < l → y1.2.2 g j = w) ∧ fr (fun q => q = g) y y1) := by
    intro d
    induction d with
    | zero =>
      intro i z hi hf hz
      refine u_J7_fill_d0a16_1 ?_; unfold cm_J7_fill_d0a16_1
      exact w_leT (by omega) (by omega) (w_some ⟨fun j hj => hz j (by omega), hf⟩)
    | succ d ih =>
      intro i z hi hf hz
      refine u_J7_fill_d0a16_1 ?_; unfold cm_J7_fill_d0a16_1
      refine w_leF (by omega) (by omega) (w_ctJ hL rfl (by omega) ?_)
      rw [nI_1]
      refine ih (i + 1) _ (by omega) (fr_J2 hf rfl) (fun j hj => ?_)
      by_cases e : j = i
      · rw [e, usJ_at]
      · rw [usJ_ne e]
        exact hz j (by omega)
  refine e_J7_fill_d0a16 ?_
  refine u_J7_fill_d0a16_0 ?_; unfold cm_J7_fill_d0a16_0
  rw [show (Int32.ofNat (uw_len (cX vl) y g)) = nI l from by unfold uw_len; rw [hL]; rfl]
  exact key l 0 y (by omega) fr_rf (fun j hj => absurd hj (by omega))
theorem e_X0_findCover {vl : Nat → Nat} {r0 : Nat} {r1 : Nat} {z : ow_MS} {Q : ow_MS → Prop} (H : Tt (fun K k => c_X0_findCover vl K k 0 0 0 r0 r1 z) Q) : Te (fun K => ce_X0_findCover vl K r0 r1 z) Q := w_te H
theorem u_X0_findCover_0 {vl : Nat → Nat} {x2 : Int32} {x3 : Int32} {r0 : Nat} {r1 : Nat} {z : ow_MS} {Q : ow_MS → Prop} (H : Tt (fun K k => cm_X0_findCover_0 vl K (c_X0_findCover vl K k) x2 x3 r0 r1 z) Q) : Tt (fun K k => c_X0_findCover vl K k 0 x2 x3 r0 r1 z) Q := w_un (fun _ _ => rfl) H
theorem u_X0_findCover_5 {vl : Nat → Nat} {x2 : Int32} {x3 : Int32} {r0 : Nat} {r1 : Nat} {z : ow_MS} {Q : ow_MS → Prop} (H : Tt (fun K k => cm_X0_findCover_5 vl K (c_X0_findCover vl K k) x2 x3 r0 r1 z) Q) : Tt (fun K k => c_X0_findCover vl K k 5 x2 x3 r0 r1 z) Q := w_un (fun _ _ => rfl) H
theorem u_X0_findCover_4 {vl : Nat → Nat} {x2 : Int32} {x3 : Int32} {r0 : Nat} {r1 : Nat} {z : ow_MS} {Q : ow_MS → Prop} (H : Tt (fun K k => cm_X0_findCover_4 vl K (c_X0_findCover vl K k) x2 x3 r0 r1 z) Q) : Tt (fun K k => c_X0_findCover vl K k 4 x2 x3 r0 r1 z) Q := w_un (fun _ _ => rfl) H
theorem u_X0_findCover_2 {vl : Nat → Nat} {x2 : Int32} {x3 : Int32} {r0 : Nat} {r1 : Nat} {z : ow_MS} {Q : ow_MS → Prop} (H : Tt (fun K k => cm_X0_findCover_2 vl K (c_X0_findCover vl K k) x2 x3 r0 r1 z) Q) : Tt (fun K k => c_X0_findCover vl K k 2 x2 x3 r0 r1 z) Q := w_un (fun _ _ => rfl) H
theorem u_X0_findCover_3 {vl : Nat → Nat} {x2 : Int32} {x3 : Int32} {r0 : Nat} {r1 : Nat} {z : ow_MS} {Q : ow_MS → Prop} (H : Tt (fun K k => cm_X0_findCover_3 vl K (c_X0_findCover vl K k) x2 x3 r0 r1 z) Q) : Tt (fun K k => c_X0_findCover vl K k 3 x2 x3 r0 r1 z) Q := w_un (fun _ _ => rfl) H
theorem u_X0_findCover_1 {vl : Nat → Nat} {x2 : Int32} {x3 : Int32} {r0 : Nat} {r1 : Nat} {z : ow_MS} {Q : ow_MS → Prop} (H : Tt (fun K k => cm_X0_findCover_1 vl K (c_X0_findCover vl K k) x2 x3 r0 r1 z) Q) : Tt (fun K k => c_X0_findCover vl K k 1 x2 x3 r0 r1 z) Q := w_un (fun _ _ => rfl) H
theorem tc_findCover {A : rn_L} {sg : Nat → Bool} {c h : Nat} {S : ow_NP} {G : Nat → Int32} (hh : nH h) (hJ : jnN A sg c S G) (hy : cAt y h (c, cirs A, S, G)) : Te (fun K => ce_X0_findCover vl K 41000 h y) (fun y1 => dvC y1 ∧ fr cvP y y1) := by
  let Q : ow_MS → Prop := fun y1 => dvC y1 ∧ fr cvP y y1
  obtain ⟨hA, hi, hv, hG⟩ := hJ
  have hc := hA.2.2.2.1
  have h6 := hA.2.2.2.2
  have nc := neC_cirs A
  obtain ⟨q, q1, q2, q3, R, q4, q5⟩ := iso_q hi hv
  have hk : h % 1000 = 0 ∧ h ≠ 41000 ∧ h ≠ 42000 := by
    have key : ∀ a, a ∈ nHL → a % 1000 = 0 ∧ a ≠ 41000 ∧ a ≠ 42000 := by decide
    exact key h hh
  refine e_X0_findCover ?_
  refine u_X0_findCover_0 ?_; unfold cm_X0_findCover_0
  refine w_cs0 (tc_markArcs (m := neC A) hh hy hv hc (by omega) q2 q3 q4 q5 (by omega)) ?_
  rintro y1 ⟨⟨a, n, ⟨s1, s2, s3, s4, s5⟩, n1, n2⟩, f1⟩
  have hy1 : ∀ z, fr (fun g => 41004 ≤ g ∧ g ≤ 41005 ∨ 42001 ≤ g ∧ g ≤ 42012) y1 z → cAt z h (c, cirs A, S, G) := fun z hf => cAt_fr hf (fun g hg h9 => by unfold cP at hg; omega) (cAt_fr f1 (fun g hg h9 => by unfold cP at hg; unfold arP at h9; omega) hy)
  have f1c : fr cvP y y1 := fr_mono (fun g hg => by unfold arP at hg; unfold cvP; omega) f1
  have a18 : n + cirs A ≤ 18 := by omega
  have fC : ∀ z, fr (fun g => 41004 ≤ g ∧ g ≤ 41005 ∨ 42001 ≤ g ∧ g ≤ 42012) y1 z → fr cvP y z := fun z hf => fr_tr f1c (fr_mono (fun g hg => by unfold cvP; omega) hf)
  have a2 : ∀ z, fr (fun g => 41004 ≤ g ∧ g ≤ 41005 ∨ 42001 ≤ g ∧ g ≤ 42012) y1 z → z.1 41002 = nI (n + cirs A) := fun z hf => (hf 41002 (by omega)).1.trans s5
  have ar : ∀ z v, fr (fun g => 41004 ≤ g ∧ g ≤ 41005 ∨ 42001 ≤ g ∧ g ≤ 42012) y1 z → v < 2 * c → z.2.1 41001 v = nI (a v) := fun z v hf hv2 => (congrFun (hf 41001 (by omega)).2.1 v).trans (s1 v hv2).1
  have c5 : ∀ (d x rk k : Nat) (z : ow_MS), x + d = n + cirs A + 1 → 1 ≤ x → k + (n + cirs A) ≤ 18 + x → k ≤ 18 → z.1 41005 = nI k → fr (fun g => 41004 ≤ g ∧ g ≤ 41005 ∨ 42001 ≤ g ∧ g ≤ 42012) y1 z → Tt (fun K t => c_X0_findCover vl K t 5 (nI rk) (nI x) 41000 h z) Q := by
    intro d
    induction d with
    | zero =>
      intro x rk k z hx hx1 hk1 hk2 hz hf
      refine u_X0_findCover_5 ?_; unfold cm_X0_findCover_5
      exact w_rdF (a2 z hf) (w_leT (by omega) (by omega) (w_some ⟨⟨k, hk2, hz⟩, fC z hf⟩))
    | succ d ih =>
      intro x rk k z hx hx1 hk1 hk2 hz hf
      refine u_X0_findCover_5 ?_; unfold cm_X0_findCover_5
      refine w_rdF (a2 z hf) (w_le (by omega) (by omega) (fun _ => w_some ⟨⟨k, hk2, hz⟩, fC z hf⟩) (fun h9 => w_rdF hz (w_ctJ ch_41004 rfl (show k < 18 by omega) (w_rdF (x := nI k) hz (w_wrF ?_)))))
      rw [nI_1, nI_1]
      exact ih (x + 1) rk (k + 1) _ (by omega) (by omega) (by omega) (by omega) po_usF_at (fr_F2 (fr_J2 hf (Or.inl (by omega))) (Or.inl (by omega)))
  have c4 : ∀ (rk k t : Nat) (z : ow_MS), k ≤ rk → rk ≤ n + cirs A → z.1 41005 = nI k → fr (fun g => 41004 ≤ g ∧ g ≤ 41005 ∨ 42001 ≤ g ∧ g ≤ 42012) y1 z → Tt (fun K i => c_X0_findCover vl K i 4 (nI rk) (nI t) 41000 h z) Q := by
    intro rk k t z h1 h2 hz hf
    refine u_X0_findCover_4 ?_; unfold cm_X0_findCover_4
    rw [nI_1]
    exact c5 (n + cirs A - rk) (rk + 1) rk k z (by omega) (by omega) (by omega) (by omega) hz hf
  have c2 : ∀ (d t k : Nat) (z : ow_MS), t + d = c → k ≤ t → t ≤ n + cirs A → z.1 41005 = nI k → fr (fun g => 41004 ≤ g ∧ g ≤ 41005 ∨ 42001 ≤ g ∧ g ≤ 42012) y1 z → Tt (fun K i => c_X0_findCover vl K i 2 (nI t) (nI t) 41000 h z) Q := by
    intro d
    induction d with
    | zero =>
      intro t k z ht hk1 htn hz hf
      refine u_X0_findCover_2 ?_; unfold cm_X0_findCover_2
      exact w_rdF (hy1 z hf).1 (w_leT (by omega) (by omega) (c4 t k t z hk1 htn hz hf))
    | succ d ih =>
      intro t k z ht hk1 htn hz hf
      have c3 : ∀ (k : Nat) (z : ow_MS), k ≤ t + 1 → t < n + cirs A → z.1 41005 = nI k → fr (fun g => 41004 ≤ g ∧ g ≤ 41005 ∨ 42001 ≤ g ∧ g ≤ 42012) y1 z → Tt (fun K i => c_X0_findCover vl K i 3 (nI (t + 1)) (nI t) 41000 h z) Q := by
        intro k z h1 h2 hz hf
        refine u_X0_findCover_3 ?_; unfold cm_X0_findCover_3
        rw [nI_1]
        exact ih (t + 1) k z (by omega) h1 (by omega) hz hf
      refine u_X0_findCover_2 ?_; unfold cm_X0_findCover_2
      refine w_rdF (hy1 z hf).1 (w_leF (by omega) (by omega) (w_rdF (a2 z hf) (w_le (by omega) (by omega) (fun _ => c4 t k t z hk1 htn hz hf) (fun h9 => w_rdF (hy1 z hf).1 (w_cs1 (tc_isol hc (a2 z hf) a18 (show t < c by omega) h9) ?_)))))
      rintro v z1 ⟨-, g1⟩
      have f2 := fr_tr hf (fr_mono (fun g hg => by unfold acR at hg; omega) g1)
      dsimp only at f2
      have hz1 : z1.1 41005 = nI k := (g1 41005 (by unfold acR; omega)).1.trans hz
      refine w_if (fun _ => c4 t k t z1 hk1 htn hz1 f2) (fun _ => w_crX rfl (show t < 12 by omega) (w_crJ (ch_mat (show t < 12 by omega)) rfl (show t < 18 by omega) rfl ?_))
      rw [nI_1]
      refine w_if (fun _ => c3 k z1 (by omega) h9 hz1 f2) (fun _ => w_rdF hz1 (w_crX rfl (show t < 12 by omega) (w_crJ (ch_mat (show t < 12 by omega)) rfl (show t < 18 by omega) rfl (w_ctJ ch_41004 rfl (show k < 18 by omega) (w_rdF (x := nI k) hz1 (w_wrF ?_))))))
      rw [nI_1]
      exact c3 (k + 1) _ (by omega) h9 po_usF_at (fr_F2 (fr_J2 f2 (Or.inl (by omega))) (Or.inl (by omega)))
  have c1 : ∀ (d x : Nat) (z : ow_MS), x + d = c → fr (fun g => 41004 ≤ g ∧ g ≤ 41005 ∨ 42001 ≤ g ∧ g ≤ 42012) y1 z → Tt (fun K i => c_X0_findCover vl K i 1 (nI x) 0 41000 h z) Q := by
    intro d
    induction d with
    | zero =>
      intro x z hx hf
      refine u_X0_findCover_1 ?_; unfold cm_X0_findCover_1
      exact w_rdF (hy1 z hf).1 (w_leT (by omega) (by omega) (w_wrF (c2 c 0 0 _ (by omega) (by omega) (by omega) po_usF_at (fr_F2 hf (Or.inl (by omega))))))
    | succ d ih =>
      intro x z hx hf
      have b1 := (s1 (2 * x) (by omega)).2
      have b2 := (s1 (2 * x + 1) (by omega)).2
      obtain ⟨-, v2, -, -⟩ := hv (2 * x + 1) (by omega)
      have b3 := (s1 _ v2).2
      have cx := ch_mat (vl := vl) (show x < 12 by omega)
      refine u_X0_findCover_1 ?_; unfold cm_X0_findCover_1
      refine w_rdF (hy1 z hf).1 (w_leF (by omega) (by omega) (w_crX rfl (show x < 12 by omega) (w_cs0 (tc_fillJ cx (by omega)) ?_)))
      rintro z1 ⟨-, g1⟩
      have f2 : fr (fun g => 41004 ≤ g ∧ g ≤ 41005 ∨ 42001 ≤ g ∧ g ≤ 42012) y1 z1 := fr_tr hf (fr_mono (fun g hg => by omega) g1)
      rw [rn_mul2, nI_1, nI_1]
      refine w_crX rfl (show x < 12 by omega) (w_crI ch_41001 rfl (show 2 * x < 24 by omega) (ar z1 _ f2 (by omega)) (w_crJ cx rfl (show a (2 * x) < 18 by omega) rfl (w_ctJ cx rfl (show a (2 * x) < 18 by omega) (w_crX rfl (show x < 12 by omega) (w_crI ch_41001 rfl (show 2 * x + 1 < 24 by omega) (ar _ _ (fr_J2 f2 (by omega)) (by omega)) (w_crJ cx rfl (show a (2 * x + 1) < 18 by omega) rfl (w_ctJ cx rfl (show a (2 * x + 1) < 18 by omega) (w_crX rfl (show x < 12 by omega) (w_crI (nH_2 hh) rfl (show 2 * x + 1 < 24 by omega) ((hy1 _ (fr_J2 (fr_J2 f2 (by omega)) (by omega))).2.2.2.1 (2 * x + 1)) (w_crI ch_41001 rfl (show S.2 (2 * x + 1) < 24 by omega) (ar _ _ (fr_J2 (fr_J2 f2 (by omega)) (by omega)) v2) (w_crJ cx rfl (show a (S.2 (2 * x + 1)) < 18 by omega) rfl (w_ctJ cx rfl (show a (S.2 (2 * x + 1)) < 18 by omega) ?_))))))))))))
      exact ih (x + 1) _ (by omega) (fr_J2 (fr_J2 (fr_J2 f2 (by omega)) (by omega)) (by omega))
  exact c1 c 0 y1 (by omega) fr_rf
end CFC
end
section
/-! 99zzzzzzz.ccov2 -/
/-! the class: cover, colours -/
section CC2
variable {vl : Nat → Nat} {y : ow_MS} {x x' : Int32}
theorem u_X0_coverAt_1 {vl : Nat → Nat} {x1 : Int32} {r0 : Nat} {z : ow_MS} {Q : (Int32 × ow_MS) → Prop} (H : Tt (fun K k => cm_X0_coverAt_1 vl K (c_X0_coverAt vl K k) x1 r0 z) Q) : Tt (fun K k => c_X0_coverAt vl K k 1 x1 r0 z) Q := w_un (fun _ _ => rfl) H
theorem e_X0_coverAt {vl : Nat → Nat} {r0 : Nat} {x1 : Int32} {z : ow_MS} {Q : (Int32 × ow_MS) → Prop} (H : Tt (fun K k => c_X0_coverAt vl K k 0 x1 r0 z) Q) : Te (fun K => ce_X0_coverAt vl K r0 x1 z) Q := w_te H
theorem u_X0_coverAt_0 {vl : Nat → Nat} {x1 : Int32} {r0 : Nat} {z : ow_MS} {Q : (Int32 × ow_MS) → Prop} (H : Tt (fun K k => cm_X0_coverAt_0 vl K (c_X0_coverAt vl K k) x1 r0 z) Q) : Tt (fun K k => c_X0_coverAt vl K k 0 x1 r0 z) Q := w_un (fun _ _ => rfl) H
theorem tc_coverAt (hd : dvC y) : Te (fun K => ce_X0_coverAt vl K 41000 x y) (fun r => r.2 = y) := by
  obtain ⟨n, n18, hn⟩ := hd
  have c1 : Tt (fun K t => c_X0_coverAt vl K t 1 x 41000 y) (fun r => r.2 = y) := by
    refine u_X0_coverAt_1 ?_; unfold cm_X0_coverAt_1
    exact w_some rfl
  refine e_X0_coverAt ?_
  refine u_X0_coverAt_0 ?_; unfold cm_X0_coverAt_0
  refine w_if (fun _ => c1) (fun h0 => ?_)
  obtain ⟨k, k31, rfl⟩ := nI_of h0
  exact w_rdF hn (w_lt k31 (by omega) (fun h9 => w_crJ ch_41004 rfl (show k < 18 by omega) rfl (w_some rfl)) (fun _ => c1))
theorem u_X0_commonDivisor_1 {vl : Nat → Nat} {x8 : Int32} {w0 : Int64} {w2 : Int64} {w4 : Int64} {w6 : Int64} {z : ow_MS} {Q : (Int64 × ow_MS) → Prop} (H : Tt (fun K k => cm_X0_commonDivisor_1 vl K (c_X0_commonDivisor vl K k) x8 w0 w2 w4 w6 z) Q) : Tt (fun K k => c_X0_commonDivisor vl K k 1 x8 w0 w2 w4 w6 z) Q := w_un (fun _ _ => rfl) H
theorem e_X0_commonDivisor {vl : Nat → Nat} {w0 : Int64} {w2 : Int64} {z : ow_MS} {Q : (Int64 × ow_MS) → Prop} (H : Tt (fun K k => c_X0_commonDivisor vl K k 0 0 w0 w2 0 0 z) Q) : Te (fun K => ce_X0_commonDivisor vl K w0 w2 z) Q := w_te H
theorem u_X0_commonDivisor_0 {vl : Nat → Nat} {x8 : Int32} {w0 : Int64} {w2 : Int64} {w4 : Int64} {w6 : Int64} {z : ow_MS} {Q : (Int64 × ow_MS) → Prop} (H : Tt (fun K k => cm_X0_commonDivisor_0 vl K (c_X0_commonDivisor vl K k) x8 w0 w2 w4 w6 z) Q) : Tt (fun K k => c_X0_commonDivisor vl K k 0 x8 w0 w2 w4 w6 z) Q := w_un (fun _ _ => rfl) H
theorem tc_comDiv {a b : Int64} : Te (fun K => ce_X0_commonDivisor vl K a b y) (fun r => r.2 = y) := by
  have key : ∀ (d i : Nat) (w4 w6 : Int64), i + d = 200 → Tt (fun K t => c_X0_commonDivisor vl K t 1 (nI i) a b w4 w6 y) (fun r => r.2 = y) := by
    intro d
    induction d with
    | zero =>
      intro i w4 w6 hi
      refine u_X0_commonDivisor_1 ?_; unfold cm_X0_commonDivisor_1
      exact w_leT (a := 200) (by omega) (by omega) (w_some rfl)
    | succ d ih =>
      intro i w4 w6 hi
      refine u_X0_commonDivisor_1 ?_; unfold cm_X0_commonDivisor_1
      rw [nI_1]
      exact w_leF (a := 200) (by omega) (by omega) (w_if (fun _ => w_some rfl) (fun h0 => w_nzJ (lgc0 h0) (ih (i + 1) _ _ (by omega))))
  refine e_X0_commonDivisor ?_
  refine u_X0_commonDivisor_0 ?_; unfold cm_X0_commonDivisor_0
  exact key 200 0 a b (by omega)
theorem u_X0_countColours_1 {vl : Nat → Nat} {x1 : Int32} {x4 : Int32} {w2 : Int64} {r0 : Nat} {z : ow_MS} {Q : (Int64 × ow_MS) → Prop} (H : Tt (fun K k => cm_X0_countColours_1 vl K (c_X0_countColours vl K k) x1 x4 w2 r0 z) Q) : Tt (fun K k => c_X0_countColours vl K k 1 x1 x4 w2 r0 z) Q := w_un (fun _ _ => rfl) H
theorem e_X0_countColours {vl : Nat → Nat} {r0 : Nat} {x1 : Int32} {z : ow_MS} {Q : (Int64 × ow_MS) → Prop} (H : Tt (fun K k => c_X0_countColours vl K k 0 x1 0 0 r0 z) Q) : Te (fun K => ce_X0_countColours vl K r0 x1 z) Q := w_te H
theorem u_X0_countColours_0 {vl : Nat → Nat} {x1 : Int32} {x4 : Int32} {w2 : Int64} {r0 : Nat} {z : ow_MS} {Q : (Int64 × ow_MS) → Prop} (H : Tt (fun K k => cm_X0_countColours_0 vl K (c_X0_countColours vl K k) x1 x4 w2 r0 z) Q) : Tt (fun K k => c_X0_countColours vl K k 0 x1 x4 w2 r0 z) Q := w_un (fun _ _ => rfl) H
theorem tc_countCol (hd : dvC y) : Te (fun K => ce_X0_countColours vl K 41000 x y) (fun r => r.2 = y) := by
  obtain ⟨n, n18, hn⟩ := hd
  have key : ∀ (d i : Nat) (w : Int64), i + d = n → Tt (fun K t => c_X0_countColours vl K t 1 x (nI i) w 41000 y) (fun r => r.2 = y) := by
    intro d
    induction d with
    | zero =>
      intro i w hi
      refine u_X0_countColours_1 ?_; unfold cm_X0_countColours_1
      exact w_rdF hn (w_leT (by omega) (by omega) (w_some rfl))
    | succ d ih =>
      intro i w hi
      refine u_X0_countColours_1 ?_; unfold cm_X0_countColours_1
      refine w_rdF hn (w_leF (by omega) (by omega) (w_crJ ch_41004 rfl (show i < 18 by omega) rfl (w_cs1 tc_comDiv ?_)))
      rintro v z e
      dsimp only at e
      rw [e, nI_1]
      exact ih (i + 1) _ (by omega)
  refine e_X0_countColours ?_
  refine u_X0_countColours_0 ?_; unfold cm_X0_countColours_0
  exact key n 0 _ (by omega)
def cxP (g : Nat) : Prop := cL 4000 g ∨ cvP g
theorem cxP_r {g : Nat} (h : cxP g) : 4001 ≤ g ∧ g ≤ 4011 ∨ 41001 ≤ g ∧ g ≤ 41005 ∨ 42001 ≤ g ∧ g ≤ 42012 := by
  rcases h with h | h
  · unfold cL at h
    omega
  · unfold cvP at h
    omega
theorem gM_cv {y1 y2 : ow_MS} (hN : gN y1) (hf : fr (cL 4000) y y1) (hf2 : fr cvP y1 y2) (h : gM y) : gM y2 := by
  refine ⟨⟨dgC_fr hf2 (fun g g1 g2 h9 => by unfold cvP at h9; omega) hN.1, nsC_fr hf2 (fun h' hh' g hg h9 => ?_) hN.2.1, kdC_fr hf2 (fun g hg => by unfold cvP at hg; omega) hN.2.2⟩, tbs_fr (fr_tr (fr_mono (fun g hg => Or.inl hg) hf) (fr_mono (fun g hg => Or.inr hg) hf2)) (fun g (hg : cxP g) => by have := cxP_r hg; omega) h.2⟩
  have key : ∀ a, a ∈ nHL → a ≤ 40000 ∨ 44000 ≤ a := by decide
  have := key h' hh'
  unfold cP at hg
  unfold cvP at h9
  omega
/-- a diagram is loaded, its cover found -/
theorem tc_ld3 {h d c : Nat} {A : rn_L} {sg : Nat → Bool} (hh : nH h) (hN : gN y) (hd : d < 40) (hs : slC y 1000 d (clC sg A)) (hA : okL A c) : Te (fun K => ce_X7_load vl K h 1000 (nI d) y) (fun y1 => gN y1 ∧ fr (cL h) y y1 ∧ ∃ S G, shA y1 h A sg (c, cirs A, S, G) ∧ jnN A sg c S G) := by
  obtain ⟨T, hT, hb⟩ := hN.2.1 h hh
  have h4 : 4000 ≤ h := nH_all (P := fun h => 4000 ≤ h) (by decide) hh
  refine w_monoE (tc_load3 hh ch_1000 (by omega) hd hA hs hT hb) ?_
  rintro y1 ⟨⟨⟨c', ci', S, G⟩, h1, h2, h3, h5⟩, h6⟩
  dsimp only at h2 h3 h5
  subst h2
  subst h3
  exact ⟨gN_net hh h6 (fun g hg => by unfold cL at hg; omega) ⟨_, h1.1, h1.2.2.1.2.2.1⟩ hN, h6, S, G, h1, hA, h1.2.1, h1.2.2.1.1, h5⟩
theorem e_X11_cover {vl : Nat → Nat} {r0 : Nat} {x1 : Int32} {x2 : Int32} {z : ow_MS} {Q : (Nat × Int32 × ow_MS) → Prop} (H : Tt (fun K _ => cm_X11_cover_0 vl K x1 x2 r0 z) Q) : Te (fun K => ce_X11_cover vl K r0 x1 x2 z) Q := w_te0 H
theorem e_X11_colours {vl : Nat → Nat} {r0 : Nat} {x1 : Int32} {x2 : Int32} {z : ow_MS} {Q : (Nat × Int64 × ow_MS) → Prop} (H : Tt (fun K _ => cm_X11_colours_0 vl K x1 x2 r0 z) Q) : Te (fun K => ce_X11_colours vl K r0 x1 x2 z) Q := w_te0 H
end CC2
end
section
/-! 99zzzzzzza.cmap -/
/-! the class: maps has an answer -/
/-- the tables of permutations; the latest values -/
def mpC (y : ow_MS) : Prop := (∀ i, i < 576 → ∃ k, k < 24 ∧ y.2.1 41006 i = nI k) ∧ (∀ i, i < 24 → ∃ k, k < 24 ∧ y.2.1 41007 i = nI k) ∧ ∀ i, i < 18 → ∃ k, k < 24 ∧ y.2.1 41009 i = nI k
theorem mpC_fr {P : Nat → Prop} {y y1 : ow_MS} (hf : fr P y y1) (hP : ¬ P 41006 ∧ ¬ P 41007 ∧ ¬ P 41009) (h : mpC y) : mpC y1 := by
  obtain ⟨h1, h2, h3⟩ := h
  refine ⟨fun i hi => ?_, fun i hi => ?_, fun i hi => ?_⟩
  · rw [(hf _ hP.1).2.1]
    exact h1 i hi
  · rw [(hf _ hP.2.1).2.1]
    exact h2 i hi
  · rw [(hf _ hP.2.2).2.1]
    exact h3 i hi
theorem ch_41006 {vl : Nat → Nat} : ((cX vl).2 41006).2.1 = 576 := rfl
theorem ch_41007 {vl : Nat → Nat} : ((cX vl).2 41007).2.1 = 24 := rfl
theorem ch_41008 {vl : Nat → Nat} : ((cX vl).2 41008).2.1 = 24 := rfl
theorem ch_41009 {vl : Nat → Nat} : ((cX vl).2 41009).2.1 = 18 := rfl
theorem ch_41011 {vl : Nat → Nat} : ((cX vl).2 41011).2.1 = 36 := rfl
theorem ch_41012 {vl : Nat → Nat} : ((cX vl).2 41012).2.1 = 36 := rfl
theorem ch_41013 {vl : Nat → Nat} : ((cX vl).2 41013).2.1 = 36 := rfl
theorem ch_41014 {vl : Nat → Nat} : ((cX vl).2 41014).2.1 = 36 := rfl
theorem ch_41015 {vl : Nat → Nat} : ((cX vl).2 41015).2.1 = 36 := rfl
/-- the steps of a plan -/
def stP (z : ow_MS) : Prop := ∃ k, k ≤ 36 ∧ z.1 41010 = nI k ∧ ∀ s, s < k → (∃ a, a < 18 ∧ z.2.1 41012 s = nI a) ∧ (∃ a, a < 18 ∧ z.2.1 41013 s = nI a) ∧ ∃ a, a < 18 ∧ z.2.1 41014 s = nI a
def plR (g : Nat) : Prop := 41010 ≤ g ∧ g ≤ 41016
section CMP
variable {vl : Nat → Nat} {y : ow_MS}
theorem e_X0_addStep {vl : Nat → Nat} {r0 : Nat} {x1 : Int32} {x2 : Int32} {x3 : Int32} {x4 : Int32} {x5 : Int32} {z : ow_MS} {Q : ow_MS → Prop} (H : Tt (fun K _ => cm_X0_addStep_0 vl K x1 x2 x3 x4 x5 r0 z) Q) : Te (fun K => ce_X0_addStep vl K r0 x1 x2 x3 x4 x5 z) Q := w_te0 H
theorem tc_addStep {a b d : Nat} {k i : Int32} (h : stP y) (ha : a < 18) (hb : b < 18) (hd : d < 18) : Te (fun K => ce_X0_addStep vl K 41000 k (nI a) (nI b) (nI d) i y) (fun y1 => stP y1 ∧ fr plR y y1) := by
  obtain ⟨n, n36, h1, h2⟩ := id h
  refine e_X0_addStep ?_; unfold cm_X0_addStep_0
  rw [show Int32.ofNat (uw_len (cX vl) y (41000 + 11)) = nI 36 from rfl]
  refine w_rdF h1 (w_le (by omega) (by omega) (fun _ => w_some ⟨h, fr_rf⟩) (fun h9 => w_rdF h1 (w_ctI ch_41011 rfl h9 (w_rdF (x := nI n) h1 (w_ctI ch_41012 rfl h9 (w_rdF (x := nI n) h1 (w_ctI ch_41013 rfl h9 (w_rdF (x := nI n) h1 (w_ctI ch_41014 rfl h9 (w_rdF (x := nI n) h1 (w_ctZ ch_41015 rfl h9 (w_rdF (x := nI n) h1 (w_wrF (w_some ⟨⟨n + 1, by omega, ?_, fun s hs => ?_⟩, ?_⟩))))))))))))))
  · rw [po_usF_at, nI_1]
  · by_cases e : s = n
    · subst e
      exact ⟨⟨a, ha, rd_ot (by omega) (rd_ot (by omega) (rd_ot (by omega) po_usI_at))⟩, ⟨b, hb, rd_ot (by omega) (rd_ot (by omega) po_usI_at)⟩, d, hd, rd_ot (by omega) po_usI_at⟩
    · obtain ⟨⟨a', b1, b2⟩, ⟨a2, c1, c2⟩, a3, d1, d2⟩ := h2 s (by omega)
      exact ⟨⟨a', b1, rd_ot (by omega) (rd_ot (by omega) (rd_ot (by omega) (rd_ne e (rd_ot (by omega) b2))))⟩, ⟨a2, c1, rd_ot (by omega) (rd_ot (by omega) (rd_ne e (rd_ot (by omega) (rd_ot (by omega) c2))))⟩, a3, d1, rd_ot (by omega) (rd_ne e (rd_ot (by omega) (rd_ot (by omega) (rd_ot (by omega) d2))))⟩
  · exact fr_F2 (fr_I2 (fr_I2 (fr_I2 (fr_I2 (fr_I (by unfold plR; omega)) (by unfold plR; omega)) (by unfold plR; omega)) (by unfold plR; omega)) (by unfold plR; omega)) (by unfold plR; omega)
/-- what a plan reads: the arcs, the net -/
def plN (y : ow_MS) (c ci : Nat) (S : ow_NP) (G : Nat → Int32) (a : Nat → Nat) (n : Nat) : Prop := cAt y 4000 (c, ci, S, G) ∧ vn c S ∧ c ≤ 12 ∧ n ≤ 18 ∧ (∀ v, v < 2 * c → y.2.1 41001 v = nI (a v) ∧ a v < n) ∧ y.1 41002 = nI n
theorem plN_fr {P : Nat → Prop} {y1 : ow_MS} {c ci n : Nat} {S : ow_NP} {G : Nat → Int32} {a : Nat → Nat} (hf : fr P y y1) (hP : ∀ g, P g → ¬ cP 4000 g ∧ g ≠ 41001 ∧ g ≠ 41002) (h : plN y c ci S G a n) : plN y1 c ci S G a n := by
  obtain ⟨h1, h2, h3, h4, h5, h6⟩ := h
  refine ⟨cAt_fr hf (fun g hg h9 => (hP g h9).1 hg) h1, h2, h3, h4, fun v hv => ?_, (hf 41002 (fun h9 => (hP _ h9).2.2 rfl)).1.trans h6⟩
  rw [(hf 41001 (fun h9 => (hP _ h9).2.1 rfl)).2.1]
  exact h5 v hv
theorem plR_n {g : Nat} (h : plR g) : ¬ cP 4000 g ∧ g ≠ 41001 ∧ g ≠ 41002 := by
  unfold plR at h
  unfold cP
  omega
variable {c ci n : Nat} {S : ow_NP} {G : Nat → Int32} {a : Nat → Nat}
theorem u_X0_planCrossing_14 {vl : Nat → Nat} {x2 : Int32} {x3 : Int32} {x4 : Int32} {x5 : Int32} {x6 : Int32} {x7 : Int32} {x8 : Int32} {x9 : Int32} {x10 : Int32} {r0 : Nat} {r1 : Nat} {t0 : Int32} {t1 : Int32} {t2 : Int32} {t3 : Int32} {t4 : Int32} {z : ow_MS} {Q : (Int32 × ow_MS) → Prop} (H : Tt (fun K k => cm_X0_planCrossing_14 vl K (c_X0_planCrossing vl K k) x2 x3 x4 x5 x6 x7 x8 x9 x10 r0 r1 t0 t1 t2 t3 t4 z) Q) : Tt (fun K k => c_X0_planCrossing vl K k 14 x2 x3 x4 x5 x6 x7 x8 x9 x10 r0 r1 t0 t1 t2 t3 t4 z) Q := w_un (fun _ _ => rfl) H
theorem u_X0_planCrossing_10 {vl : Nat → Nat} {x2 : Int32} {x3 : Int32} {x4 : Int32} {x5 : Int32} {x6 : Int32} {x7 : Int32} {x8 : Int32} {x9 : Int32} {x10 : Int32} {r0 : Nat} {r1 : Nat} {t0 : Int32} {t1 : Int32} {t2 : Int32} {t3 : Int32} {t4 : Int32} {z : ow_MS} {Q : (Int32 × ow_MS) → Prop} (H : Tt (fun K k => cm_X0_planCrossing_10 vl K (c_X0_planCrossing vl K k) x2 x3 x4 x5 x6 x7 x8 x9 x10 r0 r1 t0 t1 t2 t3 t4 z) Q) : Tt (fun K k => c_X0_planCrossing vl K k 10 x2 x3 x4 x5 x6 x7 x8 x9 x10 r0 r1 t0 t1 t2 t3 t4 z) Q := w_un (fun _ _ => rfl) H
theorem u_X0_planCrossing_11 {vl : Nat → Nat} {x2 : Int32} {x3 : Int32} {x4 : Int32} {x5 : Int32} {x6 : Int32} {x7 : Int32} {x8 : Int32} {x9 : Int32} {x10 : Int32} {r0 : Nat} {r1 : Nat} {t0 : Int32} {t1 : Int32} {t2 : Int32} {t3 : Int32} {t4 : Int32} {z : ow_MS} {Q : (Int32 × ow_MS) → Prop} (H : Tt (fun K k => cm_X0_planCrossing_11 vl K (c_X0_planCrossing vl K k) x2 x3 x4 x5 x6 x7 x8 x9 x10 r0 r1 t0 t1 t2 t3 t4 z) Q) : Tt (fun K k => c_X0_planCrossing vl K k 11 x2 x3 x4 x5 x6 x7 x8 x9 x10 r0 r1 t0 t1 t2 t3 t4 z) Q := w_un (fun _ _ => rfl) H
theorem u_X0_planCrossing_13 {vl : Nat → Nat} {x2 : Int32} {x3 : Int32} {x4 : Int32} {x5 : Int32} {x6 : Int32} {x7 : Int32} {x8 : Int32} {x9 : Int32} {x10 : Int32} {r0 : Nat} {r1 : Nat} {t0 : Int32} {t1 : Int32} {t2 : Int32} {t3 : Int32} {t4 : Int32} {z : ow_MS} {Q : (Int32 × ow_MS) → Prop} (H : Tt (fun K k => cm_X0_planCrossing_13 vl K (c_X0_planCrossing vl K k) x2 x3 x4 x5 x6 x7 x8 x9 x10 r0 r1 t0 t1 t2 t3 t4 z) Q) : Tt (fun K k => c_X0_planCrossing vl K k 13 x2 x3 x4 x5 x6 x7 x8 x9 x10 r0 r1 t0 t1 t2 t3 t4 z) Q := w_un (fun _ _ => rfl) H
theorem u_X0_planCrossing_12 {vl : Nat → Nat} {x2 : Int32} {x3 : Int32} {x4 : Int32} {x5 : Int32} {x6 : Int32} {x7 : Int32} {x8 : Int32} {x9 : Int32} {x10 : Int32} {r0 : Nat} {r1 : Nat} {t0 : Int32} {t1 : Int32} {t2 : Int32} {t3 : Int32} {t4 : Int32} {z : ow_MS} {Q : (Int32 × ow_MS) → Prop} (H : Tt (fun K k => cm_X0_planCrossing_12 vl K (c_X0_planCrossing vl K k) x2 x3 x4 x5 x6 x7 x8 x9 x10 r0 r1 t0 t1 t2 t3 t4 z) Q) : Tt (fun K k => c_X0_planCrossing vl K k 12 x2 x3 x4 x5 x6 x7 x8 x9 x10 r0 r1 t0 t1 t2 t3 t4 z) Q := w_un (fun _ _ => rfl) H
theorem u_X0_planCrossing_9 {vl : Nat → Nat} {x2 : Int32} {x3 : Int32} {x4 : Int32} {x5 : Int32} {x6 : Int32} {x7 : Int32} {x8 : Int32} {x9 : Int32} {x10 : Int32} {r0 : Nat} {r1 : Nat} {t0 : Int32} {t1 : Int32} {t2 : Int32} {t3 : Int32} {t4 : Int32} {z : ow_MS} {Q : (Int32 × ow_MS) → Prop} (H : Tt (fun K k => cm_X0_planCrossing_9 vl K (c_X0_planCrossing vl K k) x2 x3 x4 x5 x6 x7 x8 x9 x10 r0 r1 t0 t1 t2 t3 t4 z) Q) : Tt (fun K k => c_X0_planCrossing vl K k 9 x2 x3 x4 x5 x6 x7 x8 x9 x10 r0 r1 t0 t1 t2 t3 t4 z) Q := w_un (fun _ _ => rfl) H
theorem u_X0_planCrossing_7 {vl : Nat → Nat} {x2 : Int32} {x3 : Int32} {x4 : Int32} {x5 : Int32} {x6 : Int32} {x7 : Int32} {x8 : Int32} {x9 : Int32} {x10 : Int32} {r0 : Nat} {r1 : Nat} {t0 : Int32} {t1 : Int32} {t2 : Int32} {t3 : Int32} {t4 : Int32} {z : ow_MS} {Q : (Int32 × ow_MS) → Prop} (H : Tt (fun K k => cm_X0_planCrossing_7 vl K (c_X0_planCrossing vl K k) x2 x3 x4 x5 x6 x7 x8 x9 x10 r0 r1 t0 t1 t2 t3 t4 z) Q) : Tt (fun K k => c_X0_planCrossing vl K k 7 x2 x3 x4 x5 x6 x7 x8 x9 x10 r0 r1 t0 t1 t2 t3 t4 z) Q := w_un (fun _ _ => rfl) H
theorem u_X0_planCrossing_8 {vl : Nat → Nat} {x2 : Int32} {x3 : Int32} {x4 : Int32} {x5 : Int32} {x6 : Int32} {x7 : Int32} {x8 : Int32} {x9 : Int32} {x10 : Int32} {r0 : Nat} {r1 : Nat} {t0 : Int32} {t1 : Int32} {t2 : Int32} {t3 : Int32} {t4 : Int32} {z : ow_MS} {Q : (Int32 × ow_MS) → Prop} (H : Tt (fun K k => cm_X0_planCrossing_8 vl K (c_X0_planCrossing vl K k) x2 x3 x4 x5 x6 x7 x8 x9 x10 r0 r1 t0 t1 t2 t3 t4 z) Q) : Tt (fun K k => c_X0_planCrossing vl K k 8 x2 x3 x4 x5 x6 x7 x8 x9 x10 r0 r1 t0 t1 t2 t3 t4 z) Q := w_un (fun _ _ => rfl) H
theorem u_X0_planCrossing_6 {vl : Nat → Nat} {x2 : Int32} {x3 : Int32} {x4 : Int32} {x5 : Int32} {x6 : Int32} {x7 : Int32} {x8 : Int32} {x9 : Int32} {x10 : Int32} {r0 : Nat} {r1 : Nat} {t0 : Int32} {t1 : Int32} {t2 : Int32} {t3 : Int32} {t4 : Int32} {z : ow_MS} {Q : (Int32 × ow_MS) → Prop} (H : Tt (fun K k => cm_X0_planCrossing_6 vl K (c_X0_planCrossing vl K k) x2 x3 x4 x5 x6 x7 x8 x9 x10 r0 r1 t0 t1 t2 t3 t4 z) Q) : Tt (fun K k => c_X0_planCrossing vl K k 6 x2 x3 x4 x5 x6 x7 x8 x9 x10 r0 r1 t0 t1 t2 t3 t4 z) Q := w_un (fun _ _ => rfl) H
theorem u_X0_planCrossing_5 {vl : Nat → Nat} {x2 : Int32} {x3 : Int32} {x4 : Int32} {x5 : Int32} {x6 : Int32} {x7 : Int32} {x8 : Int32} {x9 : Int32} {x10 : Int32} {r0 : Nat} {r1 : Nat} {t0 : Int32} {t1 : Int32} {t2 : Int32} {t3 : Int32} {t4 : Int32} {z : ow_MS} {Q : (Int32 × ow_MS) → Prop} (H : Tt (fun K k => cm_X0_planCrossing_5 vl K (c_X0_planCrossing vl K k) x2 x3 x4 x5 x6 x7 x8 x9 x10 r0 r1 t0 t1 t2 t3 t4 z) Q) : Tt (fun K k => c_X0_planCrossing vl K k 5 x2 x3 x4 x5 x6 x7 x8 x9 x10 r0 r1 t0 t1 t2 t3 t4 z) Q := w_un (fun _ _ => rfl) H
theorem u_X0_planCrossing_4 {vl : Nat → Nat} {x2 : Int32} {x3 : Int32} {x4 : Int32} {x5 : Int32} {x6 : Int32} {x7 : Int32} {x8 : Int32} {x9 : Int32} {x10 : Int32} {r0 : Nat} {r1 : Nat} {t0 : Int32} {t1 : Int32} {t2 : Int32} {t3 : Int32} {t4 : Int32} {z : ow_MS} {Q : (Int32 × ow_MS) → Prop} (H : Tt (fun K k => cm_X0_planCrossing_4 vl K (c_X0_planCrossing vl K k) x2 x3 x4 x5 x6 x7 x8 x9 x10 r0 r1 t0 t1 t2 t3 t4 z) Q) : Tt (fun K k => c_X0_planCrossing vl K k 4 x2 x3 x4 x5 x6 x7 x8 x9 x10 r0 r1 t0 t1 t2 t3 t4 z) Q := w_un (fun _ _ => rfl) H
theorem u_X0_planCrossing_3 {vl : Nat → Nat} {x2 : Int32} {x3 : Int32} {x4 : Int32} {x5 : Int32} {x6 : Int32} {x7 : Int32} {x8 : Int32} {x9 : Int32} {x10 : Int32} {r0 : Nat} {r1 : Nat} {t0 : Int32} {t1 : Int32} {t2 : Int32} {t3 : Int32} {t4 : Int32} {z : ow_MS} {Q : (Int32 × ow_MS) → Prop} (H : Tt (fun K k => cm_X0_planCrossing_3 vl K (c_X0_planCrossing vl K k) x2 x3 x4 x5 x6 x7 x8 x9 x10 r0 r1 t0 t1 t2 t3 t4 z) Q) : Tt (fun K k => c_X0_planCrossing vl K k 3 x2 x3 x4 x5 x6 x7 x8 x9 x10 r0 r1 t0 t1 t2 t3 t4 z) Q := w_un (fun _ _ => rfl) H
theorem u_X0_planCrossing_2 {vl : Nat → Nat} {x2 : Int32} {x3 : Int32} {x4 : Int32} {x5 : Int32} {x6 : Int32} {x7 : Int32} {x8 : Int32} {x9 : Int32} {x10 : Int32} {r0 : Nat} {r1 : Nat} {t0 : Int32} {t1 : Int32} {t2 : Int32} {t3 : Int32} {t4 : Int32} {z : ow_MS} {Q : (Int32 × ow_MS) → Prop} (H : Tt (fun K k => cm_X0_planCrossing_2 vl K (c_X0_planCrossing vl K k) x2 x3 x4 x5 x6 x7 x8 x9 x10 r0 r1 t0 t1 t2 t3 t4 z) Q) : Tt (fun K k => c_X0_planCrossing vl K k 2 x2 x3 x4 x5 x6 x7 x8 x9 x10 r0 r1 t0 t1 t2 t3 t4 z) Q := w_un (fun _ _ => rfl) H
theorem u_X0_planCrossing_1 {vl : Nat → Nat} {x2 : Int32} {x3 : Int32} {x4 : Int32} {x5 : Int32} {x6 : Int32} {x7 : Int32} {x8 : Int32} {x9 : Int32} {x10 : Int32} {r0 : Nat} {r1 : Nat} {t0 : Int32} {t1 : Int32} {t2 : Int32} {t3 : Int32} {t4 : Int32} {z : ow_MS} {Q : (Int32 × ow_MS) → Prop} (H : Tt (fun K k => cm_X0_planCrossing_1 vl K (c_X0_planCrossing vl K k) x2 x3 x4 x5 x6 x7 x8 x9 x10 r0 r1 t0 t1 t2 t3 t4 z) Q) : Tt (fun K k => c_X0_planCrossing vl K k 1 x2 x3 x4 x5 x6 x7 x8 x9 x10 r0 r1 t0 t1 t2 t3 t4 z) Q := w_un (fun _ _ => rfl) H
theorem e_X0_planCrossing {vl : Nat → Nat} {r0 : Nat} {r1 : Nat} {x2 : Int32} {x3 : Int32} {z : ow_MS} {Q : (Int32 × ow_MS) → Prop} (H : Tt (fun K k => c_X0_planCrossing vl K k 0 x2 x3 0 0 0 0 0 0 0 r0 r1 0 0 0 0 0 z) Q) : Te (fun K => ce_X0_planCrossing vl K r0 r1 x2 x3 z) Q := w_te H
theorem u_X0_planCrossing_0 {vl : Nat → Nat} {x2 : Int32} {x3 : Int32} {x4 : Int32} {x5 : Int32} {x6 : Int32} {x7 : Int32} {x8 : Int32} {x9 : Int32} {x10 : Int32} {r0 : Nat} {r1 : Nat} {t0 : Int32} {t1 : Int32} {t2 : Int32} {t3 : Int32} {t4 : Int32} {z : ow_MS} {Q : (Int32 × ow_MS) → Prop} (H : Tt (fun K k => cm_X0_planCrossing_0 vl K (c_X0_planCrossing vl K k) x2 x3 x4 x5 x6 x7 x8 x9 x10 r0 r1 t0 t1 t2 t3 t4 z) Q) : Tt (fun K k => c_X0_planCrossing vl K k 0 x2 x3 x4 x5 x6 x7 x8 x9 x10 r0 r1 t0 t1 t2 t3 t4 z) Q := w_un (fun _ _ => rfl) H
theorem tc_planX {x : Nat} {kn : Int32} (h : plN y c ci S G a n) (hs : stP y) (hx : x < c) : Te (fun K => ce_X0_planCrossing vl K 41000 4000 (nI x) kn y) (fun r => stP r.2 ∧ fr plR y r.2) := by
  obtain ⟨h1, hv, hc, h18, h2, h3⟩ := h
  obtain ⟨-, v2, -, -⟩ := hv (2 * x + 1) (by omega)
  obtain ⟨o1, o2⟩ := h2 (2 * x) (by omega)
  obtain ⟨u1, u2⟩ := h2 (2 * x + 1) (by omega)
  obtain ⟨i1, i2⟩ := h2 _ v2
  let Q : Int32 × ow_MS → Prop := fun r => stP r.2 ∧ fr plR y r.2
  have c14 : ∀ (x7 x8 x9 x10 ov : Int32) (z : ow_MS), Q (0, z) → Tt (fun K k => c_X0_planCrossing vl K k 14 (nI x) kn ov (nI (a (S.2 (2 * x + 1)))) (nI (a (2 * x + 1))) x7 x8 x9 x10 41000 4000 0 0 0 0 0 z) Q := by
    intro x7 x8 x9 x10 ov z hz
    refine u_X0_planCrossing_14 ?_; unfold cm_X0_planCrossing_14
    exact w_some hz
  have c9 : ∀ (o : Nat) (x7 x8 x9 x10 : Int32), o < 18 → Tt (fun K k => c_X0_planCrossing vl K k 9 (nI x) kn (nI o) (nI (a (S.2 (2 * x + 1)))) (nI (a (2 * x + 1))) x7 x8 x9 x10 41000 4000 0 0 0 0 0 y) Q := by
    intro o x7 x8 x9 x10 ho
    have c10 : Tt (fun K k => c_X0_planCrossing vl K k 10 (nI x) kn (nI o) (nI (a (S.2 (2 * x + 1)))) (nI (a (2 * x + 1))) x7 x8 x9 x10 41000 4000 0 0 0 0 0 y) Q := by
      refine u_X0_planCrossing_10 ?_; unfold cm_X0_planCrossing_10
      refine w_rdF rfl (w_wrF ?_)
      generalize hz : usF y (41000 + 16) _ = z
      have fz : fr plR y z := by
        rw [← hz]
        exact fr_F (by unfold plR; omega)
      have sz : stP z := by
        obtain ⟨k, k1, k2, k3⟩ := hs
        rw [← hz]
        exact ⟨k, k1, rf_ot (by omega) k2, k3⟩
      have ad : ∀ (a1 b1 d1 : Nat) (k1 j1 : Int32), a1 < 18 → b1 < 18 → d1 < 18 → Te (fun K => ce_X0_addStep vl K 41000 k1 (nI a1) (nI b1) (nI d1) j1 z) (fun y1 => Q (0, y1)) := fun a1 b1 d1 k1 j1 g1 g2 g3 => w_monoE (tc_addStep sz g1 g2 g3) (fun r hr => ⟨hr.1, fr_tr fz hr.2⟩)
      have c11 : ∀ t0, Tt (fun K k => c_X0_planCrossing vl K k 11 (nI x) kn (nI o) (nI (a (S.2 (2 * x + 1)))) (nI (a (2 * x + 1))) x7 x8 x9 x10 41000 4000 t0 (nI (a (S.2 (2 * x + 1)))) (nI o) (nI (a (2 * x + 1))) 2 z) Q := by
        intro t0
        refine u_X0_planCrossing_11 ?_; unfold cm_X0_planCrossing_11
        exact w_cs0 (ad _ _ _ _ _ (by omega) ho (by omega)) (fun z1 h9 => c14 _ _ _ _ _ z1 h9)
      have c13 : ∀ t0, Tt (fun K k => c_X0_planCrossing vl K k 13 (nI x) kn (nI o) (nI (a (S.2 (2 * x + 1)))) (nI (a (2 * x + 1))) x7 x8 x9 x10 41000 4000 t0 (nI (a (S.2 (2 * x + 1)))) (nI o) (nI (a (2 * x + 1))) 1 z) Q := by
        intro t0
        refine u_X0_planCrossing_13 ?_; unfold cm_X0_planCrossing_13
        exact w_cs0 (ad _ _ _ _ _ (by omega) ho (by omega)) (fun z1 h9 => c14 _ _ _ _ _ z1 h9)
      have c12 : Tt (fun K k => c_X0_planCrossing vl K k 12 (nI x) kn (nI o) (nI (a (S.2 (2 * x + 1)))) (nI (a (2 * x + 1))) x7 x8 x9 x10 41000 4000 0 0 0 0 0 z) Q := by
        refine u_X0_planCrossing_12 ?_; unfold cm_X0_planCrossing_12
        exact w_if (fun _ => w_cs0 (ad _ _ _ _ _ (by omega) ho (by omega)) (fun z1 h9 => c14 _ _ _ _ _ z1 h9)) (fun _ => w_if (fun _ => c13 _) (fun _ => c13 _))
      exact w_if (fun _ => c12) (fun _ => w_if (fun _ => c12) (fun _ => w_if (fun _ => c11 _) (fun _ => c11 _)))
    refine u_X0_planCrossing_9 ?_; unfold cm_X0_planCrossing_9
    exact w_if (fun _ => w_some ⟨hs, fr_rf⟩) (fun _ => w_if (fun _ => w_if (fun _ => w_some ⟨hs, fr_rf⟩) (fun _ => c10)) (fun _ => c10))
  have c7 : ∀ (o : Int32) (x7 x8 x9 x10 t0 : Int32), Tt (fun K k => c_X0_planCrossing vl K k 7 (nI x) kn o (nI (a (S.2 (2 * x + 1)))) (nI (a (2 * x + 1))) x7 x8 x9 x10 41000 4000 t0 0 0 0 0 y) Q := by
    intro o x7 x8 x9 x10 t0
    refine u_X0_planCrossing_7 ?_; unfold cm_X0_planCrossing_7
    refine w_if (fun _ => ?_) (fun _ => ?_)
    · refine u_X0_planCrossing_8 ?_; unfold cm_X0_planCrossing_8
      exact c9 _ _ _ _ _ (by omega)
    · refine u_X0_planCrossing_8 ?_; unfold cm_X0_planCrossing_8
      exact c9 _ _ _ _ _ (by omega)
  have c6 : ∀ (o : Int32) (x7 x8 x9 x10 : Int32), Tt (fun K k => c_X0_planCrossing vl K k 6 (nI x) kn o (nI (a (S.2 (2 * x + 1)))) (nI (a (2 * x + 1))) x7 x8 x9 x10 41000 4000 0 0 0 0 0 y) Q := by
    intro o x7 x8 x9 x10
    refine u_X0_planCrossing_6 ?_; unfold cm_X0_planCrossing_6
    exact c7 _ _ _ _ _ _
  have c5 : ∀ (o : Int32) (x7 x8 x9 x10 : Int32), Tt (fun K k => c_X0_planCrossing vl K k 5 (nI x) kn o (nI (a (S.2 (2 * x + 1)))) (nI (a (2 * x + 1))) x7 x8 x9 x10 41000 4000 0 0 0 0 0 y) Q := by
    intro o x7 x8 x9 x10
    refine u_X0_planCrossing_5 ?_; unfold cm_X0_planCrossing_5
    exact w_if (fun _ => w_if (fun _ => c7 _ _ _ _ _ _) (fun _ => c6 _ _ _ _ _)) (fun _ => c6 _ _ _ _ _)
  have c4 : ∀ (x7 x8 x9 t0 : Int32), Tt (fun K k => c_X0_planCrossing vl K k 4 (nI x) kn (nI (a (2 * x))) (nI (a (S.2 (2 * x + 1)))) (nI (a (2 * x + 1))) x7 x8 x9 0 41000 4000 t0 0 0 0 0 y) Q := by
    intro x7 x8 x9 t0
    refine u_X0_planCrossing_4 ?_; unfold cm_X0_planCrossing_4
    exact w_if (fun _ => c5 _ _ _ _ _) (fun _ => w_if (fun _ => c5 _ _ _ _ _) (fun _ => c9 _ _ _ _ _ (by omega)))
  have c3 : ∀ (x7 x8 t0 : Int32), Tt (fun K k => c_X0_planCrossing vl K k 3 (nI x) kn (nI (a (2 * x))) (nI (a (S.2 (2 * x + 1)))) (nI (a (2 * x + 1))) x7 x8 0 0 41000 4000 t0 0 0 0 0 y) Q := by
    intro x7 x8 t0
    refine u_X0_planCrossing_3 ?_; unfold cm_X0_planCrossing_3
    exact w_if (fun _ => c4 _ _ _ _) (fun _ => c4 _ _ _ _)
  have c2 : ∀ (x7 t0 : Int32), Tt (fun K k => c_X0_planCrossing vl K k 2 (nI x) kn (nI (a (2 * x))) (nI (a (S.2 (2 * x + 1)))) (nI (a (2 * x + 1))) x7 0 0 0 41000 4000 t0 0 0 0 0 y) Q := by
    intro x7 t0
    refine u_X0_planCrossing_2 ?_; unfold cm_X0_planCrossing_2
    exact w_if (fun _ => c3 _ _ _) (fun _ => c3 _ _ _)
  have c1 : ∀ (t0 : Int32), Tt (fun K k => c_X0_planCrossing vl K k 1 (nI x) kn (nI (a (2 * x))) (nI (a (S.2 (2 * x + 1)))) (nI (a (2 * x + 1))) 0 0 0 0 41000 4000 t0 0 0 0 0 y) Q := by
    intro t0
    refine u_X0_planCrossing_1 ?_; unfold cm_X0_planCrossing_1
    exact w_if (fun _ => c2 _ _) (fun _ => c2 _ _)
  refine e_X0_planCrossing ?_
  refine u_X0_planCrossing_0 ?_; unfold cm_X0_planCrossing_0
  rw [rn_mul2, nI_1]
  exact w_crI ch_41001 rfl (show 2 * x < 24 by omega) o1 (w_crI (nH_2 nH4) rfl (show 2 * x + 1 < 24 by omega) (h1.2.2.2.1 _) (w_crI ch_41001 rfl (show S.2 (2 * x + 1) < 24 by omega) i1 (w_crI ch_41001 rfl (show 2 * x + 1 < 24 by omega) u1 (w_crI (nH_3 nH4) rfl (show x < 12 by omega) rfl (w_if (fun _ => c1 _) (fun _ => c1 _))))))
theorem u_X0_planFrom_1 {vl : Nat → Nat} {x2 : Int32} {x3 : Int32} {x4 : Int32} {x5 : Int32} {x6 : Int32} {x7 : Int32} {x8 : Int32} {r0 : Nat} {r1 : Nat} {z : ow_MS} {Q : (Int32 × ow_MS) → Prop} (H : Tt (fun K k => cm_X0_planFrom_1 vl K (c_X0_planFrom vl K k) x2 x3 x4 x5 x6 x7 x8 r0 r1 z) Q) : Tt (fun K k => c_X0_planFrom vl K k 1 x2 x3 x4 x5 x6 x7 x8 r0 r1 z) Q := w_un (fun _ _ => rfl) H
theorem u_X0_planFrom_6 {vl : Nat → Nat} {x2 : Int32} {x3 : Int32} {x4 : Int32} {x5 : Int32} {x6 : Int32} {x7 : Int32} {x8 : Int32} {r0 : Nat} {r1 : Nat} {z : ow_MS} {Q : (Int32 × ow_MS) → Prop} (H : Tt (fun K k => cm_X0_planFrom_6 vl K (c_X0_planFrom vl K k) x2 x3 x4 x5 x6 x7 x8 r0 r1 z) Q) : Tt (fun K k => c_X0_planFrom vl K k 6 x2 x3 x4 x5 x6 x7 x8 r0 r1 z) Q := w_un (fun _ _ => rfl) H
theorem u_X0_planFrom_2 {vl : Nat → Nat} {x2 : Int32} {x3 : Int32} {x4 : Int32} {x5 : Int32} {x6 : Int32} {x7 : Int32} {x8 : Int32} {r0 : Nat} {r1 : Nat} {z : ow_MS} {Q : (Int32 × ow_MS) → Prop} (H : Tt (fun K k => cm_X0_planFrom_2 vl K (c_X0_planFrom vl K k) x2 x3 x4 x5 x6 x7 x8 r0 r1 z) Q) : Tt (fun K k => c_X0_planFrom vl K k 2 x2 x3 x4 x5 x6 x7 x8 r0 r1 z) Q := w_un (fun _ _ => rfl) H
theorem u_X0_planFrom_5 {vl : Nat → Nat} {x2 : Int32} {x3 : Int32} {x4 : Int32} {x5 : Int32} {x6 : Int32} {x7 : Int32} {x8 : Int32} {r0 : Nat} {r1 : Nat} {z : ow_MS} {Q : (Int32 × ow_MS) → Prop} (H : Tt (fun K k => cm_X0_planFrom_5 vl K (c_X0_planFrom vl K k) x2 x3 x4 x5 x6 x7 x8 r0 r1 z) Q) : Tt (fun K k => c_X0_planFrom vl K k 5 x2 x3 x4 x5 x6 x7 x8 r0 r1 z) Q := w_un (fun _ _ => rfl) H
theorem u_X0_planFrom_3 {vl : Nat → Nat} {x2 : Int32} {x3 : Int32} {x4 : Int32} {x5 : Int32} {x6 : Int32} {x7 : Int32} {x8 : Int32} {r0 : Nat} {r1 : Nat} {z : ow_MS} {Q : (Int32 × ow_MS) → Prop} (H : Tt (fun K k => cm_X0_planFrom_3 vl K (c_X0_planFrom vl K k) x2 x3 x4 x5 x6 x7 x8 r0 r1 z) Q) : Tt (fun K k => c_X0_planFrom vl K k 3 x2 x3 x4 x5 x6 x7 x8 r0 r1 z) Q := w_un (fun _ _ => rfl) H
theorem u_X0_planFrom_4 {vl : Nat → Nat} {x2 : Int32} {x3 : Int32} {x4 : Int32} {x5 : Int32} {x6 : Int32} {x7 : Int32} {x8 : Int32} {r0 : Nat} {r1 : Nat} {z : ow_MS} {Q : (Int32 × ow_MS) → Prop} (H : Tt (fun K k => cm_X0_planFrom_4 vl K (c_X0_planFrom vl K k) x2 x3 x4 x5 x6 x7 x8 r0 r1 z) Q) : Tt (fun K k => c_X0_planFrom vl K k 4 x2 x3 x4 x5 x6 x7 x8 r0 r1 z) Q := w_un (fun _ _ => rfl) H
theorem e_X0_planFrom {vl : Nat → Nat} {r0 : Nat} {r1 : Nat} {x2 : Int32} {x3 : Int32} {z : ow_MS} {Q : (Int32 × ow_MS) → Prop} (H : Tt (fun K k => c_X0_planFrom vl K k 0 x2 x3 0 0 0 0 0 r0 r1 z) Q) : Te (fun K => ce_X0_planFrom vl K r0 r1 x2 x3 z) Q := w_te H
theorem u_X0_planFrom_0 {vl : Nat → Nat} {x2 : Int32} {x3 : Int32} {x4 : Int32} {x5 : Int32} {x6 : Int32} {x7 : Int32} {x8 : Int32} {r0 : Nat} {r1 : Nat} {z : ow_MS} {Q : (Int32 × ow_MS) → Prop} (H : Tt (fun K k => cm_X0_planFrom_0 vl K (c_X0_planFrom vl K k) x2 x3 x4 x5 x6 x7 x8 r0 r1 z) Q) : Tt (fun K k => c_X0_planFrom vl K k 0 x2 x3 x4 x5 x6 x7 x8 r0 r1 z) Q := w_un (fun _ _ => rfl) H
theorem tc_planFrom {p se : Int32} (h : plN y c ci S G a n) : Te (fun K => ce_X0_planFrom vl K 41000 4000 p se y) (fun r => stP r.2 ∧ fr plR y r.2) := by
  let Q : Int32 × ow_MS → Prop := fun r => stP r.2 ∧ fr plR y r.2
  have hP : ∀ z, fr plR y z → plN z c ci S G a n := fun z hf => plN_fr hf (fun g hg => plR_n hg) h
  obtain ⟨-, -, hc, h18, -, -⟩ := id h
  have c1 : ∀ (d j : Nat) (x4 : Int32) (z : ow_MS), j + d = n → Q (0, z) → Tt (fun K k => c_X0_planFrom vl K k 1 p se x4 (nI j) 0 0 0 41000 4000 z) Q := by
    intro d
    induction d with
    | zero =>
      intro j x4 z hj hz
      refine u_X0_planFrom_1 ?_; unfold cm_X0_planFrom_1
      exact w_rdF (hP z hz.2).2.2.2.2.2 (w_leT (by omega) (by omega) (w_some hz))
    | succ d ih =>
      intro j x4 z hj hz
      have c6 : ∀ (x4 : Int32) (z : ow_MS), Q (0, z) → Tt (fun K k => c_X0_planFrom vl K k 6 p se x4 (nI j) 0 0 0 41000 4000 z) Q := by
        intro x4 z hz
        refine u_X0_planFrom_6 ?_; unfold cm_X0_planFrom_6
        rw [nI_1]
        exact ih (j + 1) x4 z (by omega) hz
      have c2 : ∀ (e i : Nat) (x4 : Int32) (z : ow_MS), i + e = 12 → Q (0, z) → Tt (fun K k => c_X0_planFrom vl K k 2 p se x4 (nI j) (nI i) 0 0 41000 4000 z) Q := by
        intro e
        induction e with
        | zero =>
          intro i x4 z hi hz
          refine u_X0_planFrom_2 ?_; unfold cm_X0_planFrom_2
          exact w_leT (a := 12) (by omega) (by omega) (c6 x4 z hz)
        | succ e ihe =>
          intro i x4 z hi hz
          have c5 : ∀ (x4 x7 x8 : Int32) (z : ow_MS), Q (0, z) → Tt (fun K k => c_X0_planFrom vl K k 5 p se x4 (nI j) (nI i) x7 x8 41000 4000 z) Q := by
            intro x4 x7 x8 z hz
            refine u_X0_planFrom_5 ?_; unfold cm_X0_planFrom_5
            rw [nI_1]
            exact ihe (i + 1) x4 z (by omega) hz
          have c3 : ∀ (g x : Nat) (x4 x7 : Int32) (z : ow_MS), x + g = c → Q (0, z) → Tt (fun K k => c_X0_planFrom vl K k 3 p se x4 (nI j) (nI i) x7 (nI x) 41000 4000 z) Q := by
            intro g
            induction g with
            | zero =>
              intro x x4 x7 z hx hz
              refine u_X0_planFrom_3 ?_; unfold cm_X0_planFrom_3
              exact w_rdF (hP z hz.2).1.1 (w_leT (by omega) (by omega) (w_if (fun _ => w_if (fun _ => c5 _ _ _ z hz) (fun _ => c6 _ z hz)) (fun _ => c5 _ _ _ z hz)))
            | succ g ihg =>
              intro x x4 x7 z hx hz
              have c4 : ∀ (x4 : Int32) (z : ow_MS), Q (0, z) → Tt (fun K k => c_X0_planFrom vl K k 4 p se x4 (nI j) (nI i) x7 (nI x) 41000 4000 z) Q := by
                intro x4 z hz
                refine u_X0_planFrom_4 ?_; unfold cm_X0_planFrom_4
                rw [nI_1]
                exact ihg (x + 1) x4 x7 z (by omega) hz
              refine u_X0_planFrom_3 ?_; unfold cm_X0_planFrom_3
              rw [rn_mul2]
              refine w_rdF (hP z hz.2).1.1 (w_leF (by omega) (by omega) (w_crI (nH_6 nH4) rfl (show 2 * x < 24 by omega) rfl (w_if (fun _ => w_rdF rfl (w_if (fun _ => w_cs1 (tc_planX (hP z hz.2) hz.1 (show x < c by omega)) ?_) (fun _ => c4 _ z hz))) (fun _ => c4 _ z hz))))
              rintro v z1 ⟨g1, g2⟩
              exact c4 _ z1 ⟨g1, fr_tr hz.2 g2⟩
          refine u_X0_planFrom_2 ?_; unfold cm_X0_planFrom_2
          exact w_leF (a := 12) (by omega) (by omega) (c3 c 0 x4 x4 z (by omega) hz)
      refine u_X0_planFrom_1 ?_; unfold cm_X0_planFrom_1
      refine w_rdF (hP z hz.2).2.2.2.2.2 (w_leF (by omega) (by omega) (w_if (fun _ => c6 x4 z hz) (fun _ => w_if (fun _ => w_cs0 (tc_addStep hz.1 (show j < 18 by omega) (show j < 18 by omega) (show j < 18 by omega)) ?_) (fun _ => c6 x4 z hz))))
      rintro z1 ⟨g1, g2⟩
      exact c2 12 0 _ z1 (by omega) ⟨g1, fr_tr hz.2 g2⟩
  refine e_X0_planFrom ?_
  refine u_X0_planFrom_0 ?_; unfold cm_X0_planFrom_0
  refine w_wrF (w_wrF (c1 n 0 0 _ (by omega) ⟨⟨0, by omega, rf_ot (by omega) po_usF_at, fun s hs => absurd hs (by omega)⟩, fr_F2 (fr_F (by unfold plR; omega)) (by unfold plR; omega)⟩))
theorem or_bit18 {m l : Nat} (hm : m < 2 ^ 18) (hl : l < 18) : ∃ m', m' < 2 ^ 18 ∧ nI m ||| ((1 : Int32) <<< (nI l &&& 31)) = nI m' := by
  have h1 : 2 ^ l < 2 ^ 18 := Nat.pow_lt_pow_right (by omega) hl
  refine ⟨m ||| 2 ^ l, Nat.or_lt_two_pow hm h1, ?_⟩
  rw [shl1 (by omega), ow_or (by omega) (by omega)]
theorem u_X0_planPart_3 {vl : Nat → Nat} {x2 : Int32} {x3 : Int32} {x4 : Int32} {x5 : Int32} {r0 : Nat} {r1 : Nat} {z : ow_MS} {Q : ow_MS → Prop} (H : Tt (fun K k => cm_X0_planPart_3 vl K (c_X0_planPart vl K k) x2 x3 x4 x5 r0 r1 z) Q) : Tt (fun K k => c_X0_planPart vl K k 3 x2 x3 x4 x5 r0 r1 z) Q := w_un (fun _ _ => rfl) H
theorem u_X0_planPart_4 {vl : Nat → Nat} {x2 : Int32} {x3 : Int32} {x4 : Int32} {x5 : Int32} {r0 : Nat} {r1 : Nat} {z : ow_MS} {Q : ow_MS → Prop} (H : Tt (fun K k => cm_X0_planPart_4 vl K (c_X0_planPart vl K k) x2 x3 x4 x5 r0 r1 z) Q) : Tt (fun K k => c_X0_planPart vl K k 4 x2 x3 x4 x5 r0 r1 z) Q := w_un (fun _ _ => rfl) H
theorem u_X0_planPart_5 {vl : Nat → Nat} {x2 : Int32} {x3 : Int32} {x4 : Int32} {x5 : Int32} {r0 : Nat} {r1 : Nat} {z : ow_MS} {Q : ow_MS → Prop} (H : Tt (fun K k => cm_X0_planPart_5 vl K (c_X0_planPart vl K k) x2 x3 x4 x5 r0 r1 z) Q) : Tt (fun K k => c_X0_planPart vl K k 5 x2 x3 x4 x5 r0 r1 z) Q := w_un (fun _ _ => rfl) H
theorem u_X0_planPart_1 {vl : Nat → Nat} {x2 : Int32} {x3 : Int32} {x4 : Int32} {x5 : Int32} {r0 : Nat} {r1 : Nat} {z : ow_MS} {Q : ow_MS → Prop} (H : Tt (fun K k => cm_X0_planPart_1 vl K (c_X0_planPart vl K k) x2 x3 x4 x5 r0 r1 z) Q) : Tt (fun K k => c_X0_planPart vl K k 1 x2 x3 x4 x5 r0 r1 z) Q := w_un (fun _ _ => rfl) H
theorem u_X0_planPart_2 {vl : Nat → Nat} {x2 : Int32} {x3 : Int32} {x4 : Int32} {x5 : Int32} {r0 : Nat} {r1 : Nat} {z : ow_MS} {Q : ow_MS → Prop} (H : Tt (fun K k => cm_X0_planPart_2 vl K (c_X0_planPart vl K k) x2 x3 x4 x5 r0 r1 z) Q) : Tt (fun K k => c_X0_planPart vl K k 2 x2 x3 x4 x5 r0 r1 z) Q := w_un (fun _ _ => rfl) H
theorem e_X0_planPart {vl : Nat → Nat} {r0 : Nat} {r1 : Nat} {x2 : Int32} {z : ow_MS} {Q : ow_MS → Prop} (H : Tt (fun K k => c_X0_planPart vl K k 0 x2 0 0 0 r0 r1 z) Q) : Te (fun K => ce_X0_planPart vl K r0 r1 x2 z) Q := w_te H
theorem u_X0_planPart_0 {vl : Nat → Nat} {x2 : Int32} {x3 : Int32} {x4 : Int32} {x5 : Int32} {r0 : Nat} {r1 : Nat} {z : ow_MS} {Q : ow_MS → Prop} (H : Tt (fun K k => cm_X0_planPart_0 vl K (c_X0_planPart vl K k) x2 x3 x4 x5 r0 r1 z) Q) : Tt (fun K k => c_X0_planPart vl K k 0 x2 x3 x4 x5 r0 r1 z) Q := w_un (fun _ _ => rfl) H
theorem tc_planPart {p : Int32} (h : plN y c ci S G a n) (hs : stP y) : Te (fun K => ce_X0_planPart vl K 41000 4000 p y) (fun y1 => stP y1 ∧ fr plR y y1) := by
  let Q : ow_MS → Prop := fun z => stP z ∧ fr plR y z
  have hP : ∀ z, fr plR y z → plN z c ci S G a n := fun z hf => plN_fr hf (fun g hg => plR_n hg) h
  obtain ⟨h1, -, hc, h18, h2, h3⟩ := id h
  have c3 : ∀ (m : Nat), m < 2 ^ 18 → ∀ (d s : Nat) (z : ow_MS), s + d = n + 1 → Q z → Tt (fun K k => c_X0_planPart vl K k 3 p (nI m) (nI s) 0 41000 4000 z) Q := by
    intro m hm d
    induction d with
    | zero =>
      intro s z hs1 hz
      refine u_X0_planPart_3 ?_; unfold cm_X0_planPart_3
      exact w_rdF (hP z hz.2).2.2.2.2.2 (w_ltT (by omega) (by omega) (w_some hz))
    | succ d ih =>
      intro s z hs1 hz
      have c4 : ∀ (e q : Nat) (z : ow_MS), q + e = m + 1 → Q z → Tt (fun K k => c_X0_planPart vl K k 4 p (nI m) (nI s) (nI q) 41000 4000 z) Q := by
        intro e
        induction e with
        | zero =>
          intro q z hq hz
          refine u_X0_planPart_4 ?_; unfold cm_X0_planPart_4
          rw [nI_1]
          exact w_ltT (by omega) (by omega) (ih (s + 1) z (by omega) hz)
        | succ e ihe =>
          intro q z hq hz
          have c5 : ∀ (z : ow_MS), Q z → Tt (fun K k => c_X0_planPart vl K k 5 p (nI m) (nI s) (nI q) 41000 4000 z) Q := by
            intro z hz
            refine u_X0_planPart_5 ?_; unfold cm_X0_planPart_5
            rw [nI_1]
            exact ihe (q + 1) z (by omega) hz
          refine u_X0_planPart_4 ?_; unfold cm_X0_planPart_4
          refine w_ltF (by omega) (by omega) (w_if (fun _ => w_if (fun _ => w_cs1 (tc_planFrom (hP z hz.2)) ?_) (fun _ => c5 z hz)) (fun _ => c5 z hz))
          rintro v z1 ⟨g1, g2⟩
          have q1 : Q z1 := ⟨g1, fr_tr hz.2 g2⟩
          exact w_if (fun _ => w_some q1) (fun _ => c5 z1 q1)
      refine u_X0_planPart_3 ?_; unfold cm_X0_planPart_3
      refine w_rdF (hP z hz.2).2.2.2.2.2 (w_ltF (by omega) (by omega) ?_)
      rcases Nat.eq_zero_or_pos m with hm0 | hm0
      · refine u_X0_planPart_4 ?_; unfold cm_X0_planPart_4
        rw [nI_1]
        exact w_ltT (b := 1) (by omega) (by omega) (ih (s + 1) z (by omega) hz)
      · exact c4 m 1 z (by omega) hz
  have c1 : ∀ (d v m : Nat), m < 2 ^ 18 → v + d = 2 * c → Tt (fun K k => c_X0_planPart vl K k 1 p (nI m) (nI v) 0 41000 4000 y) Q := by
    intro d
    induction d with
    | zero =>
      intro v m hm hv
      refine u_X0_planPart_1 ?_; unfold cm_X0_planPart_1
      exact w_rdF h1.1 (by rw [rn_mul2]; exact w_leT (by omega) (by omega) (c3 m hm n 1 y (by omega) ⟨hs, fr_rf⟩))
    | succ d ih =>
      intro v m hm hv
      have c2 : ∀ (m : Nat), m < 2 ^ 18 → Tt (fun K k => c_X0_planPart vl K k 2 p (nI m) (nI v) 0 41000 4000 y) Q := by
        intro m hm
        refine u_X0_planPart_2 ?_; unfold cm_X0_planPart_2
        rw [nI_1]
        exact ih (v + 1) m hm (by omega)
      refine u_X0_planPart_1 ?_; unfold cm_X0_planPart_1
      refine w_rdF h1.1 ?_
      rw [rn_mul2]
      refine w_leF (by omega) (by omega) (w_crI (nH_6 nH4) rfl (show v < 24 by omega) rfl (w_if (fun _ => w_crI ch_41001 rfl (show v < 24 by omega) (h2 v (by omega)).1 ?_) (fun _ => c2 m hm)))
      obtain ⟨m', m1, m2⟩ := or_bit18 (l := a v) hm (by have := (h2 v (by omega)).2; omega)
      rw [m2]
      exact c2 m' m1
  refine e_X0_planPart ?_
  refine u_X0_planPart_0 ?_; unfold cm_X0_planPart_0
  exact c1 (2 * c) 0 0 (by omega) (by omega)
end CMP
end
section
/-! 99zzzzzzzb.cmap2 -/
/-! the class: maps: counting -/
section CMQ
variable {vl : Nat → Nat} {y : ow_MS}
theorem u_X0_findClasses_1 {vl : Nat → Nat} {x1 : Int32} {x2 : Int32} {x3 : Int32} {x4 : Int32} {r0 : Nat} {z : ow_MS} {Q : ow_MS → Prop} (H : Tt (fun K k => cm_X0_findClasses_1 vl K (c_X0_findClasses vl K k) x1 x2 x3 x4 r0 z) Q) : Tt (fun K k => c_X0_findClasses vl K k 1 x1 x2 x3 x4 r0 z) Q := w_un (fun _ _ => rfl) H
theorem u_X0_findClasses_2 {vl : Nat → Nat} {x1 : Int32} {x2 : Int32} {x3 : Int32} {x4 : Int32} {r0 : Nat} {z : ow_MS} {Q : ow_MS → Prop} (H : Tt (fun K k => cm_X0_findClasses_2 vl K (c_X0_findClasses vl K k) x1 x2 x3 x4 r0 z) Q) : Tt (fun K k => c_X0_findClasses vl K k 2 x1 x2 x3 x4 r0 z) Q := w_un (fun _ _ => rfl) H
theorem e_X0_findClasses {vl : Nat → Nat} {r0 : Nat} {x1 : Int32} {z : ow_MS} {Q : ow_MS → Prop} (H : Tt (fun K k => c_X0_findClasses vl K k 0 x1 0 0 0 r0 z) Q) : Te (fun K => ce_X0_findClasses vl K r0 x1 z) Q := w_te H
theorem u_X0_findClasses_0 {vl : Nat → Nat} {x1 : Int32} {x2 : Int32} {x3 : Int32} {x4 : Int32} {r0 : Nat} {z : ow_MS} {Q : ow_MS → Prop} (H : Tt (fun K k => cm_X0_findClasses_0 vl K (c_X0_findClasses vl K k) x1 x2 x3 x4 r0 z) Q) : Tt (fun K k => c_X0_findClasses vl K k 0 x1 x2 x3 x4 r0 z) Q := w_un (fun _ _ => rfl) H
theorem tc_findCl {g : Nat} (hg : g ≤ 24) (h : mpC y) : Te (fun K => ce_X0_findClasses vl K 41000 (nI g) y) (fun y1 => fr (fun q => q = 41008) y y1) := by
  let Q : ow_MS → Prop := fun z => fr (fun q => q = 41008) y z
  have c1 : ∀ (d x : Nat) (z : ow_MS), x + d = g → Q z → Tt (fun K k => c_X0_findClasses vl K k 1 (nI g) (nI x) 0 0 41000 z) Q := by
    intro d
    induction d with
    | zero =>
      intro x z hx hz
      refine u_X0_findClasses_1 ?_; unfold cm_X0_findClasses_1
      exact w_leT (by omega) (by omega) (w_some hz)
    | succ d ih =>
      intro x z hx hz
      have c2 : ∀ (e o m : Nat), o + e = g → m < 24 → Tt (fun K k => c_X0_findClasses vl K k 2 (nI g) (nI x) (nI m) (nI o) 41000 z) Q := by
        intro e
        induction e with
        | zero =>
          intro o m ho hm
          refine u_X0_findClasses_2 ?_; unfold cm_X0_findClasses_2
          refine w_leT (by omega) (by omega) (w_crI ch_41008 rfl hm rfl (w_ctI ch_41008 rfl hm ?_))
          rw [nI_1]
          exact ih (x + 1) _ (by omega) (fr_I2 hz rfl)
        | succ e ihe =>
          intro o m ho hm
          obtain ⟨k, k1, k2⟩ := h.1 (24 * o + x) (by omega)
          refine u_X0_findClasses_2 ?_; unfold cm_X0_findClasses_2
          rw [show (24 : Int32) * nI o = nI (24 * o) from pk_mul 24 o, nI_add, nI_1, nI_1]
          refine w_leF (by omega) (by omega) (w_crI ch_41006 rfl (by omega) ((congrFun (hz 41006 (by decide)).2.1 _).trans k2) ?_)
          by_cases hk : k < m
          · rw [if_pos (nI_lt hk (by omega))]
            exact ihe (o + 1) k (by omega) k1
          · rw [if_neg (nI_nlt (by omega) (by omega))]
            exact ihe (o + 1) m (by omega) hm
      refine u_X0_findClasses_1 ?_; unfold cm_X0_findClasses_1
      exact w_leF (by omega) (by omega) (c2 g 0 x (by omega) (by omega))
  refine e_X0_findClasses ?_
  refine u_X0_findClasses_0 ?_; unfold cm_X0_findClasses_0
  refine w_cs0 (tc_fillA ch_41008 (by omega)) ?_
  rintro z ⟨-, hf⟩
  exact c1 g 0 z (by omega) hf
theorem w_cdM {dd r0 : Nat} {x1 x2 x3 : Int32} {z : ow_MS} {Q : Int64 × ow_MS → Prop} (H : Tt (fun K k => c_X0_countFrom vl K (cd0_X0_countFrom vl K dd) k 0 x1 x2 x3 0 0 0 0 0 0 r0 0 0 0 0 z) Q) : Te (fun K => cd0_X0_countFrom vl K (dd + 1) r0 x1 x2 x3 z) Q := w_te H
theorem mpC_set {z : ow_MS} {i k : Nat} (hk : k < 24) (h : mpC z) : mpC (usI z 41009 i (nI k)) := by
  obtain ⟨h1, h2, h3⟩ := h
  refine ⟨fun j hj => ?_, fun j hj => ?_, fun j hj => ?_⟩
  · obtain ⟨a, a1, a2⟩ := h1 j hj
    exact ⟨a, a1, rd_ot (by omega) a2⟩
  · obtain ⟨a, a1, a2⟩ := h2 j hj
    exact ⟨a, a1, rd_ot (by omega) a2⟩
  · by_cases e : j = i
    · rw [e]
      exact ⟨k, hk, po_usI_at⟩
    · obtain ⟨a, a1, a2⟩ := h3 j hj
      exact ⟨a, a1, rd_ne e a2⟩
theorem stP_fr {P : Nat → Prop} {y1 : ow_MS} (hf : fr P y y1) (hP : ∀ g, P g → g < 41010 ∨ 41014 < g) (h : stP y) : stP y1 := by
  obtain ⟨k, k1, k2, k3⟩ := h
  refine ⟨k, k1, (hf 41010 (fun h9 => by have := hP _ h9; omega)).1.trans k2, fun s hs => ?_⟩
  rw [(hf 41012 (fun h9 => by have := hP _ h9; omega)).2.1, (hf 41013 (fun h9 => by have := hP _ h9; omega)).2.1, (hf 41014 (fun h9 => by have := hP _ h9; omega)).2.1]
  exact k3 s hs
theorem u_X0_countFrom_0 {dd : Nat} {vl : Nat → Nat} {x1 : Int32} {x2 : Int32} {x3 : Int32} {x4 : Int32} {x5 : Int32} {x6 : Int32} {x7 : Int32} {x8 : Int32} {w5 : Int64} {r0 : Nat} {t0 : Int32} {t1 : Int32} {y0 : Int64} {y1 : Int64} {z : ow_MS} {Q : (Int64 × ow_MS) → Prop} (H : Tt (fun K k => cm_X0_countFrom_0 vl K (cd0_X0_countFrom vl K dd) (c_X0_countFrom vl K (cd0_X0_countFrom vl K dd) k) x1 x2 x3 x4 x5 x6 x7 x8 w5 r0 t0 t1 y0 y1 z) Q) : Tt (fun K k => c_X0_countFrom vl K (cd0_X0_countFrom vl K dd) k 0 x1 x2 x3 x4 x5 x6 x7 x8 w5 r0 t0 t1 y0 y1 z) Q := w_un (fun _ _ => rfl) H
theorem u_X0_countFrom_1 {dd : Nat} {vl : Nat → Nat} {x1 : Int32} {x2 : Int32} {x3 : Int32} {x4 : Int32} {x5 : Int32} {x6 : Int32} {x7 : Int32} {x8 : Int32} {w5 : Int64} {r0 : Nat} {t0 : Int32} {t1 : Int32} {y0 : Int64} {y1 : Int64} {z : ow_MS} {Q : (Int64 × ow_MS) → Prop} (H : Tt (fun K k => cm_X0_countFrom_1 vl K (cd0_X0_countFrom vl K dd) (c_X0_countFrom vl K (cd0_X0_countFrom vl K dd) k) x1 x2 x3 x4 x5 x6 x7 x8 w5 r0 t0 t1 y0 y1 z) Q) : Tt (fun K k => c_X0_countFrom vl K (cd0_X0_countFrom vl K dd) k 1 x1 x2 x3 x4 x5 x6 x7 x8 w5 r0 t0 t1 y0 y1 z) Q := w_un (fun _ _ => rfl) H
theorem u_X0_countFrom_6 {dd : Nat} {vl : Nat → Nat} {x1 : Int32} {x2 : Int32} {x3 : Int32} {x4 : Int32} {x5 : Int32} {x6 : Int32} {x7 : Int32} {x8 : Int32} {w5 : Int64} {r0 : Nat} {t0 : Int32} {t1 : Int32} {y0 : Int64} {y1 : Int64} {z : ow_MS} {Q : (Int64 × ow_MS) → Prop} (H : Tt (fun K k => cm_X0_countFrom_6 vl K (cd0_X0_countFrom vl K dd) (c_X0_countFrom vl K (cd0_X0_countFrom vl K dd) k) x1 x2 x3 x4 x5 x6 x7 x8 w5 r0 t0 t1 y0 y1 z) Q) : Tt (fun K k => c_X0_countFrom vl K (cd0_X0_countFrom vl K dd) k 6 x1 x2 x3 x4 x5 x6 x7 x8 w5 r0 t0 t1 y0 y1 z) Q := w_un (fun _ _ => rfl) H
theorem u_X0_countFrom_2 {dd : Nat} {vl : Nat → Nat} {x1 : Int32} {x2 : Int32} {x3 : Int32} {x4 : Int32} {x5 : Int32} {x6 : Int32} {x7 : Int32} {x8 : Int32} {w5 : Int64} {r0 : Nat} {t0 : Int32} {t1 : Int32} {y0 : Int64} {y1 : Int64} {z : ow_MS} {Q : (Int64 × ow_MS) → Prop} (H : Tt (fun K k => cm_X0_countFrom_2 vl K (cd0_X0_countFrom vl K dd) (c_X0_countFrom vl K (cd0_X0_countFrom vl K dd) k) x1 x2 x3 x4 x5 x6 x7 x8 w5 r0 t0 t1 y0 y1 z) Q) : Tt (fun K k => c_X0_countFrom vl K (cd0_X0_countFrom vl K dd) k 2 x1 x2 x3 x4 x5 x6 x7 x8 w5 r0 t0 t1 y0 y1 z) Q := w_un (fun _ _ => rfl) H
theorem u_X0_countFrom_4 {dd : Nat} {vl : Nat → Nat} {x1 : Int32} {x2 : Int32} {x3 : Int32} {x4 : Int32} {x5 : Int32} {x6 : Int32} {x7 : Int32} {x8 : Int32} {w5 : Int64} {r0 : Nat} {t0 : Int32} {t1 : Int32} {y0 : Int64} {y1 : Int64} {z : ow_MS} {Q : (Int64 × ow_MS) → Prop} (H : Tt (fun K k => cm_X0_countFrom_4 vl K (cd0_X0_countFrom vl K dd) (c_X0_countFrom vl K (cd0_X0_countFrom vl K dd) k) x1 x2 x3 x4 x5 x6 x7 x8 w5 r0 t0 t1 y0 y1 z) Q) : Tt (fun K k => c_X0_countFrom vl K (cd0_X0_countFrom vl K dd) k 4 x1 x2 x3 x4 x5 x6 x7 x8 w5 r0 t0 t1 y0 y1 z) Q := w_un (fun _ _ => rfl) H
theorem u_X0_countFrom_3 {dd : Nat} {vl : Nat → Nat} {x1 : Int32} {x2 : Int32} {x3 : Int32} {x4 : Int32} {x5 : Int32} {x6 : Int32} {x7 : Int32} {x8 : Int32} {w5 : Int64} {r0 : Nat} {t0 : Int32} {t1 : Int32} {y0 : Int64} {y1 : Int64} {z : ow_MS} {Q : (Int64 × ow_MS) → Prop} (H : Tt (fun K k => cm_X0_countFrom_3 vl K (cd0_X0_countFrom vl K dd) (c_X0_countFrom vl K (cd0_X0_countFrom vl K dd) k) x1 x2 x3 x4 x5 x6 x7 x8 w5 r0 t0 t1 y0 y1 z) Q) : Tt (fun K k => c_X0_countFrom vl K (cd0_X0_countFrom vl K dd) k 3 x1 x2 x3 x4 x5 x6 x7 x8 w5 r0 t0 t1 y0 y1 z) Q := w_un (fun _ _ => rfl) H
theorem u_X0_countFrom_5 {dd : Nat} {vl : Nat → Nat} {x1 : Int32} {x2 : Int32} {x3 : Int32} {x4 : Int32} {x5 : Int32} {x6 : Int32} {x7 : Int32} {x8 : Int32} {w5 : Int64} {r0 : Nat} {t0 : Int32} {t1 : Int32} {y0 : Int64} {y1 : Int64} {z : ow_MS} {Q : (Int64 × ow_MS) → Prop} (H : Tt (fun K k => cm_X0_countFrom_5 vl K (cd0_X0_countFrom vl K dd) (c_X0_countFrom vl K (cd0_X0_countFrom vl K dd) k) x1 x2 x3 x4 x5 x6 x7 x8 w5 r0 t0 t1 y0 y1 z) Q) : Tt (fun K k => c_X0_countFrom vl K (cd0_X0_countFrom vl K dd) k 5 x1 x2 x3 x4 x5 x6 x7 x8 w5 r0 t0 t1 y0 y1 z) Q := w_un (fun _ _ => rfl) H
theorem tc_countF {g : Nat} (hg : g ≤ 24) : ∀ (d q s dd : Nat) (z : ow_MS), q + d = 19 → d ≤ dd → s ≤ 36 → mpC z → stP z → Te (fun K => cd0_X0_countFrom vl K (dd + 1) 41000 (nI s) (nI q) (nI g) z) (fun r => mpC r.2 ∧ fr (fun q => q = 41009) z r.2) := by
  intro d
  induction d with
  | zero =>
    intro q s dd z hq hdd hs hm hst
    refine w_cdM ?_
    refine u_X0_countFrom_0 ?_; unfold cm_X0_countFrom_0
    exact w_leF (b := 18) (by omega) (by omega) (w_some ⟨hm, fr_rf⟩)
  | succ d ih =>
    intro q s dd z hq hdd hs hm hst
    obtain ⟨dd, rfl⟩ : ∃ k, dd = k + 1 := ⟨dd - 1, by omega⟩
    let Q : Int64 × ow_MS → Prop := fun r => mpC r.2 ∧ fr (fun q => q = 41009) z r.2
    have sf : ∀ y1, fr (fun q => q = 41009) z y1 → stP y1 := fun y1 hf => stP_fr hf (fun g hg => by omega) hst
    have c1 : ∀ (e j : Nat) (y1 : ow_MS), j + e = 37 → mpC y1 → fr (fun q => q = 41009) z y1 → Tt (fun K k => c_X0_countFrom vl K (cd0_X0_countFrom vl K (dd + 1)) k 1 (nI s) (nI q) (nI g) (nI j) 0 0 0 0 0 41000 0 0 0 0 y1) Q := by
      intro e
      induction e with
      | zero =>
        intro j y1 hj hm1 hf
        obtain ⟨k, k36, k1, k2⟩ := sf y1 hf
        refine u_X0_countFrom_1 ?_; unfold cm_X0_countFrom_1
        exact w_rdF k1 (w_leT (by omega) (by omega) (w_some ⟨hm1, hf⟩))
      | succ e ihe =>
        intro j y1 hj hm1 hf
        obtain ⟨k, k36, k1, k2⟩ := sf y1 hf
        have c6 : ∀ (x5 x6 : Int32) (y1 : ow_MS), mpC y1 → fr (fun q => q = 41009) z y1 → Tt (fun K k => c_X0_countFrom vl K (cd0_X0_countFrom vl K (dd + 1)) k 6 (nI s) (nI q) (nI g) (nI j) x5 x6 0 0 0 41000 0 0 0 0 y1) Q := by
          intro x5 x6 y1 hm1 hf
          refine u_X0_countFrom_6 ?_; unfold cm_X0_countFrom_6
          rw [nI_1]
          exact ihe (j + 1) y1 (by omega) hm1 hf
        refine u_X0_countFrom_1 ?_; unfold cm_X0_countFrom_1
        refine w_rdF k1 (w_le (by omega) (by omega) (fun _ => w_some ⟨hm1, hf⟩) (fun hjk => ?_))
        obtain ⟨⟨a1, p1, p2⟩, ⟨a2, p3, p4⟩, a3, p5, p6⟩ := k2 j hjk
        have p20 : z.2.1 41012 j = nI a1 := (congrFun (hf 41012 (by decide)).2.1 j).symm.trans p2
        refine w_crI ch_41011 rfl (show j < 36 by omega) rfl (w_if (fun _ => ?_) (fun _ => ?_))
        · -- a seed
          have c2 : ∀ (f t : Nat) (w : Int64) (y1 : ow_MS), t + f = g → mpC y1 → fr (fun q => q = 41009) z y1 → Tt (fun K k => c_X0_countFrom vl K (cd0_X0_countFrom vl K (dd + 1)) k 2 (nI s) (nI q) (nI g) (nI j) 0 0 (nI t) 0 w 41000 0 0 0 0 y1) Q := by
            intro f
            induction f with
            | zero =>
              intro t w y1 ht hm1 hf
              refine u_X0_countFrom_2 ?_; unfold cm_X0_countFrom_2
              exact w_leT (by omega) (by omega) (w_some ⟨hm1, hf⟩)
            | succ f ihf =>
              intro t w y1 ht hm1 hf
              have c4 : ∀ (x8 : Int32) (w5 y0 v1 : Int64) (y1 : ow_MS), mpC y1 → fr (fun q => q = 41009) z y1 → Tt (fun K k => c_X0_countFrom vl K (cd0_X0_countFrom vl K (dd + 1)) k 4 (nI s) (nI q) (nI g) (nI j) 0 0 (nI t) x8 w5 41000 0 0 y0 v1 y1) Q := by
                intro x8 w5 y0 v1 y1 hm1 hf
                refine u_X0_countFrom_4 ?_; unfold cm_X0_countFrom_4
                rw [nI_1]
                exact ihf (t + 1) _ y1 (by omega) hm1 hf
              have c3 : ∀ (t0 : Int32), Tt (fun K k => c_X0_countFrom vl K (cd0_X0_countFrom vl K (dd + 1)) k 3 (nI s) (nI q) (nI g) (nI j) 0 0 (nI t) 0 w 41000 t0 0 0 0 y1) Q := by
                intro t0
                have m2 : mpC (usI y1 41009 a1 (nI t)) := mpC_set (by omega) hm1
                have f2 : fr (fun q => q = 41009) z (usI y1 41009 a1 (nI t)) := fr_I2 hf rfl
                have p2' : y1.2.1 41012 j = nI a1 := (congrFun (hf 41012 (by decide)).2.1 j).trans p20
                refine u_X0_countFrom_3 ?_; unfold cm_X0_countFrom_3
                refine w_crI ch_41012 rfl (show j < 36 by omega) p2' (w_ctI ch_41009 rfl p1 (w_if (fun _ => c4 _ _ _ _ _ m2 f2) (fun _ => ?_)))
                rw [nI_1, nI_1]
                refine w_cs1 (ih (q + 1) (j + 1) dd _ (by omega) (by omega) (by omega) m2 (sf _ f2)) ?_
                rintro v y3 ⟨m3, f3⟩
                exact c4 _ _ _ _ y3 m3 (fr_tr f2 f3)
              refine u_X0_countFrom_2 ?_; unfold cm_X0_countFrom_2
              refine w_leF (by omega) (by omega) (w_if (fun _ => w_crI ch_41008 rfl (show t < 24 by omega) rfl (c3 _)) (fun _ => c3 _))
          exact c2 g 0 0 y1 (by omega) hm1 hf
        · -- a step
          obtain ⟨b2, q1, q2⟩ := hm1.2.2 a2 p3
          obtain ⟨b3, q3, q4⟩ := hm1.2.2 a3 p5
          have c5 : ∀ (o : Nat) (x5 : Int32), o < 24 → Tt (fun K k => c_X0_countFrom vl K (cd0_X0_countFrom vl K (dd + 1)) k 5 (nI s) (nI q) (nI g) (nI j) x5 0 0 0 0 41000 (nI o) 24 0 0 y1) Q := by
            intro o x5 ho
            obtain ⟨b4, q5, q6⟩ := hm1.1 (24 * o + b3) (by omega)
            refine u_X0_countFrom_5 ?_; unfold cm_X0_countFrom_5
            refine w_crI ch_41014 rfl (show j < 36 by omega) p6 (w_crI ch_41009 rfl p5 q4 (w_crI ch_41006 (i := 24 * o + b3) (by rw [show (24 : Int32) * nI o = nI (24 * o) from pk_mul 24 o, nI_add]) (by omega) q6 (w_crI ch_41011 rfl (show j < 36 by omega) rfl (w_if (fun _ => w_crI ch_41012 rfl (show j < 36 by omega) p2 (w_ctI ch_41009 rfl p1 (c6 _ _ _ (mpC_set q5 hm1) (fr_I2 hf rfl)))) (fun _ => w_crI ch_41012 rfl (show j < 36 by omega) p2 (w_crI ch_41009 rfl p1 rfl (w_if (fun _ => c6 _ _ y1 hm1 hf) (fun _ => w_some ⟨hm1, hf⟩))))))))
          obtain ⟨b5, q7, q8⟩ := hm1.2.1 b2 q1
          exact w_crI ch_41013 rfl (show j < 36 by omega) p4 (w_crI ch_41009 rfl p3 q2 (w_crI ch_41015 rfl (show j < 36 by omega) rfl (w_if (fun _ => c5 b2 _ q1) (fun _ => w_crI ch_41007 rfl q1 q8 (c5 b5 _ q7)))))
    refine w_cdM ?_
    refine u_X0_countFrom_0 ?_; unfold cm_X0_countFrom_0
    exact w_leT (b := 18) (by omega) (by omega) (c1 (37 - s) s z (by omega) hm fr_rf)
end CMQ
end
section
/-! 99zzzzzzzc.cmap3 -/
/-! the class: maps -/
section CMR
variable {vl : Nat → Nat} {y : ow_MS} {x x' : Int32}
def mxP (g : Nat) : Prop := 4001 ≤ g ∧ g ≤ 4011 ∨ 41001 ≤ g ∧ g ≤ 41016
theorem u_X0_countMaps_1 {vl : Nat → Nat} {x2 : Int32} {x3 : Int32} {x6 : Int32} {w4 : Int64} {r0 : Nat} {r1 : Nat} {t0 : Int32} {z : ow_MS} {Q : (Int64 × ow_MS) → Prop} (H : Tt (fun K k => cm_X0_countMaps_1 vl K (c_X0_countMaps vl K k) x2 x3 x6 w4 r0 r1 t0 z) Q) : Tt (fun K k => c_X0_countMaps vl K k 1 x2 x3 x6 w4 r0 r1 t0 z) Q := w_un (fun _ _ => rfl) H
theorem u_X0_countMaps_3 {vl : Nat → Nat} {x2 : Int32} {x3 : Int32} {x6 : Int32} {w4 : Int64} {r0 : Nat} {r1 : Nat} {t0 : Int32} {z : ow_MS} {Q : (Int64 × ow_MS) → Prop} (H : Tt (fun K k => cm_X0_countMaps_3 vl K (c_X0_countMaps vl K k) x2 x3 x6 w4 r0 r1 t0 z) Q) : Tt (fun K k => c_X0_countMaps vl K k 3 x2 x3 x6 w4 r0 r1 t0 z) Q := w_un (fun _ _ => rfl) H
theorem u_X0_countMaps_2 {vl : Nat → Nat} {x2 : Int32} {x3 : Int32} {x6 : Int32} {w4 : Int64} {r0 : Nat} {r1 : Nat} {t0 : Int32} {z : ow_MS} {Q : (Int64 × ow_MS) → Prop} (H : Tt (fun K k => cm_X0_countMaps_2 vl K (c_X0_countMaps vl K k) x2 x3 x6 w4 r0 r1 t0 z) Q) : Tt (fun K k => c_X0_countMaps vl K k 2 x2 x3 x6 w4 r0 r1 t0 z) Q := w_un (fun _ _ => rfl) H
theorem e_X0_countMaps {vl : Nat → Nat} {r0 : Nat} {r1 : Nat} {x2 : Int32} {z : ow_MS} {Q : (Int64 × ow_MS) → Prop} (H : Tt (fun K k => c_X0_countMaps vl K k 0 x2 0 0 0 r0 r1 0 z) Q) : Te (fun K => ce_X0_countMaps vl K r0 r1 x2 z) Q := w_te H
theorem u_X0_countMaps_0 {vl : Nat → Nat} {x2 : Int32} {x3 : Int32} {x6 : Int32} {w4 : Int64} {r0 : Nat} {r1 : Nat} {t0 : Int32} {z : ow_MS} {Q : (Int64 × ow_MS) → Prop} (H : Tt (fun K k => cm_X0_countMaps_0 vl K (c_X0_countMaps vl K k) x2 x3 x6 w4 r0 r1 t0 z) Q) : Tt (fun K k => c_X0_countMaps vl K k 0 x2 x3 x6 w4 r0 r1 t0 z) Q := w_un (fun _ _ => rfl) H
theorem tc_countMaps {A : rn_L} {sg : Nat → Bool} {c m : Nat} {S : ow_NP} {G : Nat → Int32} (hJ : jnN A sg c S G) (hy : cAt y 4000 (c, cirs A, S, G)) (hm : m ≤ 4) (hp : mpC y) (hst : stP y) : Te (fun K => ce_X0_countMaps vl K 41000 4000 (nI m) y) (fun r => mpC r.2 ∧ stP r.2 ∧ cAt r.2 4000 (c, cirs A, S, G) ∧ fr mxP y r.2) := by
  let Q : Int64 × ow_MS → Prop := fun r => mpC r.2 ∧ stP r.2 ∧ cAt r.2 4000 (c, cirs A, S, G) ∧ fr mxP y r.2
  obtain ⟨hA, hi, hv, hG⟩ := hJ
  have hc := hA.2.2.2.1
  have h6 := hA.2.2.2.2
  have nc := neC_cirs A
  obtain ⟨q, q1, q2, q3, R, q4, q5⟩ := iso_q hi hv
  have c1 : ∀ g : Nat, g ≤ 24 → Tt (fun K k => c_X0_countMaps vl K k 1 (nI m) 0 0 0 41000 4000 (nI g) y) Q := by
    intro g hg
    refine u_X0_countMaps_1 ?_; unfold cm_X0_countMaps_1
    refine w_cs0 (tc_markArcs (m := neC A) nH4 hy hv hc (by omega) q2 q3 q4 q5 (by omega)) ?_
    rintro y1 ⟨⟨a, n, ⟨s1, s2, s3, s4, s5⟩, n1, n2⟩, f1⟩
    have hy1 : cAt y1 4000 (c, cirs A, S, G) := cAt_fr f1 (fun g hg h9 => by unfold cP at hg; unfold arP at h9; omega) hy
    refine w_cs0 (tc_markParts nH4 hy1 (fun k hk => (hv k hk).1) hc) ?_
    rintro y2 ⟨-, g2, f2⟩
    have pl := mp_out_le S.1 (2 * c) (np_fill (y1.2.1 (4000 + 6)) 0 (2 * c) (-1)) (2 * c)
    generalize (mp_out S.1 (2 * c) (np_fill (y1.2.1 (4000 + 6)) 0 (2 * c) (-1)) (2 * c)).2 = P at g2 pl
    have hy2 : cAt y2 4000 (c, cirs A, S, G) := cAt_fr f2 (fun g hg h9 => by unfold cP at hg; unfold cQ at h9; omega) hy1
    have f02 : fr (fun g => 4001 ≤ g ∧ g ≤ 4011 ∨ g = 41001 ∨ g = 41002) y y2 := fr_tr (fr_mono (fun g hg => by unfold arP at hg; omega) f1) (fr_mono (fun g hg => by unfold cQ at hg; omega) f2)
    have hp2 : mpC y2 := mpC_fr f02 (by omega) hp
    refine w_cs0 (tc_findCl hg hp2) ?_
    rintro y3 f3
    have hN3 : plN y3 c (cirs A) S G a (n + cirs A) := by
      refine plN_fr f3 (fun g hg => by unfold cP; omega) ⟨hy2, hv, hc, by omega, fun v hv2 => ?_, ?_⟩
      · rw [(f2 41001 (by unfold cQ; omega)).2.1]
        exact ⟨(s1 v hv2).1, by have := (s1 v hv2).2; omega⟩
      · rw [(f2 41002 (by unfold cQ; omega)).1]
        exact s5
    have hp3 : mpC y3 := mpC_fr f3 (by omega) hp2
    have hs3 : stP y3 := stP_fr f3 (fun g hg => by omega) (stP_fr f02 (fun g hg => by omega) hst)
    have f03 : fr mxP y y3 := fr_tr (fr_mono (fun g hg => by unfold mxP; omega) f02) (fr_mono (fun g hg => by unfold mxP; omega) f3)
    have e3 : y3.1 4011 = nI P := (f3 4011 (by decide)).1.trans g2
    have c3 : ∀ (d i : Nat) (w : Int64) (z : ow_MS), i + d = P → mpC z → stP z → fr (fun g => 41009 ≤ g ∧ g ≤ 41016) y3 z → Tt (fun K k => c_X0_countMaps vl K k 3 (nI m) (nI g) (nI i) w 41000 4000 0 z) Q := by
      intro d
      induction d with
      | zero =>
        intro i w z hi2 hz hs hf
        have hz4 := (plN_fr hf (fun g hg => by unfold cP; omega) hN3).1
        refine u_X0_countMaps_3 ?_; unfold cm_X0_countMaps_3
        exact w_rdF ((hf 4011 (by omega)).1.trans e3) (w_leT (by omega) (by omega) (w_some ⟨hz, hs, hz4, fr_tr f03 (fr_mono (fun g hg => by unfold mxP; omega) hf)⟩))
      | succ d ih =>
        intro i w z hi2 hz hs hf
        refine u_X0_countMaps_3 ?_; unfold cm_X0_countMaps_3
        refine w_rdF ((hf 4011 (by omega)).1.trans e3) (w_leF (by omega) (by omega) (w_cs0 (tc_planPart (plN_fr hf (fun g hg => by unfold cP; omega) hN3) hs) ?_))
        rintro z1 ⟨g1, g3⟩
        have hz1 : mpC z1 := mpC_fr g3 (by unfold plR; omega) hz
        refine w_cs1 (tc_countF hg 19 0 0 20 z1 (by omega) (by omega) (by omega) hz1 g1) ?_
        rintro v z2 ⟨k1, k2⟩
        rw [nI_1]
        exact ih (i + 1) _ z2 (by omega) k1 (stP_fr k2 (fun g hg => by omega) g1) (fr_tr (fr_tr hf (fr_mono (fun g hg => by unfold plR at hg; omega) g3)) (fr_mono (fun g hg => by omega) k2))
    have c2 : ∀ (d i : Nat) (w : Int64), i + d = cirs A → Tt (fun K k => c_X0_countMaps vl K k 2 (nI m) (nI g) (nI i) w 41000 4000 0 y3) Q := by
      intro d
      induction d with
      | zero =>
        intro i w hi2
        refine u_X0_countMaps_2 ?_; unfold cm_X0_countMaps_2
        exact w_rdF (x := nI (cirs A)) hN3.1.2.1 (w_leT (by omega) (by omega) (c3 P 0 w y3 (by omega) hp3 hs3 fr_rf))
      | succ d ih =>
        intro i w hi2
        refine u_X0_countMaps_2 ?_; unfold cm_X0_countMaps_2
        rw [nI_1]
        exact w_rdF (x := nI (cirs A)) hN3.1.2.1 (w_leF (by omega) (by omega) (ih (i + 1) _ (by omega)))
    exact c2 (cirs A) 0 1 (by omega)
  refine e_X0_countMaps ?_
  refine u_X0_countMaps_0 ?_; unfold cm_X0_countMaps_0
  exact w_if (fun _ => c1 24 (by omega)) (fun _ => w_if (fun _ => c1 6 (by omega)) (fun _ => c1 m (by omega)))
theorem e_X11_maps {vl : Nat → Nat} {r0 : Nat} {x1 : Int32} {x2 : Int32} {z : ow_MS} {Q : (Nat × Int32 × ow_MS) → Prop} (H : Tt (fun K _ => cm_X11_maps_0 vl K x1 x2 r0 z) Q) : Te (fun K => ce_X11_maps vl K r0 x1 x2 z) Q := w_te0 H
theorem tc_maps (hM : gM y) (hp : mpC y) (hst : stP y) : Te (fun K => ce_X11_maps vl K 0 x x' y) (fun r => gM r.2.2 ∧ mpC r.2.2 ∧ stP r.2.2 ∧ fr mxP y r.2.2) := by
  refine e_X11_maps ?_; unfold cm_X11_maps_0
  refine w_tc0 (tc_need hM.1.1) ?_ ?_
  · rintro y1 ⟨h1, rfl⟩
    rcases h1 with ⟨-, d, A, sg, c, hd, rfl, hs, hA, hne⟩ | h1
    · refine w_if (fun _ => w_some ⟨hM, hp, hst, fr_rf⟩) (fun h0 => w_if (fun h4 => ?_) (fun _ => w_some ⟨hM, hp, hst, fr_rf⟩))
      refine w_cs0 (tc_ld3 nH4 hM.1 hd hs hA) ?_
      rintro y2 ⟨g1, g2, S, G, g3, g4⟩
      have f2 : fr mxP y1 y2 := fr_mono (fun g hg => by unfold cL at hg; unfold mxP; omega) g2
      have hp2 : mpC y2 := mpC_fr g2 (by unfold cL; omega) hp
      have hst2 : stP y2 := stP_fr g2 (fun g hg => by unfold cL at hg; omega) hst
      have hM2 : gM y2 := ⟨g1, tbs_fr g2 (fun g hg => by unfold cL at hg; omega) hM.2⟩
      refine w_rdF g3.1.1 (w_if (fun _ => w_some ⟨hM2, hp2, hst2, f2⟩) (fun _ => w_rdF rfl (w_if (fun _ => ?_) (fun _ => w_some ⟨hM2, hp2, hst2, f2⟩))))
      obtain ⟨m, m31, rfl⟩ := nI_of (x := x') (fun h => h0 (by
        rw [Int32.lt_iff_toInt_lt] at h ⊢
        exact Int.lt_trans h (by decide)))
      have hm4 : m ≤ 4 := (nI_leI m31 (by omega)).mp h4
      refine w_cs1 (tc_countMaps g4 g3.1 hm4 hp2 hst2) ?_
      rintro v y3 ⟨k1, k0, k2, k3⟩
      refine w_some ⟨⟨⟨dgC_fr k3 (fun g a1 a2 h9 => by unfold mxP at h9; omega) g1.1, nsC_put nH4 k3 (fun h' hh' hne' g hg h9 => ?_) ⟨_, k2, g3.2.2.1.2.2.1⟩ g1.2.1, kdC_fr k3 (fun g hg => by unfold mxP at hg; omega) g1.2.2⟩, tbs_fr k3 (fun g hg => by unfold mxP at hg; omega) hM2.2⟩, k1, k0, fr_tr f2 k3⟩
      have key : ∀ a, a ∈ nHL → a ≠ 4000 → 5000 ≤ a ∧ (a ≤ 40000 ∨ 44000 ≤ a) := by decide
      have := key h' hh' hne'
      unfold cP at hg
      unfold mxP at h9
      omega
    · exact absurd (show (0 : Nat) = 1 from h1.1) (by decide)
  · rintro a y1 ha ⟨h1, rfl⟩
    exact w_some ⟨hM, hp, hst, fr_rf⟩
end CMR
end
section
/-! 99zzzzzzzd.csc -/
/-! the one behind, in a round row -/
abbrev vT := Nat × Nat
section SC
def scF (a : vT) : List vT → vT → vT
  | [], p => p
  | [_], _ => a
  | b :: c :: R, p => if b = p then c else scF a (c :: R) p
def sc (L : List vT) (p : vT) : vT := match L with
  | [] => p
  | a :: M => scF a (a :: M) p
theorem scF_mid {a p q : vT} {Y : List vT} : ∀ {X : List vT}, p ∉ X → scF a (X ++ p :: q :: Y) p = q
  | [], _ => if_pos rfl
  | [b], h => by
    have hb : b ≠ p := fun e => h (by rw [e]; exact List.mem_singleton.mpr rfl)
    show (if b = p then p else scF a (p :: q :: Y) p) = q
    rw [if_neg hb]
    exact if_pos rfl
  | b :: c :: X, h => by
    have hb : b ≠ p := fun e => h (by rw [e]; exact List.mem_cons_self)
    show (if b = p then c else scF a ((c :: X) ++ p :: q :: Y) p) = q
    rw [if_neg hb]
    exact scF_mid (fun h9 => h (List.mem_cons_of_mem _ h9))
theorem scF_end {a p : vT} : ∀ {X : List vT}, p ∉ X → scF a (X ++ [p]) p = a
  | [], _ => rfl
  | [b], h => by
    have hb : b ≠ p := fun e => h (by rw [e]; exact List.mem_singleton.mpr rfl)
    show (if b = p then p else scF a [p] p) = a
    rw [if_neg hb]
    rfl
  | b :: c :: X, h => by
    have hb : b ≠ p := fun e => h (by rw [e]; exact List.mem_cons_self)
    show (if b = p then c else scF a ((c :: X) ++ [p]) p) = a
    rw [if_neg hb]
    exact scF_end (fun h9 => h (List.mem_cons_of_mem _ h9))
theorem sc_mid {p q : vT} {X Y : List vT} (h : p ∉ X) : sc (X ++ p :: q :: Y) p = q := by
  cases X with
  | nil => exact scF_mid (a := p) (X := []) h
  | cons b X => exact scF_mid (a := b) (X := b :: X) h
theorem sc_end {p a : vT} {X : List vT} (h : p ∉ a :: X) : sc (a :: X ++ [p]) p = a := scF_end (a := a) (X := a :: X) h
theorem sc_one {p : vT} : sc [p] p = p := rfl
/-- what stands behind p: the head of what follows, then of what is before -/
theorem sc_hd {p : vT} {X Y : List vT} (h : p ∉ X) : sc (X ++ p :: Y) p = (Y ++ X ++ [p]).headD p := by
  cases Y with
  | cons q Y => exact sc_mid h
  | nil =>
    cases X with
    | nil => rfl
    | cons a X => exact sc_end h
theorem nd_mid {p : vT} {X Y : List vT} (h : (X ++ p :: Y).Nodup) : p ∉ X ∧ p ∉ Y := by
  have h1 := List.nodup_append.mp h
  exact ⟨fun h9 => h1.2.2 p h9 p List.mem_cons_self rfl, (List.nodup_cons.mp h1.2.1).1⟩
theorem nd_rot {X Y : List vT} (h : (X ++ Y).Nodup) : (Y ++ X).Nodup := by
  have h1 := List.nodup_append.mp h
  exact List.nodup_append.mpr ⟨h1.2.1, h1.1, fun a ha b hb e => h1.2.2 b hb a ha e.symm⟩
/-- a row turned -/
theorem sc_rot {p : vT} {X Y : List vT} (hn : (X ++ Y).Nodup) (hp : p ∈ X ++ Y) : sc (Y ++ X) p = sc (X ++ Y) p := by
  rcases List.mem_append.mp hp with h | h
  · obtain ⟨X1, X2, rfl⟩ := List.append_of_mem h
    have h1 : (X1 ++ p :: (X2 ++ Y)).Nodup := by simpa using hn
    have h2 : ((Y ++ X1) ++ p :: X2).Nodup := by simpa using nd_rot hn
    have e1 := sc_hd (nd_mid h1).1 (Y := X2 ++ Y)
    have e2 := sc_hd (nd_mid h2).1 (Y := X2)
    rw [show X1 ++ p :: X2 ++ Y = X1 ++ p :: (X2 ++ Y) by simp, show Y ++ (X1 ++ p :: X2) = (Y ++ X1) ++ p :: X2 by simp, e1, e2]
    simp
  · obtain ⟨Y1, Y2, rfl⟩ := List.append_of_mem h
    have h1 : ((X ++ Y1) ++ p :: Y2).Nodup := by simpa using hn
    have h2 : (Y1 ++ p :: (Y2 ++ X)).Nodup := by simpa using nd_rot hn
    have e1 := sc_hd (nd_mid h1).1 (Y := Y2)
    have e2 := sc_hd (nd_mid h2).1 (Y := Y2 ++ X)
    rw [show X ++ (Y1 ++ p :: Y2) = (X ++ Y1) ++ p :: Y2 by simp, show Y1 ++ p :: Y2 ++ X = Y1 ++ p :: (Y2 ++ X) by simp, e1, e2]
    simp
theorem sc_cons {r : vT} {Z : List vT} : sc (r :: Z) r = Z.headD r := by
  cases Z with
  | nil => rfl
  | cons a Z => exact if_pos rfl
theorem sc_in {p : vT} {L : List vT} (hp : p ∈ L) (hn : L.Nodup) : sc L p ∈ L := by
  obtain ⟨X, Y, rfl⟩ := List.append_of_mem hp
  rw [sc_hd (nd_mid hn).1]
  cases Y with
  | cons q Y =>
    show q ∈ _
    simp
  | nil =>
    cases X with
    | nil =>
      show p ∈ _
      simp
    | cons a X =>
      show a ∈ _
      simp
/-- one goes out of a row -/
theorem sc_out {r p : vT} {X Y : List vT} (hn : (X ++ r :: Y).Nodup) (hp : p ∈ X ++ Y) : sc (X ++ Y) p = if sc (X ++ r :: Y) p = r then sc (X ++ r :: Y) r else sc (X ++ r :: Y) p := by
  have hn2 : (r :: (Y ++ X)).Nodup := by simpa using nd_rot hn
  have hn3 : (X ++ Y).Nodup := nd_rot (List.nodup_cons.mp hn2).2
  have hr : r ∉ Y ++ X := (List.nodup_cons.mp hn2).1
  have e0 : ∀ q, q ∈ X ++ r :: Y → sc (X ++ r :: Y) q = sc (r :: (Y ++ X)) q := fun q hq => (sc_rot (X := X) (Y := r :: Y) hn hq).symm
  have hpr : p ≠ r := fun e => hr (by rw [← e]; simpa [Or.comm] using hp)
  rw [e0 p (by simp at hp ⊢; grind), e0 r (by simp), ← sc_rot hn3 hp]
  have hp2 : p ∈ Y ++ X := by simpa [Or.comm] using hp
  generalize hZ : Y ++ X = Z at *
  obtain ⟨Z1, Z2, rfl⟩ := List.append_of_mem hp2
  have k1 : (r :: Z1) ++ p :: Z2 = r :: (Z1 ++ p :: Z2) := rfl
  have n1 : ((r :: Z1) ++ p :: Z2).Nodup := hn2
  rw [sc_cons, ← k1, sc_hd (nd_mid n1).1, sc_hd (nd_mid (List.nodup_cons.mp hn2).2).1]
  cases Z2 with
  | cons q Z2 =>
    have hq : q ≠ r := fun e => hr (by rw [e]; simp)
    show q = if q = r then _ else q
    rw [if_neg hq]
  | nil =>
    show (Z1 ++ [p]).headD p = if r = r then _ else _
    rw [if_pos rfl]
    cases Z1 <;> rfl
theorem nd_spl {r : vT} : ∀ {X Y Z W : List vT}, (X ++ r :: Y).Nodup → X ++ r :: Y = Z ++ r :: W → X = Z ∧ Y = W
  | [], Y, [], W, _, e => ⟨rfl, (List.cons.inj e).2⟩
  | [], Y, b :: Z, W, h, e => by
    obtain ⟨e1, e2⟩ := List.cons.inj e
    have := (nd_mid h).2
    rw [e2] at this
    exact absurd (by simp) this
  | a :: X, Y, [], W, h, e => by
    obtain ⟨e1, e2⟩ := List.cons.inj e
    have := (nd_mid h).1
    rw [e1] at this
    exact absurd List.mem_cons_self this
  | a :: X, Y, b :: Z, W, h, e => by
    obtain ⟨e1, e2⟩ := List.cons.inj e
    obtain ⟨h1, h2⟩ := nd_spl (List.nodup_cons.mp h).2 e2
    exact ⟨by rw [e1, h1], h2⟩
/-- one comes into a row, behind p -/
theorem sc_put {r p q : vT} {X Y : List vT} (hn : (X ++ p :: r :: Y).Nodup) (hq : q ∈ X ++ p :: r :: Y) : sc (X ++ p :: r :: Y) q = if q = p then r else if q = r then sc (X ++ p :: Y) p else sc (X ++ p :: Y) q := by
  have e : X ++ p :: r :: Y = (X ++ [p]) ++ r :: Y := by simp
  have hn' : ((X ++ [p]) ++ r :: Y).Nodup := by rw [← e]; exact hn
  have hr := nd_mid hn'
  have hpn := nd_mid hn
  have hrp : r ≠ p := fun h9 => hr.1 (by rw [h9]; simp)
  have e2 : X ++ p :: Y = (X ++ [p]) ++ Y := by simp
  by_cases c1 : q = p
  · rw [if_pos c1, c1]
    exact sc_mid hpn.1
  · rw [if_neg c1]
    have o1 : ∀ s, s ∈ (X ++ [p]) ++ Y → sc (X ++ p :: Y) s = if sc (X ++ p :: r :: Y) s = r then sc (X ++ p :: r :: Y) r else sc (X ++ p :: r :: Y) s := by
      intro s hs
      rw [e2, e]
      exact sc_out hn' hs
    have s1 : sc (X ++ p :: r :: Y) p = r := sc_mid hpn.1
    by_cases c2 : q = r
    · rw [if_pos c2, c2, o1 p (by simp), s1, if_pos rfl]
    · rw [if_neg c2, o1 q (by simp at hq ⊢; grind)]
      by_cases c3 : sc (X ++ p :: r :: Y) q = r
      · exfalso
        obtain ⟨Z1, Z2, hZ⟩ := List.append_of_mem hq
        have n2 : (Z1 ++ q :: Z2).Nodup := by rw [← hZ]; exact hn
        rw [hZ, sc_hd (nd_mid n2).1] at c3
        cases Z2 with
        | cons a Z2 =>
          have c3 : a = r := c3
          subst c3
          have hZ' : (X ++ [p]) ++ a :: Y = (Z1 ++ [q]) ++ a :: Z2 := by rw [← e, hZ]; simp
          obtain ⟨u1, u2⟩ := nd_spl hn' hZ'
          have := congrArg List.getLast? u1
          simp at this
          exact c1 this.symm
        | nil =>
          cases Z1 with
          | nil =>
            have c3 : q = r := c3
            exact c2 c3
          | cons b Z1 =>
            have c3 : b = r := c3
            subst c3
            cases X with
            | nil =>
              have := (List.cons.inj hZ).1
              exact hrp this.symm
            | cons a X =>
              have := (List.cons.inj hZ).1
              exact hr.1 (by rw [← this]; simp)
      · rw [if_neg c3]
end SC
section SC2
/-- a row parted in two, or two rows made one: the last of each change what is behind them -/
theorem sc_spl1 {v w p : vT} {X Y : List vT} (hn : ((X ++ [v]) ++ (Y ++ [w])).Nodup) (hp : p ∈ X ++ [v]) : sc (X ++ [v]) p = if p = v then sc ((X ++ [v]) ++ (Y ++ [w])) w else sc ((X ++ [v]) ++ (Y ++ [w])) p := by
  have hv : v ∉ X := (nd_mid (X := X) (Y := Y ++ [w]) (by simpa using hn)).1
  by_cases e : p = v
  · rw [if_pos e, e, sc_hd (Y := []) hv]
    have hw : w ∉ (X ++ [v]) ++ Y := (nd_mid (X := (X ++ [v]) ++ Y) (Y := []) (by simpa using hn)).1
    rw [show (X ++ [v]) ++ (Y ++ [w]) = ((X ++ [v]) ++ Y) ++ w :: [] by simp, sc_hd hw]
    cases X <;> rfl
  · rw [if_neg e]
    have hp' : p ∈ X := by
      rcases List.mem_append.mp hp with h | h
      · exact h
      · exact absurd (List.mem_singleton.mp h) e
    obtain ⟨X1, X2, rfl⟩ := List.append_of_mem hp'
    have hp1 : p ∉ X1 := (nd_mid (X := X1) (Y := X2 ++ [v] ++ (Y ++ [w])) (by simpa using hn)).1
    rw [show X1 ++ p :: X2 ++ [v] = X1 ++ p :: (X2 ++ [v]) by simp, sc_hd hp1, show X1 ++ p :: (X2 ++ [v]) ++ (Y ++ [w]) = X1 ++ p :: (X2 ++ [v] ++ (Y ++ [w])) by simp, sc_hd hp1]
    cases X2 <;> rfl
theorem sc_spl2 {v w p : vT} {X Y : List vT} (hn : ((X ++ [v]) ++ (Y ++ [w])).Nodup) (hp : p ∈ Y ++ [w]) : sc (Y ++ [w]) p = if p = w then sc ((X ++ [v]) ++ (Y ++ [w])) v else sc ((X ++ [v]) ++ (Y ++ [w])) p := by
  have := sc_spl1 (nd_rot hn) hp
  rw [this, sc_rot hn (by simp), sc_rot hn (List.mem_append_right _ hp)]
theorem sc_map {s : vT → vT} {p : vT} {L : List vT} (hn : L.Nodup) (hi : ∀ a b, a ∈ L → b ∈ L → s a = s b → a = b) (hp : p ∈ L) : sc (L.map s) (s p) = s (sc L p) := by
  obtain ⟨X, Y, rfl⟩ := List.append_of_mem hp
  have h1 := (nd_mid hn).1
  have h2 : s p ∉ X.map s := fun h9 => by
    obtain ⟨a, ha, e⟩ := List.mem_map.mp h9
    exact h1 (by rw [← hi a p (by simp [ha]) (by simp) e]; exact ha)
  rw [List.map_append, List.map_cons, sc_hd h2, sc_hd h1]
  cases Y with
  | cons q Y => rfl
  | nil => cases X <;> rfl
theorem sc_rev {p : vT} {L : List vT} (hn : L.Nodup) (hp : p ∈ L) : sc L.reverse (sc L p) = p := by
  obtain ⟨X, Y, rfl⟩ := List.append_of_mem hp
  have h1 := (nd_mid hn).1
  cases Y with
  | cons q Y =>
    rw [sc_mid h1]
    have h2 : q ∉ Y.reverse := by
      have := (nd_mid (X := X ++ [p]) (Y := Y) (p := q) (by simpa using hn)).2
      simpa using this
    rw [show (X ++ p :: q :: Y).reverse = Y.reverse ++ q :: p :: X.reverse by simp]
    exact sc_mid h2
  | nil =>
    cases X with
    | nil => rfl
    | cons a X =>
      rw [sc_end h1]
      have h2 : a ∉ p :: X.reverse := by
        have := (List.nodup_cons.mp (show (a :: (X ++ [p])).Nodup by simpa using hn)).1
        simp at this ⊢
        grind
      rw [show (a :: X ++ [p]).reverse = p :: X.reverse ++ [a] by simp]
      exact sc_end h2
theorem sc_inj {p q : vT} {L : List vT} (hn : L.Nodup) (hp : p ∈ L) (hq : q ∈ L) (e : sc L p = sc L q) : p = q := by
  rw [← sc_rev hn hp, e, sc_rev hn hq]
/-- a net by its components: each visit has the one behind it -/
def shw (N : Nat → Nat) (g : vT → Nat) (A : rn_L) : Prop := ∀ L, L ∈ A → ∀ p, p ∈ L → N (g p) = g (sc L p)
theorem nx_sc : ∀ A : rn_L, A.flatten.Nodup → ∀ v, v < A.flatten.length → ∃ L, L ∈ A ∧ vAt A v ∈ L ∧ vAt A (rn_nx A v) = sc L (vAt A v) := by
  refine snocI (fun _ v hv => absurd hv (Nat.not_lt_zero _)) (fun A L ih hn v hv => ?_)
  rw [fl_app] at hn
  rw [fl_app, List.length_append] at hv
  by_cases e : v < A.flatten.length
  · obtain ⟨K, k1, k2, k3⟩ := ih (List.nodup_append.mp hn).1 v e
    refine ⟨K, List.mem_append_left _ k1, ?_, ?_⟩
    · rw [vAt_ap e]
      exact k2
    · rw [vAt_ap e, rnx_app e, vAt_ap (rnx_lt e)]
      exact k3
  · obtain ⟨i, rfl⟩ : ∃ i, v = A.flatten.length + i := ⟨v - A.flatten.length, by omega⟩
    have hi : i < L.length := by omega
    have hL := (List.nodup_append.mp hn).2.1
    refine ⟨L, List.mem_append_right _ (List.mem_singleton.mpr rfl), ?_, ?_⟩
    · rw [vAt_nw (List.getElem?_eq_getElem hi)]
      exact List.getElem_mem hi
    · rw [rnx_new hi, vAt_nw (List.getElem?_eq_getElem hi)]
      have es : L = L.take i ++ L[i] :: L.drop (i + 1) := by
        rw [← List.drop_eq_getElem_cons hi, List.take_append_drop]
      have hni : L[i] ∉ L.take i := by
        rw [es] at hL
        exact (nd_mid hL).1
      by_cases h1 : i + 1 < L.length
      · rw [if_pos h1, vAt_nw (List.getElem?_eq_getElem h1)]
        have es2 : L = L.take i ++ L[i] :: L[i + 1] :: L.drop (i + 1 + 1) := by
          rw [← List.drop_eq_getElem_cons h1]
          exact es
        have := sc_mid (q := L[i + 1]) (Y := L.drop (i + 1 + 1)) hni
        rw [← es2] at this
        exact this.symm
      · rw [if_neg h1, show A.flatten.length = A.flatten.length + 0 from rfl, vAt_nw (List.getElem?_eq_getElem (show 0 < L.length by omega))]
        have := sc_hd (Y := L.drop (i + 1)) hni
        rw [← es] at this
        rw [this, List.drop_eq_nil_of_le (by omega), List.nil_append]
        cases L with
        | nil => exact absurd hi (Nat.not_lt_zero _)
        | cons a M =>
          cases i with
          | zero =>
            have : M = [] := List.length_eq_zero_iff.mp (by have h0 : (a :: M).length = M.length + 1 := rfl; omega)
            subst this
            rfl
          | succ i => rfl
theorem one_L {A : rn_L} (hn : A.flatten.Nodup) {L K : List vT} {p : vT} (hL : L ∈ A) (hK : K ∈ A) (h1 : p ∈ L) (h2 : p ∈ K) : L = K := by
  induction A with
  | nil => cases hL
  | cons B A ih =>
    rw [List.flatten_cons] at hn
    have hd := List.nodup_append.mp hn
    rcases List.mem_cons.mp hL with e1 | hL2
    · rcases List.mem_cons.mp hK with e2 | hK2
      · rw [e1, e2]
      · rw [e1] at h1
        exact absurd rfl (hd.2.2 p h1 p (List.mem_flatten.mpr ⟨K, hK2, h2⟩))
    · rcases List.mem_cons.mp hK with e2 | hK2
      · rw [e2] at h2
        exact absurd rfl (hd.2.2 p h2 p (List.mem_flatten.mpr ⟨L, hL2, h1⟩))
      · exact ih hd.2.1 hL2 hK2
theorem shw_iff {N : Nat → Nat} {g : vT → Nat} {A : rn_L} (hn : A.flatten.Nodup) : shw N g A ↔ ∀ v, v < A.flatten.length → N (g (vAt A v)) = g (vAt A (rn_nx A v)) := by
  constructor
  · intro h v hv
    obtain ⟨L, h1, h2, h3⟩ := nx_sc A hn v hv
    rw [h3]
    exact h L h1 _ h2
  · intro h L hL p hp
    have hm : p ∈ A.flatten := List.mem_flatten.mpr ⟨L, hL, hp⟩
    obtain ⟨v, hv, e⟩ := List.mem_iff_getElem.mp hm
    have e' : vAt A v = p := by
      unfold vAt
      rw [List.getElem?_eq_getElem hv, e]
      rfl
    obtain ⟨K, h1, h2, h3⟩ := nx_sc A hn v hv
    have := h v hv
    rw [h3, e'] at this
    rw [e'] at h2
    rw [one_L hn hL h1 hp h2]
    exact this
/-- isoN by names -/
def gl (f : Nat → Nat) (p : vT) : Nat := 2 * f p.1 + p.2
def isoS (A : rn_L) (sg : Nat → Bool) (f : Nat → Nat) (T : ow_NT) : Prop := wkF A.flatten ∧ A.flatten.length = 2 * T.1 ∧ T.1 ≤ 12 ∧ (∀ p, p ∈ A.flatten → f p.1 < T.1) ∧ (∀ p q, p ∈ A.flatten → q ∈ A.flatten → f p.1 = f q.1 → p.1 = q.1) ∧ shw T.2.2.1.1 (gl f) A ∧ (∀ p, p ∈ A.flatten → (T.2.2.2 (f p.1) < 0 ↔ sg p.1 = true)) ∧ cirs A = T.2.1
theorem mem_vAt {A : rn_L} {p : vT} (h : p ∈ A.flatten) : ∃ v, v < A.flatten.length ∧ vAt A v = p := by
  obtain ⟨v, hv, e⟩ := List.mem_iff_getElem.mp h
  refine ⟨v, hv, ?_⟩
  unfold vAt
  rw [List.getElem?_eq_getElem hv, e]
  rfl
theorem isoS_iff {A : rn_L} {sg : Nat → Bool} {f : Nat → Nat} {T : ow_NT} : isoS A sg f T ↔ isoN A sg f T := by
  constructor
  · rintro ⟨h1, h2, h3, h4, h5, h6, h7, h8⟩
    exact ⟨h1, h2, h3, fun v hv => h4 _ (vAt_mem hv), fun v w hv hw => h5 _ _ (vAt_mem hv) (vAt_mem hw), fun v hv => (shw_iff h1.1).mp h6 v hv, fun v hv => h7 _ (vAt_mem hv), h8⟩
  · rintro ⟨h1, h2, h3, h4, h5, h6, h7, h8⟩
    refine ⟨h1, h2, h3, fun p hp => ?_, fun p q hp hq => ?_, (shw_iff h1.1).mpr h6, fun p hp => ?_, h8⟩
    · obtain ⟨v, hv, rfl⟩ := mem_vAt hp
      exact h4 v hv
    · obtain ⟨v, hv, rfl⟩ := mem_vAt hp
      obtain ⟨w, hw, rfl⟩ := mem_vAt hq
      exact h5 v w hv hw
    · obtain ⟨v, hv, rfl⟩ := mem_vAt hp
      exact h7 v hv
end SC2
end
