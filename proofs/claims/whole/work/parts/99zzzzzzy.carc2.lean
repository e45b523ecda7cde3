/-! the class: markArcs; cover, colours have an answer -/
/-- the arcs of a net: a label for the gap behind each visit -/
def arcS (y : ow_MS) (S : ow_NP) (c ci : Nat) (q : Nat → Nat) (a : Nat → Nat) (n : Nat) : Prop := (∀ v, v < 2 * c → y.2.1 41001 v = nI (a v) ∧ a v < n) ∧ (∀ x, x < c → a (2 * x + 1) = x) ∧ (∀ v, v < 2 * c → S.1 v % 2 = 0 → a (S.1 v) = a v) ∧ (∀ v w, v < 2 * c → w < 2 * c → c ≤ a v → a v = a w → q v = q w) ∧ y.1 41002 = nI (n + ci)
section CMA
variable {vl : Nat → Nat} {y : ow_MS} {S : ow_NP} {G : Nat → Int32} {c ci : Nat} {q : Nat → Nat}
def arP (g : Nat) : Prop := g = 41001 ∨ g = 41002
theorem oM_n {l : Nat} (hl : l < 2 ^ 31) : oM (some l) ≠ -1 := fun e => nI_pos hl (by
  have e : nI l = -1 := e
  rw [e]
  decide)
theorem vm2 : ∀ v : Fin 24, ((nI v.val &&& 1) = 0 ↔ v.val % 2 = 0) := by decide +kernel
theorem u_X0_markArcs_1 {vl : Nat → Nat} {x2 : Int32} {x3 : Int32} {x4 : Int32} {x5 : Int32} {x6 : Int32} {r0 : Nat} {r1 : Nat} {z : ow_MS} {Q : ow_MS → Prop} (H : Tt (fun K k => cm_X0_markArcs_1 vl K (c_X0_markArcs vl K k) x2 x3 x4 x5 x6 r0 r1 z) Q) : Tt (fun K k => c_X0_markArcs vl K k 1 x2 x3 x4 x5 x6 r0 r1 z) Q := w_un (fun _ _ => rfl) H
theorem u_X0_markArcs_2 {vl : Nat → Nat} {x2 : Int32} {x3 : Int32} {x4 : Int32} {x5 : Int32} {x6 : Int32} {r0 : Nat} {r1 : Nat} {z : ow_MS} {Q : ow_MS → Prop} (H : Tt (fun K k => cm_X0_markArcs_2 vl K (c_X0_markArcs vl K k) x2 x3 x4 x5 x6 r0 r1 z) Q) : Tt (fun K k => c_X0_markArcs vl K k 2 x2 x3 x4 x5 x6 r0 r1 z) Q := w_un (fun _ _ => rfl) H
theorem u_X0_markArcs_6 {vl : Nat → Nat} {x2 : Int32} {x3 : Int32} {x4 : Int32} {x5 : Int32} {x6 : Int32} {r0 : Nat} {r1 : Nat} {z : ow_MS} {Q : ow_MS → Prop} (H : Tt (fun K k => cm_X0_markArcs_6 vl K (c_X0_markArcs vl K k) x2 x3 x4 x5 x6 r0 r1 z) Q) : Tt (fun K k => c_X0_markArcs vl K k 6 x2 x3 x4 x5 x6 r0 r1 z) Q := w_un (fun _ _ => rfl) H
theorem u_X0_markArcs_5 {vl : Nat → Nat} {x2 : Int32} {x3 : Int32} {x4 : Int32} {x5 : Int32} {x6 : Int32} {r0 : Nat} {r1 : Nat} {z : ow_MS} {Q : ow_MS → Prop} (H : Tt (fun K k => cm_X0_markArcs_5 vl K (c_X0_markArcs vl K k) x2 x3 x4 x5 x6 r0 r1 z) Q) : Tt (fun K k => c_X0_markArcs vl K k 5 x2 x3 x4 x5 x6 r0 r1 z) Q := w_un (fun _ _ => rfl) H
theorem u_X0_markArcs_3 {vl : Nat → Nat} {x2 : Int32} {x3 : Int32} {x4 : Int32} {x5 : Int32} {x6 : Int32} {r0 : Nat} {r1 : Nat} {z : ow_MS} {Q : ow_MS → Prop} (H : Tt (fun K k => cm_X0_markArcs_3 vl K (c_X0_markArcs vl K k) x2 x3 x4 x5 x6 r0 r1 z) Q) : Tt (fun K k => c_X0_markArcs vl K k 3 x2 x3 x4 x5 x6 r0 r1 z) Q := w_un (fun _ _ => rfl) H
theorem u_X0_markArcs_4 {vl : Nat → Nat} {x2 : Int32} {x3 : Int32} {x4 : Int32} {x5 : Int32} {x6 : Int32} {r0 : Nat} {r1 : Nat} {z : ow_MS} {Q : ow_MS → Prop} (H : Tt (fun K k => cm_X0_markArcs_4 vl K (c_X0_markArcs vl K k) x2 x3 x4 x5 x6 r0 r1 z) Q) : Tt (fun K k => c_X0_markArcs vl K k 4 x2 x3 x4 x5 x6 r0 r1 z) Q := w_un (fun _ _ => rfl) H
theorem e_X0_markArcs {vl : Nat → Nat} {r0 : Nat} {r1 : Nat} {z : ow_MS} {Q : ow_MS → Prop} (H : Tt (fun K k => c_X0_markArcs vl K k 0 0 0 0 0 0 r0 r1 z) Q) : Te (fun K => ce_X0_markArcs vl K r0 r1 z) Q := w_te H
theorem u_X0_markArcs_0 {vl : Nat → Nat} {x2 : Int32} {x3 : Int32} {x4 : Int32} {x5 : Int32} {x6 : Int32} {r0 : Nat} {r1 : Nat} {z : ow_MS} {Q : ow_MS → Prop} (H : Tt (fun K k => cm_X0_markArcs_0 vl K (c_X0_markArcs vl K k) x2 x3 x4 x5 x6 r0 r1 z) Q) : Tt (fun K k => c_X0_markArcs vl K k 0 x2 x3 x4 x5 x6 r0 r1 z) Q := w_un (fun _ _ => rfl) H
theorem tc_markArcs {h m : Nat} {R : List Nat} (hh : nH h) (hy : cAt y h (c, ci, S, G)) (hv : vn c S) (hc : c ≤ 12) (hci : ci ≤ 6) (hq : ∀ v, v < 2 * c → q (S.1 v) = q v) (hr : ∀ v w, v < 2 * c → w < 2 * c → q v = q w → ∃ i, it S.1 i v = w) (hR : R.length ≤ m) (hR2 : ∀ v, v < 2 * c → q v ∈ R) (hm : m ≤ 6) : Te (fun K => ce_X0_markArcs vl K 41000 h y) (fun y1 => (∃ a n, arcS y1 S c ci q a n ∧ n ≤ c + m ∧ c ≤ n) ∧ fr arP y y1) := by
  let Q : ow_MS → Prop := fun y1 => (∃ a n, arcS y1 S c ci q a n ∧ n ≤ c + m ∧ c ≤ n) ∧ fr arP y y1
  have h4 : 4000 ≤ h ∧ h ≤ 44000 := nH_all (P := fun h => 4000 ≤ h ∧ h ≤ 44000) (by decide) hh
  have h41 : ¬ (arP (h + 1) ∨ arP (h + 2) ∨ arP (h + 3) ∨ arP (h + 8) ∨ arP (h + 9)) := by
    have key : ∀ a, a ∈ nHL → a ≠ 41000 ∧ a % 1000 = 0 := by decide
    have := key h hh
    unfold arP
    omega
  have hA : ∀ z, fr arP y z → cAt z h (c, ci, S, G) := fun z hf => cAt_fr hf (fun g hg h9 => by unfold cP at hg; unfold arP at h9 h41; omega) hy
  let J : ow_MS → (Nat → Option Nat) → Nat → Prop := fun z f n => (∀ v, v < 24 → z.2.1 41001 v = oM (f v)) ∧ z.1 41002 = nI n ∧ fr arP y z
  have Jset : ∀ z f n v l, J z f n → l = n → J (usI z 41001 v (nI l)) (stO f v l) n := by
    rintro z f n v l ⟨j1, j2, j3⟩ rfl
    refine ⟨fun w hw => ?_, j2, fr_I2 j3 (Or.inl rfl)⟩
    by_cases e : w = v
    · rw [e, po_usI_at, stO_at]
      rfl
    · rw [stO_ne e]
      exact rd_ne e (j1 w hw)
  -- the last: circles come
  have fin : ∀ z f U s, ar2 S c q s U f → 2 * c ≤ s → J z f (c + U.length) → Tt (fun K k => c_X0_markArcs vl K k 1 (nI (2 * c)) (nI 0 + -1) 0 0 0 41000 h z) Q := by
    rintro z f U s ⟨a1, a2, a3, a4, ⟨u1, u2, u3, u4⟩, a6⟩ hs ⟨j1, j2, j3⟩
    have hU : U.length ≤ m := Nat.le_trans (nodup_le U R u1 (fun r hr2 => by
      obtain ⟨v, v1, v2⟩ := u2 r hr2
      rw [← v2]
      exact hR2 v v1)) hR
    have all : ∀ v, v < 2 * c → ∃ l, f v = some l := by
      intro v hv2
      rcases Nat.mod_two_eq_zero_or_one v with h9 | h9
      · cases hf : f v with
        | none => exact absurd hf (a6 v hv2 (by omega) h9)
        | some l => exact ⟨l, rfl⟩
      · have := a1 (v / 2) (by omega)
        rw [show 2 * (v / 2) + 1 = v by omega] at this
        exact ⟨_, this⟩
    refine u_X0_markArcs_1 ?_; unfold cm_X0_markArcs_1
    refine w_ifT (by decide) (w_rdF j2 (w_rdF (hA z j3).2.1 (w_wrF (w_some ⟨⟨fun v => (f v).getD 0, c + U.length, ⟨fun v hv2 => ?_, fun x hx => ?_, fun v hv2 he => ?_, fun v w hv2 hw hl e => ?_, ?_⟩, by omega, by omega⟩, fr_F2 j3 (Or.inr rfl)⟩))))
    · obtain ⟨l, hl⟩ := all v hv2
      refine ⟨(j1 v (by omega)).trans ?_, ?_⟩
      · dsimp only
        rw [hl]
        rfl
      · dsimp only
        rw [hl]
        exact (a2 v l hv2 hl).1
    · dsimp only
      rw [a1 x hx]
      rfl
    · obtain ⟨l, hl⟩ := all v hv2
      dsimp only
      rw [hl, (a2 v l hv2 hl).2.2 he]
    · obtain ⟨l, e1⟩ := all v hv2
      obtain ⟨l', e2⟩ := all w hw
      dsimp only at hl e
      rw [e1] at hl e
      rw [e2] at e
      have e : l = l' := e
      subst e
      have q1 := u3 v l hv2 e1 hl
      have q2 := u3 w l hw e2 hl
      rw [q1] at q2
      injection q2
    · rw [po_usF_at, nI_add]
  -- the even visits
  have p2 : ∀ (d s : Nat) (U : List Nat) (z : ow_MS) (f : Nat → Option Nat), s + 2 * d = 2 * c + 2 → s % 2 = 0 → ar2 S c q s U f → J z f (c + U.length) → Tt (fun K k => c_X0_markArcs vl K k 2 (nI (2 * c)) (nI 0) (nI s) 0 0 41000 h z) Q := by
    intro d
    induction d with
    | zero =>
      intro s U z f hs he ha hJ
      refine u_X0_markArcs_2 ?_; unfold cm_X0_markArcs_2
      exact w_leT (by omega) (by omega) (fin z f U s ha (by omega) hJ)
    | succ d ih =>
      intro s U z f hs he ha hJ
      have c6 : ∀ (U' : List Nat) (z : ow_MS) (f : Nat → Option Nat), ar2 S c q (s + 2) U' f → J z f (c + U'.length) → Tt (fun K k => c_X0_markArcs vl K k 6 (nI (2 * c)) (nI 0) (nI s) 0 0 41000 h z) Q := by
        intro U' z f ha hJ
        refine u_X0_markArcs_6 ?_; unfold cm_X0_markArcs_6
        rw [show nI s + (2 : Int32) = nI (s + 2) from nI_add s 2]
        exact ih (s + 2) U' z f (by omega) (by omega) ha hJ
      have c5 : ∀ (v i : Int32) (z : ow_MS) (f : Nat → Option Nat), ar2 S c q (s + 2) (U ++ [q s]) f → J z f (c + U.length) → Tt (fun K k => c_X0_markArcs vl K k 5 (nI (2 * c)) (nI 0) (nI s) v i 41000 h z) Q := by
        rintro v i z f ha ⟨j1, j2, j3⟩
        refine u_X0_markArcs_5 ?_; unfold cm_X0_markArcs_5
        refine w_rdF j2 (w_wrF (c6 (U ++ [q s]) _ f ha ⟨j1, ?_, fr_F2 j3 (Or.inr rfl)⟩))
        rw [po_usF_at, nI_1, List.length_append]
        rfl
      by_cases hsc : s < 2 * c
      · have c3 : ∀ (e i v : Nat) (z : ow_MS) (f : Nat → Option Nat), i + e = 2 * c → v < 2 * c → i + ucn f (2 * c) ≤ 2 * c → ax2 S c q s U f v → J z f (c + U.length) → 0 < i → Tt (fun K k => c_X0_markArcs vl K k 3 (nI (2 * c)) (nI 0) (nI s) (nI v) (nI i) 41000 h z) Q := by
          intro e
          induction e with
          | zero =>
            intro i v z f hi hvc hu hx hJ hi0
            refine u_X0_markArcs_3 ?_; unfold cm_X0_markArcs_3
            exact w_leT (by omega) (by omega) (c5 _ _ z f (ax2_e hv hr hsc he (ucn_0 _ (by omega) v hvc) hx) hJ)
          | succ e ihe =>
            intro i v z f hi hvc hu hx hJ hi0
            by_cases hn : f v = none
            · have hv2 : v % 2 = 0 := by
                rcases Nat.mod_two_eq_zero_or_one v with h9 | h9
                · exact h9
                · have := hx.1 (v / 2) (by omega)
                  rw [show 2 * (v / 2) + 1 = v by omega, hn] at this
                  cases this
              have uc := ucn_st (l := c + U.length) hn (2 * c) hvc
              obtain ⟨j1, j2, j3⟩ := id hJ
              refine u_X0_markArcs_3 ?_; unfold cm_X0_markArcs_3
              refine w_leF (by omega) (by omega) (w_ifF (fun h9 => by have := (nI_eq (a := i) (b := 0) (by omega) (by omega)).mp h9; omega) (w_ifT ((vm2 ⟨v, by omega⟩).mpr hv2) ?_))
              refine u_X0_markArcs_4 ?_; unfold cm_X0_markArcs_4
              refine w_crI ch_41001 rfl (by omega) ((j1 v (by omega)).trans (by rw [hn]; rfl)) (w_ifT rfl (w_rdF j2 (w_ctI ch_41001 rfl (by omega) (w_crI (nH_1 hh) rfl (show v < 24 by omega) (rd_ot (by unfold arP at h41; omega) ((hA z j3).2.2.1 v)) ?_))))
              rw [nI_1]
              have hU6 : U.length ≤ 1000 := by
                have := nodup_le U R hx.2.2.2.2.1.1 (fun r hr2 => by
                  obtain ⟨v, v1, v2⟩ := hx.2.2.2.2.1.2.1 r hr2
                  rw [← v2]
                  exact hR2 v v1)
                omega
              exact ihe (i + 1) (S.1 v) _ _ (by omega) (hv v hvc).1 (by omega) (ax2_s hv hq hsc hvc hn hx) (Jset z f _ v _ hJ rfl) (by omega)
            · obtain ⟨j1, j2, j3⟩ := id hJ
              have hU6 : U.length ≤ 1000 := by
                have := nodup_le U R hx.2.2.2.2.1.1 (fun r hr2 => by
                  obtain ⟨v, v1, v2⟩ := hx.2.2.2.2.1.2.1 r hr2
                  rw [← v2]
                  exact hR2 v v1)
                omega
              have e5 := c5 (nI v) (nI i) z f (ax2_e hv hr hsc he hn hx) hJ
              obtain ⟨l, hl⟩ : ∃ l, f v = some l := by
                cases hf : f v with
                | none => exact absurd hf hn
                | some l => exact ⟨l, rfl⟩
              have hl2 := (hx.2.1 v l hvc hl).1
              refine u_X0_markArcs_3 ?_; unfold cm_X0_markArcs_3
              refine w_leF (by omega) (by omega) (w_if (fun _ => ?_) (fun _ => w_if (fun _ => ?_) (fun _ => e5)))
              · refine u_X0_markArcs_4 ?_; unfold cm_X0_markArcs_4
                exact w_crI ch_41001 rfl (by omega) ((j1 v (by omega)).trans (by rw [hl])) (w_ifF (oM_n (by omega)) e5)
              · refine u_X0_markArcs_4 ?_; unfold cm_X0_markArcs_4
                exact w_crI ch_41001 rfl (by omega) ((j1 v (by omega)).trans (by rw [hl])) (w_ifF (oM_n (by omega)) e5)
        obtain ⟨j1, j2, j3⟩ := id hJ
        by_cases hn : f s = none
        · have uc := ucn_st (l := c + U.length) hn (2 * c) hsc
          have ul := ucn_le f (2 * c)
          have x0 := ax2_0 hv hq hsc he hn ha
          refine u_X0_markArcs_2 ?_; unfold cm_X0_markArcs_2
          refine w_leF (by omega) (by omega) (w_crI ch_41001 rfl (by omega) ((j1 s (by omega)).trans (by rw [hn]; rfl)) (w_ifT rfl ?_))
          refine u_X0_markArcs_3 ?_; unfold cm_X0_markArcs_3
          refine w_leF (b := 0) (by omega) (by omega) (w_ifT rfl ?_)
          refine u_X0_markArcs_4 ?_; unfold cm_X0_markArcs_4
          refine w_crI ch_41001 rfl (by omega) ((j1 s (by omega)).trans (by rw [hn]; rfl)) (w_ifT rfl (w_rdF j2 (w_ctI ch_41001 rfl (by omega) (w_crI (nH_1 hh) rfl (show s < 24 by omega) (rd_ot (by unfold arP at h41; omega) ((hA z j3).2.2.1 s)) ?_))))
          exact c3 (2 * c - 1) 1 (S.1 s) _ _ (by omega) (hv s hsc).1 (by omega) x0 (Jset z f _ s _ hJ rfl) (by omega)
        · obtain ⟨l, hl⟩ : ∃ l, f s = some l := by
            cases hf : f s with
            | none => exact absurd hf hn
            | some l => exact ⟨l, rfl⟩
          have hl2 := (ha.2.1 s l hsc hl).1
          have hU6 : U.length ≤ 1000 := by
            have := nodup_le U R ha.2.2.2.2.1.1 (fun r hr2 => by
              obtain ⟨v, v1, v2⟩ := ha.2.2.2.2.1.2.1 r hr2
              rw [← v2]
              exact hR2 v v1)
            omega
          refine u_X0_markArcs_2 ?_; unfold cm_X0_markArcs_2
          exact w_leF (by omega) (by omega) (w_crI ch_41001 rfl (by omega) ((j1 s (by omega)).trans (by rw [hl])) (w_ifF (oM_n (by omega)) (c6 U z f (ar2_k (fun _ => hn) ha he) hJ)))
      · refine u_X0_markArcs_2 ?_; unfold cm_X0_markArcs_2
        exact w_leT (by omega) (by omega) (fin z f U s ha (by omega) hJ)
  -- the odd visits
  have p1 : ∀ (d k : Nat) (z : ow_MS) (f : Nat → Option Nat), k + d = c → ar1 S c k f → J z f k → Tt (fun K t => c_X0_markArcs vl K t 2 (nI (2 * c)) (nI 1) (nI (2 * k + 1)) 0 0 41000 h z) Q := by
    intro d
    induction d with
    | zero =>
      intro k z f hk ha hJ
      have hk : k = c := by omega
      subst hk
      refine u_X0_markArcs_2 ?_; unfold cm_X0_markArcs_2
      refine w_leT (by omega) (by omega) ?_
      rw [show nI 1 + (-1 : Int32) = nI 0 from by decide]
      refine u_X0_markArcs_1 ?_; unfold cm_X0_markArcs_1
      refine w_ifF (by decide) ?_
      exact p2 (k + 1) 0 [] z f (by omega) (by omega) (ar2_0 hv ha) hJ
    | succ d ih =>
      intro k z f hk ha hJ
      have c5 : ∀ (v i : Int32) (z : ow_MS) (f : Nat → Option Nat), ar1 S c (k + 1) f → J z f k → Tt (fun K t => c_X0_markArcs vl K t 5 (nI (2 * c)) (nI 1) (nI (2 * k + 1)) v i 41000 h z) Q := by
        rintro v i z f ha ⟨j1, j2, j3⟩
        refine u_X0_markArcs_5 ?_; unfold cm_X0_markArcs_5
        refine w_rdF j2 (w_wrF ?_)
        refine u_X0_markArcs_6 ?_; unfold cm_X0_markArcs_6
        rw [show nI (2 * k + 1) + (2 : Int32) = nI (2 * (k + 1) + 1) from nI_add _ 2]
        refine ih (k + 1) _ f (by omega) ha ⟨j1, ?_, fr_F2 j3 (Or.inr rfl)⟩
        rw [po_usF_at, nI_1]
      have c3 : ∀ (e i v : Nat) (z : ow_MS) (f : Nat → Option Nat), i + e = 2 * c → v < 2 * c → i + ucn f (2 * c) ≤ 2 * c → ax1 S c k f v → J z f k → 0 < i → Tt (fun K t => c_X0_markArcs vl K t 3 (nI (2 * c)) (nI 1) (nI (2 * k + 1)) (nI v) (nI i) 41000 h z) Q := by
        intro e
        induction e with
        | zero =>
          intro i v z f hi hvc hu hx hJ hi0
          refine u_X0_markArcs_3 ?_; unfold cm_X0_markArcs_3
          exact w_leT (by omega) (by omega) (c5 _ _ z f (ax1_e hv hvc (Or.inr (ucn_0 _ (by omega) v hvc)) hx) hJ)
        | succ e ihe =>
          intro i v z f hi hvc hu hx hJ hi0
          obtain ⟨j1, j2, j3⟩ := id hJ
          have hi9 : ¬ nI i = 0 := fun h9 => by have := (nI_eq (a := i) (b := 0) (by omega) (by omega)).mp h9; omega
          rcases Nat.mod_two_eq_zero_or_one v with hv2 | hv2
          · by_cases hn : f v = none
            · have uc := ucn_st (l := k) hn (2 * c) hvc
              refine u_X0_markArcs_3 ?_; unfold cm_X0_markArcs_3
              refine w_leF (by omega) (by omega) (w_ifF hi9 (w_ifT ((vm2 ⟨v, by omega⟩).mpr hv2) ?_))
              refine u_X0_markArcs_4 ?_; unfold cm_X0_markArcs_4
              refine w_crI ch_41001 rfl (by omega) ((j1 v (by omega)).trans (by rw [hn]; rfl)) (w_ifT rfl (w_rdF j2 (w_ctI ch_41001 rfl (by omega) (w_crI (nH_1 hh) rfl (show v < 24 by omega) (rd_ot (by unfold arP at h41; omega) ((hA z j3).2.2.1 v)) ?_))))
              rw [nI_1]
              exact ihe (i + 1) (S.1 v) _ _ (by omega) (hv v hvc).1 (by omega) (ax1_s hv hvc hv2 hn hx) (Jset z f _ v _ hJ rfl) (by omega)
            · obtain ⟨l, hl⟩ : ∃ l, f v = some l := by
                cases hf : f v with
                | none => exact absurd hf hn
                | some l => exact ⟨l, rfl⟩
              have hl2 := (hx.2.2.1 v l hvc hl).1
              refine u_X0_markArcs_3 ?_; unfold cm_X0_markArcs_3
              refine w_leF (by omega) (by omega) (w_ifF hi9 (w_ifT ((vm2 ⟨v, by omega⟩).mpr hv2) ?_))
              refine u_X0_markArcs_4 ?_; unfold cm_X0_markArcs_4
              exact w_crI ch_41001 rfl (by omega) ((j1 v (by omega)).trans (by rw [hl])) (w_ifF (oM_n (by omega)) (c5 (nI v) (nI i) z f (ax1_e hv hvc (Or.inr hn) hx) hJ))
          · refine u_X0_markArcs_3 ?_; unfold cm_X0_markArcs_3
            exact w_leF (by omega) (by omega) (w_ifF hi9 (w_ifF (fun h9 => by have := (vm2 ⟨v, by omega⟩).mp h9; dsimp only at this; omega) (c5 (nI v) (nI i) z f (ax1_e hv hvc (Or.inl hv2) hx) hJ)))
      obtain ⟨j1, j2, j3⟩ := id hJ
      have hn := ha.2.1 k (Nat.le_refl _)
      have uc := ucn_st (l := k) hn (2 * c) (by omega)
      have ul := ucn_le f (2 * c)
      refine u_X0_markArcs_2 ?_; unfold cm_X0_markArcs_2
      refine w_leF (by omega) (by omega) (w_crI ch_41001 rfl (by omega) ((j1 _ (by omega)).trans (by rw [hn]; rfl)) (w_ifT rfl ?_))
      refine u_X0_markArcs_3 ?_; unfold cm_X0_markArcs_3
      refine w_leF (b := 0) (by omega) (by omega) (w_ifT rfl ?_)
      refine u_X0_markArcs_4 ?_; unfold cm_X0_markArcs_4
      refine w_crI ch_41001 rfl (by omega) ((j1 _ (by omega)).trans (by rw [hn]; rfl)) (w_ifT rfl (w_rdF j2 (w_ctI ch_41001 rfl (by omega) (w_crI (nH_1 hh) rfl (show 2 * k + 1 < 24 by omega) (rd_ot (by unfold arP at h41; omega) ((hA z j3).2.2.1 _)) ?_))))
      exact c3 (2 * c - 1) 1 (S.1 (2 * k + 1)) _ _ (by omega) (hv _ (by omega)).1 (by omega) (ax1_0 hv (by omega) ha) (Jset z f _ _ _ hJ rfl) (by omega)
  refine e_X0_markArcs ?_
  refine u_X0_markArcs_0 ?_; unfold cm_X0_markArcs_0
  refine w_rdF hy.1 (w_cs0 (tc_fillA ch_41001 (by omega)) ?_)
  rintro y2 ⟨g1, g2⟩
  refine w_wrF ?_
  rw [rn_mul2]
  refine u_X0_markArcs_1 ?_; unfold cm_X0_markArcs_1
  refine w_ifF (by decide) ?_
  refine p1 c 0 _ (fun _ => none) (by omega) ⟨fun x hx => absurd hx (by omega), fun x _ => rfl, fun v l _ h9 => (by cases h9), fun v l _ _ h9 => (by cases h9)⟩ ⟨fun v hv2 => ?_, po_usF_at, fr_F2 (fr_mono (fun g hg => Or.inl hg) g2) (Or.inr rfl)⟩
  exact g1 v hv2
end CMA
/-- the ring of a visit, out of the list that a net shows -/
theorem iso_q {A : rn_L} {sg : Nat → Bool} {c ci : Nat} {S : ow_NP} {G : Nat → Int32} (hi : isoN A sg (fun x => x) (c, ci, S, G)) (hv : vn c S) : ∃ q : Nat → Nat, (∀ v, v < A.flatten.length → q (lbv A (fun x => x) v) = rn_c A v) ∧ (∀ v, v < 2 * c → q (S.1 v) = q v) ∧ (∀ v w, v < 2 * c → w < 2 * c → q v = q w → ∃ i, it S.1 i v = w) ∧ ∃ R : List Nat, R.length ≤ neC A ∧ ∀ v, v < 2 * c → q v ∈ R := by
  have hl : A.flatten.length = 2 * c := hi.2.1
  obtain ⟨F, hF⟩ : ∃ F : Nat → Nat, ∀ a, a < 2 * c → F a < A.flatten.length ∧ lbv A (fun x => x) (F a) = a := by
    refine ⟨fun a => if ha : a < 2 * c then Classical.choose (lbv_sur hi ha) else 0, fun a ha => ?_⟩
    dsimp only
    rw [dif_pos ha]
    exact Classical.choose_spec (lbv_sur hi ha)
  have hFi : ∀ v, v < A.flatten.length → F (lbv A (fun x => x) v) = v := fun v hv1 => by
    obtain ⟨q1, q2⟩ := hF _ (lbv_lt hi hv1)
    exact lbv_inj hi q1 hv1 q2
  refine ⟨fun a => rn_c A (F a), fun v hv1 => (by dsimp only; rw [hFi v hv1]), fun v hv1 => ?_, fun v w hv1 hw e => ?_, ((List.range A.length).filter (fun c => decide (rn_b A c < rn_b A (c + 1)))), Nat.le_refl _, fun v hv1 => ?_⟩
  · obtain ⟨f1, f2⟩ := hF v hv1
    have h1 : S.1 (lbv A (fun x => x) (F v)) = lbv A (fun x => x) (rn_nx A (F v)) := hi.2.2.2.2.2.1 (F v) f1
    rw [f2] at h1
    dsimp only
    rw [h1, hFi _ (rn_nx_lt f1), c_nx f1]
  · obtain ⟨f1, f2⟩ := hF v hv1
    obtain ⟨g1, g2⟩ := hF w hw
    obtain ⟨i, -, hi2⟩ := iso_same hi f1 g1 e.symm
    rw [f2, g2] at hi2
    exact ⟨i, hi2⟩
  · obtain ⟨f1, f2⟩ := hF v hv1
    obtain ⟨h1, h2, h3⟩ := rn_c_in A (F v) f1
    exact List.mem_filter.mpr ⟨List.mem_range.mpr h1, decide_eq_true (Nat.lt_of_le_of_lt h2 h3)⟩
section CFC
variable {vl : Nat → Nat} {y : ow_MS}
def cvP (g : Nat) : Prop := 41001 ≤ g ∧ g ≤ 41005 ∨ 42001 ≤ g ∧ g ≤ 42012
/-- how many divisors are there -/
def dvC (y : ow_MS) : Prop := ∃ n, n ≤ 18 ∧ y.1 41005 = nI n
theorem u_J7_fill_d0a16_1 {vl : Nat → Nat} {x3 : Int32} {x4 : Int32} {w1 : Int64} {r0 : Nat} {z : ow_MS} {Q : ow_MS → Prop} (H : Tt (fun K k => cm_J7_fill_d0a16_1 vl K (c_J7_fill_d0a16 vl K k) x3 x4 w1 r0 z) Q) : Tt (fun K k => c_J7_fill_d0a16 vl K k 1 x3 x4 w1 r0 z) Q := w_un (fun _ _ => rfl) H
theorem e_J7_fill_d0a16 {vl : Nat → Nat} {r0 : Nat} {w1 : Int64} {z : ow_MS} {Q : ow_MS → Prop} (H : Tt (fun K k => c_J7_fill_d0a16 vl K k 0 0 0 w1 r0 z) Q) : Te (fun K => ce_J7_fill_d0a16 vl K r0 w1 z) Q := w_te H
theorem u_J7_fill_d0a16_0 {vl : Nat → Nat} {x3 : Int32} {x4 : Int32} {w1 : Int64} {r0 : Nat} {z : ow_MS} {Q : ow_MS → Prop} (H : Tt (fun K k => cm_J7_fill_d0a16_0 vl K (c_J7_fill_d0a16 vl K k) x3 x4 w1 r0 z) Q) : Tt (fun K k => c_J7_fill_d0a16 vl K k 0 x3 x4 w1 r0 z) Q := w_un (fun _ _ => rfl) H
theorem tc_fillJ {g l : Nat} {w : Int64} (hL : ((cX vl).2 g).2.1 = l) (hl : l < 2 ^ 31) : Te (fun K => ce_J7_fill_d0a16 vl K g w y) (fun y1 => (∀ j, j < l → y1.2.2 g j = w) ∧ fr (fun q => q = g) y y1) := by
  have key : ∀ (d i : Nat) (z : ow_MS), i + d = l → fr (fun q => q = g) y z → (∀ j, j < i → z.2.2 g j = w) → Tt (fun K k => c_J7_fill_d0a16 vl K k 1 (nI i) (nI l) w g z) (fun y1 => (∀ j, j < l → y1.2.2 g j = w) ∧ fr (fun q => q = g) y y1) := by
    intro d
    induction d with
    | zero =>
      intro i z hi hf hz
      refine u_J7_fill_d0a16_1 ?_; unfold cm_J7_fill_d0a16_1
      exact w_leT (by omega) (by omega) (w_some ⟨fun j hj => hz j (by omega), hf⟩)
    | succ d ih =>
      intro i z hi hf hz
      refine u_J7_fill_d0a16_1 ?_; unfold cm_J7_fill_d0a16_1
      refine w_leF (by omega) (by omega) (w_ctJ hL rfl (by omega) ?_)
      rw [nI_1]
      refine ih (i + 1) _ (by omega) (fr_J2 hf rfl) (fun j hj => ?_)
      by_cases e : j = i
      · rw [e, usJ_at]
      · rw [usJ_ne e]
        exact hz j (by omega)
  refine e_J7_fill_d0a16 ?_
  refine u_J7_fill_d0a16_0 ?_; unfold cm_J7_fill_d0a16_0
  rw [show (Int32.ofNat (uw_len (cX vl) y g)) = nI l from by unfold uw_len; rw [hL]; rfl]
  exact key l 0 y (by omega) fr_rf (fun j hj => absurd hj (by omega))
theorem e_X0_findCover {vl : Nat → Nat} {r0 : Nat} {r1 : Nat} {z : ow_MS} {Q : ow_MS → Prop} (H : Tt (fun K k => c_X0_findCover vl K k 0 0 0 r0 r1 z) Q) : Te (fun K => ce_X0_findCover vl K r0 r1 z) Q := w_te H
theorem u_X0_findCover_0 {vl : Nat → Nat} {x2 : Int32} {x3 : Int32} {r0 : Nat} {r1 : Nat} {z : ow_MS} {Q : ow_MS → Prop} (H : Tt (fun K k => cm_X0_findCover_0 vl K (c_X0_findCover vl K k) x2 x3 r0 r1 z) Q) : Tt (fun K k => c_X0_findCover vl K k 0 x2 x3 r0 r1 z) Q := w_un (fun _ _ => rfl) H
theorem u_X0_findCover_5 {vl : Nat → Nat} {x2 : Int32} {x3 : Int32} {r0 : Nat} {r1 : Nat} {z : ow_MS} {Q : ow_MS → Prop} (H : Tt (fun K k => cm_X0_findCover_5 vl K (c_X0_findCover vl K k) x2 x3 r0 r1 z) Q) : Tt (fun K k => c_X0_findCover vl K k 5 x2 x3 r0 r1 z) Q := w_un (fun _ _ => rfl) H
theorem u_X0_findCover_4 {vl : Nat → Nat} {x2 : Int32} {x3 : Int32} {r0 : Nat} {r1 : Nat} {z : ow_MS} {Q : ow_MS → Prop} (H : Tt (fun K k => cm_X0_findCover_4 vl K (c_X0_findCover vl K k) x2 x3 r0 r1 z) Q) : Tt (fun K k => c_X0_findCover vl K k 4 x2 x3 r0 r1 z) Q := w_un (fun _ _ => rfl) H
theorem u_X0_findCover_2 {vl : Nat → Nat} {x2 : Int32} {x3 : Int32} {r0 : Nat} {r1 : Nat} {z : ow_MS} {Q : ow_MS → Prop} (H : Tt (fun K k => cm_X0_findCover_2 vl K (c_X0_findCover vl K k) x2 x3 r0 r1 z) Q) : Tt (fun K k => c_X0_findCover vl K k 2 x2 x3 r0 r1 z) Q := w_un (fun _ _ => rfl) H
theorem u_X0_findCover_3 {vl : Nat → Nat} {x2 : Int32} {x3 : Int32} {r0 : Nat} {r1 : Nat} {z : ow_MS} {Q : ow_MS → Prop} (H : Tt (fun K k => cm_X0_findCover_3 vl K (c_X0_findCover vl K k) x2 x3 r0 r1 z) Q) : Tt (fun K k => c_X0_findCover vl K k 3 x2 x3 r0 r1 z) Q := w_un (fun _ _ => rfl) H
theorem u_X0_findCover_1 {vl : Nat → Nat} {x2 : Int32} {x3 : Int32} {r0 : Nat} {r1 : Nat} {z : ow_MS} {Q : ow_MS → Prop} (H : Tt (fun K k => cm_X0_findCover_1 vl K (c_X0_findCover vl K k) x2 x3 r0 r1 z) Q) : Tt (fun K k => c_X0_findCover vl K k 1 x2 x3 r0 r1 z) Q := w_un (fun _ _ => rfl) H
theorem tc_findCover {A : rn_L} {sg : Nat → Bool} {c h : Nat} {S : ow_NP} {G : Nat → Int32} (hh : nH h) (hJ : jnN A sg c S G) (hy : cAt y h (c, cirs A, S, G)) : Te (fun K => ce_X0_findCover vl K 41000 h y) (fun y1 => dvC y1 ∧ fr cvP y y1) := by
  let Q : ow_MS → Prop := fun y1 => dvC y1 ∧ fr cvP y y1
  obtain ⟨hA, hi, hv, hG⟩ := hJ
  have hc := hA.2.2.2.1
  have h6 := hA.2.2.2.2
  have nc := neC_cirs A
  obtain ⟨q, q1, q2, q3, R, q4, q5⟩ := iso_q hi hv
  have hk : h % 1000 = 0 ∧ h ≠ 41000 ∧ h ≠ 42000 := by
    have key : ∀ a, a ∈ nHL → a % 1000 = 0 ∧ a ≠ 41000 ∧ a ≠ 42000 := by decide
    exact key h hh
  refine e_X0_findCover ?_
  refine u_X0_findCover_0 ?_; unfold cm_X0_findCover_0
  refine w_cs0 (tc_markArcs (m := neC A) hh hy hv hc (by omega) q2 q3 q4 q5 (by omega)) ?_
  rintro y1 ⟨⟨a, n, ⟨s1, s2, s3, s4, s5⟩, n1, n2⟩, f1⟩
  have hy1 : ∀ z, fr (fun g => 41004 ≤ g ∧ g ≤ 41005 ∨ 42001 ≤ g ∧ g ≤ 42012) y1 z → cAt z h (c, cirs A, S, G) := fun z hf => cAt_fr hf (fun g hg h9 => by unfold cP at hg; omega) (cAt_fr f1 (fun g hg h9 => by unfold cP at hg; unfold arP at h9; omega) hy)
  have f1c : fr cvP y y1 := fr_mono (fun g hg => by unfold arP at hg; unfold cvP; omega) f1
  have a18 : n + cirs A ≤ 18 := by omega
  have fC : ∀ z, fr (fun g => 41004 ≤ g ∧ g ≤ 41005 ∨ 42001 ≤ g ∧ g ≤ 42012) y1 z → fr cvP y z := fun z hf => fr_tr f1c (fr_mono (fun g hg => by unfold cvP; omega) hf)
  have a2 : ∀ z, fr (fun g => 41004 ≤ g ∧ g ≤ 41005 ∨ 42001 ≤ g ∧ g ≤ 42012) y1 z → z.1 41002 = nI (n + cirs A) := fun z hf => (hf 41002 (by omega)).1.trans s5
  have ar : ∀ z v, fr (fun g => 41004 ≤ g ∧ g ≤ 41005 ∨ 42001 ≤ g ∧ g ≤ 42012) y1 z → v < 2 * c → z.2.1 41001 v = nI (a v) := fun z v hf hv2 => (congrFun (hf 41001 (by omega)).2.1 v).trans (s1 v hv2).1
  have c5 : ∀ (d x rk k : Nat) (z : ow_MS), x + d = n + cirs A + 1 → 1 ≤ x → k + (n + cirs A) ≤ 18 + x → k ≤ 18 → z.1 41005 = nI k → fr (fun g => 41004 ≤ g ∧ g ≤ 41005 ∨ 42001 ≤ g ∧ g ≤ 42012) y1 z → Tt (fun K t => c_X0_findCover vl K t 5 (nI rk) (nI x) 41000 h z) Q := by
    intro d
    induction d with
    | zero =>
      intro x rk k z hx hx1 hk1 hk2 hz hf
      refine u_X0_findCover_5 ?_; unfold cm_X0_findCover_5
      exact w_rdF (a2 z hf) (w_leT (by omega) (by omega) (w_some ⟨⟨k, hk2, hz⟩, fC z hf⟩))
    | succ d ih =>
      intro x rk k z hx hx1 hk1 hk2 hz hf
      refine u_X0_findCover_5 ?_; unfold cm_X0_findCover_5
      refine w_rdF (a2 z hf) (w_le (by omega) (by omega) (fun _ => w_some ⟨⟨k, hk2, hz⟩, fC z hf⟩) (fun h9 => w_rdF hz (w_ctJ ch_41004 rfl (show k < 18 by omega) (w_rdF (x := nI k) hz (w_wrF ?_)))))
      rw [nI_1, nI_1]
      exact ih (x + 1) rk (k + 1) _ (by omega) (by omega) (by omega) (by omega) po_usF_at (fr_F2 (fr_J2 hf (Or.inl (by omega))) (Or.inl (by omega)))
  have c4 : ∀ (rk k t : Nat) (z : ow_MS), k ≤ rk → rk ≤ n + cirs A → z.1 41005 = nI k → fr (fun g => 41004 ≤ g ∧ g ≤ 41005 ∨ 42001 ≤ g ∧ g ≤ 42012) y1 z → Tt (fun K i => c_X0_findCover vl K i 4 (nI rk) (nI t) 41000 h z) Q := by
    intro rk k t z h1 h2 hz hf
    refine u_X0_findCover_4 ?_; unfold cm_X0_findCover_4
    rw [nI_1]
    exact c5 (n + cirs A - rk) (rk + 1) rk k z (by omega) (by omega) (by omega) (by omega) hz hf
  have c2 : ∀ (d t k : Nat) (z : ow_MS), t + d = c → k ≤ t → t ≤ n + cirs A → z.1 41005 = nI k → fr (fun g => 41004 ≤ g ∧ g ≤ 41005 ∨ 42001 ≤ g ∧ g ≤ 42012) y1 z → Tt (fun K i => c_X0_findCover vl K i 2 (nI t) (nI t) 41000 h z) Q := by
    intro d
    induction d with
    | zero =>
      intro t k z ht hk1 htn hz hf
      refine u_X0_findCover_2 ?_; unfold cm_X0_findCover_2
      exact w_rdF (hy1 z hf).1 (w_leT (by omega) (by omega) (c4 t k t z hk1 htn hz hf))
    | succ d ih =>
      intro t k z ht hk1 htn hz hf
      have c3 : ∀ (k : Nat) (z : ow_MS), k ≤ t + 1 → t < n + cirs A → z.1 41005 = nI k → fr (fun g => 41004 ≤ g ∧ g ≤ 41005 ∨ 42001 ≤ g ∧ g ≤ 42012) y1 z → Tt (fun K i => c_X0_findCover vl K i 3 (nI (t + 1)) (nI t) 41000 h z) Q := by
        intro k z h1 h2 hz hf
        refine u_X0_findCover_3 ?_; unfold cm_X0_findCover_3
        rw [nI_1]
        exact ih (t + 1) k z (by omega) h1 (by omega) hz hf
      refine u_X0_findCover_2 ?_; unfold cm_X0_findCover_2
      refine w_rdF (hy1 z hf).1 (w_leF (by omega) (by omega) (w_rdF (a2 z hf) (w_le (by omega) (by omega) (fun _ => c4 t k t z hk1 htn hz hf) (fun h9 => w_rdF (hy1 z hf).1 (w_cs1 (tc_isol hc (a2 z hf) a18 (show t < c by omega) h9) ?_)))))
      rintro v z1 ⟨-, g1⟩
      have f2 := fr_tr hf (fr_mono (fun g hg => by unfold acR at hg; omega) g1)
      dsimp only at f2
      have hz1 : z1.1 41005 = nI k := (g1 41005 (by unfold acR; omega)).1.trans hz
      refine w_if (fun _ => c4 t k t z1 hk1 htn hz1 f2) (fun _ => w_crX rfl (show t < 12 by omega) (w_crJ (ch_mat (show t < 12 by omega)) rfl (show t < 18 by omega) rfl ?_))
      rw [nI_1]
      refine w_if (fun _ => c3 k z1 (by omega) h9 hz1 f2) (fun _ => w_rdF hz1 (w_crX rfl (show t < 12 by omega) (w_crJ (ch_mat (show t < 12 by omega)) rfl (show t < 18 by omega) rfl (w_ctJ ch_41004 rfl (show k < 18 by omega) (w_rdF (x := nI k) hz1 (w_wrF ?_))))))
      rw [nI_1]
      exact c3 (k + 1) _ (by omega) h9 po_usF_at (fr_F2 (fr_J2 f2 (Or.inl (by omega))) (Or.inl (by omega)))
  have c1 : ∀ (d x : Nat) (z : ow_MS), x + d = c → fr (fun g => 41004 ≤ g ∧ g ≤ 41005 ∨ 42001 ≤ g ∧ g ≤ 42012) y1 z → Tt (fun K i => c_X0_findCover vl K i 1 (nI x) 0 41000 h z) Q := by
    intro d
    induction d with
    | zero =>
      intro x z hx hf
      refine u_X0_findCover_1 ?_; unfold cm_X0_findCover_1
      exact w_rdF (hy1 z hf).1 (w_leT (by omega) (by omega) (w_wrF (c2 c 0 0 _ (by omega) (by omega) (by omega) po_usF_at (fr_F2 hf (Or.inl (by omega))))))
    | succ d ih =>
      intro x z hx hf
      have b1 := (s1 (2 * x) (by omega)).2
      have b2 := (s1 (2 * x + 1) (by omega)).2
      obtain ⟨-, v2, -, -⟩ := hv (2 * x + 1) (by omega)
      have b3 := (s1 _ v2).2
      have cx := ch_mat (vl := vl) (show x < 12 by omega)
      refine u_X0_findCover_1 ?_; unfold cm_X0_findCover_1
      refine w_rdF (hy1 z hf).1 (w_leF (by omega) (by omega) (w_crX rfl (show x < 12 by omega) (w_cs0 (tc_fillJ cx (by omega)) ?_)))
      rintro z1 ⟨-, g1⟩
      have f2 : fr (fun g => 41004 ≤ g ∧ g ≤ 41005 ∨ 42001 ≤ g ∧ g ≤ 42012) y1 z1 := fr_tr hf (fr_mono (fun g hg => by omega) g1)
      rw [rn_mul2, nI_1, nI_1]
      refine w_crX rfl (show x < 12 by omega) (w_crI ch_41001 rfl (show 2 * x < 24 by omega) (ar z1 _ f2 (by omega)) (w_crJ cx rfl (show a (2 * x) < 18 by omega) rfl (w_ctJ cx rfl (show a (2 * x) < 18 by omega) (w_crX rfl (show x < 12 by omega) (w_crI ch_41001 rfl (show 2 * x + 1 < 24 by omega) (ar _ _ (fr_J2 f2 (by omega)) (by omega)) (w_crJ cx rfl (show a (2 * x + 1) < 18 by omega) rfl (w_ctJ cx rfl (show a (2 * x + 1) < 18 by omega) (w_crX rfl (show x < 12 by omega) (w_crI (nH_2 hh) rfl (show 2 * x + 1 < 24 by omega) ((hy1 _ (fr_J2 (fr_J2 f2 (by omega)) (by omega))).2.2.2.1 (2 * x + 1)) (w_crI ch_41001 rfl (show S.2 (2 * x + 1) < 24 by omega) (ar _ _ (fr_J2 (fr_J2 f2 (by omega)) (by omega)) v2) (w_crJ cx rfl (show a (S.2 (2 * x + 1)) < 18 by omega) rfl (w_ctJ cx rfl (show a (S.2 (2 * x + 1)) < 18 by omega) ?_))))))))))))
      exact ih (x + 1) _ (by omega) (fr_J2 (fr_J2 (fr_J2 f2 (by omega)) (by omega)) (by omega))
  exact c1 c 0 y1 (by omega) fr_rf
end CFC
