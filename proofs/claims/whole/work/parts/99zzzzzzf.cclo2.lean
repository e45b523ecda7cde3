/-! the class: Net.close; closure -/
def exS (S : ow_NP) (o : Option Nat) (v : Nat) : ow_NP := match o with
  | none => S
  | some u => nl S u v
def exF (Fi : Nat → Option Nat) (k : Nat) (o : Option Nat) (v : Nat) : Nat → Option Nat := match o with
  | none => uO Fi k (some v)
  | some _ => Fi
theorem oX_D {D D' E E' : Nat → Prop} {s : Nat} {S : ow_NP} {La Fi : Nat → Option Nat} (hD : ∀ v, D v ↔ D' v) (hE : ∀ v, E v → E' v) (h : oX D E s S La Fi) : oX D' E' s S La Fi := by
  obtain ⟨h1, h2, h3, h4, h5, h6⟩ := h
  refine ⟨fun k v hk e => (hD v).mp (h1 k v hk e), fun k v hk e => (hD v).mp (h2 k v hk e), h3, h4, fun v hv hn => ?_, fun v hv hn => ?_⟩
  · obtain ⟨q1, q2, q3, q4⟩ := h5 v ((hD v).mpr hv) hn
    exact ⟨(hD _).mp q1, q2.imp id (hE v), q3, q4⟩
  · obtain ⟨q1, q2, q3⟩ := h6 v ((hD v).mpr hv) hn
    exact ⟨(hD _).mp q1, q2, q3⟩
theorem oX_step {D E : Nat → Prop} {s k v : Nat} {S : ow_NP} {La Fi : Nat → Option Nat} (h : oX D E s S La Fi) (hn : ∀ j, j < s → (La j = none ↔ Fi j = none)) (hk : k < s) (hv : ¬ D v) (hu : ∀ u, La k = some u → u / 2 < v / 2) : oX (fun w => D w ∨ w = v) E s (exS S (La k) v) (uO La k (some v)) (exF Fi k (La k) v) ∧ ∀ j, j < s → (uO La k (some v) j = none ↔ exF Fi k (La k) v j = none) := by
  cases e : La k with
  | none =>
    refine ⟨oX_new h hk hv e ((hn k hk).mp e), fun j hj => ?_⟩
    show uO La k (some v) j = none ↔ uO Fi k (some v) j = none
    by_cases ej : j = k
    · rw [ej, uO_at, uO_at]
    · rw [uO_ne ej, uO_ne ej]
      exact hn j hj
  | some u =>
    refine ⟨oX_ext h hk hv e (hu u e), fun j hj => ?_⟩
    show uO La k (some v) j = none ↔ Fi j = none
    by_cases ej : j = k
    · rw [ej, uO_at, ← hn k hk, e]
      exact ⟨fun h9 => (by cases h9), fun h9 => (by cases h9)⟩
    · rw [uO_ne ej]
      exact hn j hj
theorem lt_d : ∀ k : Fin 9, (if (0 : Int32) ≤ iI ((k.val : Int) - 4) then iI ((k.val : Int) - 4) else 0 - iI ((k.val : Int) - 4)) - 1 = iI ((((k.val : Int) - 4).natAbs : Int) - 1) ∧ (iI ((k.val : Int) - 4) ≤ 0 ↔ k.val ≤ 4) := by decide +kernel
theorem lt_b {a : Int} (h : a.natAbs ≤ 4) (h1 : 1 ≤ a.natAbs) : (if (0 : Int32) ≤ iI a then iI a else 0 - iI a) - 1 = nI (a.natAbs - 1) ∧ (iI a ≤ 0 ↔ a < 0) := by
  have h2 := lt_d ⟨(a + 4).toNat, by omega⟩
  have e : (((a + 4).toNat : Nat) : Int) - 4 = a := by omega
  dsimp only at h2
  rw [e] at h2
  refine ⟨?_, ?_⟩
  · rw [h2.1, nI_iI]
    congr 1
    omega
  · rw [h2.2]
    omega
def clR (g : Nat) : Prop := cP 4000 g ∨ g = 4004 ∨ g = 4007
section CCL
variable {vl : Nat → Nat} {y : ow_MS}
theorem e_X7_extend {vl : Nat → Nat} {r0 : Nat} {r1 : Nat} {r2 : Nat} {x3 : Int32} {x4 : Int32} {z : ow_MS} {Q : ow_MS → Prop} (H : Tt (fun K _ => cm_X7_extend_0 vl K x3 x4 r0 r1 r2 z) Q) : Te (fun K => ce_X7_extend vl K r0 r1 r2 x3 x4 z) Q := w_te0 H
theorem tc_extend {k v : Nat} {T : ow_NT} {La Fi : Nat → Option Nat} {s : Nat} (hy : cAt y 4000 T) (hk : k < s) (hs : s ≤ 5) (hv : v < 24) (h7 : ∀ j, j < s → y.2.1 4007 j = oNI (La j)) (h4 : ∀ j, j < s → y.2.1 4004 j = oNI (Fi j)) (hu : ∀ u, La k = some u → u < 24) : Te (fun K => ce_X7_extend vl K 4000 4004 4007 (nI k) (nI v) y) (fun y1 => cAt y1 4000 (ntS T (exS T.2.2.1 (La k) v)) ∧ (∀ j, j < s → y1.2.1 4004 j = oNI (exF Fi k (La k) v j)) ∧ fr (fun g => cP 4000 g ∨ g = 4004) y y1) := by
  refine e_X7_extend ?_; unfold cm_X7_extend_0
  cases e : La k with
  | none =>
    have e7 : y.2.1 4007 k = -1 := by
      rw [h7 k hk, e]
      rfl
    refine w_crI (nH_7 nH4) rfl (show k < 24 by omega) e7 (w_ifT rfl (w_ctI (nH_4 nH4) rfl (show k < 24 by omega) (w_some ⟨?_, fun j hj => ?_, fr_I (Or.inr rfl)⟩)))
    · exact cAt_fr (P := fun g => g = 4004) (fr_I rfl) (fun g hg h9 => by unfold cP at hg; omega) hy
    · show (usI y 4004 k (nI v)).2.1 4004 j = oNI (uO Fi k (some v) j)
      by_cases ej : j = k
      · rw [ej, uO_at]
        exact po_usI_at
      · rw [uO_ne ej]
        exact rd_ne ej (h4 j hj)
  | some u =>
    have hu24 := hu u e
    have e7 : y.2.1 4007 k = nI u := by
      rw [h7 k hk, e]
      rfl
    refine w_crI (nH_7 nH4) rfl (show k < 24 by omega) e7 (w_ifF (nI_nm1 (by omega)) (w_crI (nH_7 nH4) rfl (show k < 24 by omega) e7 (w_cs0 (tc_link nH4 hy hu24 hv) ?_)))
    rintro y1 ⟨g1, g2⟩
    refine w_some ⟨g1, fun j hj => ?_, fr_mono (fun g hg => Or.inl hg) g2⟩
    rw [(g2 4004 (by unfold cP; omega)).2.1]
    exact h4 j hj
theorem u_X7_close_5 {vl : Nat → Nat} {x2 : Int32} {x3 : Int32} {x4 : Int32} {x7 : Int32} {x8 : Int32} {x9 : Int32} {x10 : Int32} {x11 : Int32} {r0 : Nat} {r1 : Nat} {r5 : Nat} {r6 : Nat} {t0 : Int32} {t1 : Int32} {z : ow_MS} {Q : ow_MS → Prop} (H : Tt (fun K k => cm_X7_close_5 vl K (c_X7_close vl K k) x2 x3 x4 x7 x8 x9 x10 x11 r0 r1 r5 r6 t0 t1 z) Q) : Tt (fun K k => c_X7_close vl K k 5 x2 x3 x4 x7 x8 x9 x10 x11 r0 r1 r5 r6 t0 t1 z) Q := w_un (fun _ _ => rfl) H
theorem u_X7_close_6 {vl : Nat → Nat} {x2 : Int32} {x3 : Int32} {x4 : Int32} {x7 : Int32} {x8 : Int32} {x9 : Int32} {x10 : Int32} {x11 : Int32} {r0 : Nat} {r1 : Nat} {r5 : Nat} {r6 : Nat} {t0 : Int32} {t1 : Int32} {z : ow_MS} {Q : ow_MS → Prop} (H : Tt (fun K k => cm_X7_close_6 vl K (c_X7_close vl K k) x2 x3 x4 x7 x8 x9 x10 x11 r0 r1 r5 r6 t0 t1 z) Q) : Tt (fun K k => c_X7_close vl K k 6 x2 x3 x4 x7 x8 x9 x10 x11 r0 r1 r5 r6 t0 t1 z) Q := w_un (fun _ _ => rfl) H
theorem u_X7_close_1 {vl : Nat → Nat} {x2 : Int32} {x3 : Int32} {x4 : Int32} {x7 : Int32} {x8 : Int32} {x9 : Int32} {x10 : Int32} {x11 : Int32} {r0 : Nat} {r1 : Nat} {r5 : Nat} {r6 : Nat} {t0 : Int32} {t1 : Int32} {z : ow_MS} {Q : ow_MS → Prop} (H : Tt (fun K k => cm_X7_close_1 vl K (c_X7_close vl K k) x2 x3 x4 x7 x8 x9 x10 x11 r0 r1 r5 r6 t0 t1 z) Q) : Tt (fun K k => c_X7_close vl K k 1 x2 x3 x4 x7 x8 x9 x10 x11 r0 r1 r5 r6 t0 t1 z) Q := w_un (fun _ _ => rfl) H
theorem u_X7_close_4 {vl : Nat → Nat} {x2 : Int32} {x3 : Int32} {x4 : Int32} {x7 : Int32} {x8 : Int32} {x9 : Int32} {x10 : Int32} {x11 : Int32} {r0 : Nat} {r1 : Nat} {r5 : Nat} {r6 : Nat} {t0 : Int32} {t1 : Int32} {z : ow_MS} {Q : ow_MS → Prop} (H : Tt (fun K k => cm_X7_close_4 vl K (c_X7_close vl K k) x2 x3 x4 x7 x8 x9 x10 x11 r0 r1 r5 r6 t0 t1 z) Q) : Tt (fun K k => c_X7_close vl K k 4 x2 x3 x4 x7 x8 x9 x10 x11 r0 r1 r5 r6 t0 t1 z) Q := w_un (fun _ _ => rfl) H
theorem u_X7_close_3 {vl : Nat → Nat} {x2 : Int32} {x3 : Int32} {x4 : Int32} {x7 : Int32} {x8 : Int32} {x9 : Int32} {x10 : Int32} {x11 : Int32} {r0 : Nat} {r1 : Nat} {r5 : Nat} {r6 : Nat} {t0 : Int32} {t1 : Int32} {z : ow_MS} {Q : ow_MS → Prop} (H : Tt (fun K k => cm_X7_close_3 vl K (c_X7_close vl K k) x2 x3 x4 x7 x8 x9 x10 x11 r0 r1 r5 r6 t0 t1 z) Q) : Tt (fun K k => c_X7_close vl K k 3 x2 x3 x4 x7 x8 x9 x10 x11 r0 r1 r5 r6 t0 t1 z) Q := w_un (fun _ _ => rfl) H
theorem u_X7_close_2 {vl : Nat → Nat} {x2 : Int32} {x3 : Int32} {x4 : Int32} {x7 : Int32} {x8 : Int32} {x9 : Int32} {x10 : Int32} {x11 : Int32} {r0 : Nat} {r1 : Nat} {r5 : Nat} {r6 : Nat} {t0 : Int32} {t1 : Int32} {z : ow_MS} {Q : ow_MS → Prop} (H : Tt (fun K k => cm_X7_close_2 vl K (c_X7_close vl K k) x2 x3 x4 x7 x8 x9 x10 x11 r0 r1 r5 r6 t0 t1 z) Q) : Tt (fun K k => c_X7_close vl K k 2 x2 x3 x4 x7 x8 x9 x10 x11 r0 r1 r5 r6 t0 t1 z) Q := w_un (fun _ _ => rfl) H
theorem e_X7_close {vl : Nat → Nat} {r0 : Nat} {r1 : Nat} {x2 : Int32} {x3 : Int32} {x4 : Int32} {z : ow_MS} {Q : ow_MS → Prop} (H : Tt (fun K k => c_X7_close vl K k 0 x2 x3 x4 0 0 0 0 0 r0 r1 0 0 0 0 z) Q) : Te (fun K => ce_X7_close vl K r0 r1 x2 x3 x4 z) Q := w_te H
theorem u_X7_close_0 {vl : Nat → Nat} {x2 : Int32} {x3 : Int32} {x4 : Int32} {x7 : Int32} {x8 : Int32} {x9 : Int32} {x10 : Int32} {x11 : Int32} {r0 : Nat} {r1 : Nat} {r5 : Nat} {r6 : Nat} {t0 : Int32} {t1 : Int32} {z : ow_MS} {Q : ow_MS → Prop} (H : Tt (fun K k => cm_X7_close_0 vl K (c_X7_close vl K k) x2 x3 x4 x7 x8 x9 x10 x11 r0 r1 r5 r6 t0 t1 z) Q) : Tt (fun K k => c_X7_close vl K k 0 x2 x3 x4 x7 x8 x9 x10 x11 r0 r1 r5 r6 t0 t1 z) Q := w_un (fun _ _ => rfl) H
theorem tc_close {T : ow_NT} {b n l : Nat} (hT : cAt y 4000 T) (hb : ow_b24 T.2.2.1) (hb20 : b < 20) (hn : 2 ≤ n) (hn5 : n ≤ 5) (hl : l ≤ 12) (hw : wdB y b n l) : Te (fun K => ce_X7_close vl K 4000 13 (nI (16 * b)) (nI l) (nI n) y) (fun y1 => (∃ T1, cAt y1 4000 T1 ∧ nv T1) ∧ fr clR y y1) := by
  let Q : ow_MS → Prop := fun y1 => (∃ T1, cAt y1 4000 T1 ∧ nv T1) ∧ fr clR y y1
  have hw2 : ∀ {z : ow_MS}, fr clR y z → wdB z b n l := fun hf i hi => by
    rw [(hf 13 (by unfold clR cP; omega)).2.1]
    exact hw i hi
  -- the strands closed
  have c5 : ∀ (La0 : Nat → Option Nat) (d k : Nat) (z : ow_MS) (S : ow_NP) (G : Nat → Int32) (ci : Nat) (La Fi : Nat → Option Nat), k + d = n → fr clR y z → cAt z 4000 (l, ci, S, G) → ow_b24 S → oX (fun v => v < 2 * l) (fun v => ∃ k, k < n ∧ La0 k = some v) n S La Fi → (∀ j, j < n → (La j = none ↔ Fi j = none)) → (∀ j, j < k → La j = none) → (∀ j, k ≤ j → La j = La0 j) → (∀ j, k ≤ j → j < n → z.2.1 4007 j = oNI (La j)) → (∀ j, k ≤ j → j < n → z.2.1 4004 j = oNI (Fi j)) → ci + cntB (fun k => (La0 k).isSome) k = k → Tt (fun K t => c_X7_close vl K t 5 (nI (16 * b)) (nI l) (nI n) (nI k) 0 0 0 0 4000 13 4004 4007 0 0 z) Q := by
    intro La0 d
    induction d with
    | zero =>
      intro k z S G ci La Fi hk hf h1 h2 h3 h4 h5 h6 h7 h8 h9
      have e : k = n := by omega
      subst e
      obtain ⟨q1, q2⟩ := oX_vn hl h3 h5 (fun j hj => (h4 j hj).mp (h5 j hj))
      refine u_X7_close_5 ?_; unfold cm_X7_close_5
      refine w_leT (by omega) (by omega) (w_some ⟨⟨_, h1, q1, hl, h2, ?_⟩, hf⟩)
      show np_rg l S + ci ≤ 6
      omega
    | succ d ih =>
      intro k z S G ci La Fi hk hf h1 h2 h3 h4 h5 h6 h7 h8 h9
      have hcs : cntB (fun k => (La0 k).isSome) (k + 1) = cntB (fun k => (La0 k).isSome) k + (if (La0 k).isSome = true then 1 else 0) := rfl
      refine u_X7_close_5 ?_; unfold cm_X7_close_5
      refine w_leF (by omega) (by omega) ?_
      cases e : La k with
      | none =>
        have e7 : z.2.1 4007 k = -1 := by
          rw [h7 k (Nat.le_refl _) (by omega), e]
          rfl
        have e0 : La0 k = none := by rw [← h6 k (Nat.le_refl _)]; exact e
        refine w_crI (nH_7 nH4) rfl (show k < 24 by omega) e7 (w_ifT rfl (w_rdF h1.2.1 (w_wrF ?_)))
        refine u_X7_close_6 ?_; unfold cm_X7_close_6
        rw [nI_1 k]
        refine ih (k + 1) _ S G (ci + 1) La Fi (by omega) (fr_F2 hf (by unfold clR cP; omega)) ⟨rf_ot (by omega) h1.1, po_usF_at.trans (nI_1 _), h1.2.2⟩ h2 h3 h4 (fun j hj => ?_) (fun j hj => h6 j (by omega)) (fun j hj => h7 j (by omega)) (fun j hj => h8 j (by omega)) ?_
        · by_cases ej : j = k
          · rw [ej]
            exact e
          · exact h5 j (by omega)
        · rw [hcs, e0]
          show ci + 1 + (_ + 0) = k + 1
          omega
      | some u =>
        have e7 : z.2.1 4007 k = nI u := by
          rw [h7 k (Nat.le_refl _) (by omega), e]
          rfl
        have e0 : La0 k = some u := by rw [← h6 k (Nat.le_refl _)]; exact e
        obtain ⟨w, ew⟩ : ∃ w, Fi k = some w := by
          cases e9 : Fi k with
          | none =>
            have := (h4 k (by omega)).mpr e9
            rw [e] at this
            cases this
          | some w => exact ⟨w, rfl⟩
        have e4 : z.2.1 4004 k = nI w := by
          rw [h8 k (Nat.le_refl _) (by omega), ew]
          rfl
        have hu : u < 2 * l := h3.1 k u (by omega) e
        have hw9 : w < 2 * l := h3.2.1 k w (by omega) ew
        refine w_crI (nH_7 nH4) rfl (show k < 24 by omega) e7 (w_ifF (nI_nm1 (by omega)) (w_crI (nH_7 nH4) rfl (show k < 24 by omega) e7 (w_crI (nH_4 nH4) rfl (show k < 24 by omega) e4 (w_cs0 (tc_link nH4 h1 (show u < 24 by omega) (show w < 24 by omega)) ?_))))
        rintro z1 ⟨g1, g2⟩
        refine u_X7_close_6 ?_; unfold cm_X7_close_6
        rw [nI_1 k]
        refine ih (k + 1) z1 (nl S u w) G ci (uO La k none) (uO Fi k none) (by omega) (fr_tr hf (fr_mono (fun g hg => Or.inl hg) g2)) g1 (nl_b24 h2 (by omega) (by omega)) (oX_close h3 (by omega) e ew ⟨k, by omega, e0⟩) (fun j hj => ?_) (fun j hj => ?_) (fun j hj => ?_) (fun j hj hj2 => ?_) (fun j hj hj2 => ?_) ?_
        · by_cases ej : j = k
          · rw [ej, uO_at, uO_at]
          · rw [uO_ne ej, uO_ne ej]
            exact h4 j hj
        · by_cases ej : j = k
          · rw [ej, uO_at]
          · rw [uO_ne ej]
            exact h5 j (by omega)
        · rw [uO_ne (by omega)]
          exact h6 j (by omega)
        · rw [uO_ne (by omega), (g2 4007 (by unfold cP; omega)).2.1]
          exact h7 j (by omega) hj2
        · rw [uO_ne (by omega), (g2 4004 (by unfold cP; omega)).2.1]
          exact h8 j (by omega) hj2
        · rw [hcs, e0]
          show ci + (_ + 1) = k + 1
          omega
  -- letter after letter
  have c1 : ∀ (d i : Nat) (z : ow_MS) (S : ow_NP) (G : Nat → Int32) (La Fi : Nat → Option Nat), i + d = l → fr clR y z → cAt z 4000 (i, 0, S, G) → ow_b24 S → oX (fun v => v < 2 * i) (fun _ => False) n S La Fi → (∀ j, j < n → (La j = none ↔ Fi j = none)) → (∀ j, j < n → z.2.1 4007 j = oNI (La j)) → (∀ j, j < n → z.2.1 4004 j = oNI (Fi j)) → Tt (fun K t => c_X7_close vl K t 1 (nI (16 * b)) (nI l) (nI n) (nI i) 0 0 0 0 4000 13 4004 4007 0 0 z) Q := by
    intro d
    induction d with
    | zero =>
      intro i z S G La Fi hi hf h1 h2 h3 h4 h5 h6
      have e : i = l := by omega
      subst e
      refine u_X7_close_1 ?_; unfold cm_X7_close_1
      refine w_leT (by omega) (by omega) ?_
      refine u_X7_close_4 ?_; unfold cm_X7_close_4
      exact c5 La n 0 z S G 0 La Fi (by omega) hf h1 h2 (oX_D (fun _ => Iff.rfl) (fun _ h => h.elim) h3) h4 (fun j hj => absurd hj (Nat.not_lt_zero _)) (fun _ _ => rfl) (fun j _ hj => h5 j hj) (fun j _ hj => h6 j hj) rfl
    | succ d ih =>
      intro i z S G La Fi hi hf h1 h2 h3 h4 h5 h6
      obtain ⟨a, a1, a2, a3⟩ := hw2 hf i (by omega)
      obtain ⟨p1, p2⟩ := lt_b (a := a) (by omega) a2
      have c3 : ∀ (z1 : ow_MS) (S1 : ow_NP) (La1 Fi1 : Nat → Option Nat) (x8 x9 x10 x11 t0 : Int32), fr clR y z1 → cAt z1 4000 (i, 0, S1, G) → ow_b24 S1 → oX (fun v => v < 2 * (i + 1)) (fun _ => False) n S1 La1 Fi1 → (∀ j, j < n → (La1 j = none ↔ Fi1 j = none)) → (∀ j, j < n → z1.2.1 4007 j = oNI (La1 j)) → (∀ j, j < n → z1.2.1 4004 j = oNI (Fi1 j)) → Tt (fun K t => c_X7_close vl K t 3 (nI (16 * b)) (nI l) (nI n) (nI i) x8 x9 x10 x11 4000 13 4004 4007 t0 (nI i) z1) Q := by
        intro z1 S1 La1 Fi1 x8 x9 x10 x11 t0 q1 q2 q3 q4 q5 q6 q7
        obtain ⟨s1, s2, s3, s4, s5⟩ := q2
        refine u_X7_close_3 ?_; unfold cm_X7_close_3
        refine w_ctI (nH_3 nH4) rfl (show i < 12 by omega) (w_rdF (x := nI i) s1 (w_wrF ?_))
        rw [nI_1]
        refine ih (i + 1) _ S1 (su G i t0) La1 Fi1 (by omega) (fr_F2 (fr_I2 q1 (by unfold clR cP; omega)) (by unfold clR cP; omega)) ⟨po_usF_at, ?_, fun v => ?_, fun v => ?_, fun v => ?_⟩ q3 q4 q5 (fun j hj => ?_) (fun j hj => ?_)
        · exact rf_ot (by omega) s2
        · exact rd_ot (by omega) (s3 v)
        · exact rd_ot (by omega) (s4 v)
        · show (usI z1 4003 i t0).2.1 4003 v = su G i t0 v
          by_cases ev : v = i
          · rw [ev]
            exact po_usI_at.trans (if_pos rfl).symm
          · rw [show su G i t0 v = G v from if_neg ev]
            exact rd_ne ev (s5 v)
        · exact rd_ot (by omega) (q6 j hj)
        · exact rd_ot (by omega) (q7 j hj)
      have c2 : ∀ r : Nat, (r = 2 * i ∨ r = 2 * i + 1) → Tt (fun K t => c_X7_close vl K t 2 (nI (16 * b)) (nI l) (nI n) (nI i) (iI a) (nI (a.natAbs - 1)) 0 0 4000 13 4004 4007 (nI r) 0 z) Q := by
        intro r hr
        have hr24 : r < 24 := by omega
        have hm : (r = 2 * i ∧ mt r = 2 * i + 1) ∨ (r = 2 * i + 1 ∧ mt r = 2 * i) := by
          unfold mt
          rcases hr with e | e
          · exact Or.inl ⟨e, by rw [if_pos (by omega)]; omega⟩
          · exact Or.inr ⟨e, by rw [if_neg (by omega)]; omega⟩
        have hm24 : mt r < 24 := by omega
        generalize hj : a.natAbs - 1 = j
        have hjn : j + 1 < n := by omega
        have hlt : ∀ k u, k < n → La k = some u → u < 2 * i := fun k u hk e => h3.1 k u hk e
        obtain ⟨o1, o2⟩ := oX_step (k := j) (v := r) h3 h4 (by omega) (by omega) (fun u e => by have := hlt j u (by omega) e; omega)
        have eL : uO La j (some r) (j + 1) = La (j + 1) := uO_ne (by omega)
        obtain ⟨o3, o4⟩ := oX_step (k := j + 1) (v := mt r) o1 o2 hjn (by intro h9; rcases h9 with h9 | h9 <;> omega) (fun u e => by
          rw [eL] at e
          have := hlt (j + 1) u hjn e
          omega)
        rw [eL] at o3 o4
        have hb1 : ow_b24 (exS S (La j) r) := by
          cases e : La j with
          | none => exact h2
          | some u => exact nl_b24 h2 (by have := hlt j u (by omega) e; omega) hr24
        have hb2 : ow_b24 (exS (exS S (La j) r) (La (j + 1)) (mt r)) := by
          cases e : La (j + 1) with
          | none => exact hb1
          | some u => exact nl_b24 hb1 (by have := hlt (j + 1) u hjn e; omega) hm24
        refine u_X7_close_2 ?_; unfold cm_X7_close_2
        rw [nI_1, xor1 ⟨r, hr24⟩]
        refine w_cs0 (tc_extend (s := n) h1 (show j < n by omega) hn5 hr24 h5 h6 (fun u e => by have := hlt j u (by omega) e; omega)) ?_
        rintro z1 ⟨g1, g2, g3⟩
        have h51 : ∀ k, k < n → z1.2.1 4007 k = oNI (La k) := fun k hk => by
          rw [(g3 4007 (by unfold cP; omega)).2.1]
          exact h5 k hk
        refine w_cs0 (tc_extend (s := n) g1 hjn hn5 hm24 h51 g2 (fun u e => by have := hlt (j + 1) u hjn e; omega)) ?_
        rintro z2 ⟨g4, g5, g6⟩
        have hf2 : fr clR y z2 := fr_tr hf (fr_tr (fr_mono (fun g hg => hg.elim Or.inl (fun h9 => Or.inr (Or.inl h9))) g3) (fr_mono (fun g hg => hg.elim Or.inl (fun h9 => Or.inr (Or.inl h9))) g6))
        have h52 : ∀ k, k < n → z2.2.1 4007 k = oNI (La k) := fun k hk => by
          rw [(g6 4007 (by unfold cP; omega)).2.1]
          exact h51 k hk
        have hsw := oX_swap (j := j) (a := some (mt r)) (b := some r) o3 hjn (by rw [uO_ne (by omega), uO_at]) uO_at
        refine w_ctI (nH_7 nH4) rfl (show j < 24 by omega) (w_ctI (nH_7 nH4) rfl (show j + 1 < 24 by omega) ?_)
        have fin : ∀ t0 : Int32, Tt (fun K t => c_X7_close vl K t 3 (nI (16 * b)) (nI l) (nI n) (nI i) (iI a) (nI j) (nI r) (nI (mt r)) 4000 13 4004 4007 t0 (nI i) (usI (usI z2 4007 j (nI (mt r))) 4007 (j + 1) (nI r))) Q := by
          intro t0
          refine c3 _ (exS (exS S (La j) r) (La (j + 1)) (mt r)) _ _ _ _ _ _ t0 (fr_I2 (fr_I2 hf2 (by unfold clR; omega)) (by unfold clR; omega)) ?_ hb2 (oX_D (fun v => ?_) (fun _ h => h) hsw) (fun k hk => ?_) (fun k hk => ?_) (fun k hk => ?_)
          · exact cAt_fr (P := fun g => g = 4007) (fr_I2 (fr_I rfl) rfl) (fun g hg h9 => by unfold cP at hg; omega) g4
          · show ((v < 2 * i ∨ v = r) ∨ v = mt r) ↔ v < 2 * (i + 1)
            omega
          · have := o4 k hk
            by_cases e1 : k = j + 1
            · rw [e1, uO_at]
              have h9 := o4 (j + 1) hjn
              rw [uO_at] at h9
              exact ⟨fun h => (by cases h), fun h => absurd (h9.mpr h) (by intro h; cases h)⟩
            · rw [uO_ne e1]
              by_cases e2 : k = j
              · rw [e2, uO_at]
                have h9 := o4 j (by omega)
                rw [uO_ne (by omega), uO_at] at h9
                exact ⟨fun h => (by cases h), fun h => absurd (h9.mpr h) (by intro h; cases h)⟩
              · rw [uO_ne e2]
                exact this
          · by_cases e1 : k = j + 1
            · rw [e1, uO_at]
              exact po_usI_at
            · rw [uO_ne e1]
              by_cases e2 : k = j
              · rw [e2, uO_at]
                exact rd_ne (by omega) po_usI_at
              · rw [uO_ne e2, uO_ne e1, uO_ne e2]
                exact rd_ne e1 (rd_ne e2 (h52 k hk))
          · exact rd_ot (by omega) (rd_ot (by omega) (g5 k hk))
        exact w_if (fun _ => fin (-1)) (fun _ => fin 1)
      refine u_X7_close_1 ?_; unfold cm_X7_close_1
      rw [nI_add, show (2 : Int32) * nI i = nI (2 * i) from pk_mul 2 _, nI_1]
      refine w_leF (by omega) (by omega) (w_leF (a := 12) (by omega) (by omega) (w_crI ch_13 rfl (show 16 * b + i < 320 by omega) a1 ?_))
      rw [p1]
      exact w_if (fun _ => c2 (2 * i + 1) (Or.inr rfl)) (fun _ => c2 (2 * i) (Or.inl rfl))
  refine e_X7_close ?_
  refine u_X7_close_0 ?_; unfold cm_X7_close_0
  refine w_cs0 (tc_fill (a := 0) (b := n) (nH_4 nH4) (Nat.zero_le _) (show n ≤ 24 by omega) (by omega)) ?_
  rintro z1 ⟨a1, a2⟩
  refine w_cs0 (tc_fill (a := 0) (b := n) (nH_7 nH4) (Nat.zero_le _) (show n ≤ 24 by omega) (by omega)) ?_
  rintro z2 ⟨b1, b2⟩
  have t2 : cAt z2 4000 T := cAt_fr b2 (fun g hg h9 => by unfold cP at hg; omega) (cAt_fr a2 (fun g hg h9 => by unfold cP at hg; omega) hT)
  refine w_cs0 (tc_empty t2) ?_
  rintro z3 ⟨d1, d2⟩
  refine c1 l 0 z3 T.2.2.1 T.2.2.2 (fun _ => none) (fun _ => none) (by omega) (fr_tr (fr_mono (fun g hg => by rw [hg]; unfold clR; omega) a2) (fr_tr (fr_mono (fun g hg => by rw [hg]; unfold clR; omega) b2) (fr_mono (fun g hg => Or.inl hg) d2))) d1 hb ⟨fun k v _ e => (by cases e), fun k v _ e => (by cases e), fun k k' v _ _ e => (by cases e), fun k k' v _ _ e => (by cases e), fun v hv => absurd hv (Nat.not_lt_zero _), fun v hv => absurd hv (Nat.not_lt_zero _)⟩ (fun _ _ => Iff.rfl) (fun j hj => ?_) (fun j hj => ?_)
  · rw [(d2 4007 (by unfold cP; omega)).2.1, b1 j, if_pos ⟨Nat.zero_le _, hj⟩]
    rfl
  · rw [(d2 4004 (by unfold cP; omega)).2.1, (b2 4004 (by omega)).2.1, a1 j, if_pos ⟨Nat.zero_le _, hj⟩]
    rfl
theorem e_X11_closure {vl : Nat → Nat} {r0 : Nat} {x1 : Int32} {z : ow_MS} {Q : (Nat × Int32 × ow_MS) → Prop} (H : Tt (fun K _ => cm_X11_closure_0 vl K x1 r0 z) Q) : Te (fun K => ce_X11_closure vl K r0 x1 z) Q := w_te0 H
theorem tc_closure {x : Int32} (hM : gM y) (hB : brC y) : Te (fun K => ce_X11_closure vl K 0 x y) (fun r => gM r.2.2 ∧ brC r.2.2 ∧ fr uP y r.2.2) := by
  refine e_X11_closure ?_; unfold cm_X11_closure_0
  refine w_tc0 (tc_needBraid (brC_E hB)) ?_ ?_
  · rintro y1 ⟨h1, rfl⟩
    rcases h1 with ⟨-, hb⟩ | h1
    · obtain ⟨b, n, l, hb20, rfl, hn2, hn5, e15, l16, e14, hw⟩ := isB_w hB hb
      refine w_crI ch_14 rfl hb20 e14 (w_le (b := 12) (by omega) (by omega) (fun h12 => ?_) (fun _ => w_some ⟨hM, hB, fr_rf⟩))
      refine w_tc1 (tc_freeDiagram (dgC_E hM.1.1)) ?_ ?_
      · rintro v y2 ⟨h2, rfl⟩
        rcases h2 with ⟨e, he, -, rfl, -, -⟩ | h2
        · obtain ⟨T, t1, t2⟩ := hM.1.2.1 4000 nH4
          refine w_crI ch_14 rfl hb20 e14 (w_crI ch_15 rfl hb20 e15 ?_)
          rw [m16]
          refine w_cs0 (tc_close t1 t2 hb20 hn2 hn5 h12 hw) ?_
          rintro y3 ⟨⟨T1, g1, g2⟩, f3⟩
          have hN3 : gN y3 := gN_net nH4 f3 (fun g hg => by unfold clR cP at hg; omega) ⟨T1, g1, g2.2.2.1⟩ hM.1
          have f3u : fr uP y2 y3 := fr_mono (fun g hg => by unfold clR cP at hg; unfold uP; omega) f3
          refine w_cs1 (tc_keep hN3 he g1 g2) ?_
          rintro r y4 ⟨-, q1, q2, -⟩
          have f4 : fr uP y2 y4 := fr_tr f3u q2
          exact w_some ⟨gM_u f4 q1 hM, brC_fr f4 (by unfold uP; omega) hB, f4⟩
        · exact absurd (show (0 : Nat) = 3 from h2.1) (by decide)
      · rintro a v y2 ha ⟨h2, rfl⟩
        exact w_some ⟨hM, hB, fr_rf⟩
    · exact absurd (show (0 : Nat) = 1 from h1.1) (by decide)
  · rintro a y1 ha ⟨h1, rfl⟩
    exact w_some ⟨hM, hB, fr_rf⟩
end CCL
