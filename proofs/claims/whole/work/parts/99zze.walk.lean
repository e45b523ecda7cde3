/-! the reference's nets: walk (its faces are counted), isCircle, isPlane -/
theorem rn_nx_lt {A : rn_L} {v : Nat} (hv : v < A.flatten.length) : rn_nx A v < A.flatten.length := by
  obtain ⟨h1, h2, h3⟩ := rn_c_in A v hv
  have h4 := rn_b_le A (rn_c A v + 1)
  unfold rn_nx
  by_cases h : v + 1 < rn_b A (rn_c A v + 1)
  · rw [if_pos h]; omega
  · rw [if_neg h]; omega
theorem rn_pv_lt {A : rn_L} {v : Nat} (hv : v < A.flatten.length) : rn_pv A v < A.flatten.length := by
  obtain ⟨h1, h2, h3⟩ := rn_c_in A v hv
  have h4 := rn_b_le A (rn_c A v + 1)
  unfold rn_pv
  by_cases h : rn_b A (rn_c A v) < v
  · rw [if_pos h]; omega
  · rw [if_neg h]; omega
theorem rn_and1 {a : Nat} (ha : a < 2 ^ 31) : nI a &&& 1 = nI (a % 2) := pk_andN (n := a) (by omega) (m := 1) 1 (by decide)
theorem rn_shr1 {a : Nat} (ha : a < 2 ^ 31) : nI a >>> ((1 : Int32) &&& 31) = nI (a / 2) := pk_shrN (n := a) ha ((1 : Int32) &&& 31) 1 (by decide)
theorem rn_mul2 {a : Nat} : 2 * nI a = nI (2 * a) := pk_mul 2 a
def cE (M : Nat → Int32) (x : Int32) : Nat → Nat
  | 0 => 0
  | n + 1 => cE M x n + if M n = x then 1 else 0
theorem cE_ge {M : Nat → Int32} {b : Nat} {x y : Int32} : ∀ n, n ≤ b → cE (upd M b y) x n = cE M x n
  | 0, _ => rfl
  | n + 1, h => by
    unfold cE
    rw [cE_ge n (by omega), pk_un (by omega)]
theorem cE_up {M : Nat → Int32} {b : Nat} {x : Int32} (hM : M b ≠ x) : ∀ n, b < n → cE (upd M b x) x n = cE M x n + 1
  | 0, h => by omega
  | n + 1, h => by
    unfold cE
    by_cases hb : b = n
    · subst hb
      rw [cE_ge b (Nat.le_refl _), pk_us, if_pos rfl, if_neg hM]
    · have := cE_up hM n (by omega)
      rw [pk_un (fun e => hb e.symm)]
      omega
theorem cE_ne {M : Nat → Int32} {b : Nat} {x y : Int32} (hM : M b ≠ x) (hy : y ≠ x) : ∀ n, cE (upd M b y) x n = cE M x n
  | 0 => rfl
  | n + 1 => by
    unfold cE
    rw [cE_ne hM hy n]
    by_cases hb : n = b
    · rw [hb, pk_us, if_neg hy, if_neg hM]
    · rw [pk_un hb]
theorem cE_zero {M : Nat → Int32} {x : Int32} : ∀ n, (∀ s, s < n → M s ≠ x) → cE M x n = 0
  | 0, _ => rfl
  | n + 1, h => by
    unfold cE
    rw [cE_zero n (fun s hs => h s (by omega)), if_neg (h n (by omega))]
theorem cE_le {M : Nat → Int32} {x : Int32} : ∀ n, cE M x n ≤ n
  | 0 => Nat.le_refl _
  | n + 1 => by
    have := cE_le (M := M) (x := x) n
    unfold cE
    by_cases h : M n = x
    · rw [if_pos h]; omega
    · rw [if_neg h]; omega
/-- the faces of a net with V visits -/
def rn_fc (z : ow_MS) (n V F : Nat) : Prop := z.1 (n + 16) = nI F ∧ F ≤ 2 * V ∧ (∀ s, s < 2 * V → ∃ f, f < F ∧ z.2.1 (n + 14) s = nI f) ∧ ∀ f, f < F → z.2.1 (n + 15) f = nI (cE (z.2.1 (n + 14)) (nI f) (2 * V))
abbrev frW (n g : Nat) : Prop := g = n + 14 ∨ g = n + 15 ∨ g = n + 16
def wkI (V f : Nat) (M S : Nat → Int32) : Prop := (∀ s, s < 2 * V → M s = -1 ∨ ∃ f', f' < f + 1 ∧ M s = nI f') ∧ ∀ f', f' < f + 1 → S f' = nI (cE M (nI f') (2 * V))
def wkO (V f : Nat) (M S : Nat → Int32) : Prop := (∀ s, s < 2 * V → M s = -1 ∨ ∃ f', f' < f ∧ M s = nI f') ∧ ∀ f', f' < f → S f' = nI (cE M (nI f') (2 * V))
theorem wkI_0 {V f : Nat} {M S : Nat → Int32} (hf : f < 2 ^ 30) (h : wkO V f M S) : wkI V f M (upd S f 0) := by
  refine ⟨fun s hs => (h.1 s hs).imp id (fun ⟨f', h1, h2⟩ => ⟨f', by omega, h2⟩), fun f' hf' => ?_⟩
  by_cases he : f' = f
  · rw [he, pk_us, cE_zero]
    · rfl
    · intro s hs e
      rcases h.1 s hs with h1 | ⟨f9, h1, h2⟩
      · rw [e] at h1
        exact rn_neg1 (by omega) h1
      · rw [e] at h2
        have := (nI_eq (by omega) (by omega)).mp h2
        omega
  · rw [pk_un he]
    exact h.2 f' (by omega)
theorem wkI_st {V f a : Nat} {M S : Nat → Int32} (hf : f < 2 ^ 30) (ha : a < 2 * V) (hM : M a = -1) (h : wkI V f M S) : wkI V f (upd M a (nI f)) (upd S f (S f + 1)) := by
  refine ⟨fun s hs => ?_, fun f' hf' => ?_⟩
  · by_cases he : s = a
    · rw [he, pk_us]
      exact Or.inr ⟨f, by omega, rfl⟩
    · rw [pk_un he]
      exact h.1 s hs
  · have hne : ∀ f9, f9 < f + 1 → M a ≠ nI f9 := fun f9 h9 e => rn_neg1 (v := f9) (by omega) (e.symm.trans hM)
    by_cases he : f' = f
    · rw [he, pk_us, cE_up (hne f (by omega)) _ ha, h.2 f (by omega)]
      exact nI_1 _
    · rw [pk_un he, cE_ne (hne f' hf') (fun e => he ((nI_eq (by omega) (by omega)).mp e).symm)]
      exact h.2 f' hf'
theorem u_X12_walk_9 {x1 : Int32} {x2 : Int32} {x3 : Int32} {x4 : Int32} {x5 : Int32} {x6 : Int32} {r0 : Nat} {t0 : Int32} {z : ow_MS} {Q : ow_MS → Prop} (H : Tt (fun K k => qm_X12_walk_9 K (q_X12_walk K k) x1 x2 x3 x4 x5 x6 r0 t0 z) Q) : Tt (fun K k => q_X12_walk K k 9 x1 x2 x3 x4 x5 x6 r0 t0 z) Q := w_un (fun _ _ => rfl) H
theorem u_X12_walk_10 {x1 : Int32} {x2 : Int32} {x3 : Int32} {x4 : Int32} {x5 : Int32} {x6 : Int32} {r0 : Nat} {t0 : Int32} {z : ow_MS} {Q : ow_MS → Prop} (H : Tt (fun K k => qm_X12_walk_10 K (q_X12_walk K k) x1 x2 x3 x4 x5 x6 r0 t0 z) Q) : Tt (fun K k => q_X12_walk K k 10 x1 x2 x3 x4 x5 x6 r0 t0 z) Q := w_un (fun _ _ => rfl) H
theorem u_X12_walk_8 {x1 : Int32} {x2 : Int32} {x3 : Int32} {x4 : Int32} {x5 : Int32} {x6 : Int32} {r0 : Nat} {t0 : Int32} {z : ow_MS} {Q : ow_MS → Prop} (H : Tt (fun K k => qm_X12_walk_8 K (q_X12_walk K k) x1 x2 x3 x4 x5 x6 r0 t0 z) Q) : Tt (fun K k => q_X12_walk K k 8 x1 x2 x3 x4 x5 x6 r0 t0 z) Q := w_un (fun _ _ => rfl) H
theorem u_X12_walk_6 {x1 : Int32} {x2 : Int32} {x3 : Int32} {x4 : Int32} {x5 : Int32} {x6 : Int32} {r0 : Nat} {t0 : Int32} {z : ow_MS} {Q : ow_MS → Prop} (H : Tt (fun K k => qm_X12_walk_6 K (q_X12_walk K k) x1 x2 x3 x4 x5 x6 r0 t0 z) Q) : Tt (fun K k => q_X12_walk K k 6 x1 x2 x3 x4 x5 x6 r0 t0 z) Q := w_un (fun _ _ => rfl) H
theorem u_X12_walk_7 {x1 : Int32} {x2 : Int32} {x3 : Int32} {x4 : Int32} {x5 : Int32} {x6 : Int32} {r0 : Nat} {t0 : Int32} {z : ow_MS} {Q : ow_MS → Prop} (H : Tt (fun K k => qm_X12_walk_7 K (q_X12_walk K k) x1 x2 x3 x4 x5 x6 r0 t0 z) Q) : Tt (fun K k => q_X12_walk K k 7 x1 x2 x3 x4 x5 x6 r0 t0 z) Q := w_un (fun _ _ => rfl) H
theorem u_X12_walk_5 {x1 : Int32} {x2 : Int32} {x3 : Int32} {x4 : Int32} {x5 : Int32} {x6 : Int32} {r0 : Nat} {t0 : Int32} {z : ow_MS} {Q : ow_MS → Prop} (H : Tt (fun K k => qm_X12_walk_5 K (q_X12_walk K k) x1 x2 x3 x4 x5 x6 r0 t0 z) Q) : Tt (fun K k => q_X12_walk K k 5 x1 x2 x3 x4 x5 x6 r0 t0 z) Q := w_un (fun _ _ => rfl) H
theorem u_X12_walk_4 {x1 : Int32} {x2 : Int32} {x3 : Int32} {x4 : Int32} {x5 : Int32} {x6 : Int32} {r0 : Nat} {t0 : Int32} {z : ow_MS} {Q : ow_MS → Prop} (H : Tt (fun K k => qm_X12_walk_4 K (q_X12_walk K k) x1 x2 x3 x4 x5 x6 r0 t0 z) Q) : Tt (fun K k => q_X12_walk K k 4 x1 x2 x3 x4 x5 x6 r0 t0 z) Q := w_un (fun _ _ => rfl) H
theorem u_X12_walk_3 {x1 : Int32} {x2 : Int32} {x3 : Int32} {x4 : Int32} {x5 : Int32} {x6 : Int32} {r0 : Nat} {t0 : Int32} {z : ow_MS} {Q : ow_MS → Prop} (H : Tt (fun K k => qm_X12_walk_3 K (q_X12_walk K k) x1 x2 x3 x4 x5 x6 r0 t0 z) Q) : Tt (fun K k => q_X12_walk K k 3 x1 x2 x3 x4 x5 x6 r0 t0 z) Q := w_un (fun _ _ => rfl) H
theorem u_X12_walk_2 {x1 : Int32} {x2 : Int32} {x3 : Int32} {x4 : Int32} {x5 : Int32} {x6 : Int32} {r0 : Nat} {t0 : Int32} {z : ow_MS} {Q : ow_MS → Prop} (H : Tt (fun K k => qm_X12_walk_2 K (q_X12_walk K k) x1 x2 x3 x4 x5 x6 r0 t0 z) Q) : Tt (fun K k => q_X12_walk K k 2 x1 x2 x3 x4 x5 x6 r0 t0 z) Q := w_un (fun _ _ => rfl) H
theorem u_X12_walk_11 {x1 : Int32} {x2 : Int32} {x3 : Int32} {x4 : Int32} {x5 : Int32} {x6 : Int32} {r0 : Nat} {t0 : Int32} {z : ow_MS} {Q : ow_MS → Prop} (H : Tt (fun K k => qm_X12_walk_11 K (q_X12_walk K k) x1 x2 x3 x4 x5 x6 r0 t0 z) Q) : Tt (fun K k => q_X12_walk K k 11 x1 x2 x3 x4 x5 x6 r0 t0 z) Q := w_un (fun _ _ => rfl) H
theorem u_X12_walk_1 {x1 : Int32} {x2 : Int32} {x3 : Int32} {x4 : Int32} {x5 : Int32} {x6 : Int32} {r0 : Nat} {t0 : Int32} {z : ow_MS} {Q : ow_MS → Prop} (H : Tt (fun K k => qm_X12_walk_1 K (q_X12_walk K k) x1 x2 x3 x4 x5 x6 r0 t0 z) Q) : Tt (fun K k => q_X12_walk K k 1 x1 x2 x3 x4 x5 x6 r0 t0 z) Q := w_un (fun _ _ => rfl) H
theorem e_X12_walk {r0 : Nat} {z : ow_MS} {Q : ow_MS → Prop} (H : Tt (fun K k => q_X12_walk K k 0 0 0 0 0 0 0 r0 0 z) Q) : Te (fun K => qe_X12_walk K r0 z) Q := w_te H
theorem u_X12_walk_0 {x1 : Int32} {x2 : Int32} {x3 : Int32} {x4 : Int32} {x5 : Int32} {x6 : Int32} {r0 : Nat} {t0 : Int32} {z : ow_MS} {Q : ow_MS → Prop} (H : Tt (fun K k => qm_X12_walk_0 K (q_X12_walk K k) x1 x2 x3 x4 x5 x6 r0 t0 z) Q) : Tt (fun K k => q_X12_walk K k 0 x1 x2 x3 x4 x5 x6 r0 t0 z) Q := w_un (fun _ _ => rfl) H
theorem tn_walk {n : Nat} {z : ow_MS} {A : rn_L} (hn : mw_net n) (hlen : A.flatten.length ≤ 40) (hd : rn_ok A.flatten) (hL : rn_lk z n A) : Te (fun K => qe_X12_walk K n z) (fun z1 => fr (frW n) z z1 ∧ ∃ F, rn_fc z1 n A.flatten.length F) := by
  have frK : ∀ {y y1 : ow_MS}, fr (frW n) y y1 → rn_lk y n A → rn_lk y1 n A := fun hf h => fr_lk hf (fun g hg => by rcases hg with hg | hg | hg <;> omega) h
  let Q : ow_MS → Prop := fun z1 => fr (frW n) z z1 ∧ ∃ F, rn_fc z1 n A.flatten.length F
  obtain ⟨V, hV⟩ : ∃ V, A.flatten.length = V := ⟨_, rfl⟩
  have V40 : V ≤ 40 := by omega
  have turn : ∀ (k0 a v : Nat) (z1 : ow_MS), fr (frW n) z z1 → a < 2 * V → v < V → (∀ a1, a1 < 2 * V → Tt (fun K k => q_X12_walk K k 3 (nI k0) (nI a1) 0 0 0 0 n 0 z1) Q) → Tt (fun K k => q_X12_walk K k 4 (nI k0) (nI a) 0 0 0 0 n (nI v) z1) Q := by
    intro k0 a v z1 hf ha hv hout
    have hL1 := frK hf hL
    have hv2 : v < A.flatten.length := by omega
    obtain ⟨p, hp⟩ : ∃ p, A.flatten[v]? = some p := ⟨_, List.getElem?_eq_getElem hv2⟩
    obtain ⟨hx, hu⟩ := hd.1.2 v p hp
    obtain ⟨e4, e5⟩ := hL1.1.2.2.2 v p (by rw [List.append_nil]; exact hp)
    obtain ⟨w, hm⟩ := hd.2 v hv2
    have hwl := (rn_mt_lt hm).2
    have e7 := hL1.2.2.2 v w hv2 hwl hm
    have e10 := (hL1.2.1 w hwl).2.2
    have hpv := rn_pv_lt (A := A) hwl
    have c9 : ∀ (x4 t : Int32), Tt (fun K k => q_X12_walk K k 9 (nI k0) (nI a) (nI v) x4 0 0 n t z1) Q := by
      intro x4 t
      refine u_X12_walk_9 ?_; unfold qm_X12_walk_9
      refine w_rdI (pl7 hn) rfl (by omega) e7 (w_if (fun _ => ?_) (fun _ => w_rdI (pl10 hn) rfl (by omega) e10 ?_))
      · refine u_X12_walk_10 ?_; unfold qm_X12_walk_10
        rw [rn_mul2]
        exact hout _ (by omega)
      · refine u_X12_walk_10 ?_; unfold qm_X12_walk_10
        rw [rn_mul2, nI_1]
        exact hout _ (by omega)
    have c8 : ∀ (t : Int32), Tt (fun K k => q_X12_walk K k 8 (nI k0) (nI a) (nI v) 0 0 0 n t z1) Q := by
      intro t
      refine u_X12_walk_8 ?_; unfold qm_X12_walk_8
      exact w_if (fun _ => c9 _ _) (fun _ => c9 _ _)
    have c6 : Tt (fun K k => q_X12_walk K k 6 (nI k0) (nI a) (nI v) 0 0 0 n 0 z1) Q := by
      refine u_X12_walk_6 ?_; unfold qm_X12_walk_6
      exact c8 _
    have c7 : Tt (fun K k => q_X12_walk K k 7 (nI k0) (nI a) (nI v) 0 0 0 n 0 z1) Q := by
      refine u_X12_walk_7 ?_; unfold qm_X12_walk_7
      exact c8 _
    have c5 : Tt (fun K k => q_X12_walk K k 5 (nI k0) (nI a) (nI v) 0 0 0 n 0 z1) Q := by
      refine u_X12_walk_5 ?_; unfold qm_X12_walk_5
      exact w_rdI (pl5 hn) rfl (by omega) e5 (w_if (fun _ => w_rdI (pl4 hn) rfl (by omega) e4 (w_rdI (pl6 hn) rfl hx rfl (w_if (fun _ => c7) (fun _ => c6)))) (fun _ => c7))
    refine u_X12_walk_4 ?_; unfold qm_X12_walk_4
    exact w_rdI (pl5 hn) rfl (by omega) e5 (w_if (fun _ => w_rdI (pl4 hn) rfl (by omega) e4 (w_rdI (pl6 hn) rfl hx rfl (w_if (fun _ => c6) (fun _ => c5)))) (fun _ => c5))
  have inn : ∀ (k0 f : Nat), f < 80 → ∀ (u a : Nat) (z1 : ow_MS), rn_cU (z1.2.1 (n + 14)) (2 * V) ≤ u → a < 2 * V → fr (frW n) z z1 → z1.1 (n + 16) = nI f → wkI V f (z1.2.1 (n + 14)) (z1.2.1 (n + 15)) → (∀ z2, fr (frW n) z z2 → z2.1 (n + 16) = nI (f + 1) → wkI V f (z2.2.1 (n + 14)) (z2.2.1 (n + 15)) → z2.2.1 (n + 14) a ≠ -1 → (∀ s, z1.2.1 (n + 14) s ≠ -1 → z2.2.1 (n + 14) s ≠ -1) → Tt (fun K k => q_X12_walk K k 11 (nI k0) 0 0 0 0 0 n 0 z2) Q) → Tt (fun K k => q_X12_walk K k 3 (nI k0) (nI a) 0 0 0 0 n 0 z1) Q := by
    intro k0 f hf80 u
    induction u with
    | zero =>
      intro a z1 hu ha hf h16 hI hout
      refine u_X12_walk_3 ?_; unfold qm_X12_walk_3
      refine w_rdI (pl14 hn) rfl (by omega) rfl (w_if (fun hM => ?_) (fun hM => w_rdF h16 (w_wrF ?_)))
      · have := rn_cU_upd (M := z1.2.1 (n + 14)) (x := 0) hM (by decide) (2 * V) ha
        omega
      · rw [nI_1]
        exact hout _ (fr_F2 hf (Or.inr (Or.inr rfl))) po_usF_at hI hM (fun s hs => hs)
    | succ u ih =>
      intro a z1 hu ha hf h16 hI hout
      refine u_X12_walk_3 ?_; unfold qm_X12_walk_3
      refine w_rdI (pl14 hn) rfl (by omega) rfl (w_if (fun hM => ?_) (fun hM => w_rdF h16 (w_wrF ?_)))
      · have hne : nI f ≠ -1 := rn_neg1 (by omega)
        have cu := rn_cU_upd (M := z1.2.1 (n + 14)) (x := nI f) hM hne (2 * V) ha
        have hf2 : fr (frW n) z (usI (usI z1 (n + 14) a (nI f)) (n + 15) f (z1.2.1 (n + 15) f + 1)) := fr_I2 (fr_I2 hf (Or.inl rfl)) (Or.inr (Or.inl rfl))
        have r14 : (usI (usI z1 (n + 14) a (nI f)) (n + 15) f (z1.2.1 (n + 15) f + 1)).2.1 (n + 14) = upd (z1.2.1 (n + 14)) a (nI f) := by
          rw [po_usI_ot (by omega), po_usI_row]
        have r15 : (usI (usI z1 (n + 14) a (nI f)) (n + 15) f (z1.2.1 (n + 15) f + 1)).2.1 (n + 15) = upd (z1.2.1 (n + 15)) f (z1.2.1 (n + 15) f + 1) := by
          rw [po_usI_row, po_usI_ot (by omega)]
        have go4 : ∀ v, v < V → Tt (fun K k => q_X12_walk K k 4 (nI k0) (nI a) 0 0 0 0 n (nI v) (usI (usI z1 (n + 14) a (nI f)) (n + 15) f (z1.2.1 (n + 15) f + 1))) Q := by
          intro v hv
          refine turn k0 a v _ hf2 ha hv (fun a1 ha1 => ?_)
          refine ih a1 _ (by rw [r14]; omega) ha1 hf2 h16 (by rw [r14, r15]; exact wkI_st (by omega) ha hM hI) (fun z2 g1 g2 g3 g4 g5 => ?_)
          rw [r14] at g5
          have ga : z2.2.1 (n + 14) a ≠ -1 := g5 a (by rw [pk_us]; exact hne)
          refine hout z2 g1 g2 g3 ga (fun s hs => ?_)
          by_cases hsa : s = a
          · rw [hsa]; exact ga
          · exact g5 s (by rw [pk_un hsa]; exact hs)
        have e9 := ((frK hf2 hL).2.1 (a / 2) (by omega)).2.1
        refine w_rdF h16 (w_wrI (pl14 hn) rfl (by omega) (w_rdF h16 (w_rdI (pl15 hn) rfl hf80 (rd_ot (by omega) rfl) (w_wrI (pl15 hn) rfl hf80 ?_))))
        rw [rn_shr1 (by omega)]
        exact w_if (fun _ => w_rdI (pl9 hn) rfl (by omega) e9 (go4 _ (by have := rn_nx_lt (A := A) (v := a / 2) (by omega); omega))) (fun _ => go4 _ (by omega))
      · rw [nI_1]
        exact hout _ (fr_F2 hf (Or.inr (Or.inr rfl))) po_usF_at hI hM (fun s hs => hs)
  have out : ∀ (d c f : Nat) (z1 : ow_MS), c + d = 2 * V → f ≤ c → fr (frW n) z z1 → z1.1 (n + 16) = nI f → wkO V f (z1.2.1 (n + 14)) (z1.2.1 (n + 15)) → (∀ s, s < c → z1.2.1 (n + 14) s ≠ -1) → Tt (fun K k => q_X12_walk K k 2 (nI c) 0 0 0 0 0 n 0 z1) Q := by
    intro d
    induction d with
    | zero =>
      intro c f z1 hc hfc hf h16 hO hm
      refine u_X12_walk_2 ?_; unfold qm_X12_walk_2
      refine w_rdF (frK hf hL).V ?_
      rw [rn_mul2]
      refine w_leT (by omega) (by omega) (w_some ⟨hf, f, h16, by omega, fun s hs => ?_, ?_⟩)
      · rw [hV] at hs
        exact (hO.1 s hs).resolve_left (hm s (by omega))
      · rw [hV]
        exact hO.2
    | succ d ih =>
      intro c f z1 hc hfc hf h16 hO hm
      refine u_X12_walk_2 ?_; unfold qm_X12_walk_2
      refine w_rdF (frK hf hL).V ?_
      rw [rn_mul2]
      refine w_leF (by omega) (by omega) (w_rdI (pl14 hn) rfl (by omega) rfl (w_if (fun c1 => w_rdF h16 (w_wrI (pl15 hn) rfl (by omega) ?_)) (fun c1 => ?_)))
      · have r14 : (usI z1 (n + 15) f 0).2.1 (n + 14) = z1.2.1 (n + 14) := po_usI_ot (by omega)
        refine inn c f (by omega) _ c _ (Nat.le_refl _) (by omega) (fr_I2 hf (Or.inr (Or.inl rfl))) h16 (by rw [r14, po_usI_row]; exact wkI_0 (by omega) hO) (fun z2 g1 g2 g3 g4 g5 => ?_)
        refine u_X12_walk_11 ?_; unfold qm_X12_walk_11
        rw [nI_1]
        rw [r14] at g5
        refine ih (c + 1) (f + 1) z2 (by omega) (by omega) g1 g2 g3 (fun s hs => ?_)
        by_cases hsc : s = c
        · rw [hsc]; exact g4
        · exact g5 s (hm s (by omega))
      · refine u_X12_walk_11 ?_; unfold qm_X12_walk_11
        rw [nI_1]
        refine ih (c + 1) f z1 (by omega) (by omega) hf h16 hO (fun s hs => ?_)
        by_cases hsc : s = c
        · rw [hsc]; exact c1
        · exact hm s (by omega)
  have zer : ∀ (d c : Nat) (z1 : ow_MS), c + d = 2 * V → fr (frW n) z z1 → (∀ s, s < c → z1.2.1 (n + 14) s = -1) → Tt (fun K k => q_X12_walk K k 1 (nI c) 0 0 0 0 0 n 0 z1) Q := by
    intro d
    induction d with
    | zero =>
      intro c z1 hc hf hm
      refine u_X12_walk_1 ?_; unfold qm_X12_walk_1
      refine w_rdF (frK hf hL).V ?_
      rw [rn_mul2]
      exact w_leT (by omega) (by omega) (w_wrF (out (2 * V) 0 0 _ (by omega) (Nat.le_refl _) (fr_F2 hf (Or.inr (Or.inr rfl))) po_usF_at ⟨fun s hs => Or.inl (hm s (by omega)), fun f hf9 => by omega⟩ (fun s hs => by omega)))
    | succ d ih =>
      intro c z1 hc hf hm
      refine u_X12_walk_1 ?_; unfold qm_X12_walk_1
      refine w_rdF (frK hf hL).V ?_
      rw [rn_mul2]
      refine w_leF (by omega) (by omega) (w_wrI (pl14 hn) rfl (by omega) ?_)
      rw [nI_1]
      refine ih (c + 1) _ (by omega) (fr_I2 hf (Or.inl rfl)) (fun s hs => ?_)
      by_cases hsc : s = c
      · rw [hsc]; exact po_usI_at
      · exact rd_ne hsc (hm s (by omega))
  refine e_X12_walk ?_
  refine u_X12_walk_0 ?_; unfold qm_X12_walk_0
  exact zer (2 * V) 0 z (by omega) fr_rf (fun s hs => by omega)
theorem e_X12_isCircle {r0 : Nat} {x1 : Int32} {z : ow_MS} {Q : (Int32 × ow_MS) → Prop} (H : Tt (fun K _ => qm_X12_isCircle_0 K x1 r0 z) Q) : Te (fun K => qe_X12_isCircle K r0 x1 z) Q := w_te0 H
/-- isCircle -/
theorem tn_circle {n c : Nat} {z : ow_MS} {A : rn_L} (hn : mw_net n) (hlen : A.flatten.length ≤ 40) (hcn : A.length ≤ 39) (hc : c < A.length) (hA : rn_At z n A []) : Te (fun K => qe_X12_isCircle K n (nI c) z) (fun r => r = (if rn_b A c = rn_b A (c + 1) then 1 else 0, z)) := by
  have h1 := rn_b_le A (c + 1)
  have h2 := rn_b_le A c
  refine e_X12_isCircle ?_; unfold qm_X12_isCircle_0
  refine w_rdI (pl3 hn) rfl (by omega) (hA.2.2.1 c (by omega)) (w_rdI (pl3 hn) (nI_1 _) (by omega) (hA.2.2.1 (c + 1) (by omega)) (w_eqN (a := rn_b A c) (b := rn_b A (c + 1)) (by omega) (by omega) (fun h9 => w_okZ (Or.inr rfl) (w_some ?_)) (fun h9 => w_okZ (Or.inl rfl) (w_some ?_))))
  · rw [if_pos h9]
  · rw [if_neg h9]
theorem e_X12_isPlane {r0 : Nat} {z : ow_MS} {Q : (Int32 × ow_MS) → Prop} (H : Tt (fun K k => q_X12_isPlane K k 0 0 0 0 0 r0 0 0 z) Q) : Te (fun K => qe_X12_isPlane K r0 z) Q := w_te H
theorem u_X12_isPlane_0 {x1 : Int32} {x2 : Int32} {x3 : Int32} {x4 : Int32} {r0 : Nat} {t0 : Int32} {t1 : Int32} {z : ow_MS} {Q : (Int32 × ow_MS) → Prop} (H : Tt (fun K k => qm_X12_isPlane_0 K (q_X12_isPlane K k) x1 x2 x3 x4 r0 t0 t1 z) Q) : Tt (fun K k => q_X12_isPlane K k 0 x1 x2 x3 x4 r0 t0 t1 z) Q := w_un (fun _ _ => rfl) H
theorem u_X12_isPlane_2 {x1 : Int32} {x2 : Int32} {x3 : Int32} {x4 : Int32} {r0 : Nat} {t0 : Int32} {t1 : Int32} {z : ow_MS} {Q : (Int32 × ow_MS) → Prop} (H : Tt (fun K k => qm_X12_isPlane_2 K (q_X12_isPlane K k) x1 x2 x3 x4 r0 t0 t1 z) Q) : Tt (fun K k => q_X12_isPlane K k 2 x1 x2 x3 x4 r0 t0 t1 z) Q := w_un (fun _ _ => rfl) H
theorem u_X12_isPlane_5 {x1 : Int32} {x2 : Int32} {x3 : Int32} {x4 : Int32} {r0 : Nat} {t0 : Int32} {t1 : Int32} {z : ow_MS} {Q : (Int32 × ow_MS) → Prop} (H : Tt (fun K k => qm_X12_isPlane_5 K (q_X12_isPlane K k) x1 x2 x3 x4 r0 t0 t1 z) Q) : Tt (fun K k => q_X12_isPlane K k 5 x1 x2 x3 x4 r0 t0 t1 z) Q := w_un (fun _ _ => rfl) H
theorem u_X12_isPlane_4 {x1 : Int32} {x2 : Int32} {x3 : Int32} {x4 : Int32} {r0 : Nat} {t0 : Int32} {t1 : Int32} {z : ow_MS} {Q : (Int32 × ow_MS) → Prop} (H : Tt (fun K k => qm_X12_isPlane_4 K (q_X12_isPlane K k) x1 x2 x3 x4 r0 t0 t1 z) Q) : Tt (fun K k => q_X12_isPlane K k 4 x1 x2 x3 x4 r0 t0 t1 z) Q := w_un (fun _ _ => rfl) H
theorem u_X12_isPlane_3 {x1 : Int32} {x2 : Int32} {x3 : Int32} {x4 : Int32} {r0 : Nat} {t0 : Int32} {t1 : Int32} {z : ow_MS} {Q : (Int32 × ow_MS) → Prop} (H : Tt (fun K k => qm_X12_isPlane_3 K (q_X12_isPlane K k) x1 x2 x3 x4 r0 t0 t1 z) Q) : Tt (fun K k => q_X12_isPlane K k 3 x1 x2 x3 x4 r0 t0 t1 z) Q := w_un (fun _ _ => rfl) H
theorem u_X12_isPlane_1 {x1 : Int32} {x2 : Int32} {x3 : Int32} {x4 : Int32} {r0 : Nat} {t0 : Int32} {t1 : Int32} {z : ow_MS} {Q : (Int32 × ow_MS) → Prop} (H : Tt (fun K k => qm_X12_isPlane_1 K (q_X12_isPlane K k) x1 x2 x3 x4 r0 t0 t1 z) Q) : Tt (fun K k => q_X12_isPlane K k 1 x1 x2 x3 x4 r0 t0 t1 z) Q := w_un (fun _ _ => rfl) H
theorem tn_plane {n : Nat} {z : ow_MS} {A : rn_L} (hn : mw_net n) (hlen : A.flatten.length ≤ 40) (hcn : A.length ≤ 39) (hd : rn_ok A.flatten) (hL : rn_lk z n A) : Te (fun K => qe_X12_isPlane K n z) (fun r => (r.1 = 0 ∨ r.1 = 1) ∧ fr (fun g => n + 12 ≤ g ∧ g ≤ n + 16) z r.2 ∧ rn_lk r.2 n A ∧ (∃ P, rn_pt r.2 n A P) ∧ ∃ F, rn_fc r.2 n A.flatten.length F) := by
  refine e_X12_isPlane ?_
  refine u_X12_isPlane_0 ?_; unfold qm_X12_isPlane_0
  refine w_cs0 (tn_split hn hlen hcn hd hL) (fun z1 ⟨f1, P, g1⟩ => w_cs0 (tn_walk hn hlen hd (fr_lk f1 (fun g hg => by rcases hg with hg | hg <;> omega) hL)) (fun z2 ⟨f2, F, g2⟩ => ?_))
  have hL1 := fr_lk f1 (fun g hg => by rcases hg with hg | hg <;> omega) hL
  have hL2 := fr_lk f2 (fun g hg => by rcases hg with hg | hg | hg <;> omega) hL1
  have hP2 : rn_pt z2 n A P := by
    obtain ⟨a1, a2, a3, a4⟩ := g1
    have e12 := (f2 (n + 12) (by omega)).2.1
    exact ⟨by rw [(f2 (n + 13) (by omega)).1]; exact a1, a2, by rw [e12]; exact a3, by rw [e12]; exact a4⟩
  have post : fr (fun g => n + 12 ≤ g ∧ g ≤ n + 16) z z2 := fr_tr (fr_mono (fun g hg => by rcases hg with hg | hg <;> omega) f1) (fr_mono (fun g hg => by rcases hg with hg | hg | hg <;> omega) f2)
  have inn : ∀ (p : Nat) (x1 : Int32), (∀ t : Int32, Tt (fun K k => q_X12_isPlane K k 1 t (nI (p + 1)) 0 0 n 0 0 z2) (fun r => (r.1 = 0 ∨ r.1 = 1) ∧ fr (fun g => n + 12 ≤ g ∧ g ≤ n + 16) z r.2 ∧ rn_lk r.2 n A ∧ (∃ P, rn_pt r.2 n A P) ∧ ∃ F, rn_fc r.2 n A.flatten.length F)) → ∀ (d c : Nat) (x3 : Int32), c + d = A.length → Tt (fun K k => q_X12_isPlane K k 2 x1 (nI p) x3 (nI c) n 0 0 z2) (fun r => (r.1 = 0 ∨ r.1 = 1) ∧ fr (fun g => n + 12 ≤ g ∧ g ≤ n + 16) z r.2 ∧ rn_lk r.2 n A ∧ (∃ P, rn_pt r.2 n A P) ∧ ∃ F, rn_fc r.2 n A.flatten.length F) := by
    intro p x1 hout d
    induction d with
    | zero =>
      intro c x3 hc
      refine u_X12_isPlane_2 ?_; unfold qm_X12_isPlane_2
      refine w_rdF hL2.1.2.1 (w_leT (by omega) (by omega) (w_if (fun _ => ?_) (fun _ => ?_)))
      · refine u_X12_isPlane_5 ?_; unfold qm_X12_isPlane_5
        rw [nI_1]
        exact hout _
      · refine u_X12_isPlane_5 ?_; unfold qm_X12_isPlane_5
        rw [nI_1]
        exact hout _
    | succ d ih =>
      intro c x3 hc
      refine u_X12_isPlane_2 ?_; unfold qm_X12_isPlane_2
      refine w_rdF hL2.1.2.1 (w_leF (by omega) (by omega) (w_rdI (pl12 hn) rfl (by omega) rfl (w_if (fun _ => w_cs1 (tn_circle hn hlen hcn (by omega) hL2.1) (fun a z9 h9 => ?_)) (fun _ => ?_))))
      · cases h9
        refine w_if (fun _ => ?_) (fun _ => ?_)
        · refine u_X12_isPlane_4 ?_; unfold qm_X12_isPlane_4
          rw [nI_1]
          exact ih (c + 1) _ (by omega)
        · refine u_X12_isPlane_3 ?_; unfold qm_X12_isPlane_3
          refine u_X12_isPlane_4 ?_; unfold qm_X12_isPlane_4
          rw [nI_1]
          exact ih (c + 1) _ (by omega)
      · refine u_X12_isPlane_3 ?_; unfold qm_X12_isPlane_3
        refine u_X12_isPlane_4 ?_; unfold qm_X12_isPlane_4
        rw [nI_1]
        exact ih (c + 1) _ (by omega)
  have out : ∀ (d p : Nat) (x1 : Int32), p + d = P → Tt (fun K k => q_X12_isPlane K k 1 x1 (nI p) 0 0 n 0 0 z2) (fun r => (r.1 = 0 ∨ r.1 = 1) ∧ fr (fun g => n + 12 ≤ g ∧ g ≤ n + 16) z r.2 ∧ rn_lk r.2 n A ∧ (∃ P, rn_pt r.2 n A P) ∧ ∃ F, rn_fc r.2 n A.flatten.length F) := by
    intro d
    have hP39 := hP2.2.1
    induction d with
    | zero =>
      intro p x1 hp
      refine u_X12_isPlane_1 ?_; unfold qm_X12_isPlane_1
      exact w_rdF hP2.1 (w_leT (by omega) (by omega) (w_rdF rfl (w_if (fun _ => w_okZ (Or.inr rfl) (w_some ⟨Or.inr rfl, post, hL2, ⟨P, hP2⟩, F, g2⟩)) (fun _ => w_okZ (Or.inl rfl) (w_some ⟨Or.inl rfl, post, hL2, ⟨P, hP2⟩, F, g2⟩)))))
    | succ d ih =>
      intro p x1 hp
      refine u_X12_isPlane_1 ?_; unfold qm_X12_isPlane_1
      exact w_rdF hP2.1 (w_leF (by omega) (by omega) (inn p x1 (fun t => ih (p + 1) t (by omega)) A.length 0 0 (by omega)))
  exact w_rdF rfl (w_nzI (by decide) (out P 0 _ (by omega)))
