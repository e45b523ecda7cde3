/-! summit: the reference's cycling and decycling, exactly -/
section XS1
theorem i_ev : ∀ v : Fin 401, (iI ((v.val : Int) - 200) &&& 1 = 0) ↔ ((v.val : Int) - 200) % 2 = 0 := by decide +kernel
theorem iI_ev {k : Int} (h1 : -200 ≤ k) (h2 : k ≤ 200) : (iI k &&& 1 = 0) ↔ k % 2 = 0 := by
  have := i_ev ⟨(k + 200).toNat, by omega⟩
  have e : (((k + 200).toNat : Int)) - 200 = k := by omega
  dsimp only at this
  rw [e] at this
  exact this
theorem bs_bv {n : Nat} (h2 : 2 ≤ n) (h5 : n ≤ 5) : ∀ (U : List Nat), okT n U → bvG n (bsG n U) U
  | [], _ => trivial
  | u :: U, h => ⟨(f_one h2 h5 (okT_c.mp h).1).2.2.2.2.1, (okT_c.mp h).1, bs_bv h2 h5 U (okT_c.mp h).2⟩
variable {z : ow_MS} {m : N5}
theorem xr_turned {n s : Nat} {k : Int} (h2 : 2 ≤ n) (h5 : n ≤ 5) (hs : s < gNN n) (hT : tbG z) (k1 : -200 ≤ k) (k2 : k ≤ 200) : Te (fun K => qe_X13_turned K (nI n) (nI s) (iI k) z) (fun r => r.2 = z ∧ r.1 = nI (tuG n k s)) := by
  have hN := nn_pos (n := n)
  have h1 := f_one h2 h5 hs
  refine e_X13_turned ?_; unfold qm_X13_turned_0
  rw [ix120]
  refine w_if (fun e => w_some ⟨rfl, ?_⟩) (fun e => w_rdI ml103 rfl (by omega) ((hT n h2 h5).2 s hs).2.2.1 (w_some ⟨rfl, ?_⟩))
  · show nI s = nI (tuG n k s)
    unfold tuG
    rw [if_pos ((iI_ev k1 k2).mp e)]
  · show nI (ovG n s) = nI (tuG n k s)
    unfold tuG
    rw [if_neg (fun h9 => e ((iI_ev k1 k2).mpr h9))]
def nmQ (z : ow_MS) (m : N5) (U : List Nat) (k : Int) (z1 : ow_MS) : Prop := (∃ (j : Nat) (F : List Nat), nfL m.1 F ∧ eqT m.1 U (List.replicate j (gNN m.1 - 1) ++ F) ∧ fmI z1 m.1 F ∧ z1.1 112 = iI (k + (j : Int)) ∧ F.length + j ≤ U.length) ∧ fr nmH z z1
theorem nmQ_tr {y y1 : ow_MS} {U : List Nat} {k : Int} (hf : fr nmH z y) (h : nmQ y m U k y1) : nmQ z m U k y1 := ⟨h.1, fr_tr hf h.2⟩
theorem xr_nmU {U : List Nat} {k : Int} (hT : tbG z) (hU : ∀ s, s ∈ U → s < gNN m.1) (hl : U.length ≤ 18) (hw : lnI z 109 108 (bsG m.1 U).flatten) : Te (fun K => qe_X13_normalise K (nI m.1) (iI k) z) (nmQ z m U k) := by
  have h2 := m.2.1
  have h5 := m.2.2
  have hUk : okT m.1 U := hU
  obtain ⟨j, F, f1, f2⟩ := nf_ex hUk
  have hR : okT m.1 (List.replicate j (gNN m.1 - 1)) := rp_ok
  have hD0 := dl_0 (m := m)
  have sl : F.length + j ≤ U.length := by
    have e := F_eq (m := m) (k := 0) (hT := hUk) (hF := f1.1) f2
    have a1 : gle (gF m 0 U hUk) (gD m (U.length : Int)) := by
      unfold gF
      have : gD m 0 = g1 m := rfl
      rw [this, g1_l]
      exact sup_le U
    rw [e] at a1
    have := (sup_F f1).mp a1
    omega
  refine w_monoE (te_and (xr_normalise (k := iI k) h2 h5 hT (bs_bv h2 h5 U hUk) (by unfold bsG; rw [List.length_map]; exact hl) hw (okT_a.mpr ⟨hR, f1.1⟩) (wt_D h2 h5 f1.2.1) (fun g hg => ?_) f2) (tp_nmU (κ := k) h2 h5 rfl hT hU hl hw)) (fun z1 ⟨⟨a1, a2⟩, a3⟩ => ⟨⟨j, F, f1, f2, ?_, ?_, sl⟩, a3.2⟩)
  · rcases List.mem_append.mp hg with h9 | h9
    · rw [(List.mem_replicate.mp h9).2]
      exact hD0
    · exact (f1.2.2 g h9).1
  · rw [List.filter_append, List.filter_eq_nil_iff.mpr (fun g hg => by rw [(List.mem_replicate.mp hg).2]; simp), List.nil_append, List.filter_eq_self.mpr (fun g hg => decide_eq_true (f1.2.2 g hg).2)] at a1
    exact a1
  · rw [List.countP_append, List.countP_eq_length.mpr (fun g hg => by rw [(List.mem_replicate.mp hg).2]; simp), List.countP_eq_zero.mpr (fun g hg => by have := (f1.2.2 g hg).2; simp [this]), List.length_replicate, Nat.add_zero] at a2
    rw [a2, nI_iI, iI_add]
theorem xr_cyc0 {S : List Nat} {κ : Int} {s0 : Nat} {U0 : List Nat} (hSU : S = s0 :: U0) (hT : tbG z) (hS : fmI z m.1 S) (hl : S.length ≤ 16) (hk : z.1 112 = iI κ) (k1 : -200 ≤ κ) (k2 : κ ≤ 200) : Te (fun K => qe_X13_cycle K (nI m.1) 0 z) (nmQ z m (U0 ++ [tuG m.1 κ s0]) κ) := by
  subst hSU
  have h2 := m.2.1
  have h5 := m.2.2
  generalize hn9 : m.1 = n at *
  have hl : U0.length + 1 ≤ 16 := hl
  have hN := nn_pos (n := n)
  have tF : ∀ {y : ow_MS}, fr nmH z y → tbG y := fun hf => tbG_fr hf (fun g hg => by unfold nmH at hg; omega) hT
  let F : Nat → Prop := fun g => g = 108 ∨ g = 109
  have toN : ∀ {y : ow_MS}, fr F z y → fr nmH z y := fun hf => fr_mono (fun g hg => by have hg : g = 108 ∨ g = 109 := hg; unfold nmH; omega) hf
  have sF : ∀ {y : ow_MS} {i s : Nat}, fr F z y → (s0 :: U0)[i]? = some s → y.2.1 114 i = nI s ∧ s < gNN n := fun hf hi => ⟨by rw [(hf 114 (by show ¬ (114 = 108 ∨ 114 = 109); omega)).2.1]; exact hS.1.2 _ _ hi, hS.2 _ (List.mem_of_getElem? hi)⟩
  have hszl : ∀ j, szL n (U0.take j) ≤ 10 * j := by
    intro j
    have h1 := bs_fl (n := n) (U0.take j)
    have h3 := (bl_len h2 h5 (bsG n (U0.take j)) (bs_bl h2 h5 (fun s hs => hS.2 s (List.mem_cons_of_mem _ (List.mem_of_mem_take hs))))).1
    unfold bsG at h3
    rw [List.length_map, List.length_take] at h3
    unfold bsG at h1
    omega
  have c3 : ∀ (d j : Nat) (y : ow_MS), j + d = U0.length → lnI y 109 108 (bsG n (U0.take j)).flatten → fr F z y → Tt (fun K i => q_X13_cycle K i 3 (nI n) 0 (nI (U0.length + 1)) (iI κ) (nI (j + 1)) 0 0 y) (nmQ z m (U0 ++ [tuG n κ s0]) κ) := by
    intro d
    induction d with
    | zero =>
      intro j y hj hw hf
      have hj : j = U0.length := by omega
      subst hj
      have hwl := hszl U0.length
      rw [List.take_length] at hw hwl
      refine u_X13_cycle_3 ?_; unfold qm_X13_cycle_3
      refine w_ifT rfl ?_
      refine u_X13_cycle_4 ?_; unfold qm_X13_cycle_4
      refine w_leT (by omega) (Nat.le_refl _) (w_ifT rfl (w_rdI (i := 0) ml114 rfl (by omega) (sF hf (i := 0) rfl).1 (w_cs1 (xr_turned h2 h5 (sF hf (i := 0) rfl).2 (tF (toN hf)) k1 k2) (fun v y1 ⟨e1, s2⟩ => ?_))))
      have e1 : y1 = y := e1
      have s2v : v = nI (tuG n κ s0) := s2
      have s1 := tu_lt (k := κ) h2 h5 (sF hf (i := 0) rfl).2
      subst e1
      rw [s2v]
      refine w_cs0 (tp_append h2 h5 s1 (tF (toN hf)) hw (by rw [bs_fl]; omega)) (fun y2 ⟨w2, f2⟩ => ?_)
      have hf2 : fr F z y2 := fr_tr hf (fr_mono (fun g hg => hg) f2)
      refine u_X13_cycle_5 ?_; unfold qm_X13_cycle_5
      rw [← bs_app] at w2
      rw [← hn9] at w2 ⊢
      refine w_cs0 (xr_nmU (tF (toN hf2)) (fun s hs => ?_) (by rw [List.length_append]; show U0.length + 1 ≤ 18; omega) w2) (fun y3 a5 => w_some (nmQ_tr (toN hf2) a5))
      rcases List.mem_append.mp hs with h9 | h9
      · rw [hn9]
        exact hS.2 s (List.mem_cons_of_mem _ h9)
      · rw [List.mem_singleton.mp h9, hn9]
        exact s1
    | succ d ih =>
      intro j y hj hw hf
      have hjl : j < U0.length := by omega
      have hwl := hszl j
      have hsj := sF hf (i := j + 1) (s := U0[j]) (by rw [List.getElem?_cons_succ]; exact List.getElem?_eq_getElem hjl)
      refine u_X13_cycle_3 ?_; unfold qm_X13_cycle_3
      refine w_ifT rfl ?_
      refine u_X13_cycle_4 ?_; unfold qm_X13_cycle_4
      refine w_leF (by omega) (by omega) (w_rdI ml114 rfl (by omega) hsj.1 (w_cs0 (tp_append h2 h5 hsj.2 (tF (toN hf)) hw (by rw [bs_fl]; omega)) (fun y2 ⟨w2, f2⟩ => ?_)))
      rw [← bs_app, show U0.take j ++ [U0[j]] = U0.take (j + 1) from by rw [List.take_succ, List.getElem?_eq_getElem hjl]; rfl] at w2
      rw [show nI (j + 1) + 1 = nI (j + 1 + 1) from nI_1 _]
      exact ih (j + 1) y2 (by omega) w2 (fr_tr hf (fr_mono (fun g hg => hg) f2))
  refine e_X13_cycle ?_
  refine u_X13_cycle_0 ?_; unfold qm_X13_cycle_0
  refine w_rdF hS.1.1 (w_rdF hk (w_wrF (w_ifT rfl ?_)))
  refine u_X13_cycle_1 ?_; unfold qm_X13_cycle_1
  refine w_ifT rfl ?_
  refine u_X13_cycle_2 ?_; unfold qm_X13_cycle_2
  exact c3 U0.length 0 _ (by omega) ⟨po_usF_at, fun i a hi => by simp [bsG] at hi⟩ (fr_F (Or.inr rfl))
theorem xr_cyc1 {S : List Nat} {κ : Int} {s0 : Nat} {U0 : List Nat} (hSU : S = U0 ++ [s0]) (hT : tbG z) (hS : fmI z m.1 S) (hl : S.length ≤ 16) (hk : z.1 112 = iI κ) (k1 : -200 ≤ κ) (k2 : κ ≤ 200) : Te (fun K => qe_X13_cycle K (nI m.1) 1 z) (nmQ z m (tuG m.1 κ s0 :: U0) κ) := by
  subst hSU
  have h2 := m.2.1
  have h5 := m.2.2
  generalize hn9 : m.1 = n at *
  have hSl : (U0 ++ [s0]).length = U0.length + 1 := by rw [List.length_append]; rfl
  rw [hSl] at hl
  have hN := nn_pos (n := n)
  have tF : ∀ {y : ow_MS}, fr nmH z y → tbG y := fun hf => tbG_fr hf (fun g hg => by unfold nmH at hg; omega) hT
  let F : Nat → Prop := fun g => g = 108 ∨ g = 109
  have toN : ∀ {y : ow_MS}, fr F z y → fr nmH z y := fun hf => fr_mono (fun g hg => by have hg : g = 108 ∨ g = 109 := hg; unfold nmH; omega) hf
  have sF : ∀ {y : ow_MS} {i s : Nat}, fr F z y → (U0 ++ [s0])[i]? = some s → y.2.1 114 i = nI s ∧ s < gNN n := fun hf hi => ⟨by rw [(hf 114 (by show ¬ (114 = 108 ∨ 114 = 109); omega)).2.1]; exact hS.1.2 _ _ hi, hS.2 _ (List.mem_of_getElem? hi)⟩
  have c3 : ∀ (d j s' : Nat) (y : ow_MS), s' < gNN n → s' = tuG n κ s0 → j + d = U0.length → lnI y 109 108 (bsG n (s' :: U0.take j)).flatten → fr F z y → Tt (fun K i => q_X13_cycle K i 3 (nI n) 1 (nI (U0.length + 1)) (iI κ) (nI j) 0 0 y) (nmQ z m (tuG n κ s0 :: U0) κ) := by
    intro d
    induction d with
    | zero =>
      intro j s' y hs' hsz hj hw hf
      have hj : j = U0.length := by omega
      subst hj
      rw [List.take_length] at hw
      refine u_X13_cycle_3 ?_; unfold qm_X13_cycle_3
      rw [show nI (U0.length + 1) - 1 = nI U0.length from (pk_sub (a := U0.length + 1) (b := 1) (by omega)).trans (by rw [Nat.add_sub_cancel])]
      refine w_ifF (by decide) ?_
      refine u_X13_cycle_4 ?_; unfold qm_X13_cycle_4
      refine w_leT (by omega) (Nat.le_refl _) (w_ifF (by decide) ?_)
      refine u_X13_cycle_5 ?_; unfold qm_X13_cycle_5
      subst hsz
      rw [← hn9] at hw ⊢
      refine w_cs0 (xr_nmU (tF (toN hf)) (fun s hs => ?_) (by rw [List.length_cons]; omega) hw) (fun y3 a5 => w_some (nmQ_tr (toN hf) a5))
      rcases List.mem_cons.mp hs with h9 | h9
      · rw [h9, hn9]
        exact hs'
      · rw [hn9]
        exact hS.2 s (List.mem_append_left _ h9)
    | succ d ih =>
      intro j s' y hs' hsz hj hw hf
      have hjl : j < U0.length := by omega
      have hsj := sF hf (i := j) (s := U0[j]) (by rw [List.getElem?_append_left hjl]; exact List.getElem?_eq_getElem hjl)
      have hwl : (bsG n (s' :: U0.take j)).flatten.length ≤ 200 := by
        have h3 := (bl_len h2 h5 (bsG n (s' :: U0.take j)) (bs_bl h2 h5 (fun s hs => by
          rcases List.mem_cons.mp hs with h9 | h9
          · rw [h9]; exact hs'
          · exact hS.2 s (List.mem_append_left _ (List.mem_of_mem_take h9))))).1
        have h4 : (bsG n (s' :: U0.take j)).length ≤ U0.length + 1 := by
          unfold bsG
          rw [List.length_map, List.length_cons, List.length_take]
          omega
        omega
      refine u_X13_cycle_3 ?_; unfold qm_X13_cycle_3
      rw [show nI (U0.length + 1) - 1 = nI U0.length from (pk_sub (a := U0.length + 1) (b := 1) (by omega)).trans (by rw [Nat.add_sub_cancel])]
      refine w_ifF (by decide) ?_
      refine u_X13_cycle_4 ?_; unfold qm_X13_cycle_4
      refine w_leF (by omega) (by omega) (w_rdI ml114 rfl (by omega) hsj.1 (w_cs0 (tp_append h2 h5 hsj.2 (tF (toN hf)) hw (by omega)) (fun y2 ⟨w2, f2⟩ => ?_)))
      rw [← bs_app, show s' :: U0.take j ++ [U0[j]] = s' :: U0.take (j + 1) from by rw [List.take_succ, List.getElem?_eq_getElem hjl]; rfl] at w2
      rw [show nI j + 1 = nI (j + 1) from nI_1 _]
      exact ih (j + 1) s' y2 hs' hsz (by omega) w2 (fr_tr hf (fr_mono (fun g hg => hg) f2))
  have hlast : ∀ {y : ow_MS}, fr F z y → y.2.1 114 U0.length = nI s0 ∧ s0 < gNN n := fun hf => sF hf (by rw [List.getElem?_append_right (Nat.le_refl _), Nat.sub_self]; rfl)
  have hf0 : fr F z (usF z 109 0) := fr_F (Or.inr rfl)
  have h113 : z.1 113 = nI (U0.length + 1) := by rw [hS.1.1, hSl]
  refine e_X13_cycle ?_
  refine u_X13_cycle_0 ?_; unfold qm_X13_cycle_0
  refine w_rdF h113 (w_rdF hk (w_wrF (w_ifF (by decide) ?_)))
  rw [show nI (U0.length + 1) - 1 = nI U0.length from (pk_sub (a := U0.length + 1) (b := 1) (by omega)).trans (by rw [Nat.add_sub_cancel])]
  refine w_rdI ml114 rfl (by omega) (hlast hf0).1 (w_cs1 (xr_turned h2 h5 (hlast hf0).2 (tF (toN hf0)) k1 k2) (fun v y1 ⟨e1, s2⟩ => ?_))
  have e1 : y1 = usF z 109 0 := e1
  have s2v : v = nI (tuG n κ s0) := s2
  have s1 := tu_lt (k := κ) h2 h5 (hlast hf0).2
  subst e1
  rw [s2v]
  refine w_cs0 (tp_append (L := []) h2 h5 s1 (tF (toN hf0)) ⟨po_usF_at, fun i a hi => by simp at hi⟩ (by decide)) (fun y2 ⟨w2, f2⟩ => ?_)
  refine u_X13_cycle_1 ?_; unfold qm_X13_cycle_1
  refine w_ifF (by decide) ?_
  refine u_X13_cycle_2 ?_; unfold qm_X13_cycle_2
  refine c3 U0.length 0 (tuG n κ s0) y2 s1 rfl (by omega) ?_ (fr_tr hf0 (fr_mono (fun g hg => hg) f2))
  rw [List.take_zero]
  have : (bsG n [tuG n κ s0]).flatten = [] ++ ltG n (tuG n κ s0) := by
    unfold bsG
    simp
  rw [this]
  exact w2
end XS1
