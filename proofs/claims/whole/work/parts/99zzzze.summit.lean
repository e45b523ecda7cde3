/-! summit and conjugate have an answer -/
def bsG (n : Nat) (U : List Nat) : List (List Nat) := U.map (ltG n)
theorem bs_fl {n : Nat} : ∀ U : List Nat, (bsG n U).flatten.length = szL n U
  | [] => rfl
  | s :: U => by
    have ih := bs_fl (n := n) U
    show ((ltG n s) :: bsG n U).flatten.length = szG n s + szL n U
    rw [List.flatten_cons, List.length_append, lt_len, ih]
theorem bs_app {n s : Nat} {U : List Nat} : (bsG n (U ++ [s])).flatten = (bsG n U).flatten ++ ltG n s := by
  unfold bsG
  rw [List.map_append, List.flatten_append]
  simp
theorem bs_bl {n : Nat} (h2 : 2 ≤ n) (h5 : n ≤ 5) {U : List Nat} (hU : ∀ s, s ∈ U → s < gNN n) : blG n (bsG n U) := fun w hw => by
  obtain ⟨s, hs, e⟩ := List.mem_map.mp hw
  rw [← e]
  exact ⟨s, hU s hs, (f_one h2 h5 (hU s hs)).2.2.2.2.1⟩
theorem szL_cons {n s : Nat} {U : List Nat} : szL n (s :: U) = szG n s + szL n U := rfl
section GARS
variable {X : (Nat → Nat → Int32) → Prop} {z : ow_MS} {n : Nat}
theorem e_X13_turned {x1 : Int32} {x2 : Int32} {x3 : Int32} {z : ow_MS} {Q : (Int32 × ow_MS) → Prop} (H : Tt (fun K _ => qm_X13_turned_0 K x1 x2 x3 z) Q) : Te (fun K => qe_X13_turned K x1 x2 x3 z) Q := w_te0 H
theorem tp_turned {s : Nat} {k : Int32} (h2 : 2 ≤ n) (h5 : n ≤ 5) (hs : s < gNN n) (hT : tbG z) : Te (fun K => qe_X13_turned K (nI n) (nI s) k z) (fun r => r.2 = z ∧ ∃ s', s' < gNN n ∧ r.1 = nI s' ∧ szG n s' = szG n s) := by
  have hN := nn_pos (n := n)
  have h1 := f_one h2 h5 hs
  refine e_X13_turned ?_; unfold qm_X13_turned_0
  rw [ix120]
  exact w_if (fun _ => w_some ⟨rfl, s, hs, rfl, rfl⟩) (fun _ => w_rdI ml103 rfl (by omega) ((hT n h2 h5).2 s hs).2.2.1 (w_some ⟨rfl, ovG n s, h1.2.2.1, rfl, h1.2.2.2.1⟩))
/-- a form that is moved on: its simple ones, its power -/
def cyQ (z : ow_MS) (n : Nat) (S : List Nat) (κ : Int) (z1 : ow_MS) : Prop := (∃ S' t, fmI z1 n S' ∧ S'.length + t ≤ S.length ∧ z1.1 112 = iI (κ + (t : Nat)) ∧ szL n S' + t * szG n (gNN n - 1) = szL n S) ∧ fr nmH z z1
theorem tp_nmU {k : Int32} {U : List Nat} {κ : Int} (h2 : 2 ≤ n) (h5 : n ≤ 5) (hk : k = iI κ) (hT : tbG z) (hU : ∀ s, s ∈ U → s < gNN n) (hl : U.length ≤ 18) (hw : lnI z 109 108 (bsG n U).flatten) : Te (fun K => qe_X13_normalise K (nI n) k z) (cyQ z n U κ) := by
  refine w_monoE (tp_normalise h2 h5 hT (bs_bl h2 h5 hU) (by unfold bsG; rw [List.length_map]; exact hl) hw) (fun z1 ⟨⟨S, t, a1, a2, a3, a4⟩, a5⟩ => ⟨⟨S, t, a1, ?_, ?_, ?_⟩, a5⟩)
  · unfold bsG at a2
    rw [List.length_map] at a2
    exact a2
  · rw [a3, hk, nI_iI, iI_add]
  · rw [a4, bs_fl]
theorem u_X13_cycle_3 {x1 : Int32} {x2 : Int32} {x3 : Int32} {x4 : Int32} {x5 : Int32} {t0 : Int32} {t1 : Int32} {z : ow_MS} {Q : ow_MS → Prop} (H : Tt (fun K k => qm_X13_cycle_3 K (q_X13_cycle K k) x1 x2 x3 x4 x5 t0 t1 z) Q) : Tt (fun K k => q_X13_cycle K k 3 x1 x2 x3 x4 x5 t0 t1 z) Q := w_un (fun _ _ => rfl) H
theorem u_X13_cycle_4 {x1 : Int32} {x2 : Int32} {x3 : Int32} {x4 : Int32} {x5 : Int32} {t0 : Int32} {t1 : Int32} {z : ow_MS} {Q : ow_MS → Prop} (H : Tt (fun K k => qm_X13_cycle_4 K (q_X13_cycle K k) x1 x2 x3 x4 x5 t0 t1 z) Q) : Tt (fun K k => q_X13_cycle K k 4 x1 x2 x3 x4 x5 t0 t1 z) Q := w_un (fun _ _ => rfl) H
theorem u_X13_cycle_5 {x1 : Int32} {x2 : Int32} {x3 : Int32} {x4 : Int32} {x5 : Int32} {t0 : Int32} {t1 : Int32} {z : ow_MS} {Q : ow_MS → Prop} (H : Tt (fun K k => qm_X13_cycle_5 K (q_X13_cycle K k) x1 x2 x3 x4 x5 t0 t1 z) Q) : Tt (fun K k => q_X13_cycle K k 5 x1 x2 x3 x4 x5 t0 t1 z) Q := w_un (fun _ _ => rfl) H
theorem e_X13_cycle {x1 : Int32} {x2 : Int32} {z : ow_MS} {Q : ow_MS → Prop} (H : Tt (fun K k => q_X13_cycle K k 0 x1 x2 0 0 0 0 0 z) Q) : Te (fun K => qe_X13_cycle K x1 x2 z) Q := w_te H
theorem u_X13_cycle_0 {x1 : Int32} {x2 : Int32} {x3 : Int32} {x4 : Int32} {x5 : Int32} {t0 : Int32} {t1 : Int32} {z : ow_MS} {Q : ow_MS → Prop} (H : Tt (fun K k => qm_X13_cycle_0 K (q_X13_cycle K k) x1 x2 x3 x4 x5 t0 t1 z) Q) : Tt (fun K k => q_X13_cycle K k 0 x1 x2 x3 x4 x5 t0 t1 z) Q := w_un (fun _ _ => rfl) H
theorem u_X13_cycle_1 {x1 : Int32} {x2 : Int32} {x3 : Int32} {x4 : Int32} {x5 : Int32} {t0 : Int32} {t1 : Int32} {z : ow_MS} {Q : ow_MS → Prop} (H : Tt (fun K k => qm_X13_cycle_1 K (q_X13_cycle K k) x1 x2 x3 x4 x5 t0 t1 z) Q) : Tt (fun K k => q_X13_cycle K k 1 x1 x2 x3 x4 x5 t0 t1 z) Q := w_un (fun _ _ => rfl) H
theorem u_X13_cycle_2 {x1 : Int32} {x2 : Int32} {x3 : Int32} {x4 : Int32} {x5 : Int32} {t0 : Int32} {t1 : Int32} {z : ow_MS} {Q : ow_MS → Prop} (H : Tt (fun K k => qm_X13_cycle_2 K (q_X13_cycle K k) x1 x2 x3 x4 x5 t0 t1 z) Q) : Tt (fun K k => q_X13_cycle K k 2 x1 x2 x3 x4 x5 t0 t1 z) Q := w_un (fun _ _ => rfl) H
theorem tp_cyc0 {S : List Nat} {κ : Int} (h2 : 2 ≤ n) (h5 : n ≤ 5) (hT : tbG z) (hS : fmI z n S) (hl : S.length ≤ 16) (hl0 : 0 < S.length) (hk : z.1 112 = iI κ) : Te (fun K => qe_X13_cycle K (nI n) 0 z) (cyQ z n S κ) := by
  obtain ⟨s0, U0, rfl⟩ : ∃ s0 U0, S = s0 :: U0 := by
    cases S with
    | nil => cases hl0
    | cons a S => exact ⟨a, S, rfl⟩
  have hl : U0.length + 1 ≤ 16 := hl
  have hN := nn_pos (n := n)
  have tF : ∀ {y : ow_MS}, fr nmH z y → tbG y := fun hf => tbG_fr hf (fun g hg => by unfold nmH at hg; omega) hT
  let F : Nat → Prop := fun g => g = 108 ∨ g = 109
  have toN : ∀ {y : ow_MS}, fr F z y → fr nmH z y := fun hf => fr_mono (fun g hg => by have hg : g = 108 ∨ g = 109 := hg; unfold nmH; omega) hf
  have sF : ∀ {y : ow_MS} {i s : Nat}, fr F z y → (s0 :: U0)[i]? = some s → y.2.1 114 i = nI s ∧ s < gNN n := fun hf hi => ⟨by rw [(hf 114 (by show ¬ (114 = 108 ∨ 114 = 109); omega)).2.1]; exact hS.1.2 _ _ hi, hS.2 _ (List.mem_of_getElem? hi)⟩
  have hszl : ∀ j, szL n (U0.take j) ≤ 10 * j := by
    intro j
    have h1 := bs_fl (n := n) (U0.take j)
    have h3 := (bl_len h2 h5 (bsG n (U0.take j)) (bs_bl h2 h5 (fun s hs => hS.2 s (List.mem_cons_of_mem _ (List.mem_of_mem_take hs))))).1
    unfold bsG at h3
    rw [List.length_map, List.length_take] at h3
    unfold bsG at h1
    omega
  have c3 : ∀ (d j : Nat) (y : ow_MS), j + d = U0.length → lnI y 109 108 (bsG n (U0.take j)).flatten → fr F z y → Tt (fun K i => q_X13_cycle K i 3 (nI n) 0 (nI (U0.length + 1)) (iI κ) (nI (j + 1)) 0 0 y) (cyQ z n (s0 :: U0) κ) := by
    intro d
    induction d with
    | zero =>
      intro j y hj hw hf
      have hj : j = U0.length := by omega
      subst hj
      have hwl := hszl U0.length
      rw [List.take_length] at hw hwl
      refine u_X13_cycle_3 ?_; unfold qm_X13_cycle_3
      refine w_ifT rfl ?_
      refine u_X13_cycle_4 ?_; unfold qm_X13_cycle_4
      refine w_leT (by omega) (Nat.le_refl _) (w_ifT rfl (w_rdI (i := 0) ml114 rfl (by omega) (sF hf (i := 0) rfl).1 (w_cs1 (tp_turned h2 h5 (sF hf (i := 0) rfl).2 (tF (toN hf))) (fun v y1 ⟨e1, s', s1, s2, s3⟩ => ?_))))
      have e1 : y1 = y := e1
      have s2v : v = nI s' := s2
      subst e1
      rw [s2v]
      refine w_cs0 (tp_append h2 h5 s1 (tF (toN hf)) hw (by rw [bs_fl]; omega)) (fun y2 ⟨w2, f2⟩ => ?_)
      have hf2 : fr F z y2 := fr_tr hf (fr_mono (fun g hg => hg) f2)
      refine u_X13_cycle_5 ?_; unfold qm_X13_cycle_5
      rw [← bs_app] at w2
      refine w_cs0 (tp_nmU h2 h5 rfl (tF (toN hf2)) (fun s hs => ?_) (by rw [List.length_append]; show U0.length + 1 ≤ 18; omega) w2) (fun y3 ⟨⟨S3, t, a1, a2, a3, a4⟩, a5⟩ => w_some ⟨⟨S3, t, a1, ?_, a3, ?_⟩, fr_tr (toN hf2) a5⟩)
      · rcases List.mem_append.mp hs with h9 | h9
        · exact hS.2 s (List.mem_cons_of_mem _ h9)
        · rw [List.mem_singleton.mp h9]; exact s1
      · rw [List.length_append] at a2
        exact a2
      · rw [a4, szL_app, szL_cons, s3]
        omega
    | succ d ih =>
      intro j y hj hw hf
      have hjl : j < U0.length := by omega
      have hwl := hszl j
      have hsj := sF hf (i := j + 1) (s := U0[j]) (by rw [List.getElem?_cons_succ]; exact List.getElem?_eq_getElem hjl)
      refine u_X13_cycle_3 ?_; unfold qm_X13_cycle_3
      refine w_ifT rfl ?_
      refine u_X13_cycle_4 ?_; unfold qm_X13_cycle_4
      refine w_leF (by omega) (by omega) (w_rdI ml114 rfl (by omega) hsj.1 (w_cs0 (tp_append h2 h5 hsj.2 (tF (toN hf)) hw (by rw [bs_fl]; omega)) (fun y2 ⟨w2, f2⟩ => ?_)))
      rw [← bs_app, show U0.take j ++ [U0[j]] = U0.take (j + 1) from by rw [List.take_succ, List.getElem?_eq_getElem hjl]; rfl] at w2
      rw [show nI (j + 1) + 1 = nI (j + 1 + 1) from nI_1 _]
      exact ih (j + 1) y2 (by omega) w2 (fr_tr hf (fr_mono (fun g hg => hg) f2))
  refine e_X13_cycle ?_
  refine u_X13_cycle_0 ?_; unfold qm_X13_cycle_0
  refine w_rdF hS.1.1 (w_rdF hk (w_wrF (w_ifT rfl ?_)))
  refine u_X13_cycle_1 ?_; unfold qm_X13_cycle_1
  refine w_ifT rfl ?_
  refine u_X13_cycle_2 ?_; unfold qm_X13_cycle_2
  exact c3 U0.length 0 _ (by omega) ⟨po_usF_at, fun i a hi => by simp [bsG] at hi⟩ (fr_F (Or.inr rfl))
theorem tp_cyc1 {S : List Nat} {κ : Int} (h2 : 2 ≤ n) (h5 : n ≤ 5) (hT : tbG z) (hS : fmI z n S) (hl : S.length ≤ 16) (hl0 : 0 < S.length) (hk : z.1 112 = iI κ) : Te (fun K => qe_X13_cycle K (nI n) 1 z) (cyQ z n S κ) := by
  obtain ⟨U0, s0, rfl⟩ : ∃ U0 s0, S = U0 ++ [s0] := by
    rcases List.eq_nil_or_concat S with h9 | ⟨F, b, h9⟩
    · rw [h9] at hl0
      cases hl0
    · exact ⟨F, b, by rw [h9, List.concat_eq_append]⟩
  have hSl : (U0 ++ [s0]).length = U0.length + 1 := by rw [List.length_append]; rfl
  rw [hSl] at hl
  have hN := nn_pos (n := n)
  have tF : ∀ {y : ow_MS}, fr nmH z y → tbG y := fun hf => tbG_fr hf (fun g hg => by unfold nmH at hg; omega) hT
  let F : Nat → Prop := fun g => g = 108 ∨ g = 109
  have toN : ∀ {y : ow_MS}, fr F z y → fr nmH z y := fun hf => fr_mono (fun g hg => by have hg : g = 108 ∨ g = 109 := hg; unfold nmH; omega) hf
  have sF : ∀ {y : ow_MS} {i s : Nat}, fr F z y → (U0 ++ [s0])[i]? = some s → y.2.1 114 i = nI s ∧ s < gNN n := fun hf hi => ⟨by rw [(hf 114 (by show ¬ (114 = 108 ∨ 114 = 109); omega)).2.1]; exact hS.1.2 _ _ hi, hS.2 _ (List.mem_of_getElem? hi)⟩
  have c3 : ∀ (d j s' : Nat) (y : ow_MS), s' < gNN n → szG n s' = szG n s0 → j + d = U0.length → lnI y 109 108 (bsG n (s' :: U0.take j)).flatten → fr F z y → Tt (fun K i => q_X13_cycle K i 3 (nI n) 1 (nI (U0.length + 1)) (iI κ) (nI j) 0 0 y) (cyQ z n (U0 ++ [s0]) κ) := by
    intro d
    induction d with
    | zero =>
      intro j s' y hs' hsz hj hw hf
      have hj : j = U0.length := by omega
      subst hj
      rw [List.take_length] at hw
      refine u_X13_cycle_3 ?_; unfold qm_X13_cycle_3
      rw [show nI (U0.length + 1) - 1 = nI U0.length from (pk_sub (a := U0.length + 1) (b := 1) (by omega)).trans (by rw [Nat.add_sub_cancel])]
      refine w_ifF (by decide) ?_
      refine u_X13_cycle_4 ?_; unfold qm_X13_cycle_4
      refine w_leT (by omega) (Nat.le_refl _) (w_ifF (by decide) ?_)
      refine u_X13_cycle_5 ?_; unfold qm_X13_cycle_5
      refine w_cs0 (tp_nmU h2 h5 rfl (tF (toN hf)) (fun s hs => ?_) (by rw [List.length_cons]; omega) hw) (fun y3 ⟨⟨S3, t, a1, a2, a3, a4⟩, a5⟩ => w_some ⟨⟨S3, t, a1, ?_, a3, ?_⟩, fr_tr (toN hf) a5⟩)
      · rcases List.mem_cons.mp hs with h9 | h9
        · rw [h9]; exact hs'
        · exact hS.2 s (List.mem_append_left _ h9)
      · rw [hSl]
        exact a2
      · rw [a4, szL_app, szL_cons, hsz]
        omega
    | succ d ih =>
      intro j s' y hs' hsz hj hw hf
      have hjl : j < U0.length := by omega
      have hsj := sF hf (i := j) (s := U0[j]) (by rw [List.getElem?_append_left hjl]; exact List.getElem?_eq_getElem hjl)
      have hwl : (bsG n (s' :: U0.take j)).flatten.length ≤ 200 := by
        have h3 := (bl_len h2 h5 (bsG n (s' :: U0.take j)) (bs_bl h2 h5 (fun s hs => by
          rcases List.mem_cons.mp hs with h9 | h9
          · rw [h9]; exact hs'
          · exact hS.2 s (List.mem_append_left _ (List.mem_of_mem_take h9))))).1
        have h4 : (bsG n (s' :: U0.take j)).length ≤ U0.length + 1 := by
          unfold bsG
          rw [List.length_map, List.length_cons, List.length_take]
          omega
        omega
      refine u_X13_cycle_3 ?_; unfold qm_X13_cycle_3
      rw [show nI (U0.length + 1) - 1 = nI U0.length from (pk_sub (a := U0.length + 1) (b := 1) (by omega)).trans (by rw [Nat.add_sub_cancel])]
      refine w_ifF (by decide) ?_
      refine u_X13_cycle_4 ?_; unfold qm_X13_cycle_4
      refine w_leF (by omega) (by omega) (w_rdI ml114 rfl (by omega) hsj.1 (w_cs0 (tp_append h2 h5 hsj.2 (tF (toN hf)) hw (by omega)) (fun y2 ⟨w2, f2⟩ => ?_)))
      rw [← bs_app, show s' :: U0.take j ++ [U0[j]] = s' :: U0.take (j + 1) from by rw [List.take_succ, List.getElem?_eq_getElem hjl]; rfl] at w2
      rw [show nI j + 1 = nI (j + 1) from nI_1 _]
      exact ih (j + 1) s' y2 hs' hsz (by omega) w2 (fr_tr hf (fr_mono (fun g hg => hg) f2))
  have hlast : ∀ {y : ow_MS}, fr F z y → y.2.1 114 U0.length = nI s0 ∧ s0 < gNN n := fun hf => sF hf (by rw [List.getElem?_append_right (Nat.le_refl _), Nat.sub_self]; rfl)
  have hf0 : fr F z (usF z 109 0) := fr_F (Or.inr rfl)
  have h113 : z.1 113 = nI (U0.length + 1) := by rw [hS.1.1, hSl]
  refine e_X13_cycle ?_
  refine u_X13_cycle_0 ?_; unfold qm_X13_cycle_0
  refine w_rdF h113 (w_rdF hk (w_wrF (w_ifF (by decide) ?_)))
  rw [show nI (U0.length + 1) - 1 = nI U0.length from (pk_sub (a := U0.length + 1) (b := 1) (by omega)).trans (by rw [Nat.add_sub_cancel])]
  refine w_rdI ml114 rfl (by omega) (hlast hf0).1 (w_cs1 (tp_turned h2 h5 (hlast hf0).2 (tF (toN hf0))) (fun v y1 ⟨e1, s', s1, s2, s3⟩ => ?_))
  have e1 : y1 = usF z 109 0 := e1
  have s2v : v = nI s' := s2
  subst e1
  rw [s2v]
  refine w_cs0 (tp_append (L := []) h2 h5 s1 (tF (toN hf0)) ⟨po_usF_at, fun i a hi => by simp at hi⟩ (by decide)) (fun y2 ⟨w2, f2⟩ => ?_)
  refine u_X13_cycle_1 ?_; unfold qm_X13_cycle_1
  refine w_ifF (by decide) ?_
  refine u_X13_cycle_2 ?_; unfold qm_X13_cycle_2
  refine c3 U0.length 0 s' y2 s1 s3 (by omega) ?_ (fr_tr hf0 (fr_mono (fun g hg => hg) f2))
  rw [List.take_zero]
  have : (bsG n [s']).flatten = [] ++ ltG n s' := by
    unfold bsG
    simp
  rw [this]
  exact w2
/-- a braid's form on the way to its summit -/
def suI (y : ow_MS) (n : Nat) : Prop := ∃ S κ, fmI y n S ∧ S.length ≤ 16 ∧ y.1 112 = iI κ ∧ -16 ≤ κ ∧ κ + szL n S ≤ 160
theorem u_X13_summitOf_4 {x1 : Int32} {x2 : Int32} {x3 : Int32} {x4 : Int32} {x5 : Int32} {t0 : Int32} {z : ow_MS} {Q : ow_MS → Prop} (H : Tt (fun K k => qm_X13_summitOf_4 K (q_X13_summitOf K k) x1 x2 x3 x4 x5 t0 z) Q) : Tt (fun K k => q_X13_summitOf K k 4 x1 x2 x3 x4 x5 t0 z) Q := w_un (fun _ _ => rfl) H
theorem u_X13_summitOf_5 {x1 : Int32} {x2 : Int32} {x3 : Int32} {x4 : Int32} {x5 : Int32} {t0 : Int32} {z : ow_MS} {Q : ow_MS → Prop} (H : Tt (fun K k => qm_X13_summitOf_5 K (q_X13_summitOf K k) x1 x2 x3 x4 x5 t0 z) Q) : Tt (fun K k => q_X13_summitOf K k 5 x1 x2 x3 x4 x5 t0 z) Q := w_un (fun _ _ => rfl) H
theorem u_X13_summitOf_3 {x1 : Int32} {x2 : Int32} {x3 : Int32} {x4 : Int32} {x5 : Int32} {t0 : Int32} {z : ow_MS} {Q : ow_MS → Prop} (H : Tt (fun K k => qm_X13_summitOf_3 K (q_X13_summitOf K k) x1 x2 x3 x4 x5 t0 z) Q) : Tt (fun K k => q_X13_summitOf K k 3 x1 x2 x3 x4 x5 t0 z) Q := w_un (fun _ _ => rfl) H
theorem u_X13_summitOf_1 {x1 : Int32} {x2 : Int32} {x3 : Int32} {x4 : Int32} {x5 : Int32} {t0 : Int32} {z : ow_MS} {Q : ow_MS → Prop} (H : Tt (fun K k => qm_X13_summitOf_1 K (q_X13_summitOf K k) x1 x2 x3 x4 x5 t0 z) Q) : Tt (fun K k => q_X13_summitOf K k 1 x1 x2 x3 x4 x5 t0 z) Q := w_un (fun _ _ => rfl) H
theorem u_X13_summitOf_2 {x1 : Int32} {x2 : Int32} {x3 : Int32} {x4 : Int32} {x5 : Int32} {t0 : Int32} {z : ow_MS} {Q : ow_MS → Prop} (H : Tt (fun K k => qm_X13_summitOf_2 K (q_X13_summitOf K k) x1 x2 x3 x4 x5 t0 z) Q) : Tt (fun K k => q_X13_summitOf K k 2 x1 x2 x3 x4 x5 t0 z) Q := w_un (fun _ _ => rfl) H
theorem e_X13_summitOf {x1 : Int32} {z : ow_MS} {Q : ow_MS → Prop} (H : Tt (fun K k => q_X13_summitOf K k 0 x1 0 0 0 0 0 z) Q) : Te (fun K => qe_X13_summitOf K x1 z) Q := w_te H
theorem u_X13_summitOf_0 {x1 : Int32} {x2 : Int32} {x3 : Int32} {x4 : Int32} {x5 : Int32} {t0 : Int32} {z : ow_MS} {Q : ow_MS → Prop} (H : Tt (fun K k => qm_X13_summitOf_0 K (q_X13_summitOf K k) x1 x2 x3 x4 x5 t0 z) Q) : Tt (fun K k => q_X13_summitOf K k 0 x1 x2 x3 x4 x5 t0 z) Q := w_un (fun _ _ => rfl) H
theorem tp_summitOf {b l : Nat} (hb : b < 20) (hh : hBr z b n l) (hT : tbG z) : Te (fun K => qe_X13_summitOf K (nI b) z) (fun z1 => suI z1 n ∧ fr nmH z z1) := by
  have h2 := hh.1
  have h5 := hh.2.1
  have hN := nn_pos (n := n)
  obtain ⟨-, -, -, -, hm1, hm2⟩ := f_fiv h2 h5 (a := 0) (by omega)
  let Q : ow_MS → Prop := fun z1 => suI z1 n ∧ fr nmH z z1
  have tF : ∀ {y : ow_MS}, fr nmH z y → tbG y := fun hf => tbG_fr hf (fun g hg => by unfold nmH at hg; omega) hT
  generalize hmo : szG n (gNN n - 1) = most at *
  have c4 : ∀ (m d t : Nat) (S : List Nat) (κ : Int) (y : ow_MS), κ + S.length + 16 ≤ m → t + d = most → fmI y n S → S.length ≤ 16 → y.1 112 = iI κ → -16 ≤ κ → κ + szL n S ≤ 160 → fr nmH z y → Tt (fun K i => q_X13_summitOf K i 4 (nI b) (nI n) (nI most) (nI t) 0 0 y) Q := by
    intro m
    induction m using Nat.strongRecOn with
    | ind m ihm =>
    intro d
    induction d with
    | zero =>
      intro t S κ y hm ht hS hl hk k1 k2 hf
      refine u_X13_summitOf_4 ?_; unfold qm_X13_summitOf_4
      exact w_leT (by omega) (by omega) (w_some ⟨⟨S, κ, hS, hl, hk, k1, k2⟩, hf⟩)
    | succ d ih =>
      intro t S κ y hm ht hS hl hk k1 k2 hf
      refine u_X13_summitOf_4 ?_; unfold qm_X13_summitOf_4
      refine w_leF (by omega) (by omega) (w_rdF hS.1.1 (w_le (b := 0) (by omega) (by omega) (fun _ => w_some ⟨⟨S, κ, hS, hl, hk, k1, k2⟩, hf⟩) (fun hpos => w_rdF hk (w_rdF hS.1.1 (w_cs0 (tp_cyc1 h2 h5 (tF hf) hS hl hpos hk) (fun y1 ⟨⟨S1, t1, a1, a2, a3, a4⟩, a5⟩ => ?_))))))
      rw [hmo] at a4
      have ht1 : t1 * 1 ≤ t1 * most := Nat.mul_le_mul_left _ hm1
      refine w_rdF a3 (w_rdF a1.1.1 (w_if (fun hle => ?_) (fun hgt => ?_)))
      · refine u_X13_summitOf_5 ?_; unfold qm_X13_summitOf_5
        rw [nI_1]
        exact ih (t + 1) S1 (κ + (t1 : Nat)) y1 (by omega) (by omega) a1 (by omega) a3 (by omega) (by omega) (fr_tr hf a5)
      · refine u_X13_summitOf_5 ?_; unfold qm_X13_summitOf_5
        rw [nI_iI, nI_iI, iI_add, iI_add, iI_le (by omega) (by omega) (by omega) (by omega)] at hgt
        exact ihm ((κ + (t1 : Nat) + (S1.length : Nat) + 16).toNat) (by omega) most 0 S1 (κ + (t1 : Nat)) y1 (by omega) (by omega) a1 (by omega) a3 (by omega) (by omega) (fr_tr hf a5)
  have c3 : ∀ (x4 : Int32) (S : List Nat) (κ : Int) (y : ow_MS), fmI y n S → S.length ≤ 16 → y.1 112 = iI κ → -16 ≤ κ → κ + szL n S ≤ 160 → fr nmH z y → Tt (fun K i => q_X13_summitOf K i 3 (nI b) (nI n) (nI most) x4 0 0 y) Q := by
    intro x4 S κ y hS hl hk k1 k2 hf
    refine u_X13_summitOf_3 ?_; unfold qm_X13_summitOf_3
    exact c4 (κ + S.length + 16).toNat most 0 S κ y (by omega) (by omega) hS hl hk k1 k2 hf
  have c1 : ∀ (m d t : Nat) (S : List Nat) (κ : Int) (y : ow_MS), szL n S ≤ m → t + d = most → fmI y n S → S.length ≤ 16 → y.1 112 = iI κ → -16 ≤ κ → κ + szL n S ≤ 160 → fr nmH z y → Tt (fun K i => q_X13_summitOf K i 1 (nI b) (nI n) (nI most) (nI t) 0 0 y) Q := by
    intro m
    induction m using Nat.strongRecOn with
    | ind m ihm =>
    intro d
    induction d with
    | zero =>
      intro t S κ y hm ht hS hl hk k1 k2 hf
      refine u_X13_summitOf_1 ?_; unfold qm_X13_summitOf_1
      exact w_leT (by omega) (by omega) (c3 _ S κ y hS hl hk k1 k2 hf)
    | succ d ih =>
      intro t S κ y hm ht hS hl hk k1 k2 hf
      refine u_X13_summitOf_1 ?_; unfold qm_X13_summitOf_1
      refine w_leF (by omega) (by omega) (w_rdF hS.1.1 (w_le (b := 0) (by omega) (by omega) (fun _ => c3 _ S κ y hS hl hk k1 k2 hf) (fun hpos => w_rdF hk (w_cs0 (tp_cyc0 h2 h5 (tF hf) hS hl hpos hk) (fun y1 ⟨⟨S1, t1, a1, a2, a3, a4⟩, a5⟩ => ?_)))))
      rw [hmo] at a4
      have ht1 : t1 * 1 ≤ t1 * most := Nat.mul_le_mul_left _ hm1
      refine w_rdF a3 (w_if (fun hle => ?_) (fun hgt => ?_))
      · refine u_X13_summitOf_2 ?_; unfold qm_X13_summitOf_2
        rw [nI_1]
        exact ih (t + 1) S1 (κ + (t1 : Nat)) y1 (by omega) (by omega) a1 (by omega) a3 (by omega) (by omega) (fr_tr hf a5)
      · refine u_X13_summitOf_2 ?_; unfold qm_X13_summitOf_2
        rw [iI_le (by omega) (by omega) (by omega) (by omega)] at hgt
        exact ihm (szL n S1) (by omega) most 0 S1 (κ + (t1 : Nat)) y1 (Nat.le_refl _) (by omega) a1 (by omega) a3 (by omega) (by omega) (fr_tr hf a5)
  refine e_X13_summitOf ?_
  refine u_X13_summitOf_0 ?_; unfold qm_X13_summitOf_0
  refine w_cs0 (tp_formOf hb hh hT) (fun y ⟨⟨S, κ, a1, a2, a3, a4, a5⟩, f1⟩ => ?_)
  have e96 : y.2.1 96 b = nI n := by rw [(f1 96 (by unfold nmH; omega)).2.1]; exact hh.2.2.2.1
  have hTy := (tF f1) n h2 h5
  have hTd := (hTy.2 (gNN n - 1) (by omega)).1
  rw [hmo] at hTd
  refine w_rdI ml96 rfl (by omega) e96 (w_rdI ml97 rfl (by omega) hTy.1 (w_rdI (i := 120 * n + (gNN n - 1)) ml100 (by rw [ix120, show nI (120 * n + gNN n) - 1 = nI (120 * n + gNN n - 1) from pk_sub (b := 1) (by omega)]; congr 1; omega) (by omega) hTd ?_))
  exact c1 (szL n S) most 0 S κ y (Nat.le_refl _) (by omega) a1 a2 a3 a4 a5 f1
/-! all forms -/
def afI (y : ow_MS) (n F R : Nat) (κ : Int) : Prop := y.1 116 = nI F ∧ ∀ i, i < F → ∃ S, S.length = R ∧ frwI y 115 (40 * i) n S κ
theorem afI_fr {P : Nat → Prop} {y y1 : ow_MS} {n F R : Nat} {κ : Int} (hf : fr P y y1) (h1 : ¬ P 115) (h2 : ¬ P 116) (h : afI y n F R κ) : afI y1 n F R κ := ⟨by rw [(hf 116 h2).1]; exact h.1, fun i hi => by
  obtain ⟨S, k1, k2⟩ := h.2 i hi
  exact ⟨S, k1, frwI_fr hf h1 k2⟩⟩
theorem u_X13_isThere_1 {x2 : Int32} {x3 : Int32} {r1 : Nat} {z : ow_MS} {Q : (Int32 × ow_MS) → Prop} (H : Tt (fun K k => qm_X13_isThere_1 K (q_X13_isThere K k) x2 x3 r1 z) Q) : Tt (fun K k => q_X13_isThere K k 1 x2 x3 r1 z) Q := w_un (fun _ _ => rfl) H
theorem e_X13_isThere {r1 : Nat} {z : ow_MS} {Q : (Int32 × ow_MS) → Prop} (H : Tt (fun K k => q_X13_isThere K k 0 0 0 r1 z) Q) : Te (fun K => qe_X13_isThere K r1 z) Q := w_te H
theorem u_X13_isThere_0 {x2 : Int32} {x3 : Int32} {r1 : Nat} {z : ow_MS} {Q : (Int32 × ow_MS) → Prop} (H : Tt (fun K k => qm_X13_isThere_0 K (q_X13_isThere K k) x2 x3 r1 z) Q) : Tt (fun K k => q_X13_isThere K k 0 x2 x3 r1 z) Q := w_un (fun _ _ => rfl) H
theorem tp_isThere {r F R : Nat} {S : List Nat} {κ κ2 : Int} (hr : r = 117 ∨ r = 118) (hF : F ≤ 200) (hA : afI z n F R κ) (hS : frwI z r 0 n S κ2) (hl : S.length ≤ 38) : Te (fun K => qe_X13_isThere K r z) (fun o => o.2 = z ∧ (o.1 = 0 ∨ o.1 = 1)) := by
  have hrl : (mX.2 r).2.1 = 40 := by
    rcases hr with rfl | rfl
    · exact ml117
    · exact ml118
  have key : ∀ (d i : Nat) (x : Int32), i + d = F → (x = 0 ∨ x = 1) → Tt (fun K t => q_X13_isThere K t 1 x (nI i) r z) (fun o => o.2 = z ∧ (o.1 = 0 ∨ o.1 = 1)) := by
    intro d
    induction d with
    | zero =>
      intro i x hi hx
      refine u_X13_isThere_1 ?_; unfold qm_X13_isThere_1
      exact w_rdF hA.1 (w_leT (by omega) (by omega) (w_okZ hx (w_some ⟨rfl, hx⟩)))
    | succ d ih =>
      intro i x hi hx
      refine u_X13_isThere_1 ?_; unfold qm_X13_isThere_1
      rw [show (40 : Int32) * nI i = nI (40 * i) from pk_mul 40 i, nI_1]
      refine w_rdF hA.1 (w_leF (by omega) (by omega) (w_if (fun _ => w_cs1 (tp_isForm (i := 0) (j := 40 * i) hrl ml115 (by omega) (by omega) (by omega) (by omega) hS) (fun v y1 ⟨e1, e2⟩ => ?_)) (fun _ => w_okZ hx (w_some ⟨rfl, hx⟩))))
      have e1 : y1 = z := e1
      subst e1
      exact ih (i + 1) v (by omega) e2
  refine e_X13_isThere ?_
  refine u_X13_isThere_0 ?_; unfold qm_X13_isThere_0
  exact key F 0 0 (by omega) (Or.inl rfl)
abbrev afH (g : Nat) : Prop := 108 ≤ g ∧ g ≤ 117
theorem u_X13_allForms_1 {x1 : Int32} {x2 : Int32} {x3 : Int32} {x4 : Int32} {x5 : Int32} {z : ow_MS} {Q : (Int32 × ow_MS) → Prop} (H : Tt (fun K k => qm_X13_allForms_1 K (q_X13_allForms K k) x1 x2 x3 x4 x5 z) Q) : Tt (fun K k => q_X13_allForms K k 1 x1 x2 x3 x4 x5 z) Q := w_un (fun _ _ => rfl) H
theorem u_X13_allForms_2 {x1 : Int32} {x2 : Int32} {x3 : Int32} {x4 : Int32} {x5 : Int32} {z : ow_MS} {Q : (Int32 × ow_MS) → Prop} (H : Tt (fun K k => qm_X13_allForms_2 K (q_X13_allForms K k) x1 x2 x3 x4 x5 z) Q) : Tt (fun K k => q_X13_allForms K k 2 x1 x2 x3 x4 x5 z) Q := w_un (fun _ _ => rfl) H
theorem u_X13_allForms_4 {x1 : Int32} {x2 : Int32} {x3 : Int32} {x4 : Int32} {x5 : Int32} {z : ow_MS} {Q : (Int32 × ow_MS) → Prop} (H : Tt (fun K k => qm_X13_allForms_4 K (q_X13_allForms K k) x1 x2 x3 x4 x5 z) Q) : Tt (fun K k => q_X13_allForms K k 4 x1 x2 x3 x4 x5 z) Q := w_un (fun _ _ => rfl) H
theorem u_X13_allForms_3 {x1 : Int32} {x2 : Int32} {x3 : Int32} {x4 : Int32} {x5 : Int32} {z : ow_MS} {Q : (Int32 × ow_MS) → Prop} (H : Tt (fun K k => qm_X13_allForms_3 K (q_X13_allForms K k) x1 x2 x3 x4 x5 z) Q) : Tt (fun K k => q_X13_allForms K k 3 x1 x2 x3 x4 x5 z) Q := w_un (fun _ _ => rfl) H
theorem e_X13_allForms {x1 : Int32} {z : ow_MS} {Q : (Int32 × ow_MS) → Prop} (H : Tt (fun K k => q_X13_allForms K k 0 x1 0 0 0 0 z) Q) : Te (fun K => qe_X13_allForms K x1 z) Q := w_te H
theorem u_X13_allForms_0 {x1 : Int32} {x2 : Int32} {x3 : Int32} {x4 : Int32} {x5 : Int32} {z : ow_MS} {Q : (Int32 × ow_MS) → Prop} (H : Tt (fun K k => qm_X13_allForms_0 K (q_X13_allForms K k) x1 x2 x3 x4 x5 z) Q) : Tt (fun K k => q_X13_allForms K k 0 x1 x2 x3 x4 x5 z) Q := w_un (fun _ _ => rfl) H
theorem tp_allForms (h2 : 2 ≤ n) (h5 : n ≤ 5) (hT : tbG z) (hI : suI z n) : Te (fun K => qe_X13_allForms K (nI n) z) (fun o => (∃ F R κ, F ≤ 200 ∧ afI o.2 n F R κ) ∧ fr afH z o.2) := by
  have hN := nn_pos (n := n)
  obtain ⟨S0, κ, s1, s2, s3, s4, s5⟩ := hI
  let Q : Int32 × ow_MS → Prop := fun o => (∃ F R κ, F ≤ 200 ∧ afI o.2 n F R κ) ∧ fr afH z o.2
  have tF : ∀ {y : ow_MS}, fr afH z y → tbG y := fun hf => tbG_fr hf (fun g hg => by unfold afH at hg; omega) hT
  generalize hR : S0.length = R at s2
  have nmA : ∀ {y y1 : ow_MS}, fr afH z y → fr nmH y y1 → fr afH z y1 := fun h1 h3 => fr_tr h1 (fr_mono (fun g hg => by unfold nmH at hg; unfold afH; omega) h3)
  have c1 : ∀ (d at9 F : Nat) (y : ow_MS), at9 + d = 200 → F ≤ 200 → 1 ≤ F → afI y n F R κ → fr afH z y → Tt (fun K i => q_X13_allForms K i 1 (nI n) (nI at9) 0 0 0 y) Q := by
    intro d
    induction d with
    | zero =>
      intro at9 F y ha hF hF1 hA hf
      refine u_X13_allForms_1 ?_; unfold qm_X13_allForms_1
      exact w_rdF hA.1 (w_leT (by omega) (by omega) (w_okZ (Or.inr rfl) (w_some ⟨⟨F, R, κ, hF, hA⟩, hf⟩)))
    | succ d ih =>
      intro at9 F y ha hF hF1 hA hf
      refine u_X13_allForms_1 ?_; unfold qm_X13_allForms_1
      refine w_rdF hA.1 (w_le (by omega) (by omega) (fun _ => w_okZ (Or.inr rfl) (w_some ⟨⟨F, R, κ, hF, hA⟩, hf⟩)) (fun hlt => ?_))
      have c2 : ∀ (d2 s F : Nat) (y : ow_MS), s + d2 = gNN n → F ≤ 200 → at9 < F → afI y n F R κ → fr afH z y → Tt (fun K i => q_X13_allForms K i 2 (nI n) (nI at9) (nI s) 0 0 y) Q := by
        intro d2
        induction d2 with
        | zero =>
          intro s F y hs hF haF hA hf
          refine u_X13_allForms_2 ?_; unfold qm_X13_allForms_2
          rw [show nI at9 + 1 = nI (at9 + 1) from nI_1 _]
          exact w_rdI ml97 rfl (by omega) ((tF hf) n h2 h5).1 (w_leT (by omega) (by omega) (ih (at9 + 1) F y (by omega) hF (by omega) hA hf))
        | succ d2 ih2 =>
          intro s F y hs hF haF hA hf
          have hsl : s < gNN n := by omega
          have hah := (f_one h2 h5 hsl).2.1
          obtain ⟨Sa, ka, fa⟩ := hA.2 at9 haF
          have c4 : ∀ (x4 x5 : Int32) (F : Nat) (y : ow_MS), F ≤ 200 → at9 < F → afI y n F R κ → fr afH z y → Tt (fun K i => q_X13_allForms K i 4 (nI n) (nI at9) (nI s) x4 x5 y) Q := by
            intro x4 x5 F y hF haF hA hf
            refine u_X13_allForms_4 ?_; unfold qm_X13_allForms_4
            rw [show nI s + 1 = nI (s + 1) from nI_1 _]
            exact ih2 (s + 1) F y (by omega) hF haF hA hf
          have c3 : ∀ (d3 j s' : Nat) (y : ow_MS), s' < gNN n → j + d3 = R → afI y n F R κ → frwI y 115 (40 * at9) n Sa κ → lnI y 109 108 (bsG n (s' :: Sa.take j)).flatten → fr afH z y → Tt (fun K i => q_X13_allForms K i 3 (nI n) (nI at9) (nI s) (iI κ) (nI j) y) Q := by
            have bdd : ∀ (s' j : Nat), s' < gNN n → (bsG n (s' :: Sa.take j)).flatten.length ≤ 200 := by
              intro s' j hs'
              have h3 := (bl_len h2 h5 (bsG n (s' :: Sa.take j)) (bs_bl h2 h5 (fun s hs => by
                rcases List.mem_cons.mp hs with h9 | h9
                · rw [h9]; exact hs'
                · exact fa.2.2.2 s (List.mem_of_mem_take h9)))).1
              have h4 : (bsG n (s' :: Sa.take j)).length ≤ R + 1 := by
                unfold bsG
                rw [List.length_map, List.length_cons, List.length_take]
                omega
              omega
            intro d3
            induction d3 with
            | zero =>
              intro j s' y hs' hj hA hfa hw hf
              have hj : j = Sa.length := by omega
              subst hj
              have hb9 := bdd s' Sa.length hs'
              rw [List.take_length] at hw hb9
              refine u_X13_allForms_3 ?_; unfold qm_X13_allForms_3
              rw [show (40 : Int32) * nI at9 = nI (40 * at9) from pk_mul 40 _, nI_1]
              refine w_rdI ml115 rfl (by omega) hfa.2.1 (w_leT (by omega) (Nat.le_refl _) (w_cs0 (tp_append h2 h5 hsl (tF hf) hw (by omega)) (fun y1 ⟨w1, f1⟩ => ?_)))
              rw [← bs_app] at w1
              have hf1 : fr afH z y1 := fr_tr hf (fr_mono (fun g hg => by unfold afH; omega) f1)
              have hA1 := afI_fr f1 (by omega) (by omega) hA
              refine w_cs0 (tp_nmU (U := s' :: Sa ++ [s]) (κ := κ - 1) h2 h5 (by show iI κ - iI 1 = _; rw [iI_sub]) (tF hf1) (fun t ht => ?_) ?_ w1) (fun y2 ⟨⟨S2, t2, b1, b2, b3, b4⟩, b5⟩ => ?_)
              · rcases List.mem_append.mp ht with h9 | h9
                · rcases List.mem_cons.mp h9 with h8 | h8
                  · rw [h8]; exact hs'
                  · exact fa.2.2.2 t h8
                · rw [List.mem_singleton.mp h9]; exact hsl
              · rw [List.length_append, List.length_cons]
                show Sa.length + 1 + 1 ≤ 18
                omega
              · have hS2 : S2.length ≤ 18 := by
                  rw [List.length_append, List.length_cons] at b2
                  have b2 : S2.length + t2 ≤ Sa.length + 1 + 1 := b2
                  omega
                have hf2 := nmA hf1 b5
                have hA2 := afI_fr b5 (by unfold nmH; omega) (by unfold nmH; omega) hA1
                obtain ⟨Sz, kz, fz⟩ := hA2.2 0 (by omega)
                refine w_rdF rfl (w_rdI (i := 0) ml115 rfl (by omega) fz.1 (w_if (fun hkk => w_rdF b1.1.1 (w_rdI (i := 1) ml115 rfl (by omega) fz.2.1 (w_eqN (by omega) (by omega) (fun hrr => ?_) (fun _ => c4 _ _ F y2 hF haF hA2 hf2)))) (fun _ => c4 _ _ F y2 hF haF hA2 hf2)))
                refine w_cs0 (tp_formTo (r := 117) (o := 0) ml117 (by omega) (by omega) (by omega) (by omega) b1 hkk) (fun y3 ⟨q1, q2, _⟩ => ?_)
                have hf3 : fr afH z y3 := fr_tr hf2 (fr_mono (fun g hg => by unfold afH; omega) q2)
                have hA3 := afI_fr q2 (by omega) (by omega) hA2
                have b1' : fmI y3 n S2 := ⟨lnI_fr q2 (by omega) (by omega) b1.1, b1.2⟩
                have hk3 : y3.1 112 = iI κ := by rw [(q2 112 (by omega)).1]; exact hkk
                refine w_cs1 (tp_isThere (r := 117) (Or.inl rfl) hF hA3 q1 (by omega)) (fun v y4 ⟨e4, _⟩ => ?_)
                have e4 : y4 = y3 := e4
                subst e4
                refine w_if (fun _ => w_rdF hA3.1 (w_eqN (b := 200) (by omega) (by omega) (fun _ => w_okZ (Or.inl rfl) (w_some ⟨⟨F, R, κ, hF, hA3⟩, hf3⟩)) (fun hne => w_rdF hA3.1 ?_))) (fun _ => c4 _ _ F y4 hF haF hA3 hf3)
                rw [show (40 : Int32) * nI F = nI (40 * F) from pk_mul 40 F]
                refine w_cs0 (tp_formTo (r := 115) (o := 40 * F) ml115 (by omega) (by omega) (by omega) (by omega) b1' hk3) (fun y5 ⟨p1, p2, p3⟩ => ?_)
                have h116 : y5.1 116 = nI F := by rw [(p2 116 (by omega)).1]; exact hA3.1
                refine w_rdF h116 (w_wrF (c4 _ _ (F + 1) _ (by omega) (by omega) ⟨po_usF_at.trans (nI_1 F), fun i hi => ?_⟩ (fr_F2 (fr_tr hf3 (fr_mono (fun g hg => by unfold afH; omega) p2)) (by unfold afH; omega))))
                by_cases hiF : i = F
                · rw [hiF]
                  exact ⟨S2, by omega, p1⟩
                · obtain ⟨Si, i1, i2⟩ := hA3.2 i (by omega)
                  refine ⟨Si, i1, ?_, ?_, fun j s hj => ?_, i2.2.2.2⟩
                  · show y5.2.1 115 (40 * i) = _
                    rw [p3 _ (by omega)]
                    exact i2.1
                  · show y5.2.1 115 (40 * i + 1) = _
                    rw [p3 _ (by omega)]
                    exact i2.2.1
                  · show y5.2.1 115 (40 * i + 2 + j) = _
                    have hjl := (List.getElem?_eq_some_iff.mp hj).1
                    rw [p3 _ (by omega)]
                    exact i2.2.2.1 j s hj
            | succ d3 ih3 =>
              intro j s' y hs' hj hA hfa hw hf
              have hjl : j < Sa.length := by omega
              have hb9 := bdd s' j hs'
              refine u_X13_allForms_3 ?_; unfold qm_X13_allForms_3
              rw [show (40 : Int32) * nI at9 = nI (40 * at9) from pk_mul 40 _, show nI (40 * at9) + 1 = nI (40 * at9 + 1) from nI_1 _, show nI (40 * at9) + 2 = nI (40 * at9 + 2) from nI_add _ 2, nI_add, show nI j + 1 = nI (j + 1) from nI_1 _]
              refine w_rdI ml115 rfl (by omega) hfa.2.1 (w_leF (by omega) (by omega) (w_rdI ml115 rfl (by omega) (hfa.2.2.1 j _ (List.getElem?_eq_getElem hjl)) (w_cs0 (tp_append h2 h5 (fa.2.2.2 _ (List.getElem_mem hjl)) (tF hf) hw (by omega)) (fun y1 ⟨w1, f1⟩ => ?_))))
              rw [← bs_app, show s' :: Sa.take j ++ [Sa[j]] = s' :: Sa.take (j + 1) from by rw [List.take_succ, List.getElem?_eq_getElem hjl]; rfl] at w1
              exact ih3 (j + 1) s' y1 hs' (by omega) (afI_fr f1 (by omega) (by omega) hA) (frwI_fr f1 (by omega) hfa) w1 (fr_tr hf (fr_mono (fun g hg => by unfold afH; omega) f1))
          have hf0 : fr afH z (usF y 109 0) := fr_F2 hf (by unfold afH; omega)
          refine u_X13_allForms_2 ?_; unfold qm_X13_allForms_2
          rw [show (40 : Int32) * nI at9 = nI (40 * at9) from pk_mul 40 _, ix120]
          refine w_rdI ml97 rfl (by omega) ((tF hf) n h2 h5).1 (w_leF (by omega) (by omega) (w_rdI ml115 rfl (by omega) fa.1 (w_wrF (w_rdI ml102 rfl (by omega) (((tF hf0) n h2 h5).2 s hsl).2.1 (w_cs1 (tp_turned h2 h5 hah (tF hf0)) (fun v y1 ⟨e1, s', k1, k2, k3⟩ => ?_))))))
          have e1 : y1 = usF y 109 0 := e1
          have k2v : v = nI s' := k2
          subst e1
          rw [k2v]
          refine w_cs0 (tp_append (L := []) h2 h5 k1 (tF hf0) ⟨po_usF_at, fun i a hi => by simp at hi⟩ (by decide)) (fun y2 ⟨w2, f2⟩ => ?_)
          refine c3 R 0 s' y2 k1 (by omega) (afI_fr f2 (by omega) (by omega) (afI_fr (fr_F (P := fun g => g = 109) rfl) (by omega) (by omega) hA)) (frwI_fr f2 (by omega) fa) ?_ (fr_tr hf0 (fr_mono (fun g hg => by unfold afH; omega) f2))
          rw [List.take_zero]
          have : (bsG n [s']).flatten = [] ++ ltG n s' := by
            unfold bsG
            simp
          rw [this]
          exact w2
      exact c2 (gNN n - 1) 1 F y (by omega) hF hlt hA hf
  refine e_X13_allForms ?_
  refine u_X13_allForms_0 ?_; unfold qm_X13_allForms_0
  refine w_cs0 (tp_formTo (r := 115) (o := 0) ml115 (by omega) (by omega) (by omega) (by omega) s1 s3) (fun y ⟨p1, p2, _⟩ => w_wrF ?_)
  refine c1 200 0 1 _ (by omega) (by omega) (Nat.le_refl _) ⟨po_usF_at, fun i hi => ?_⟩ (fr_F2 (fr_mono (fun g hg => by unfold afH; omega) p2) (by unfold afH; omega))
  have hi : i = 0 := by omega
  subst hi
  exact ⟨S0, hR, frwI_fr (fr_F (P := fun g => g = 116) rfl) (by omega) p1⟩
theorem gI_af {z z1 : ow_MS} (hf : fr afH z z1) (h : gI X z) : gI X z1 := gI_fr hf (fun g hg => by unfold afH at hg; unfold per; omega) h
theorem e_X13_summit {x1 : Int32} {z : ow_MS} {Q : (Int32 × ow_MS) → Prop} (H : Tt (fun K _ => qm_X13_summit_0 K x1 z) Q) : Te (fun K => qe_X13_summit K x1 z) Q := w_te0 H
theorem tp_summit {b : Int32} (hG : ∀ W, X W → XG W) (h : gI X z) : Te (fun K => qe_X13_summit K b z) (fun r => gI X r.2) := by
  have h1 := gI_1 (c := 0) h
  refine e_X13_summit ?_; unfold qm_X13_summit_0
  refine w_wrF (w_hasB h1.2.2.2.2.2.1 (w_ifT rfl (w_fail h1)) (fun c n l hc hx hh => w_ifF (by decide) ?_))
  subst hx
  have h2 := hh.1
  have h5 := hh.2.1
  refine w_rdI ml96 rfl (by omega) hh.2.2.2.1 (w_if (fun _ => w_fail h1) (fun _ => w_cs0 (tp_summitOf hc hh (gI_tb hG h1)) (fun y ⟨su, f1⟩ => ?_)))
  have g1 := gI_nm f1 h1
  have e96 : y.2.1 96 c = nI n := by rw [(f1 96 (by unfold nmH; omega)).2.1]; exact hh.2.2.2.1
  refine w_rdI ml96 rfl (by omega) e96 (w_cs1 (tp_allForms h2 h5 (gI_tb hG g1) su) (fun v y2 ⟨_, f2⟩ => ?_))
  have g2 := gI_af f2 g1
  exact w_if (fun _ => w_some g2) (fun _ => w_rdF rfl (w_some g2))
theorem u_X13_conjugate_1 {x1 : Int32} {x2 : Int32} {z : ow_MS} {Q : (Int32 × ow_MS) → Prop} (H : Tt (fun K k => qm_X13_conjugate_1 K (q_X13_conjugate K k) x1 x2 z) Q) : Tt (fun K k => q_X13_conjugate K k 1 x1 x2 z) Q := w_un (fun _ _ => rfl) H
theorem e_X13_conjugate {x1 : Int32} {x2 : Int32} {z : ow_MS} {Q : (Int32 × ow_MS) → Prop} (H : Tt (fun K k => q_X13_conjugate K k 0 x1 x2 z) Q) : Te (fun K => qe_X13_conjugate K x1 x2 z) Q := w_te H
theorem u_X13_conjugate_0 {x1 : Int32} {x2 : Int32} {z : ow_MS} {Q : (Int32 × ow_MS) → Prop} (H : Tt (fun K k => qm_X13_conjugate_0 K (q_X13_conjugate K k) x1 x2 z) Q) : Tt (fun K k => q_X13_conjugate K k 0 x1 x2 z) Q := w_un (fun _ _ => rfl) H
theorem tp_conjugate {a b : Int32} (hG : ∀ W, X W → XG W) (h : gI X z) : Te (fun K => qe_X13_conjugate K a b z) (fun r => gI X r.2) := by
  have h1 := gI_1 (c := 0) h
  have c1 : ∀ {x1 x2 : Int32} {y : ow_MS}, gI X y → Tt (fun K i => q_X13_conjugate K i 1 x1 x2 y) (fun r => gI X r.2) := by
    intro x1 x2 y hy
    refine u_X13_conjugate_1 ?_; unfold qm_X13_conjugate_1
    exact w_fail hy
  refine e_X13_conjugate ?_
  refine u_X13_conjugate_0 ?_; unfold qm_X13_conjugate_0
  refine w_wrF (w_hasB h1.2.2.2.2.2.1 (w_ifT rfl (c1 h1)) (fun ca n l hc hx hh => w_ifF (by decide) (w_hasB h1.2.2.2.2.2.1 (w_ifT rfl (c1 h1)) (fun cb n2 l2 hc2 hx2 hh2 => w_ifF (by decide) ?_))))
  subst hx
  subst hx2
  have h2 := hh.1
  have h5 := hh.2.1
  have k2 := hh2.1
  have k5 := hh2.2.1
  refine w_rdI ml96 rfl (by omega) hh.2.2.2.1 (w_rdI ml96 rfl (by omega) hh2.2.2.2.1 (w_eqN (by omega) (by omega) (fun hnn => ?_) (fun _ => w_fail h1)))
  subst hnn
  refine w_rdI ml96 rfl (by omega) hh.2.2.2.1 (w_if (fun _ => w_fail h1) (fun _ => w_cs0 (tp_summitOf hc2 hh2 (gI_tb hG h1)) (fun y1 ⟨su1, f1⟩ => ?_)))
  have g1 := gI_nm f1 h1
  obtain ⟨S1, κ1, s1, s2, s3, s4, s5⟩ := su1
  refine w_cs0 (tp_formTo (r := 118) (o := 0) ml118 (by omega) (by omega) (by omega) (by omega) s1 s3) (fun y2 ⟨p1, p2, _⟩ => ?_)
  have g2 : gI X y2 := gI_fr p2 (fun g hg => by rw [hg]; decide) g1
  have hha : hBr y2 ca n l := hBr_fr p2 (by omega) (by omega) (by omega) (hBr_fr f1 (by unfold nmH; omega) (by unfold nmH; omega) (by unfold nmH; omega) hh)
  have hhb : hBr y2 cb n l2 := hBr_fr p2 (by omega) (by omega) (by omega) (hBr_fr f1 (by unfold nmH; omega) (by unfold nmH; omega) (by unfold nmH; omega) hh2)
  refine w_cs0 (tp_summitOf hc hha (gI_tb hG g2)) (fun y3 ⟨su3, f3⟩ => ?_)
  have g3 := gI_nm f3 g2
  refine w_cs1 (tp_allForms h2 h5 (gI_tb hG g3) su3) (fun v y4 ⟨⟨F, R, κ4, q1, q2⟩, f4⟩ => ?_)
  have g4 := gI_af f4 g3
  have f4 : fr afH y3 y4 := f4
  have q2 : afI y4 n F R κ4 := q2
  have p4 : frwI y4 118 0 n S1 κ1 := frwI_fr f4 (by unfold afH; omega) (frwI_fr f3 (by unfold nmH; omega) p1)
  refine w_if (fun _ => w_some g4) (fun _ => w_cs1 (tp_isThere (r := 118) (Or.inr rfl) q1 q2 p4 (by omega)) (fun v2 y5 ⟨e5, _⟩ => ?_))
  have e5 : y5 = y4 := e5
  subst e5
  have hhb5 : hBr y5 cb n l2 := hBr_fr f4 (by unfold afH; omega) (by unfold afH; omega) (by unfold afH; omega) (hBr_fr f3 (by unfold nmH; omega) (by unfold nmH; omega) (by unfold nmH; omega) hhb)
  refine w_if (fun _ => w_cs0 (tp_summitOf hc2 hhb5 (gI_tb hG g4)) (fun y6 ⟨su6, f6⟩ => ?_)) (fun _ => w_some g4)
  have g6 := gI_nm f6 g4
  refine w_cs1 (tp_allForms h2 h5 (gI_tb hG g6) su6) (fun v3 y7 ⟨_, f7⟩ => ?_)
  have g7 := gI_af f7 g6
  exact w_if (fun _ => w_some g7) (fun _ => w_some g7)
end GARS
