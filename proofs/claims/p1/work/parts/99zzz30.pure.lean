/-! one call at the start -/
section XP1
variable {X : (Nat → Nat → Int32) → Prop} {z y : ow_MS} {vl : Nat → Nat} {x x' : Int32} {α β : Type} {St : plT}
theorem up_E9 {fc : Nat → Option (Nat × α × ow_MS)} {cv : α → Int64} {mp : Nat → ow_MS → Option (Int32 × ow_MS)} {fm : Nat → Option (β × ow_MS)} {G : β → ow_MS → ow_MS → Option ow_LwS} {g : Nat → Option ow_LwS} {Q : ow_LwS → Prop} (hs : Te (fun K => lsN9 vl fc cv mp fm K) Q) (hc : Te fc (fun r => r.1 = 1)) (hm : Te fm (fun r => r.2.1 1 = nI 1)) (hmp : ∀ z, mp 1 z = some (1, z)) (hg : ∀ K, g K = cs1 (tc1 (fc K) mp fun v3 z1 => ctJ (cX vl) z1 52001 0 (cv v3) fun z4 => some (0, z4)) fun v2 zc1 => cs1 (fm K) fun v4 zm3 => cs1 (qe_X13_thrown K zm3) fun v6 zm5 => (if v6 = v2 then (if v2 = 0 then G v4 zc1 zm5 else some (vl, zc1, zm5)) else none)) : Te g Q := by
  obtain ⟨S1, ⟨b0, h0⟩, hQ⟩ := hs
  obtain ⟨⟨k, v, zc⟩, ⟨b1, h1⟩, e1⟩ := hc
  obtain ⟨⟨a, zm⟩, ⟨b2, h2⟩, e2⟩ := hm
  have e1 : k = 1 := e1
  have e2 : zm.1 1 = nI 1 := e2
  subst e1
  have ht : tc1 (some (1, v, zc)) mp (fun v3 z1 => ctJ (cX vl) z1 52001 0 (cv v3) fun z4 => some (0, z4)) = some (1, zc) := by
    exact hmp zc
  refine ⟨S1, ⟨b0 + b1 + b2, fun K hK => ?_⟩, hQ⟩
  have h9 : lsN9 vl fc cv mp fm K = some S1 := h0 K (by omega)
  unfold lsN9 at h9
  rw [h1 K (by omega), h2 K (by omega), ht] at h9
  rw [hg, h1 K (by omega), h2 K (by omega), ht]
  have h9 : some (vl, zc, zm) = some S1 := h9
  rw [← h9]
  show (if zm.1 1 = (1 : Int32) then (if (1 : Int32) = 0 then G a zc zm else some (vl, zc, zm)) else none) = _
  rw [if_pos (by rw [e2]; rfl), if_neg (by decide)]

theorem tc_cover1 (hM : gM y) (hC : relC y St) (hS : okS St) (hn : ∀ d, d < 40 → St d = none) : Te (fun K => ce_X11_cover vl K 0 x x' y) (fun r => r.1 = 1) := by
  refine e_X11_cover ?_; unfold cm_X11_cover_0
  refine w_tc0 (xc_need hM.1.1 hC hS) ?_ ?_
  · rintro y1 ⟨h1, rfl⟩
    rcases h1 with h1 | ⟨-, d, A, sg, c, hd, rfl, hSt, hs, hA, hne, hpl⟩
    · exact absurd (show (0 : Nat) = 1 from h1.1) (by decide)
    · rw [hn d hd] at hSt
      cases hSt
  · rintro a y1 ha ⟨h1, rfl⟩
    rcases h1 with h1 | h1
    · exact w_some h1.1
    · exact absurd h1.1 ha
theorem tp_cover1 (h : gI X z) (hR : relR z St) (hn : ∀ d, d < 40 → St d = none) : Te (fun K => qe_X13_cover K x x' z) (fun r => r.2.1 1 = nI 1) := by
  have hR1 := relR_1 (c := 0) hR
  refine e_X13_cover ?_
  refine u_X13_cover_0 ?_; unfold qm_X13_cover_0
  refine w_wrF (w_hasX hR1 (fun h0 => w_ifT rfl (w_cs1 tm_fails (fun a z1 e => ?_))) (fun e A sg he hx hs hv9 hne => absurd hs (by rw [hn e he]; exact fun h9 => by cases h9)))
  cases e
  exact w_some (po_usF_at.trans (by decide))

theorem tc_colours1 (hM : gM y) (hC : relC y St) (hS : okS St) (hn : ∀ d, d < 40 → St d = none) : Te (fun K => ce_X11_colours vl K 0 x x' y) (fun r => r.1 = 1) := by
  refine e_X11_colours ?_; unfold cm_X11_colours_0
  refine w_tc0 (xc_need hM.1.1 hC hS) ?_ ?_
  · rintro y1 ⟨h1, rfl⟩
    rcases h1 with h1 | ⟨-, d, A, sg, c, hd, rfl, hSt, hs, hA, hne, hpl⟩
    · exact absurd (show (0 : Nat) = 1 from h1.1) (by decide)
    · rw [hn d hd] at hSt
      cases hSt
  · rintro a y1 ha ⟨h1, rfl⟩
    rcases h1 with h1 | h1
    · exact w_some h1.1
    · exact absurd h1.1 ha
theorem tp_colours1 (h : gI X z) (hR : relR z St) (hn : ∀ d, d < 40 → St d = none) : Te (fun K => qe_X13_colours K x x' z) (fun r => r.2.1 1 = nI 1) := by
  have hR1 := relR_1 (c := 0) hR
  refine e_X13_colours ?_
  refine u_X13_colours_0 ?_; unfold qm_X13_colours_0
  refine w_wrF (w_hasX hR1 (fun h0 => w_ifT rfl (w_cs1 tm_fails (fun a z1 e => ?_))) (fun e A sg he hx hs hv9 hne => absurd hs (by rw [hn e he]; exact fun h9 => by cases h9)))
  cases e
  exact w_some (po_usF_at.trans (by decide))

theorem no_dg (hC : relC y St) (hS : okS St) (n1 : ∀ d, y.2.1 1002 d = 0) : ∀ d, d < 40 → St d = none := fun d hd => (relC_len hC hS hd).mp (n1 d)

variable {Pc Pr : tbT → ow_MS → Prop}
theorem run_rel1 {S : ow_LwS} (H : ∀ x0 x1 x2 x3 x4 x5, Te (fun K => lstep K x0 x1 x2 x3 x4 x5 S) (fun S1 => rlJ9 Pc Pr S1 ∧ dPhi S.1 ≤ dPhi S1.1)) (xs : Nat → Int32) : ∀ k, k ≤ 1 → ∃ SE b, ∀ K, b ≤ K → lrun K xs k 0 S = some SE
  | 0, _ => ⟨S, 0, fun _ _ => rfl⟩
  | 1, _ => by
    obtain ⟨S1, ⟨b1, hb1⟩, h1, h2⟩ := H (xs (6 * 0)) (xs (6 * 0 + 1)) (xs (6 * 0 + 2)) (xs (6 * 0 + 3)) (xs (6 * 0 + 4)) (xs (6 * 0 + 5))
    refine ⟨S1, b1, fun K hK => ?_⟩
    have e : lstep K (xs (6 * 0)) (xs (6 * 0 + 1)) (xs (6 * 0 + 2)) (xs (6 * 0 + 3)) (xs (6 * 0 + 4)) (xs (6 * 0 + 5)) S = some S1 := hb1 K hK
    show (match lstep K (xs (6 * 0)) (xs (6 * 0 + 1)) (xs (6 * 0 + 2)) (xs (6 * 0 + 3)) (xs (6 * 0 + 4)) (xs (6 * 0 + 5)) S with
      | none => none
      | some S1 => if dPhi S.1 ≤ dPhi S1.1 ∧ dPhi S1.1 ≤ 2800000 then lrun K xs 0 (0 + 1) S1 else none) = some S1
    rw [e]
    show (if dPhi S.1 ≤ dPhi S1.1 ∧ dPhi S1.1 ≤ 2800000 then lrun K xs 0 (0 + 1) S1 else none) = some S1
    rw [if_pos ⟨h2, rel_phi (h1.choose_spec).1.1⟩]
    rfl
  | _ + 2, h => absurd h (by omega)
theorem step_all1 (hc : ∀ E, keepP ciX (Pc E)) (hr : ∀ E, keepP rfX (Pr E)) (hj : ∀ E, ∀ y y1, fr jnP y y1 → (∀ D, cOK D → slC y 25000 0 D → slC y1 25000 0 D) → Pc E y → Pc E y1) (h_conway : ∀ E, stpX (Pc E) (Pr E) lst_conway) (h_signature : ∀ E, stpX (Pc E) (Pr E) lst_signature) (h_maps : ∀ E, stpX (Pc E) (Pr E) lst_maps) (h_rank : ∀ E, stpX (Pc E) (Pr E) lst_rank) (h_normal : ∀ E, stpX (Pc E) (Pr E) lst_normal) (h_factor : ∀ E, stpX (Pc E) (Pr E) lst_factor) (h_equal : ∀ E, stpX (Pc E) (Pr E) lst_equal) (h_summit : ∀ E, stpX (Pc E) (Pr E) lst_summit) (h_conjugate : ∀ E, stpX (Pc E) (Pr E) lst_conjugate) (h_two : ∀ E, stpX (Pc E) (Pr E) lst_two) (h_chain : ∀ (S : ow_LwS) (x1 x2 x3 x4 x5 : Int32), rlJ9 Pc Pr S → Te (fun K => lst_chain S.1 K x1 x2 x3 x4 x5 S.2.1 S.2.2) (fun S1 => rlJ9 Pc Pr S1 ∧ dPhi S.1 ≤ dPhi S1.1)) (S : ow_LwS) (h_cover : ∀ x1 x2 x3 x4 x5, Te (fun K => lst_cover S.1 K x1 x2 x3 x4 x5 S.2.1 S.2.2) (fun S1 => rlJ9 Pc Pr S1 ∧ dPhi S.1 ≤ dPhi S1.1)) (h_colours : ∀ x1 x2 x3 x4 x5, Te (fun K => lst_colours S.1 K x1 x2 x3 x4 x5 S.2.1 S.2.2) (fun S1 => rlJ9 Pc Pr S1 ∧ dPhi S.1 ≤ dPhi S1.1)) (x0 x1 x2 x3 x4 x5 : Int32) (h : rlJ9 Pc Pr S) : Te (fun K => lstep K x0 x1 x2 x3 x4 x5 S) (fun S1 => rlJ9 Pc Pr S1 ∧ dPhi S.1 ≤ dPhi S1.1) := by
  obtain ⟨E, h⟩ := h
  unfold lstep
  refine te_if (fun _ => ⟨S, ⟨0, fun K _ => rfl⟩, ⟨E, h⟩, Nat.le_refl _⟩) (fun hx => ?_)
  refine te_if (fun _ => stJ9 (st9 (s3_feed (hc E) (hr E)) S x1 x2 x3 x4 x5 h)) (fun n_feed => ?_)
  refine te_if (fun _ => stJ9 (st9 (s3_end (hc E) (hr E)) S x1 x2 x3 x4 x5 h)) (fun n_end => ?_)
  refine te_if (fun _ => stJ9 (st9 (s3_diagram (hc E) (hr E)) S x1 x2 x3 x4 x5 h)) (fun n_diagram => ?_)
  refine te_if (fun _ => stJ9 (st9 (s3_braid (hc E) (hr E)) S x1 x2 x3 x4 x5 h)) (fun n_braid => ?_)
  refine te_if (fun _ => stJ9 (st9 (s3_drop (hc E) (hr E)) S x1 x2 x3 x4 x5 h)) (fun n_drop => ?_)
  refine te_if (fun _ => stJ9 (st9 (s3_dropBraid (hc E) (hr E)) S x1 x2 x3 x4 x5 h)) (fun n_dropBraid => ?_)
  refine te_if (fun _ => stJ9 (st9 (s3_figure (hc E) (hr E)) S x1 x2 x3 x4 x5 h)) (fun n_figure => ?_)
  refine te_if (fun _ => stJ9 (st9 (s3_visit (hc E) (hr E)) S x1 x2 x3 x4 x5 h)) (fun n_visit => ?_)
  refine te_if (fun _ => stJ9 (st9 (s3_linking (hc E) (hr E)) S x1 x2 x3 x4 x5 h)) (fun n_linking => ?_)
  refine te_if (fun _ => stJ9 (st9 (s3_alike (hc E) (hr E)) S x1 x2 x3 x4 x5 h)) (fun n_alike => ?_)
  refine te_if (fun _ => stJ9 (st9 (s3_mirror (hc E) (hr E)) S x1 x2 x3 x4 x5 h)) (fun n_mirror => ?_)
  refine te_if (fun _ => stJ9 (st9 (s3_reverse (hc E) (hr E)) S x1 x2 x3 x4 x5 h)) (fun n_reverse => ?_)
  refine te_if (fun _ => stJ9 (st9 (s3_change (hc E) (hr E)) S x1 x2 x3 x4 x5 h)) (fun n_change => ?_)
  refine te_if (fun _ => stJ9 (st9 (s3_smooth (hc E) (hr E)) S x1 x2 x3 x4 x5 h)) (fun n_smooth => ?_)
  refine te_if (fun _ => stJ9 (st9 (s3_apart (hc E) (hr E)) S x1 x2 x3 x4 x5 h)) (fun n_apart => ?_)
  refine te_if (fun _ => stJ9 (st9 (s3_join (hc E) (hr E)) S x1 x2 x3 x4 x5 h)) (fun n_join => ?_)
  refine te_if (fun _ => stJ9 (st9 (s3_moves (hc E) (hr E)) S x1 x2 x3 x4 x5 h)) (fun n_moves => ?_)
  refine te_if (fun _ => stJ9 (st9 (s3_moved (hc E) (hr E)) S x1 x2 x3 x4 x5 h)) (fun n_moved => ?_)
  refine te_if (fun _ => stJ9 (st9 (s3_simplify (hc E) (hr E)) S x1 x2 x3 x4 x5 h)) (fun n_simplify => ?_)
  refine te_if (fun _ => stJ9 (st9 (s3_way (hc E) (hr E)) S x1 x2 x3 x4 x5 h)) (fun n_way => ?_)
  refine te_if (fun _ => stJ9 (st9 (s3_summands (hc E) (hr E)) S x1 x2 x3 x4 x5 h)) (fun n_summands => ?_)
  refine te_if (fun _ => stJ9 (st9 (s3_summand (hc E) (hr E)) S x1 x2 x3 x4 x5 h)) (fun n_summand => ?_)
  refine te_if (fun _ => stJ9 (st9 (h_conway E) S x1 x2 x3 x4 x5 h)) (fun n_conway => ?_)
  refine te_if (fun _ => stJ9 (st9 (s3_jones (hc E) (hr E) (hj E)) S x1 x2 x3 x4 x5 h)) (fun n_jones => ?_)
  refine te_if (fun _ => stJ9 (st9 (h_signature E) S x1 x2 x3 x4 x5 h)) (fun n_signature => ?_)
  refine te_if (fun _ => h_cover x1 x2 x3 x4 x5) (fun n_cover => ?_)
  refine te_if (fun _ => h_colours x1 x2 x3 x4 x5) (fun n_colours => ?_)
  refine te_if (fun _ => stJ9 (st9 (h_maps E) S x1 x2 x3 x4 x5 h)) (fun n_maps => ?_)
  refine te_if (fun _ => h_chain S x1 x2 x3 x4 x5 ⟨E, h⟩) (fun n_chain => ?_)
  refine te_if (fun _ => stJ9 (st9 (h_rank E) S x1 x2 x3 x4 x5 h)) (fun n_rank => ?_)
  refine te_if (fun _ => stJ9 (st9 (s3_closure (hc E) (hr E)) S x1 x2 x3 x4 x5 h)) (fun n_closure => ?_)
  refine te_if (fun _ => stJ9 (st9 (s3_product (hc E) (hr E)) S x1 x2 x3 x4 x5 h)) (fun n_product => ?_)
  refine te_if (fun _ => stJ9 (st9 (s3_inverse (hc E) (hr E)) S x1 x2 x3 x4 x5 h)) (fun n_inverse => ?_)
  refine te_if (fun _ => stJ9 (st9 (h_normal E) S x1 x2 x3 x4 x5 h)) (fun n_normal => ?_)
  refine te_if (fun _ => stJ9 (st9 (h_factor E) S x1 x2 x3 x4 x5 h)) (fun n_factor => ?_)
  refine te_if (fun _ => stJ9 (st9 (h_equal E) S x1 x2 x3 x4 x5 h)) (fun n_equal => ?_)
  refine te_if (fun _ => stJ9 (st9 (h_summit E) S x1 x2 x3 x4 x5 h)) (fun n_summit => ?_)
  refine te_if (fun _ => stJ9 (st9 (h_conjugate E) S x1 x2 x3 x4 x5 h)) (fun n_conjugate => ?_)
  refine te_if (fun _ => stJ9 (st9 (h_two E) S x1 x2 x3 x4 x5 h)) (fun n_two => ?_)
  exfalso
  obtain ⟨i, hi, e⟩ := x63 hx
  rw [e] at n_feed n_end n_diagram n_braid n_drop n_dropBraid n_figure n_visit n_linking n_alike n_mirror n_reverse n_change n_smooth n_apart n_join n_moves n_moved n_simplify n_way n_summands n_summand n_conway n_jones n_signature n_cover n_colours n_maps n_chain n_rank n_closure n_product n_inverse n_normal n_factor n_equal n_summit n_conjugate n_two
  have key : ∀ i : Fin 39, ¬ (¬ nI i.val = 0 ∧ ¬ nI i.val = 1 ∧ ¬ nI i.val = 2 ∧ ¬ nI i.val = 3 ∧ ¬ nI i.val = 4 ∧ ¬ nI i.val = 5 ∧ ¬ nI i.val = 6 ∧ ¬ nI i.val = 7 ∧ ¬ nI i.val = 8 ∧ ¬ nI i.val = 9 ∧ ¬ nI i.val = 10 ∧ ¬ nI i.val = 11 ∧ ¬ nI i.val = 12 ∧ ¬ nI i.val = 13 ∧ ¬ nI i.val = 14 ∧ ¬ nI i.val = 15 ∧ ¬ nI i.val = 16 ∧ ¬ nI i.val = 17 ∧ ¬ nI i.val = 18 ∧ ¬ nI i.val = 19 ∧ ¬ nI i.val = 20 ∧ ¬ nI i.val = 21 ∧ ¬ nI i.val = 22 ∧ ¬ nI i.val = 23 ∧ ¬ nI i.val = 24 ∧ ¬ nI i.val = 25 ∧ ¬ nI i.val = 26 ∧ ¬ nI i.val = 27 ∧ ¬ nI i.val = 28 ∧ ¬ nI i.val = 29 ∧ ¬ nI i.val = 30 ∧ ¬ nI i.val = 31 ∧ ¬ nI i.val = 32 ∧ ¬ nI i.val = 33 ∧ ¬ nI i.val = 34 ∧ ¬ nI i.val = 35 ∧ ¬ nI i.val = 36 ∧ ¬ nI i.val = 37 ∧ ¬ nI i.val = 38) := by decide +kernel
  exact key ⟨i, hi⟩ ⟨n_feed, n_end, n_diagram, n_braid, n_drop, n_dropBraid, n_figure, n_visit, n_linking, n_alike, n_mirror, n_reverse, n_change, n_smooth, n_apart, n_join, n_moves, n_moved, n_simplify, n_way, n_summands, n_summand, n_conway, n_jones, n_signature, n_cover, n_colours, n_maps, n_chain, n_rank, n_closure, n_product, n_inverse, n_normal, n_factor, n_equal, n_summit, n_conjugate, n_two⟩
theorem cv1_cover {x1 x2 x3 x4 x5 : Int32} {zc zm : ow_MS} {Q : ow_LwS → Prop} (hs : Te (fun K => lsN9 vl (fun K => ce_X11_cover vl K 0 x1 x2 zc) (fun v => v.toInt64) (fun k z => if k = 1 then some (1, z) else none) (fun K => qe_X13_cover K x1 x2 zm) K) Q) (hc : Te (fun K => ce_X11_cover vl K 0 x1 x2 zc) (fun r => r.1 = 1)) (hm : Te (fun K => qe_X13_cover K x1 x2 zm) (fun r => r.2.1 1 = nI 1)) : Te (fun K => lst_cover vl K x1 x2 x3 x4 x5 zc zm) Q :=
  up_E9 (vl := vl) (fc := fun K => ce_X11_cover vl K 0 x1 x2 zc) (cv := fun v => v.toInt64) (mp := fun k z => if k = 1 then some (1, z) else none) (fm := fun K => qe_X13_cover K x1 x2 zm) (G := fun v4 zc1 zm5 => crJ (cX vl) zc1 52001 0 fun v7 => (if (lg_cmp v7 v4.toInt64) = 0 then some (vl, zc1, zm5) else none)) hs hc hm (fun _ => rfl) (fun K => rfl)
theorem cv1_colours {x1 x2 x3 x4 x5 : Int32} {zc zm : ow_MS} {Q : ow_LwS → Prop} (hs : Te (fun K => lsN9 vl (fun K => ce_X11_colours vl K 0 x1 x2 zc) (fun v => v) (fun k z => if k = 1 then some (1, z) else if k = 2 then some (2, z) else none) (fun K => qe_X13_colours K x1 x2 zm) K) Q) (hc : Te (fun K => ce_X11_colours vl K 0 x1 x2 zc) (fun r => r.1 = 1)) (hm : Te (fun K => qe_X13_colours K x1 x2 zm) (fun r => r.2.1 1 = nI 1)) : Te (fun K => lst_colours vl K x1 x2 x3 x4 x5 zc zm) Q :=
  up_E9 (vl := vl) (fc := fun K => ce_X11_colours vl K 0 x1 x2 zc) (cv := fun v => v) (mp := fun k z => if k = 1 then some (1, z) else if k = 2 then some (2, z) else none) (fm := fun K => qe_X13_colours K x1 x2 zm) (G := fun v4 zc1 zm5 => crJ (cX vl) zc1 52001 0 fun v7 => (if (lg_cmp v7 v4) = 0 then some (vl, zc1, zm5) else none)) hs hc hm (fun _ => rfl) (fun K => rfl)
theorem one_call {S : ow_LwS} (hc : ∀ E, keepP ciX (Pc E)) (hr : ∀ E, keepP rfX (Pr E)) (hj : ∀ E, ∀ y y1, fr jnP y y1 → (∀ D, cOK D → slC y 25000 0 D → slC y1 25000 0 D) → Pc E y → Pc E y1) (h_conway : ∀ E, stpX (Pc E) (Pr E) lst_conway) (h_signature : ∀ E, stpX (Pc E) (Pr E) lst_signature) (h_cover : ∀ E, stpX (Pc E) (Pr E) (fun vl K x1 x2 _ _ _ zc zm => lsN9 vl (fun K => ce_X11_cover vl K 0 x1 x2 zc) (fun v => v.toInt64) (fun k z => if k = 1 then some (1, z) else none) (fun K => qe_X13_cover K x1 x2 zm) K)) (h_colours : ∀ E, stpX (Pc E) (Pr E) (fun vl K x1 x2 _ _ _ zc zm => lsN9 vl (fun K => ce_X11_colours vl K 0 x1 x2 zc) (fun v => v) (fun k z => if k = 1 then some (1, z) else if k = 2 then some (2, z) else none) (fun K => qe_X13_colours K x1 x2 zm) K)) (h_maps : ∀ E, stpX (Pc E) (Pr E) lst_maps) (h_rank : ∀ E, stpX (Pc E) (Pr E) lst_rank) (h_normal : ∀ E, stpX (Pc E) (Pr E) lst_normal) (h_factor : ∀ E, stpX (Pc E) (Pr E) lst_factor) (h_equal : ∀ E, stpX (Pc E) (Pr E) lst_equal) (h_summit : ∀ E, stpX (Pc E) (Pr E) lst_summit) (h_conjugate : ∀ E, stpX (Pc E) (Pr E) lst_conjugate) (h_two : ∀ E, stpX (Pc E) (Pr E) lst_two) (h_chain : ∀ (S : ow_LwS) (x1 x2 x3 x4 x5 : Int32), rlJ9 Pc Pr S → Te (fun K => lst_chain S.1 K x1 x2 x3 x4 x5 S.2.1 S.2.2) (fun S1 => rlJ9 Pc Pr S1 ∧ dPhi S.1 ≤ dPhi S1.1)) (hJ : rlJ9 Pc Pr S) (n1 : ∀ d, S.2.1.2.1 1002 d = 0) (xs : Nat → Int32) (k : Nat) (hk : k ≤ 1) : ∃ SE b, ∀ K, b ≤ K → lrun K xs k 0 S = some SE := by
  obtain ⟨E, hE⟩ := id hJ
  have hR3 : rel3 XR S.2.2 S.2.1 := hE.1.1.1
  obtain ⟨⟨St, kk⟩, hM, h2⟩ := hR3
  have hn := no_dg kk.2.2.2.1 kk.2.2.2.2 n1
  have hcv : ∀ x1 x2 x3 x4 x5, Te (fun K => lst_cover S.1 K x1 x2 x3 x4 x5 S.2.1 S.2.2) (fun S1 => rlJ9 Pc Pr S1 ∧ dPhi S.1 ≤ dPhi S1.1) := fun x1 x2 x3 x4 x5 => cv1_cover (stJ9 (st9 (h_cover E) S x1 x2 x3 x4 x5 hE)) (tc_cover1 hM kk.2.2.2.1 kk.2.2.2.2 hn) (tp_cover1 kk.1 kk.2.2.1 hn)
  have hco : ∀ x1 x2 x3 x4 x5, Te (fun K => lst_colours S.1 K x1 x2 x3 x4 x5 S.2.1 S.2.2) (fun S1 => rlJ9 Pc Pr S1 ∧ dPhi S.1 ≤ dPhi S1.1) := fun x1 x2 x3 x4 x5 => cv1_colours (stJ9 (st9 (h_colours E) S x1 x2 x3 x4 x5 hE)) (tc_colours1 hM kk.2.2.2.1 kk.2.2.2.2 hn) (tp_colours1 kk.1 kk.2.2.1 hn)
  exact run_rel1 (Pc := Pc) (Pr := Pr) (fun x0 x1 x2 x3 x4 x5 => step_all1 hc hr hj h_conway h_signature h_maps h_rank h_normal h_factor h_equal h_summit h_conjugate h_two h_chain S hcv hco x0 x1 x2 x3 x4 x5 hJ) xs k hk
theorem pure_of1 (hc : ∀ E, keepP ciX (Pc E)) (hr : ∀ E, keepP rfX (Pr E)) (hj : ∀ E, ∀ y y1, fr jnP y y1 → (∀ D, cOK D → slC y 25000 0 D → slC y1 25000 0 D) → Pc E y → Pc E y1) (h_conway : ∀ E, stpX (Pc E) (Pr E) lst_conway) (h_signature : ∀ E, stpX (Pc E) (Pr E) lst_signature) (h_cover : ∀ E, stpX (Pc E) (Pr E) (fun vl K x1 x2 _ _ _ zc zm => lsN9 vl (fun K => ce_X11_cover vl K 0 x1 x2 zc) (fun v => v.toInt64) (fun k z => if k = 1 then some (1, z) else none) (fun K => qe_X13_cover K x1 x2 zm) K)) (h_colours : ∀ E, stpX (Pc E) (Pr E) (fun vl K x1 x2 _ _ _ zc zm => lsN9 vl (fun K => ce_X11_colours vl K 0 x1 x2 zc) (fun v => v) (fun k z => if k = 1 then some (1, z) else if k = 2 then some (2, z) else none) (fun K => qe_X13_colours K x1 x2 zm) K)) (h_maps : ∀ E, stpX (Pc E) (Pr E) lst_maps) (h_rank : ∀ E, stpX (Pc E) (Pr E) lst_rank) (h_normal : ∀ E, stpX (Pc E) (Pr E) lst_normal) (h_factor : ∀ E, stpX (Pc E) (Pr E) lst_factor) (h_equal : ∀ E, stpX (Pc E) (Pr E) lst_equal) (h_summit : ∀ E, stpX (Pc E) (Pr E) lst_summit) (h_conjugate : ∀ E, stpX (Pc E) (Pr E) lst_conjugate) (h_two : ∀ E, stpX (Pc E) (Pr E) lst_two) (h_chain : ∀ (S : ow_LwS) (x1 x2 x3 x4 x5 : Int32), rlJ9 Pc Pr S → Te (fun K => lst_chain S.1 K x1 x2 x3 x4 x5 S.2.1 S.2.2) (fun S1 => rlJ9 Pc Pr S1 ∧ dPhi S.1 ≤ dPhi S1.1)) (i_c : ∀ y, (∀ g, ¬ spc g → y.1 g = 0 ∧ ∀ i, y.2.1 g i = 0) → (∃ z8 z0 zA z1 b, (∀ K, b ≤ K → ce_X8i_b8 K 24000 zeroS = some z8 ∧ ce_X0i_b0 K 41000 53001 zeroS = some z0 ∧ ce_X1i_b1 K 43000 zeroS = some zA ∧ ce_X1j_b1b K 43000 53001 (usZ zA [53]) = some z1) ∧ y = Zc z8 z0 z1) → Pc (fun _ _ => 0) y) (i_r : ∀ z, (∀ g, g < 73 → z.1 g = 0) → (∀ g i, ¬ (73 ≤ g ∧ g ≤ 76 ∨ 97 ≤ g ∧ g ≤ 107) → z.2.1 g i = 0) → (∃ m1 m2 b, (∀ K, b ≤ K → qe_X13_makeSimples_a K Z13 = some m1 ∧ qe_X13_makePermutations_a K m1 = some m2) ∧ z = usZ m2 blM) → Pr (fun _ _ => 0) z) : PureP := by
  intro L xs hL
  obtain ⟨z8, z0, zA, z1, m1, m2, b, hb, hR, hY, hz1, hz2⟩ := both_init1
  have n1 : ∀ d, (Zc z8 z0 z1).2.1 1002 d = 0 := (hY 1002 (by unfold spc; omega)).2
  have n2 : (Zc z8 z0 z1).1 2005 = 0 := (hY 2005 (by unfold spc; omega)).1
  have n3 : (Zc z8 z0 z1).1 3005 = 0 := (hY 3005 (by unfold spc; omega)).1
  have hNM : NM (Zc z8 z0 z1) := by
    refine ⟨fun d A sg c hd hs hA hne => ?_, fun Cs os ht C hC => ?_, fun Cs os ht C hC => ?_⟩
    · have h8 : (Zc z8 z0 z1).2.1 1002 d = nI (clC sg A).2.length := hs.2.1
      rw [n1 d] at h8
      have hl := len_cl (sg := sg) hne
      have ok := (okL_c (sg := sg) hA).2
      have := nI_inj9 (a := 0) (b := (clC sg A).2.length) (by omega) (by have := ok.2.1; omega) h8
      omega
    · have h8 : (Zc z8 z0 z1).1 2005 = nI os.length := ht.1.1
      rw [n2] at h8
      have l1 := ht.2.2.2.1
      have := nI_inj9 (a := 0) (b := os.length) (by omega) (by omega) h8
      have l2 := ht.1.2.1
      rw [List.eq_nil_of_length_eq_zero (show Cs.length = 0 by omega)] at hC
      cases hC
    · have h8 : (Zc z8 z0 z1).1 3005 = nI os.length := ht.1.1
      rw [n3] at h8
      have l1 := ht.2.2.2.1
      have := nI_inj9 (a := 0) (b := os.length) (by omega) (by omega) h8
      have l2 := ht.1.2.1
      rw [List.eq_nil_of_length_eq_zero (show Cs.length = 0 by omega)] at hC
      cases hC
  obtain ⟨SE, b2, hb2⟩ := one_call (S := (vl0, Zc z8 z0 z1, usZ m2 blM)) hc hr hj h_conway h_signature h_cover h_colours h_maps h_rank h_normal h_factor h_equal h_summit h_conjugate h_two h_chain ⟨fun _ _ => 0, ⟨hR, hNM⟩, i_c _ hY ⟨z8, z0, zA, z1, b, fun K hK => ⟨(hb K hK).1, (hb K hK).2.1, (hb K hK).2.2.1, (hb K hK).2.2.2.1⟩, rfl⟩, i_r _ hz1 hz2 ⟨m1, m2, b, fun K hK => ⟨(hb K hK).2.2.2.2.1, (hb K hK).2.2.2.2.2⟩, rfl⟩⟩ n1 xs (L / 6) (by omega)
  obtain ⟨q1, q2, q3, q4, q5, q6⟩ := hb (b + b2) (by omega)
  exact ⟨b + b2, z8, z0, zA, z1, m1, m2, SE, q1, q2, q3, q4, q5, q6, hb2 (b + b2) (by omega)⟩
theorem pure_P : PureP := by
  have hc : keepP ciX (fun _ : ow_MS => True) := fun _ _ _ _ _ _ => trivial
  have hr : keepP rfX (fun _ : ow_MS => True) := fun _ _ _ _ _ _ => trivial
  have hj : ∀ y y1, fr jnP y y1 → (∀ D, cOK D → slC y 25000 0 D → slC y1 25000 0 D) → True → True := fun _ _ _ _ _ => trivial
  have hp : ∀ y y1, fr skP y y1 → (∀ D, cOK D → slC y 25000 1 D → slC y1 25000 1 D) → True → True := fun _ _ _ _ _ => trivial
  have hm : ∀ y y1, fr mxQ y y1 → True → True := fun _ _ _ _ => trivial
  have ht : ∀ y y1, fr twQ y y1 → (∀ D, cOK D → slC y 25000 1 D → slC y1 25000 1 D) → True → True := fun _ _ _ _ _ => trivial
  have hq : ∀ z z1, fr (pf [1, 41, 42, 43, 44, 46] []) z z1 → True → True := fun _ _ _ _ => trivial
  have hn : ∀ z z1, fr (pf [1, 58, 59, 60, 61, 62, 63, 77, 78, 79, 80] []) z z1 → True → True := fun _ _ _ _ => trivial
  have hw : ∀ z z1, fr (pf [1, 2, 3, 4, 5, 6, 7, 8, 9, 27, 41, 42, 44, 45, 46, 120] []) z z1 → True → True := fun _ _ _ _ => trivial
  have hg : ∀ y y1, fr chG y y1 → True → True := fun _ _ _ _ => trivial
  have hh : ∀ z z1, fr (pf [1, 47, 81, 82, 83, 84, 85, 86, 87, 88, 89, 90, 91, 92, 93] []) z z1 → True → True := fun _ _ _ _ => trivial
  exact
  pure_of1 (Pc := fun E y => cwK y ∧ cjT y ∧ twK y ∧ tcD E y ∧ True) (Pr := fun E z => cwR z ∧ enW z ∧ epA z ∧ twR z ∧ trD E z ∧ True) (fun E => pc_keep5 (kc_D hc E)) (fun E => pr_keep5 (kr_D hr E)) (fun E => fun y y1 f s h => ⟨pc_jn f s h.1, cjT_fr f (by unfold jnP; omega) (by unfold jnP; omega) h.2.1, tw_jn f s h.2.2.1, tcD_fr f (by unfold jnP; omega) (by unfold jnP; omega) (by unfold jnP; omega) h.2.2.2.1, hj y y1 f s h.2.2.2.2⟩)
    (fun E => s3_conway2 (pc_keep5 (kc_D hc E)) (fun y h => ⟨h.1, h.2.2.1⟩) (fun y y1 f k t _ s h => ⟨k, cjT_fr f (by unfold skP; omega) (by unfold skP; omega) h.2.1, t, tcD_fr f (by unfold skP; omega) (by unfold skP; omega) (by unfold skP; omega) h.2.2.2.1, hp y y1 f s h.2.2.2.2⟩) (fun z h => ⟨h.1, h.2.2.2.1⟩) (fun z z1 f k t h => ⟨k, enW_fr f (by decide) h.2.1, epA_fr f (fun g g1 g2 h9 => pf_n8 h9 (by decide) g1 g2) h.2.2.1, t, trD_fr f (by decide) (by decide) h.2.2.2.2.1, hq z z1 f h.2.2.2.2.2⟩))
    (fun E => s3_signature (pc_keep5 (kc_D hc E)) (pr_keep5 (kr_D hr E)))
    (fun E => s3n_cover (fun y y1 f h => ⟨cwK_fr f (fun g hg h9 => Or.elim (show cxP g ∨ g = 52001 from hg) (fun hg => by unfold cxP cL cvP at hg; omega) (fun hg => by omega)) h.1, cjT_fr f (by show ¬ (cxP 41006 ∨ (41006 : Nat) = 52001); unfold cxP cL cvP; omega) (by show ¬ (cxP 41007 ∨ (41007 : Nat) = 52001); unfold cxP cL cvP; omega) h.2.1, twK_fr f (fun g hg h9 => Or.elim (show cxP g ∨ g = 52001 from hg) (fun hg => by unfold cxP cL cvP at hg; omega) (fun hg => by omega)) h.2.2.1, tcD_fr f (by show ¬ (cxP 43018 ∨ (43018 : Nat) = 52001); unfold cxP cL cvP; omega) (by show ¬ (cxP 43019 ∨ (43019 : Nat) = 52001); unfold cxP cL cvP; omega) (by show ¬ (cxP 43020 ∨ (43020 : Nat) = 52001); unfold cxP cL cvP; omega) h.2.2.2.1, trivial⟩) (fun z z1 f h => ⟨cwR_fr f (by decide) (by decide) h.1, enW_fr f (by decide) h.2.1, epA_fr f (fun g g1 g2 h9 => pf_n8 h9 (by decide) g1 g2) h.2.2.1, twR_fr f (by decide) (by decide) h.2.2.2.1, trD_fr f (by decide) (by decide) h.2.2.2.2.1, trivial⟩))
    (fun E => s3n_colours (fun y y1 f h => ⟨cwK_fr f (fun g hg h9 => Or.elim (show cxP g ∨ g = 52001 from hg) (fun hg => by unfold cxP cL cvP at hg; omega) (fun hg => by omega)) h.1, cjT_fr f (by show ¬ (cxP 41006 ∨ (41006 : Nat) = 52001); unfold cxP cL cvP; omega) (by show ¬ (cxP 41007 ∨ (41007 : Nat) = 52001); unfold cxP cL cvP; omega) h.2.1, twK_fr f (fun g hg h9 => Or.elim (show cxP g ∨ g = 52001 from hg) (fun hg => by unfold cxP cL cvP at hg; omega) (fun hg => by omega)) h.2.2.1, tcD_fr f (by show ¬ (cxP 43018 ∨ (43018 : Nat) = 52001); unfold cxP cL cvP; omega) (by show ¬ (cxP 43019 ∨ (43019 : Nat) = 52001); unfold cxP cL cvP; omega) (by show ¬ (cxP 43020 ∨ (43020 : Nat) = 52001); unfold cxP cL cvP; omega) h.2.2.2.1, trivial⟩) (fun z z1 f h => ⟨cwR_fr f (by decide) (by decide) h.1, enW_fr f (by decide) h.2.1, epA_fr f (fun g g1 g2 h9 => pf_n8 h9 (by decide) g1 g2) h.2.2.1, twR_fr f (by decide) (by decide) h.2.2.2.1, trD_fr f (by decide) (by decide) h.2.2.2.2.1, trivial⟩))
    (fun E => s3_maps (pc_keep5 (kc_D hc E)) (fun y h => h.2.1) (fun y y1 f h => ⟨cwK_fr f (fun g hg h9 => by unfold mxQ at hg; omega) h.1, cjT_fr f (by unfold mxQ; omega) (by unfold mxQ; omega) h.2.1, twK_fr f (fun g hg h9 => by unfold mxQ at hg; omega) h.2.2.1, tcD_fr f (by unfold mxQ; omega) (by unfold mxQ; omega) (by unfold mxQ; omega) h.2.2.2.1, hm y y1 f h.2.2.2.2⟩) (fun z h => h.2.2.1) (fun z z1 f h => ⟨cwR_fr f (by decide) (by decide) h.1, enW_fr f (by decide) h.2.1, epA_fr f (fun g g1 g2 h9 => pf_n8 h9 (by decide) g1 g2) h.2.2.1, twR_fr f (by decide) (by decide) h.2.2.2.1, trD_fr f (by decide) (by decide) h.2.2.2.2.1, hn z z1 f h.2.2.2.2.2⟩))
    (fun E => s3_rank (D := E) (pc_keep5 (kc_D hc E)) (pr_keep5 (kr_D hr E)) (fun y h => h.2.2.2.1) (fun z h => h.2.2.2.2.1))
    (fun E => s3_normal (pc_keep5 (kc_D hc E)) (pr_keep5 (kr_D hr E)))
    (fun E => s3_factor (pc_keep5 (kc_D hc E)) (pr_keep5 (kr_D hr E)) (fun z h => h.2.1))
    (fun E => s3_equal (pc_keep5 (kc_D hc E)) (pr_keep5 (kr_D hr E)))
    (fun E => s3_summit (pc_keep5 (kc_D hc E)) (pr_keep5 (kr_D hr E)))
    (fun E => s3_conjugate (pc_keep5 (kc_D hc E)) (pr_keep5 (kr_D hr E)))
    (fun E => s3_two (pc_keep5 (kc_D hc E)) (fun y h => ⟨h.1, h.2.2.1⟩) (fun y y1 f k t s h => ⟨k, cjT_fr f (by unfold twQ skP; omega) (by unfold twQ skP; omega) h.2.1, t, tcD_fr f (by unfold twQ skP; omega) (by unfold twQ skP; omega) (by unfold twQ skP; omega) h.2.2.2.1, ht y y1 f s h.2.2.2.2⟩) (fun z h => ⟨h.1, h.2.2.2.1⟩) (fun z z1 f k t h => ⟨k, enW_fr f (by decide) h.2.1, epA_fr f (fun g g1 g2 h9 => pf_n8 h9 (by decide) g1 g2) h.2.2.1, t, trD_fr f (by decide) (by decide) h.2.2.2.2.1, hw z z1 f h.2.2.2.2.2⟩))
    (fun S x1 x2 x3 x4 x5 ⟨E, h, hpc, hpr⟩ => w_monoE (s3_chain (D := E) (Pc := fun y => cwK y ∧ cjT y ∧ twK y ∧ True) (Pr := fun z => cwR z ∧ enW z ∧ epA z ∧ twR z ∧ True) (x1 := x1) (x2 := x2) (x3 := x3) (x4 := x4) (x5 := x5) h
      (fun y y1 f h => ⟨cwK_fr f (fun g hg h9 => by unfold chG cmG cP at hg; omega) h.1, cjT_fr f (by unfold chG cmG cP; omega) (by unfold chG cmG cP; omega) h.2.1, twK_fr f (fun g hg h9 => by unfold chG cmG cP at hg; omega) h.2.2.1, hg y y1 f h.2.2.2⟩)
      (fun y v hy => pc_keep5 hc (fun g => g = 52001) y _ (fr_J rfl) (fun g hg h9 => by unfold ciX at h9; omega) hy)
      (fun z z1 f h => ⟨cwR_fr f (by decide) (by decide) h.1, enW_fr f (by decide) h.2.1, epA_fr f (fun g g1 g2 h9 => pf_n8 h9 (by decide) g1 g2) h.2.2.1, twR_fr f (by decide) (by decide) h.2.2.2.1, hh z z1 f h.2.2.2.2⟩)
      ⟨hpc.1, hpc.2.1, hpc.2.2.1, hpc.2.2.2.2⟩ ⟨hpr.1, hpr.2.1, hpr.2.2.1, hpr.2.2.2.1, hpr.2.2.2.2.2⟩ hpc.2.2.2.1 hpr.2.2.2.2.1)
      (fun S1 ⟨⟨q1, q2⟩, q3, q4, D', d1, d2⟩ => ⟨⟨D', q1, ⟨q3.1, q3.2.1, q3.2.2.1, d1, q3.2.2.2⟩, ⟨q4.1, q4.2.1, q4.2.2.1, q4.2.2.2.1, d2, q4.2.2.2.2⟩⟩, q2⟩))
    (fun y hY hI => ⟨cwK_0 hY, by obtain ⟨z8, z0, zA, z1, b, hb, rfl⟩ := id hI; exact cj_init (fun K hK => (hb K hK).2.1), twK_0 hY, tcD_0 (hY 43019 (by unfold spc; omega)).1 (hY 43020 (by unfold spc; omega)).1 (hY 43018 (by unfold spc; omega)).2, trivial⟩) (fun z h1 h2 h3 => ⟨cwR_0 h2, by obtain ⟨m1, m2, b, hb, rfl⟩ := id h3; exact en_init hb, by obtain ⟨m1, m2, b, hb, rfl⟩ := id h3; exact ep_init hb, twR_0 h2, trD_0 (by obtain ⟨m1, m2, b, hb, rfl⟩ := id h3; exact m88_init hb) (fun i => h2 87 i (by omega)), trivial⟩)
end XP1
