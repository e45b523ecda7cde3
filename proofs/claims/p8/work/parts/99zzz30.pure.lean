/-! the pure side of a part: only the answers of one method are compared -/
section XPT2
theorem te_up9 {f g : Nat → Option ow_LwS} {Q : ow_LwS → Prop} (h : Te f Q) (hg : ∀ K r, f K = some r → g K = some r) : Te g Q := by
  obtain ⟨r, ⟨b, hb⟩, hQ⟩ := h
  exact ⟨r, ⟨b, fun K hK => hg K r (hb K hK)⟩, hQ⟩
abbrev stT9 := (Nat → Nat) → Nat → Int32 → Int32 → Int32 → Int32 → Int32 → ow_MS → ow_MS → Option ow_LwS
theorem stn9 {Pc Pr : ow_MS → Prop} {f g : stT9} (hg : ∀ vl K x1 x2 x3 x4 x5 zc zm S1, f vl K x1 x2 x3 x4 x5 zc zm = some S1 → g vl K x1 x2 x3 x4 x5 zc zm = some S1) (h : stpX Pc Pr f) : stpX Pc Pr g := fun S x1 x2 x3 x4 x5 hR pc pr => te_up9 (h S x1 x2 x3 x4 x5 hR pc pr) (fun K r e => hg _ _ _ _ _ _ _ _ _ _ e)
theorem thr9 {K : Nat} {z z1 : ow_MS} {v : Int32} (h : qe_X13_thrown K z = some (v, z1)) : z1 = z := by
  have e : qe_X13_thrown K z = some (z.1 1, z) := rfl
  rw [e] at h
  exact (congrArg Prod.snd (Option.some.inj h)).symm
theorem nc1 {β : Type} {vl : Nat → Nat} {le : Option (Int32 × ow_MS)} {fm : Option (β × ow_MS)} {g : Int32 → ow_MS → β → ow_MS → Option ow_LwS} {S1 : ow_LwS} (hg : ∀ v2 zc1 v4 zm3, g v2 zc1 v4 zm3 = some S1 → S1 = (vl, zc1, zm3)) (h : cs1 le (fun v2 zc1 => cs1 fm (fun v4 zm3 => g v2 zc1 v4 zm3)) = some S1) : cs1 le (fun _ zc1 => cs1 fm (fun _ zm3 => some (vl, zc1, zm3))) = some S1 := by
  obtain ⟨v2, zc1, h1, h⟩ := tw_cl1 h
  obtain ⟨v4, zm3, h2, h⟩ := tw_cl1 h
  rw [h1, h2, hg v2 zc1 v4 zm3 h]
  rfl
theorem nc0 {vl : Nat → Nat} {le : Option (Int32 × ow_MS)} {fm : Option ow_MS} {g : Int32 → ow_MS → ow_MS → Option ow_LwS} {S1 : ow_LwS} (hg : ∀ v2 zc1 zm3, g v2 zc1 zm3 = some S1 → S1 = (vl, zc1, zm3)) (h : cs1 le (fun v2 zc1 => cs0 fm (fun zm3 => g v2 zc1 zm3)) = some S1) : cs1 le (fun _ zc1 => cs0 fm (fun zm3 => some (vl, zc1, zm3))) = some S1 := by
  obtain ⟨v2, zc1, h1, h⟩ := tw_cl1 h
  obtain ⟨zm3, h2, h⟩ := tw_cl0 h
  rw [h1, h2, hg v2 zc1 zm3 h]
  rfl
theorem tlB9 {vl : Nat → Nat} {a b : Int32} {zc zm : ow_MS} {S1 : ow_LwS} (h : (if a = b then some (vl, zc, zm) else none) = some S1) : S1 = (vl, zc, zm) := by
  by_cases e : a = b
  · rw [if_pos e] at h
    exact (Option.some.inj h).symm
  · rw [if_neg e] at h
    cases h
theorem tlE9 {vl : Nat → Nat} {K : Nat} {v2 : Int32} {zc zm : ow_MS} {S1 : ow_LwS} (h : (cs1 (qe_X13_thrown K zm) fun v5 zm4 => (if v5 = v2 then some (vl, zc, zm4) else none)) = some S1) : S1 = (vl, zc, zm) := by
  obtain ⟨v5, zm4, h1, h⟩ := tw_cl1 h
  rw [← thr9 h1]
  exact tlB9 h
theorem tlV9 {vl : Nat → Nat} {K : Nat} {v2 : Int32} {w : Int64} {zc zm : ow_MS} {S1 : ow_LwS} (h : (cs1 (qe_X13_thrown K zm) fun v6 zm5 => (if v6 = v2 then (if v2 = 0 then crJ (cX vl) zc 52001 0 fun v7 => (if (lg_cmp v7 w) = 0 then some (vl, zc, zm5) else none) else some (vl, zc, zm5)) else none)) = some S1) : S1 = (vl, zc, zm) := by
  obtain ⟨v6, zm5, h1, h⟩ := tw_cl1 h
  rw [← thr9 h1]
  by_cases e : v6 = v2
  · rw [if_pos e] at h
    by_cases e0 : v2 = 0
    · rw [if_pos e0] at h
      unfold crJ at h
      split at h
      · cases h
      · exact tlB9 h
    · rw [if_neg e0] at h
      exact (Option.some.inj h).symm
  · rw [if_neg e] at h
    cases h
theorem tq9_feed : ∀ vl K x1 x2 x3 x4 x5 zc zm S1, lst_feed vl K x1 x2 x3 x4 x5 zc zm = some S1 → ltp_feed vl K x1 x2 x3 x4 x5 zc zm = some S1 := fun _ _ _ _ _ _ _ _ _ _ h => nc1 (fun _ _ _ _ h9 => tlV9 h9) h
theorem tq9_end : ∀ vl K x1 x2 x3 x4 x5 zc zm S1, lst_end vl K x1 x2 x3 x4 x5 zc zm = some S1 → ltp_end vl K x1 x2 x3 x4 x5 zc zm = some S1 := fun _ _ _ _ _ _ _ _ _ _ h => nc0 (fun _ _ _ h9 => tlE9 h9) h
theorem tq9_diagram : ∀ vl K x1 x2 x3 x4 x5 zc zm S1, lst_diagram vl K x1 x2 x3 x4 x5 zc zm = some S1 → ltp_diagram vl K x1 x2 x3 x4 x5 zc zm = some S1 := fun _ _ _ _ _ _ _ _ _ _ h => nc1 (fun _ _ _ _ h9 => tlV9 h9) h
theorem tq9_braid : ∀ vl K x1 x2 x3 x4 x5 zc zm S1, lst_braid vl K x1 x2 x3 x4 x5 zc zm = some S1 → ltp_braid vl K x1 x2 x3 x4 x5 zc zm = some S1 := fun _ _ _ _ _ _ _ _ _ _ h => nc1 (fun _ _ _ _ h9 => tlV9 h9) h
theorem tq9_drop : ∀ vl K x1 x2 x3 x4 x5 zc zm S1, lst_drop vl K x1 x2 x3 x4 x5 zc zm = some S1 → ltp_drop vl K x1 x2 x3 x4 x5 zc zm = some S1 := fun _ _ _ _ _ _ _ _ _ _ h => nc1 (fun _ _ _ _ h9 => tlB9 h9) h
theorem tq9_dropBraid : ∀ vl K x1 x2 x3 x4 x5 zc zm S1, lst_dropBraid vl K x1 x2 x3 x4 x5 zc zm = some S1 → ltp_dropBraid vl K x1 x2 x3 x4 x5 zc zm = some S1 := fun _ _ _ _ _ _ _ _ _ _ h => nc1 (fun _ _ _ _ h9 => tlB9 h9) h
theorem tq9_figure : ∀ vl K x1 x2 x3 x4 x5 zc zm S1, lst_figure vl K x1 x2 x3 x4 x5 zc zm = some S1 → ltp_figure vl K x1 x2 x3 x4 x5 zc zm = some S1 := fun _ _ _ _ _ _ _ _ _ S1 h => h
theorem tq9_visit : ∀ vl K x1 x2 x3 x4 x5 zc zm S1, lst_visit vl K x1 x2 x3 x4 x5 zc zm = some S1 → ltp_visit vl K x1 x2 x3 x4 x5 zc zm = some S1 := fun _ _ _ _ _ _ _ _ _ _ h => nc1 (fun _ _ _ _ h9 => tlV9 h9) h
theorem tq9_linking : ∀ vl K x1 x2 x3 x4 x5 zc zm S1, lst_linking vl K x1 x2 x3 x4 x5 zc zm = some S1 → ltp_linking vl K x1 x2 x3 x4 x5 zc zm = some S1 := fun _ _ _ _ _ _ _ _ _ _ h => nc1 (fun _ _ _ _ h9 => tlV9 h9) h
theorem tq9_alike : ∀ vl K x1 x2 x3 x4 x5 zc zm S1, lst_alike vl K x1 x2 x3 x4 x5 zc zm = some S1 → ltp_alike vl K x1 x2 x3 x4 x5 zc zm = some S1 := fun _ _ _ _ _ _ _ _ _ _ h => nc1 (fun _ _ _ _ h9 => tlB9 h9) h
theorem tq9_mirror : ∀ vl K x1 x2 x3 x4 x5 zc zm S1, lst_mirror vl K x1 x2 x3 x4 x5 zc zm = some S1 → ltp_mirror vl K x1 x2 x3 x4 x5 zc zm = some S1 := fun _ _ _ _ _ _ _ _ _ _ h => nc1 (fun _ _ _ _ h9 => tlV9 h9) h
theorem tq9_reverse : ∀ vl K x1 x2 x3 x4 x5 zc zm S1, lst_reverse vl K x1 x2 x3 x4 x5 zc zm = some S1 → ltp_reverse vl K x1 x2 x3 x4 x5 zc zm = some S1 := fun _ _ _ _ _ _ _ _ _ _ h => nc1 (fun _ _ _ _ h9 => tlV9 h9) h
theorem tq9_change : ∀ vl K x1 x2 x3 x4 x5 zc zm S1, lst_change vl K x1 x2 x3 x4 x5 zc zm = some S1 → ltp_change vl K x1 x2 x3 x4 x5 zc zm = some S1 := fun _ _ _ _ _ _ _ _ _ _ h => nc1 (fun _ _ _ _ h9 => tlV9 h9) h
theorem tq9_smooth : ∀ vl K x1 x2 x3 x4 x5 zc zm S1, lst_smooth vl K x1 x2 x3 x4 x5 zc zm = some S1 → ltp_smooth vl K x1 x2 x3 x4 x5 zc zm = some S1 := fun _ _ _ _ _ _ _ _ _ _ h => nc1 (fun _ _ _ _ h9 => tlV9 h9) h
theorem tq9_apart : ∀ vl K x1 x2 x3 x4 x5 zc zm S1, lst_apart vl K x1 x2 x3 x4 x5 zc zm = some S1 → ltp_apart vl K x1 x2 x3 x4 x5 zc zm = some S1 := fun _ _ _ _ _ _ _ _ _ _ h => nc1 (fun _ _ _ _ h9 => tlV9 h9) h
theorem tq9_join : ∀ vl K x1 x2 x3 x4 x5 zc zm S1, lst_join vl K x1 x2 x3 x4 x5 zc zm = some S1 → ltp_join vl K x1 x2 x3 x4 x5 zc zm = some S1 := fun _ _ _ _ _ _ _ _ _ _ h => nc1 (fun _ _ _ _ h9 => tlV9 h9) h
theorem tq9_moves : ∀ vl K x1 x2 x3 x4 x5 zc zm S1, lst_moves vl K x1 x2 x3 x4 x5 zc zm = some S1 → ltp_moves vl K x1 x2 x3 x4 x5 zc zm = some S1 := fun _ _ _ _ _ _ _ _ _ _ h => nc1 (fun _ _ _ _ h9 => tlV9 h9) h
theorem tq9_moved : ∀ vl K x1 x2 x3 x4 x5 zc zm S1, lst_moved vl K x1 x2 x3 x4 x5 zc zm = some S1 → ltp_moved vl K x1 x2 x3 x4 x5 zc zm = some S1 := fun _ _ _ _ _ _ _ _ _ _ h => nc1 (fun _ _ _ _ h9 => tlV9 h9) h
theorem tq9_simplify : ∀ vl K x1 x2 x3 x4 x5 zc zm S1, lst_simplify vl K x1 x2 x3 x4 x5 zc zm = some S1 → ltp_simplify vl K x1 x2 x3 x4 x5 zc zm = some S1 := fun _ _ _ _ _ _ _ _ _ _ h => nc1 (fun _ _ _ _ h9 => tlV9 h9) h
theorem tq9_way : ∀ vl K x1 x2 x3 x4 x5 zc zm S1, lst_way vl K x1 x2 x3 x4 x5 zc zm = some S1 → ltp_way vl K x1 x2 x3 x4 x5 zc zm = some S1 := fun _ _ _ _ _ _ _ _ _ _ h => nc1 (fun _ _ _ _ h9 => tlV9 h9) h
theorem tq9_summands : ∀ vl K x1 x2 x3 x4 x5 zc zm S1, lst_summands vl K x1 x2 x3 x4 x5 zc zm = some S1 → ltp_summands vl K x1 x2 x3 x4 x5 zc zm = some S1 := fun _ _ _ _ _ _ _ _ _ _ h => nc1 (fun _ _ _ _ h9 => tlV9 h9) h
theorem tq9_summand : ∀ vl K x1 x2 x3 x4 x5 zc zm S1, lst_summand vl K x1 x2 x3 x4 x5 zc zm = some S1 → ltp_summand vl K x1 x2 x3 x4 x5 zc zm = some S1 := fun _ _ _ _ _ _ _ _ _ _ h => nc1 (fun _ _ _ _ h9 => tlV9 h9) h
theorem tq9_conway : ∀ vl K x1 x2 x3 x4 x5 zc zm S1, lst_conway vl K x1 x2 x3 x4 x5 zc zm = some S1 → ltp_conway vl K x1 x2 x3 x4 x5 zc zm = some S1 := fun _ _ _ _ _ _ _ _ _ _ h => nc1 (fun _ _ _ _ h9 => tlV9 h9) h
theorem tq9_jones : ∀ vl K x1 x2 x3 x4 x5 zc zm S1, lst_jones vl K x1 x2 x3 x4 x5 zc zm = some S1 → ltp_jones vl K x1 x2 x3 x4 x5 zc zm = some S1 := fun _ _ _ _ _ _ _ _ _ _ h => nc1 (fun _ _ _ _ h9 => tlV9 h9) h
theorem tq9_signature : ∀ vl K x1 x2 x3 x4 x5 zc zm S1, lst_signature vl K x1 x2 x3 x4 x5 zc zm = some S1 → ltp_signature vl K x1 x2 x3 x4 x5 zc zm = some S1 := fun _ _ _ _ _ _ _ _ _ _ h => nc1 (fun _ _ _ _ h9 => tlV9 h9) h
theorem tq9_maps : ∀ vl K x1 x2 x3 x4 x5 zc zm S1, lst_maps vl K x1 x2 x3 x4 x5 zc zm = some S1 → ltp_maps vl K x1 x2 x3 x4 x5 zc zm = some S1 := fun _ _ _ _ _ _ _ _ _ _ h => nc1 (fun _ _ _ _ h9 => tlV9 h9) h
theorem tq9_chain : ∀ vl K x1 x2 x3 x4 x5 zc zm S1, lst_chain vl K x1 x2 x3 x4 x5 zc zm = some S1 → ltp_chain vl K x1 x2 x3 x4 x5 zc zm = some S1 := by
  intro vl K x1 x2 x3 x4 x5 zc zm S1 h
  unfold lst_chain at h
  obtain ⟨v2, vm3, zc1, h1, h⟩ := dd_dc1 h
  obtain ⟨v5, zm4, h2, h⟩ := tw_cl1 h
  unfold ltp_chain
  rw [h1]
  show (cs1 (qe_X13_chain K x1 x2 zm) fun v5 zm4 => some (vm3, zc1, zm4)) = some S1
  rw [h2, tlV9 h]
  rfl
theorem tq9_rank : ∀ vl K x1 x2 x3 x4 x5 zc zm S1, lst_rank vl K x1 x2 x3 x4 x5 zc zm = some S1 → ltp_rank vl K x1 x2 x3 x4 x5 zc zm = some S1 := fun _ _ _ _ _ _ _ _ _ _ h => nc1 (fun _ _ _ _ h9 => tlB9 h9) h
theorem tq9_closure : ∀ vl K x1 x2 x3 x4 x5 zc zm S1, lst_closure vl K x1 x2 x3 x4 x5 zc zm = some S1 → ltp_closure vl K x1 x2 x3 x4 x5 zc zm = some S1 := fun _ _ _ _ _ _ _ _ _ _ h => nc1 (fun _ _ _ _ h9 => tlV9 h9) h
theorem tq9_product : ∀ vl K x1 x2 x3 x4 x5 zc zm S1, lst_product vl K x1 x2 x3 x4 x5 zc zm = some S1 → ltp_product vl K x1 x2 x3 x4 x5 zc zm = some S1 := fun _ _ _ _ _ _ _ _ _ _ h => nc1 (fun _ _ _ _ h9 => tlV9 h9) h
theorem tq9_inverse : ∀ vl K x1 x2 x3 x4 x5 zc zm S1, lst_inverse vl K x1 x2 x3 x4 x5 zc zm = some S1 → ltp_inverse vl K x1 x2 x3 x4 x5 zc zm = some S1 := fun _ _ _ _ _ _ _ _ _ _ h => nc1 (fun _ _ _ _ h9 => tlV9 h9) h
theorem tq9_normal : ∀ vl K x1 x2 x3 x4 x5 zc zm S1, lst_normal vl K x1 x2 x3 x4 x5 zc zm = some S1 → ltp_normal vl K x1 x2 x3 x4 x5 zc zm = some S1 := fun _ _ _ _ _ _ _ _ _ _ h => nc1 (fun _ _ _ _ h9 => tlV9 h9) h
theorem tq9_factor : ∀ vl K x1 x2 x3 x4 x5 zc zm S1, lst_factor vl K x1 x2 x3 x4 x5 zc zm = some S1 → ltp_factor vl K x1 x2 x3 x4 x5 zc zm = some S1 := fun _ _ _ _ _ _ _ _ _ _ h => nc1 (fun _ _ _ _ h9 => tlV9 h9) h
theorem tq9_equal : ∀ vl K x1 x2 x3 x4 x5 zc zm S1, lst_equal vl K x1 x2 x3 x4 x5 zc zm = some S1 → ltp_equal vl K x1 x2 x3 x4 x5 zc zm = some S1 := fun _ _ _ _ _ _ _ _ _ _ h => nc1 (fun _ _ _ _ h9 => tlB9 h9) h
theorem tq9_summit : ∀ vl K x1 x2 x3 x4 x5 zc zm S1, lst_summit vl K x1 x2 x3 x4 x5 zc zm = some S1 → ltp_summit vl K x1 x2 x3 x4 x5 zc zm = some S1 := fun _ _ _ _ _ _ _ _ _ _ h => nc1 (fun _ _ _ _ h9 => tlV9 h9) h
theorem tq9_conjugate : ∀ vl K x1 x2 x3 x4 x5 zc zm S1, lst_conjugate vl K x1 x2 x3 x4 x5 zc zm = some S1 → ltp_conjugate vl K x1 x2 x3 x4 x5 zc zm = some S1 := fun _ _ _ _ _ _ _ _ _ _ h => nc1 (fun _ _ _ _ h9 => tlV9 h9) h
theorem tq9_two : ∀ vl K x1 x2 x3 x4 x5 zc zm S1, lst_two vl K x1 x2 x3 x4 x5 zc zm = some S1 → ltp_two vl K x1 x2 x3 x4 x5 zc zm = some S1 := fun _ _ _ _ _ _ _ _ _ _ h => nc1 (fun _ _ _ _ h9 => tlV9 h9) h
variable {Pc Pr : tbT → ow_MS → Prop}
theorem run_relP (H : ∀ (S : ow_LwS) (x0 x1 x2 x3 x4 x5 : Int32), rlJ9 Pc Pr S → Te (fun K => ltstep K x0 x1 x2 x3 x4 x5 S) (fun S1 => rlJ9 Pc Pr S1 ∧ dPhi S.1 ≤ dPhi S1.1)) (xs : Nat → Int32) : ∀ (k n : Nat) (S : ow_LwS), rlJ9 Pc Pr S → ∃ SE b, ∀ K, b ≤ K → ltrun K xs k n S = some SE
  | 0, n, S, _ => ⟨S, 0, fun K _ => rfl⟩
  | k + 1, n, S, h => by
    obtain ⟨S1, ⟨b1, hb1⟩, h1, h2⟩ := H S (xs (6 * n)) (xs (6 * n + 1)) (xs (6 * n + 2)) (xs (6 * n + 3)) (xs (6 * n + 4)) (xs (6 * n + 5)) h
    obtain ⟨SE, b2, hb2⟩ := run_relP H xs k (n + 1) S1 h1
    refine ⟨SE, b1 + b2, fun K hK => ?_⟩
    have e : ltstep K (xs (6 * n)) (xs (6 * n + 1)) (xs (6 * n + 2)) (xs (6 * n + 3)) (xs (6 * n + 4)) (xs (6 * n + 5)) S = some S1 := hb1 K (by omega)
    show (match ltstep K (xs (6 * n)) (xs (6 * n + 1)) (xs (6 * n + 2)) (xs (6 * n + 3)) (xs (6 * n + 4)) (xs (6 * n + 5)) S with
      | none => none
      | some S1 => if dPhi S.1 ≤ dPhi S1.1 ∧ dPhi S1.1 ≤ 2800000 then ltrun K xs k (n + 1) S1 else none) = some SE
    rw [e]
    show (if dPhi S.1 ≤ dPhi S1.1 ∧ dPhi S1.1 ≤ 2800000 then ltrun K xs k (n + 1) S1 else none) = some SE
    rw [if_pos ⟨h2, rel_phi (h1.choose_spec).1.1⟩]
    exact hb2 K (by omega)
theorem step_allP (hc : ∀ E, keepP ciX (Pc E)) (hr : ∀ E, keepP rfX (Pr E)) (hj : ∀ E, ∀ y y1, fr jnP y y1 → (∀ D, cOK D → slC y 25000 0 D → slC y1 25000 0 D) → Pc E y → Pc E y1) (h_conway : ∀ E, stpX (Pc E) (Pr E) lst_conway) (h_signature : ∀ E, stpX (Pc E) (Pr E) lst_signature) (h_cover : ∀ E, stpX (Pc E) (Pr E) ltp_cover) (h_colours : ∀ E, stpX (Pc E) (Pr E) ltp_colours) (h_maps : ∀ E, stpX (Pc E) (Pr E) lst_maps) (h_rank : ∀ E, stpX (Pc E) (Pr E) lst_rank) (h_normal : ∀ E, stpX (Pc E) (Pr E) lst_normal) (h_factor : ∀ E, stpX (Pc E) (Pr E) lst_factor) (h_equal : ∀ E, stpX (Pc E) (Pr E) lst_equal) (h_summit : ∀ E, stpX (Pc E) (Pr E) lst_summit) (h_conjugate : ∀ E, stpX (Pc E) (Pr E) lst_conjugate) (h_two : ∀ E, stpX (Pc E) (Pr E) lst_two) (h_chain : ∀ (S : ow_LwS) (x1 x2 x3 x4 x5 : Int32), rlJ9 Pc Pr S → Te (fun K => lst_chain S.1 K x1 x2 x3 x4 x5 S.2.1 S.2.2) (fun S1 => rlJ9 Pc Pr S1 ∧ dPhi S.1 ≤ dPhi S1.1)) (S : ow_LwS) (x0 x1 x2 x3 x4 x5 : Int32) (h : rlJ9 Pc Pr S) : Te (fun K => ltstep K x0 x1 x2 x3 x4 x5 S) (fun S1 => rlJ9 Pc Pr S1 ∧ dPhi S.1 ≤ dPhi S1.1) := by
  obtain ⟨E, h⟩ := h
  unfold ltstep
  refine te_if (fun _ => ⟨S, ⟨0, fun K _ => rfl⟩, ⟨E, h⟩, Nat.le_refl _⟩) (fun hx => ?_)
  refine te_if (fun _ => stJ9 (st9 (stn9 tq9_feed (s3_feed (hc E) (hr E))) S x1 x2 x3 x4 x5 h)) (fun n_feed => ?_)
  refine te_if (fun _ => stJ9 (st9 (stn9 tq9_end (s3_end (hc E) (hr E))) S x1 x2 x3 x4 x5 h)) (fun n_end => ?_)
  refine te_if (fun _ => stJ9 (st9 (stn9 tq9_diagram (s3_diagram (hc E) (hr E))) S x1 x2 x3 x4 x5 h)) (fun n_diagram => ?_)
  refine te_if (fun _ => stJ9 (st9 (stn9 tq9_braid (s3_braid (hc E) (hr E))) S x1 x2 x3 x4 x5 h)) (fun n_braid => ?_)
  refine te_if (fun _ => stJ9 (st9 (stn9 tq9_drop (s3_drop (hc E) (hr E))) S x1 x2 x3 x4 x5 h)) (fun n_drop => ?_)
  refine te_if (fun _ => stJ9 (st9 (stn9 tq9_dropBraid (s3_dropBraid (hc E) (hr E))) S x1 x2 x3 x4 x5 h)) (fun n_dropBraid => ?_)
  refine te_if (fun _ => stJ9 (st9 (stn9 tq9_figure (s3_figure (hc E) (hr E))) S x1 x2 x3 x4 x5 h)) (fun n_figure => ?_)
  refine te_if (fun _ => stJ9 (st9 (stn9 tq9_visit (s3_visit (hc E) (hr E))) S x1 x2 x3 x4 x5 h)) (fun n_visit => ?_)
  refine te_if (fun _ => stJ9 (st9 (stn9 tq9_linking (s3_linking (hc E) (hr E))) S x1 x2 x3 x4 x5 h)) (fun n_linking => ?_)
  refine te_if (fun _ => stJ9 (st9 (stn9 tq9_alike (s3_alike (hc E) (hr E))) S x1 x2 x3 x4 x5 h)) (fun n_alike => ?_)
  refine te_if (fun _ => stJ9 (st9 (stn9 tq9_mirror (s3_mirror (hc E) (hr E))) S x1 x2 x3 x4 x5 h)) (fun n_mirror => ?_)
  refine te_if (fun _ => stJ9 (st9 (stn9 tq9_reverse (s3_reverse (hc E) (hr E))) S x1 x2 x3 x4 x5 h)) (fun n_reverse => ?_)
  refine te_if (fun _ => stJ9 (st9 (stn9 tq9_change (s3_change (hc E) (hr E))) S x1 x2 x3 x4 x5 h)) (fun n_change => ?_)
  refine te_if (fun _ => stJ9 (st9 (stn9 tq9_smooth (s3_smooth (hc E) (hr E))) S x1 x2 x3 x4 x5 h)) (fun n_smooth => ?_)
  refine te_if (fun _ => stJ9 (st9 (stn9 tq9_apart (s3_apart (hc E) (hr E))) S x1 x2 x3 x4 x5 h)) (fun n_apart => ?_)
  refine te_if (fun _ => stJ9 (st9 (stn9 tq9_join (s3_join (hc E) (hr E))) S x1 x2 x3 x4 x5 h)) (fun n_join => ?_)
  refine te_if (fun _ => stJ9 (st9 (stn9 tq9_moves (s3_moves (hc E) (hr E))) S x1 x2 x3 x4 x5 h)) (fun n_moves => ?_)
  refine te_if (fun _ => stJ9 (st9 (stn9 tq9_moved (s3_moved (hc E) (hr E))) S x1 x2 x3 x4 x5 h)) (fun n_moved => ?_)
  refine te_if (fun _ => stJ9 (st9 (stn9 tq9_simplify (s3_simplify (hc E) (hr E))) S x1 x2 x3 x4 x5 h)) (fun n_simplify => ?_)
  refine te_if (fun _ => stJ9 (st9 (stn9 tq9_way (s3_way (hc E) (hr E))) S x1 x2 x3 x4 x5 h)) (fun n_way => ?_)
  refine te_if (fun _ => stJ9 (st9 (stn9 tq9_summands (s3_summands (hc E) (hr E))) S x1 x2 x3 x4 x5 h)) (fun n_summands => ?_)
  refine te_if (fun _ => stJ9 (st9 (stn9 tq9_summand (s3_summand (hc E) (hr E))) S x1 x2 x3 x4 x5 h)) (fun n_summand => ?_)
  refine te_if (fun _ => stJ9 (st9 (stn9 tq9_conway (h_conway E)) S x1 x2 x3 x4 x5 h)) (fun n_conway => ?_)
  refine te_if (fun _ => stJ9 (st9 (stn9 tq9_jones (s3_jones (hc E) (hr E) (hj E))) S x1 x2 x3 x4 x5 h)) (fun n_jones => ?_)
  refine te_if (fun _ => stJ9 (st9 (stn9 tq9_signature (h_signature E)) S x1 x2 x3 x4 x5 h)) (fun n_signature => ?_)
  refine te_if (fun _ => stJ9 (st9 (h_cover E) S x1 x2 x3 x4 x5 h)) (fun n_cover => ?_)
  refine te_if (fun _ => stJ9 (st9 (h_colours E) S x1 x2 x3 x4 x5 h)) (fun n_colours => ?_)
  refine te_if (fun _ => stJ9 (st9 (stn9 tq9_maps (h_maps E)) S x1 x2 x3 x4 x5 h)) (fun n_maps => ?_)
  refine te_if (fun _ => te_up9 (h_chain S x1 x2 x3 x4 x5 ⟨E, h⟩) (fun K r e => tq9_chain _ _ _ _ _ _ _ _ _ _ e)) (fun n_chain => ?_)
  refine te_if (fun _ => stJ9 (st9 (stn9 tq9_rank (h_rank E)) S x1 x2 x3 x4 x5 h)) (fun n_rank => ?_)
  refine te_if (fun _ => stJ9 (st9 (stn9 tq9_closure (s3_closure (hc E) (hr E))) S x1 x2 x3 x4 x5 h)) (fun n_closure => ?_)
  refine te_if (fun _ => stJ9 (st9 (stn9 tq9_product (s3_product (hc E) (hr E))) S x1 x2 x3 x4 x5 h)) (fun n_product => ?_)
  refine te_if (fun _ => stJ9 (st9 (stn9 tq9_inverse (s3_inverse (hc E) (hr E))) S x1 x2 x3 x4 x5 h)) (fun n_inverse => ?_)
  refine te_if (fun _ => stJ9 (st9 (stn9 tq9_normal (h_normal E)) S x1 x2 x3 x4 x5 h)) (fun n_normal => ?_)
  refine te_if (fun _ => stJ9 (st9 (stn9 tq9_factor (h_factor E)) S x1 x2 x3 x4 x5 h)) (fun n_factor => ?_)
  refine te_if (fun _ => stJ9 (st9 (stn9 tq9_equal (h_equal E)) S x1 x2 x3 x4 x5 h)) (fun n_equal => ?_)
  refine te_if (fun _ => stJ9 (st9 (stn9 tq9_summit (h_summit E)) S x1 x2 x3 x4 x5 h)) (fun n_summit => ?_)
  refine te_if (fun _ => stJ9 (st9 (stn9 tq9_conjugate (h_conjugate E)) S x1 x2 x3 x4 x5 h)) (fun n_conjugate => ?_)
  refine te_if (fun _ => stJ9 (st9 (stn9 tq9_two (h_two E)) S x1 x2 x3 x4 x5 h)) (fun n_two => ?_)
  exfalso
  obtain ⟨i, hi, e⟩ := x63 hx
  rw [e] at n_feed n_end n_diagram n_braid n_drop n_dropBraid n_figure n_visit n_linking n_alike n_mirror n_reverse n_change n_smooth n_apart n_join n_moves n_moved n_simplify n_way n_summands n_summand n_conway n_jones n_signature n_cover n_colours n_maps n_chain n_rank n_closure n_product n_inverse n_normal n_factor n_equal n_summit n_conjugate n_two
  have key : ∀ i : Fin 39, ¬ (¬ nI i.val = 0 ∧ ¬ nI i.val = 1 ∧ ¬ nI i.val = 2 ∧ ¬ nI i.val = 3 ∧ ¬ nI i.val = 4 ∧ ¬ nI i.val = 5 ∧ ¬ nI i.val = 6 ∧ ¬ nI i.val = 7 ∧ ¬ nI i.val = 8 ∧ ¬ nI i.val = 9 ∧ ¬ nI i.val = 10 ∧ ¬ nI i.val = 11 ∧ ¬ nI i.val = 12 ∧ ¬ nI i.val = 13 ∧ ¬ nI i.val = 14 ∧ ¬ nI i.val = 15 ∧ ¬ nI i.val = 16 ∧ ¬ nI i.val = 17 ∧ ¬ nI i.val = 18 ∧ ¬ nI i.val = 19 ∧ ¬ nI i.val = 20 ∧ ¬ nI i.val = 21 ∧ ¬ nI i.val = 22 ∧ ¬ nI i.val = 23 ∧ ¬ nI i.val = 24 ∧ ¬ nI i.val = 25 ∧ ¬ nI i.val = 26 ∧ ¬ nI i.val = 27 ∧ ¬ nI i.val = 28 ∧ ¬ nI i.val = 29 ∧ ¬ nI i.val = 30 ∧ ¬ nI i.val = 31 ∧ ¬ nI i.val = 32 ∧ ¬ nI i.val = 33 ∧ ¬ nI i.val = 34 ∧ ¬ nI i.val = 35 ∧ ¬ nI i.val = 36 ∧ ¬ nI i.val = 37 ∧ ¬ nI i.val = 38) := by decide +kernel
  exact key ⟨i, hi⟩ ⟨n_feed, n_end, n_diagram, n_braid, n_drop, n_dropBraid, n_figure, n_visit, n_linking, n_alike, n_mirror, n_reverse, n_change, n_smooth, n_apart, n_join, n_moves, n_moved, n_simplify, n_way, n_summands, n_summand, n_conway, n_jones, n_signature, n_cover, n_colours, n_maps, n_chain, n_rank, n_closure, n_product, n_inverse, n_normal, n_factor, n_equal, n_summit, n_conjugate, n_two⟩
theorem pure_ofP (hc : ∀ E, keepP ciX (Pc E)) (hr : ∀ E, keepP rfX (Pr E)) (hj : ∀ E, ∀ y y1, fr jnP y y1 → (∀ D, cOK D → slC y 25000 0 D → slC y1 25000 0 D) → Pc E y → Pc E y1) (h_conway : ∀ E, stpX (Pc E) (Pr E) lst_conway) (h_signature : ∀ E, stpX (Pc E) (Pr E) lst_signature) (h_cover : ∀ E, stpX (Pc E) (Pr E) ltp_cover) (h_colours : ∀ E, stpX (Pc E) (Pr E) ltp_colours) (h_maps : ∀ E, stpX (Pc E) (Pr E) lst_maps) (h_rank : ∀ E, stpX (Pc E) (Pr E) lst_rank) (h_normal : ∀ E, stpX (Pc E) (Pr E) lst_normal) (h_factor : ∀ E, stpX (Pc E) (Pr E) lst_factor) (h_equal : ∀ E, stpX (Pc E) (Pr E) lst_equal) (h_summit : ∀ E, stpX (Pc E) (Pr E) lst_summit) (h_conjugate : ∀ E, stpX (Pc E) (Pr E) lst_conjugate) (h_two : ∀ E, stpX (Pc E) (Pr E) lst_two) (h_chain : ∀ (S : ow_LwS) (x1 x2 x3 x4 x5 : Int32), rlJ9 Pc Pr S → Te (fun K => lst_chain S.1 K x1 x2 x3 x4 x5 S.2.1 S.2.2) (fun S1 => rlJ9 Pc Pr S1 ∧ dPhi S.1 ≤ dPhi S1.1)) (i_c : ∀ y, (∀ g, ¬ spc g → y.1 g = 0 ∧ ∀ i, y.2.1 g i = 0) → (∃ z8 z0 zA z1 b, (∀ K, b ≤ K → ce_X8i_b8 K 24000 zeroS = some z8 ∧ ce_X0i_b0 K 41000 53001 zeroS = some z0 ∧ ce_X1i_b1 K 43000 zeroS = some zA ∧ ce_X1j_b1b K 43000 53001 (usZ zA [53]) = some z1) ∧ y = Zc z8 z0 z1) → Pc (fun _ _ => 0) y) (i_r : ∀ z, (∀ g, g < 73 → z.1 g = 0) → (∀ g i, ¬ (73 ≤ g ∧ g ≤ 76 ∨ 97 ≤ g ∧ g ≤ 107) → z.2.1 g i = 0) → (∃ m1 m2 b, (∀ K, b ≤ K → qe_X13_makeSimples_a K Z13 = some m1 ∧ qe_X13_makePermutations_a K m1 = some m2) ∧ z = usZ m2 blM) → Pr (fun _ _ => 0) z) : PureP := by
  intro L xs hL
  obtain ⟨z8, z0, zA, z1, m1, m2, b, hb, hR, hY, hz1, hz2⟩ := both_init1
  have n1 : ∀ d, (Zc z8 z0 z1).2.1 1002 d = 0 := (hY 1002 (by unfold spc; omega)).2
  have n2 : (Zc z8 z0 z1).1 2005 = 0 := (hY 2005 (by unfold spc; omega)).1
  have n3 : (Zc z8 z0 z1).1 3005 = 0 := (hY 3005 (by unfold spc; omega)).1
  have hNM : NM (Zc z8 z0 z1) := by
    refine ⟨fun d A sg c hd hs hA hne => ?_, fun Cs os ht C hC => ?_, fun Cs os ht C hC => ?_⟩
    · have h8 : (Zc z8 z0 z1).2.1 1002 d = nI (clC sg A).2.length := hs.2.1
      rw [n1 d] at h8
      have hl := len_cl (sg := sg) hne
      have ok := (okL_c (sg := sg) hA).2
      have := nI_inj9 (a := 0) (b := (clC sg A).2.length) (by omega) (by have := ok.2.1; omega) h8
      omega
    · have h8 : (Zc z8 z0 z1).1 2005 = nI os.length := ht.1.1
      rw [n2] at h8
      have l1 := ht.2.2.2.1
      have := nI_inj9 (a := 0) (b := os.length) (by omega) (by omega) h8
      have l2 := ht.1.2.1
      rw [List.eq_nil_of_length_eq_zero (show Cs.length = 0 by omega)] at hC
      cases hC
    · have h8 : (Zc z8 z0 z1).1 3005 = nI os.length := ht.1.1
      rw [n3] at h8
      have l1 := ht.2.2.2.1
      have := nI_inj9 (a := 0) (b := os.length) (by omega) (by omega) h8
      have l2 := ht.1.2.1
      rw [List.eq_nil_of_length_eq_zero (show Cs.length = 0 by omega)] at hC
      cases hC
  obtain ⟨SE, b2, hb2⟩ := run_relP (step_allP hc hr hj h_conway h_signature h_cover h_colours h_maps h_rank h_normal h_factor h_equal h_summit h_conjugate h_two h_chain) xs (L / 6) 0 _ ⟨fun _ _ => 0, ⟨hR, hNM⟩, i_c _ hY ⟨z8, z0, zA, z1, b, fun K hK => ⟨(hb K hK).1, (hb K hK).2.1, (hb K hK).2.2.1, (hb K hK).2.2.2.1⟩, rfl⟩, i_r _ hz1 hz2 ⟨m1, m2, b, fun K hK => ⟨(hb K hK).2.2.2.2.1, (hb K hK).2.2.2.2.2⟩, rfl⟩⟩
  obtain ⟨q1, q2, q3, q4, q5, q6⟩ := hb (b + b2) (by omega)
  exact ⟨b + b2, z8, z0, zA, z1, m1, m2, SE, q1, q2, q3, q4, q5, q6, hb2 (b + b2) (by omega)⟩
theorem pure_P : PureP := by
  have hc : keepP ciX (fun _ : ow_MS => True) := fun _ _ _ _ _ _ => trivial
  have hr : keepP rfX (fun _ : ow_MS => True) := fun _ _ _ _ _ _ => trivial
  have hj : ∀ y y1, fr jnP y y1 → (∀ D, cOK D → slC y 25000 0 D → slC y1 25000 0 D) → True → True := fun _ _ _ _ _ => trivial
  have hp : ∀ y y1, fr skP y y1 → (∀ D, cOK D → slC y 25000 1 D → slC y1 25000 1 D) → True → True := fun _ _ _ _ _ => trivial
  have hm : ∀ y y1, fr mxQ y y1 → True → True := fun _ _ _ _ => trivial
  have ht : ∀ y y1, fr twQ y y1 → (∀ D, cOK D → slC y 25000 1 D → slC y1 25000 1 D) → True → True := fun _ _ _ _ _ => trivial
  have hq : ∀ z z1, fr (pf [1, 41, 42, 43, 44, 46] []) z z1 → True → True := fun _ _ _ _ => trivial
  have hn : ∀ z z1, fr (pf [1, 58, 59, 60, 61, 62, 63, 77, 78, 79, 80] []) z z1 → True → True := fun _ _ _ _ => trivial
  have hw : ∀ z z1, fr (pf [1, 2, 3, 4, 5, 6, 7, 8, 9, 27, 41, 42, 44, 45, 46, 120] []) z z1 → True → True := fun _ _ _ _ => trivial
  have hg : ∀ y y1, fr chG y y1 → True → True := fun _ _ _ _ => trivial
  have hh : ∀ z z1, fr (pf [1, 47, 81, 82, 83, 84, 85, 86, 87, 88, 89, 90, 91, 92, 93] []) z z1 → True → True := fun _ _ _ _ => trivial
  exact
  pure_ofP (Pc := fun E y => cwK y ∧ cjT y ∧ twK y ∧ tcD E y ∧ True) (Pr := fun E z => cwR z ∧ enW z ∧ epA z ∧ twR z ∧ trD E z ∧ True) (fun E => pc_keep5 (kc_D hc E)) (fun E => pr_keep5 (kr_D hr E)) (fun E => fun y y1 f s h => ⟨pc_jn f s h.1, cjT_fr f (by unfold jnP; omega) (by unfold jnP; omega) h.2.1, tw_jn f s h.2.2.1, tcD_fr f (by unfold jnP; omega) (by unfold jnP; omega) (by unfold jnP; omega) h.2.2.2.1, hj y y1 f s h.2.2.2.2⟩)
    (fun E => s3_conway2 (pc_keep5 (kc_D hc E)) (fun y h => ⟨h.1, h.2.2.1⟩) (fun y y1 f k t _ s h => ⟨k, cjT_fr f (by unfold skP; omega) (by unfold skP; omega) h.2.1, t, tcD_fr f (by unfold skP; omega) (by unfold skP; omega) (by unfold skP; omega) h.2.2.2.1, hp y y1 f s h.2.2.2.2⟩) (fun z h => ⟨h.1, h.2.2.2.1⟩) (fun z z1 f k t h => ⟨k, enW_fr f (by decide) h.2.1, epA_fr f (fun g g1 g2 h9 => pf_n8 h9 (by decide) g1 g2) h.2.2.1, t, trD_fr f (by decide) (by decide) h.2.2.2.2.1, hq z z1 f h.2.2.2.2.2⟩))
    (fun E => s3_signature (pc_keep5 (kc_D hc E)) (pr_keep5 (kr_D hr E)))
    (fun E => s3n_cover (fun y y1 f h => ⟨cwK_fr f (fun g hg h9 => Or.elim (show cxP g ∨ g = 52001 from hg) (fun hg => by unfold cxP cL cvP at hg; omega) (fun hg => by omega)) h.1, cjT_fr f (by show ¬ (cxP 41006 ∨ (41006 : Nat) = 52001); unfold cxP cL cvP; omega) (by show ¬ (cxP 41007 ∨ (41007 : Nat) = 52001); unfold cxP cL cvP; omega) h.2.1, twK_fr f (fun g hg h9 => Or.elim (show cxP g ∨ g = 52001 from hg) (fun hg => by unfold cxP cL cvP at hg; omega) (fun hg => by omega)) h.2.2.1, tcD_fr f (by show ¬ (cxP 43018 ∨ (43018 : Nat) = 52001); unfold cxP cL cvP; omega) (by show ¬ (cxP 43019 ∨ (43019 : Nat) = 52001); unfold cxP cL cvP; omega) (by show ¬ (cxP 43020 ∨ (43020 : Nat) = 52001); unfold cxP cL cvP; omega) h.2.2.2.1, trivial⟩) (fun z z1 f h => ⟨cwR_fr f (by decide) (by decide) h.1, enW_fr f (by decide) h.2.1, epA_fr f (fun g g1 g2 h9 => pf_n8 h9 (by decide) g1 g2) h.2.2.1, twR_fr f (by decide) (by decide) h.2.2.2.1, trD_fr f (by decide) (by decide) h.2.2.2.2.1, trivial⟩))
    (fun E => s3n_colours (fun y y1 f h => ⟨cwK_fr f (fun g hg h9 => Or.elim (show cxP g ∨ g = 52001 from hg) (fun hg => by unfold cxP cL cvP at hg; omega) (fun hg => by omega)) h.1, cjT_fr f (by show ¬ (cxP 41006 ∨ (41006 : Nat) = 52001); unfold cxP cL cvP; omega) (by show ¬ (cxP 41007 ∨ (41007 : Nat) = 52001); unfold cxP cL cvP; omega) h.2.1, twK_fr f (fun g hg h9 => Or.elim (show cxP g ∨ g = 52001 from hg) (fun hg => by unfold cxP cL cvP at hg; omega) (fun hg => by omega)) h.2.2.1, tcD_fr f (by show ¬ (cxP 43018 ∨ (43018 : Nat) = 52001); unfold cxP cL cvP; omega) (by show ¬ (cxP 43019 ∨ (43019 : Nat) = 52001); unfold cxP cL cvP; omega) (by show ¬ (cxP 43020 ∨ (43020 : Nat) = 52001); unfold cxP cL cvP; omega) h.2.2.2.1, trivial⟩) (fun z z1 f h => ⟨cwR_fr f (by decide) (by decide) h.1, enW_fr f (by decide) h.2.1, epA_fr f (fun g g1 g2 h9 => pf_n8 h9 (by decide) g1 g2) h.2.2.1, twR_fr f (by decide) (by decide) h.2.2.2.1, trD_fr f (by decide) (by decide) h.2.2.2.2.1, trivial⟩))
    (fun E => s3_maps (pc_keep5 (kc_D hc E)) (fun y h => h.2.1) (fun y y1 f h => ⟨cwK_fr f (fun g hg h9 => by unfold mxQ at hg; omega) h.1, cjT_fr f (by unfold mxQ; omega) (by unfold mxQ; omega) h.2.1, twK_fr f (fun g hg h9 => by unfold mxQ at hg; omega) h.2.2.1, tcD_fr f (by unfold mxQ; omega) (by unfold mxQ; omega) (by unfold mxQ; omega) h.2.2.2.1, hm y y1 f h.2.2.2.2⟩) (fun z h => h.2.2.1) (fun z z1 f h => ⟨cwR_fr f (by decide) (by decide) h.1, enW_fr f (by decide) h.2.1, epA_fr f (fun g g1 g2 h9 => pf_n8 h9 (by decide) g1 g2) h.2.2.1, twR_fr f (by decide) (by decide) h.2.2.2.1, trD_fr f (by decide) (by decide) h.2.2.2.2.1, hn z z1 f h.2.2.2.2.2⟩))
    (fun E => s3_rank (D := E) (pc_keep5 (kc_D hc E)) (pr_keep5 (kr_D hr E)) (fun y h => h.2.2.2.1) (fun z h => h.2.2.2.2.1))
    (fun E => s3_normal (pc_keep5 (kc_D hc E)) (pr_keep5 (kr_D hr E)))
    (fun E => s3_factor (pc_keep5 (kc_D hc E)) (pr_keep5 (kr_D hr E)) (fun z h => h.2.1))
    (fun E => s3_equal (pc_keep5 (kc_D hc E)) (pr_keep5 (kr_D hr E)))
    (fun E => s3_summit (pc_keep5 (kc_D hc E)) (pr_keep5 (kr_D hr E)))
    (fun E => s3_conjugate (pc_keep5 (kc_D hc E)) (pr_keep5 (kr_D hr E)))
    (fun E => s3_two (pc_keep5 (kc_D hc E)) (fun y h => ⟨h.1, h.2.2.1⟩) (fun y y1 f k t s h => ⟨k, cjT_fr f (by unfold twQ skP; omega) (by unfold twQ skP; omega) h.2.1, t, tcD_fr f (by unfold twQ skP; omega) (by unfold twQ skP; omega) (by unfold twQ skP; omega) h.2.2.2.1, ht y y1 f s h.2.2.2.2⟩) (fun z h => ⟨h.1, h.2.2.2.1⟩) (fun z z1 f k t h => ⟨k, enW_fr f (by decide) h.2.1, epA_fr f (fun g g1 g2 h9 => pf_n8 h9 (by decide) g1 g2) h.2.2.1, t, trD_fr f (by decide) (by decide) h.2.2.2.2.1, hw z z1 f h.2.2.2.2.2⟩))
    (fun S x1 x2 x3 x4 x5 ⟨E, h, hpc, hpr⟩ => w_monoE (s3_chain (D := E) (Pc := fun y => cwK y ∧ cjT y ∧ twK y ∧ True) (Pr := fun z => cwR z ∧ enW z ∧ epA z ∧ twR z ∧ True) (x1 := x1) (x2 := x2) (x3 := x3) (x4 := x4) (x5 := x5) h
      (fun y y1 f h => ⟨cwK_fr f (fun g hg h9 => by unfold chG cmG cP at hg; omega) h.1, cjT_fr f (by unfold chG cmG cP; omega) (by unfold chG cmG cP; omega) h.2.1, twK_fr f (fun g hg h9 => by unfold chG cmG cP at hg; omega) h.2.2.1, hg y y1 f h.2.2.2⟩)
      (fun y v hy => pc_keep5 hc (fun g => g = 52001) y _ (fr_J rfl) (fun g hg h9 => by unfold ciX at h9; omega) hy)
      (fun z z1 f h => ⟨cwR_fr f (by decide) (by decide) h.1, enW_fr f (by decide) h.2.1, epA_fr f (fun g g1 g2 h9 => pf_n8 h9 (by decide) g1 g2) h.2.2.1, twR_fr f (by decide) (by decide) h.2.2.2.1, hh z z1 f h.2.2.2.2⟩)
      ⟨hpc.1, hpc.2.1, hpc.2.2.1, hpc.2.2.2.2⟩ ⟨hpr.1, hpr.2.1, hpr.2.2.1, hpr.2.2.2.1, hpr.2.2.2.2.2⟩ hpc.2.2.2.1 hpr.2.2.2.2.1)
      (fun S1 ⟨⟨q1, q2⟩, q3, q4, D', d1, d2⟩ => ⟨⟨D', q1, ⟨q3.1, q3.2.1, q3.2.2.1, d1, q3.2.2.2⟩, ⟨q4.1, q4.2.1, q4.2.2.1, q4.2.2.2.1, d2, q4.2.2.2.2⟩⟩, q2⟩))
    (fun y hY hI => ⟨cwK_0 hY, by obtain ⟨z8, z0, zA, z1, b, hb, rfl⟩ := id hI; exact cj_init (fun K hK => (hb K hK).2.1), twK_0 hY, tcD_0 (hY 43019 (by unfold spc; omega)).1 (hY 43020 (by unfold spc; omega)).1 (hY 43018 (by unfold spc; omega)).2, trivial⟩) (fun z h1 h2 h3 => ⟨cwR_0 h2, by obtain ⟨m1, m2, b, hb, rfl⟩ := id h3; exact en_init hb, by obtain ⟨m1, m2, b, hb, rfl⟩ := id h3; exact ep_init hb, twR_0 h2, trD_0 (by obtain ⟨m1, m2, b, hb, rfl⟩ := id h3; exact m88_init hb) (fun i => h2 87 i (by omega)), trivial⟩)
end XPT2
