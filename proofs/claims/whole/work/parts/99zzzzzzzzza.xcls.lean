/-! exact calls of the class: the places as a table of lists; mirror, change -/
def relC (y : ow_MS) (St : plT) : Prop := ∀ d, d < 40 → (St d = none → y.2.1 1002 d = 0) ∧ ∀ A sg, St d = some (A, sg) → slC y 1000 d (clC sg A)
def okS (St : plT) : Prop := ∀ d A sg, d < 40 → St d = some (A, sg) → A ≠ [] ∧ plnA A sg ∧ ∃ c, okL A c
/-- a diagram was made of a net that shows A2 -/
def cKp (y : ow_MS) (e : Nat) (A2 : rn_L) (sg2 : Nat → Bool) (r : Int32 × ow_MS) : Prop := r.1 = nI e ∧ gN r.2 ∧ fr uP y r.2 ∧ (∃ T f Cs os, nv T ∧ pm1 T ∧ isoV A2 sg2 f T ∧ nt_plane T = true ∧ cpZ T (np_parts T.1 T.2.2.1.1).2 Cs os ∧ slC r.2 1000 e (enC T Cs os)) ∧ ∀ d C, d ≠ e → cOK C → slC y 1000 d C → slC r.2 1000 d C
section XC
variable {vl : Nat → Nat} {y : ow_MS} {St : plT} {x : Int32}
theorem relC_len (hC : relC y St) (hS : okS St) {d : Nat} (hd : d < 40) : y.2.1 1002 d = 0 ↔ St d = none := by
  obtain ⟨h1, h2⟩ := hC d hd
  cases e : St d with
  | none => exact ⟨fun _ => rfl, fun _ => h1 e⟩
  | some C =>
    obtain ⟨A, sg⟩ := C
    obtain ⟨k1, k2, c, k3⟩ := hS d A sg hd e
    have hs := (h2 A sg e).2.1
    have hl : 0 < (clC sg A).2.length := by
      show 0 < (ucd sg 0 [] A).length
      rw [ucd_len]
      have := List.length_pos_iff.mpr k1
      omega
    have h30 := (okL_c (sg := sg) k3).2.2.1
    refine ⟨fun h9 => ?_, fun h9 => by cases h9⟩
    have hs : y.2.1 1002 d = nI (clC sg A).2.length := hs
    rw [hs] at h9
    have := nI_inj9 (a := (clC sg A).2.length) (b := 0) (by omega) (by omega) h9
    omega
theorem xc_need (hN : dgC y) (hC : relC y St) (hS : okS St) : Te (fun K => ce_X11_needDiagram vl K 0 x y) (fun r => (r.1 = 1 ∧ (∀ d, d < 40 → x = nI d → St d = none) ∨ r.1 = 0 ∧ ∃ d A sg c, d < 40 ∧ x = nI d ∧ St d = some (A, sg) ∧ slC y 1000 d (clC sg A) ∧ okL A c ∧ A ≠ [] ∧ plnA A sg) ∧ r.2 = y) := by
  refine w_monoE (tc_need hN) ?_
  rintro r ⟨h1 | h1, h2⟩
  · refine ⟨Or.inr ⟨h1.1, ?_⟩, h2⟩
    obtain ⟨d, A, sg, c, hd, hx, hs, hA, hne⟩ := h1.2
    cases e : St d with
    | none =>
      exfalso
      have h9 := (hC d hd).1 e
      have hl : 0 < (clC sg A).2.length := by
        show 0 < (ucd sg 0 [] A).length
        rw [ucd_len]
        have := List.length_pos_iff.mpr hne
        omega
      have h30 := (okL_c (sg := sg) hA).2.2.1
      have hs2 : y.2.1 1002 d = nI (clC sg A).2.length := hs.2.1
      rw [hs2] at h9
      have := nI_inj9 (a := (clC sg A).2.length) (b := 0) (by omega) (by omega) h9
      omega
    | some C =>
      obtain ⟨k1, k2, c', k3⟩ := hS d C.1 C.2 hd e
      exact ⟨d, C.1, C.2, c', hd, hx, e, (hC d hd).2 C.1 C.2 e, k3, k1, k2⟩
  · exact ⟨Or.inl ⟨h1.1, fun d hd hx => (relC_len hC hS hd).mp (h1.2 d hd hx)⟩, h2⟩
theorem xc_free (hN : dgC y) (hC : relC y St) (hS : okS St) : Te (fun K => ce_X11_freeDiagram vl K 0 y) (fun r => (r.1 = 3 ∧ allF St ∨ r.1 = 0 ∧ ∃ e, r.2.1 = nI e ∧ lstF St e) ∧ r.2.2 = y) := by
  refine w_monoE (tc_freeDiagram (dgC_E hN)) ?_
  rintro r ⟨⟨d, hd, h1, h2, h3, h4⟩ | ⟨h1, h2⟩, h5⟩
  · exact ⟨Or.inr ⟨h1, d, h2, hd, (relC_len hC hS hd).mp h3, fun e he e9 => h4 e he ((relC_len hC hS (by omega)).mpr e9)⟩, h5⟩
  · exact ⟨Or.inl ⟨h1, fun d hd e9 => h2 d hd ((relC_len hC hS hd).mpr e9)⟩, h5⟩
theorem isoV_sg {A : rn_L} {sg sg' : Nat → Bool} {f : Nat → Nat} {T : ow_NT} (h : isoV A sg f T) (hs : ∀ p, p ∈ A.flatten → sg' p.1 = sg p.1) : isoV A sg' f T := ⟨⟨h.1.1, h.1.2.1, h.1.2.2.1, h.1.2.2.2.1, h.1.2.2.2.2.1, h.1.2.2.2.2.2.1, fun p hp => by rw [hs p hp]; exact h.1.2.2.2.2.2.2.1 p hp, h.1.2.2.2.2.2.2.2⟩, h.2⟩
theorem jn_pm1 {A : rn_L} {sg : Nat → Bool} {c : Nat} {S : ow_NP} {G : Nat → Int32} (h : jnN A sg c S G) : pm1 (c, cirs A, S, G) := fun x hx => by
  have h7 : G x = if sg x then -1 else 1 := h.2.2.2 x hx
  show G x = 1 ∨ G x = -1
  rw [h7]
  split
  · exact Or.inr rfl
  · exact Or.inl rfl
theorem flp_s {A : rn_L} {a : Nat → Bool} {x : Nat} (ha : a x = false) : (A.map (List.map (flp a))).map (List.map (flp (fun y => decide (y = x)))) = A.map (List.map (flp (fun y => a y || decide (y = x)))) := by
  rw [List.map_map]
  refine List.map_congr_left (fun L _ => ?_)
  show (L.map (flp a)).map (flp _) = _
  rw [List.map_map]
  refine List.map_congr_left (fun p _ => ?_)
  show flp (fun y => decide (y = x)) (flp a p) = flp (fun y => a y || decide (y = x)) p
  unfold flp
  by_cases e : p.1 = x
  · rw [e, ha]
    simp [e]
  · cases h : a p.1 <;> simp [h, e]
/-- the net of place d comes to the net 4000 -/
theorem xc_ld {d c : Nat} {A : rn_L} {sg : Nat → Bool} (hN : gN y) (hd : d < 40) (hs : slC y 1000 d (clC sg A)) (hA : okL A c) (hp : plnA A sg) : Te (fun K => ce_X7_load vl K 4000 1000 (nI d) y) (fun y1 => gN y1 ∧ fr (cL 4000) y y1 ∧ ∃ T, shA y1 4000 A sg T ∧ T.1 = c ∧ isoV A sg (fun x => x) T ∧ pm1 T ∧ nt_plane T = true) := by
  refine w_monoE (tc_ld3 nH4 hN hd hs hA) ?_
  rintro y2 ⟨g1, g2, S, G, g3, g4⟩
  have hV : isoV A sg (fun x => x) (c, cirs A, S, G) := isoV_of g4.2.1 g4.2.2.1
  exact ⟨g1, g2, _, g3, rfl, hV, jn_pm1 g4, hp _ _ hV (jn_pm1 g4)⟩
theorem relC_fr {P : Nat → Prop} {y1 : ow_MS} (hf : fr P y y1) (hP : ∀ q, cW 1000 q → ¬ P q) (hC : relC y St) : relC y1 St := fun d hd => ⟨fun e => by
  rw [(hf 1002 (hP 1002 (by unfold cW; omega))).2.1]
  exact (hC d hd).1 e, fun A sg e => slC_fr hf hP ((hC d hd).2 A sg e)⟩
theorem xc_change {x' : Int32} (hN : gN y) (hC : relC y St) (hS : okS St) : Te (fun K => ce_X11_change vl K 0 x x' y) (fun r => r.1 = 1 ∧ gN r.2.2 ∧ fr uP y r.2.2 ∧ relC r.2.2 St ∧ (∀ d, d < 40 → x = nI d → St d = none) ∨ ∃ d A sg, d < 40 ∧ x = nI d ∧ St d = some (A, sg) ∧ (r.1 = 1 ∧ gN r.2.2 ∧ fr uP y r.2.2 ∧ relC r.2.2 St ∧ (∀ k, 2 * k < A.flatten.length → x' ≠ nI k) ∨ ∃ k, 2 * k < A.flatten.length ∧ x' = nI k ∧ (r.1 = 3 ∧ gN r.2.2 ∧ fr uP y r.2.2 ∧ relC r.2.2 St ∧ allF St ∨ r.1 = 0 ∧ ∃ e, lstF St e ∧ cKp y e (A.map (List.map (flp (fun j => decide (j = k))))) (fun j => if j = k then !sg j else sg j) r.2))) := by
  refine e_X11_change ?_; unfold cm_X11_change_0
  refine w_tc0 (xc_need hN.1 hC hS) ?_ ?_
  · rintro y1 ⟨h1, rfl⟩
    rcases h1 with h1 | ⟨-, d, A, sg, c, hd, rfl, hSt, hs, hA, hne, hpl⟩
    · exact absurd (show (0 : Nat) = 1 from h1.1) (by decide)
    · refine w_cs0 (xc_ld hN hd hs hA hpl) ?_
      rintro y3 ⟨hN3, f3, T, hT, hT1, hV, hpm, hTp⟩
      have f3u : fr uP y1 y3 := fr_mono (fun g hg => by unfold cL at hg; unfold uP; omega) f3
      have hC3 : relC y3 St := relC_fr f3 (fun q hq h9 => by unfold cW at hq; unfold cL at h9; omega) hC
      have hv := hT.2.2.1
      have hlen := hV.1.2.1
      refine w_tc0 (tc_needCrossing hT.1.1 hv.2.1) ?_ ?_
      · rintro y4 ⟨h4, rfl⟩
        rcases h4 with ⟨-, i, hi, rfl⟩ | h4
        · refine w_tc1 (xc_free hN3.1 hC3 hS) ?_ ?_
          · rintro v y5 ⟨h5, rfl⟩
            rcases h5 with h5 | ⟨-, e, rfl, hl⟩
            · exact absurd (show (0 : Nat) = 3 from h5.1) (by decide)
            · have h12 := hv.2.1
              refine w_cs0 (tc_flipCrossing nH4 hT.1 hv.2.2.1 (show i < 12 by omega)) ?_
              rintro y6 ⟨g1, g2⟩
              have hv5 := nv_flip (G := su T.2.2.2 i (- T.2.2.2 i)) hv hi
              refine w_cs1 (tc_keep (gN_net nH4 g2 (fun g hg => by unfold cP at hg; omega) ⟨_, g1, hv5.2.2.1⟩ hN3) hl.1 g1 hv5) ?_
              rintro r y7 ⟨q0, q1, q2, ⟨Cs, os, q3, q4⟩, q5, -⟩
              refine w_some (Or.inr ⟨d, A, sg, hd, rfl, hSt, Or.inr ⟨i, by omega, rfl, Or.inr ⟨rfl, e, hl, q0, q1, fr_tr f3u (fr_tr (fr_mono (fun g hg => by unfold cP at hg; unfold uP; omega) g2) q2), ⟨ntF T i, fun x => x, Cs, os, hv5, pm1_F hpm, iso_flip hV hpm hi, (pl_flip hv.1 hv.2.1 hpm hi).mp hTp, q3, q4⟩, fun d' C' h1 h2 h3 => q5 d' C' h1 h2 (slC_fr g2 (fun q hq h9 => by unfold cW at hq; unfold cP at h9; omega) (slC_fr f3 (fun q hq h9 => by unfold cW at hq; unfold cL at h9; omega) h3))⟩⟩⟩)
          · rintro a v y5 ha ⟨h5, rfl⟩
            rcases h5 with h5 | h5
            · exact w_some (Or.inr ⟨d, A, sg, hd, rfl, hSt, Or.inr ⟨i, by omega, rfl, Or.inl ⟨h5.1, hN3, f3u, hC3, h5.2⟩⟩⟩)
            · exact absurd h5.1 ha
        · exact absurd (show (0 : Nat) = 1 from h4.1) (by decide)
      · rintro a y4 ha ⟨h4, rfl⟩
        rcases h4 with h4 | h4
        · exact absurd h4.1 ha
        · exact w_some (Or.inr ⟨d, A, sg, hd, rfl, hSt, Or.inl ⟨h4.1, hN3, f3u, hC3, fun k hk => h4.2 k (by omega)⟩⟩)
  · rintro a y1 ha ⟨h1, rfl⟩
    rcases h1 with h1 | h1
    · exact w_some (Or.inl ⟨h1.1, hN, fr_rf, hC, h1.2⟩)
    · exact absurd h1.1 ha
theorem xc_mirror (hN : gN y) (hC : relC y St) (hS : okS St) : Te (fun K => ce_X11_mirror vl K 0 x y) (fun r => r.1 = 1 ∧ gN r.2.2 ∧ fr uP y r.2.2 ∧ relC r.2.2 St ∧ (∀ d, d < 40 → x = nI d → St d = none) ∨ ∃ d A sg, d < 40 ∧ x = nI d ∧ St d = some (A, sg) ∧ (r.1 = 3 ∧ gN r.2.2 ∧ fr uP y r.2.2 ∧ relC r.2.2 St ∧ allF St ∨ r.1 = 0 ∧ ∃ e, lstF St e ∧ cKp y e (A.map (List.map (flp (fun _ => true)))) (fun j => !sg j) r.2)) := by
  let Q : Nat × Int32 × ow_MS → Prop := fun r => r.1 = 1 ∧ gN r.2.2 ∧ fr uP y r.2.2 ∧ relC r.2.2 St ∧ (∀ d, d < 40 → x = nI d → St d = none) ∨ ∃ d A sg, d < 40 ∧ x = nI d ∧ St d = some (A, sg) ∧ (r.1 = 3 ∧ gN r.2.2 ∧ fr uP y r.2.2 ∧ relC r.2.2 St ∧ allF St ∨ r.1 = 0 ∧ ∃ e, lstF St e ∧ cKp y e (A.map (List.map (flp (fun _ => true)))) (fun j => !sg j) r.2)
  refine e_X11_mirror ?_
  refine u_X11_mirror_0 ?_; unfold cm_X11_mirror_0
  refine w_tc0 (xc_need hN.1 hC hS) ?_ ?_
  · rintro y1 ⟨h1, e0⟩
    have e0 : y1 = y := e0
    subst e0
    rcases h1 with h1 | ⟨-, d, A, sg, c, hd, rfl, hSt, hs, hA, hne, hpl⟩
    · exact absurd (show (0 : Nat) = 1 from h1.1) (by decide)
    · refine w_tc1 (xc_free hN.1 hC hS) ?_ ?_
      · rintro v y2 ⟨h2, e0⟩
        have e0 : y2 = y1 := e0
        subst e0
        rcases h2 with h2 | ⟨-, e, rfl, hl⟩
        · exact absurd (show (0 : Nat) = 3 from h2.1) (by decide)
        · refine w_cs0 (xc_ld hN hd hs hA hpl) ?_
          rintro y3 ⟨hN3, f3, T, hT, hT1, hV, hpm, hTp⟩
          have f3u : fr uP y2 y3 := fr_mono (fun g hg => by unfold cL at hg; unfold uP; omega) f3
          have c1 : ∀ (k i : Nat) (y4 : ow_MS) (T4 : ow_NT), i + k = c → T4.1 = c → cAt y4 4000 T4 → nv T4 → gN y4 → fr uP y2 y4 → (∀ d C, slC y2 1000 d C → slC y4 1000 d C) → pm1 T4 → isoV (A.map (List.map (flp (fun j => decide (j < i))))) (fun j => if j < i then !sg j else sg j) (fun x => x) T4 → nt_plane T4 = true → Tt (fun K t => c_X11_mirror vl K t 1 (nI d) (nI e) (nI i) 0 y4) Q := by
            intro k
            induction k with
            | zero =>
              intro i y4 T4 hi hT4 hc4 hv4 hN4 f4 hsl hpm4 hV4 hp4
              have h12 := hv4.2.1
              refine u_X11_mirror_1 ?_; unfold cm_X11_mirror_1
              refine w_rdF hc4.1 (w_leT (by omega) (by omega) (w_cs1 (tc_keep hN4 hl.1 hc4 hv4) ?_))
              rintro r y5 ⟨q0, g1, g2, ⟨Cs, os, q3, q4⟩, q5, -⟩
              have eA : A.map (List.map (flp (fun j => decide (j < i)))) = A.map (List.map (flp (fun _ => true))) := List.map_congr_left (fun L hL => List.map_congr_left (fun p hp => by
                have : p.1 < c := ((hA.1.2 p).mp (List.mem_flatten.mpr ⟨L, hL, hp⟩)).1
                show (if decide (p.1 < i) = true then (p.1, 1 - p.2) else p) = (p.1, 1 - p.2)
                rw [decide_eq_true (show p.1 < i by omega)]
                rfl))
              have hV5 : isoV (A.map (List.map (flp (fun _ => true)))) (fun j => !sg j) (fun x => x) T4 := by
                rw [eA] at hV4
                refine isoV_sg hV4 (fun p hp => ?_)
                have : p.1 < T4.1 := hV4.1.2.2.2.1 p hp
                show (!sg p.1) = if p.1 < i then !sg p.1 else sg p.1
                rw [if_pos (by omega)]
              exact w_some (Or.inr ⟨d, A, sg, hd, rfl, hSt, Or.inr ⟨rfl, e, hl, q0, g1, fr_tr f4 g2, ⟨T4, _, Cs, os, hv4, hpm4, hV5, hp4, q3, q4⟩, fun d' C' h1 h2 h3 => q5 d' C' h1 h2 (hsl d' C' h3)⟩⟩)
            | succ k ih =>
              intro i y4 T4 hi hT4 hc4 hv4 hN4 f4 hsl hpm4 hV4 hp4
              have h12 := hv4.2.1
              refine u_X11_mirror_1 ?_; unfold cm_X11_mirror_1
              refine w_rdF hc4.1 (w_leF (by omega) (by omega) (w_cs0 (tc_flipCrossing nH4 hc4 hv4.2.2.1 (show i < 12 by omega)) ?_))
              rintro y5 ⟨g1, g2⟩
              rw [nI_1]
              have hiT : i < T4.1 := by omega
              have hv5 := nv_flip (G := su T4.2.2.2 i (- T4.2.2.2 i)) hv4 hiT
              have hV6 := iso_flip hV4 hpm4 hiT
              rw [flp_s (decide_eq_false (Nat.lt_irrefl i))] at hV6
              have eb : (fun j => decide (j < i) || decide (j = i)) = fun j => decide (j < i + 1) := funext (fun j => by
                by_cases h9 : j < i
                · rw [decide_eq_true h9, decide_eq_true (show j < i + 1 by omega)]
                  rfl
                · rw [decide_eq_false h9, Bool.false_or]
                  exact decide_eq_decide.mpr (by omega))
              rw [eb] at hV6
              refine ih (i + 1) y5 (ntF T4 i) (by omega) hT4 g1 hv5 (gN_net nH4 g2 (fun g hg => by unfold cP at hg; omega) ⟨_, g1, hv5.2.2.1⟩ hN4) (fr_tr f4 (fr_mono (fun g hg => by unfold cP at hg; unfold uP; omega) g2)) (fun d' C' h3 => slC_fr g2 (fun q hq h9 => by unfold cW at hq; unfold cP at h9; omega) (hsl d' C' h3)) (pm1_F hpm4) (isoV_sg hV6 (fun p _ => ?_)) ((pl_flip hv4.1 hv4.2.1 hpm4 hiT).mp hp4)
              show (if p.1 < i + 1 then !sg p.1 else sg p.1) = if p.1 = i then !(if p.1 < i then !sg p.1 else sg p.1) else if p.1 < i then !sg p.1 else sg p.1
              by_cases h9 : p.1 = i
              · rw [if_pos (by omega), if_pos h9, if_neg (by omega)]
              · rw [if_neg h9]
                by_cases h8 : p.1 < i
                · rw [if_pos h8, if_pos (by omega)]
                · rw [if_neg h8, if_neg (by omega)]
          refine c1 c 0 y3 T (by omega) hT1 hT.1 hT.2.2.1 hN3 f3u (fun d' C' h3 => slC_fr f3 (fun q hq h9 => by unfold cW at hq; unfold cL at h9; omega) h3) hpm ?_ hTp
          have e1 : A.map (List.map (flp (fun j => decide (j < 0)))) = A := by
            have : ∀ L : List (Nat × Nat), L.map (flp (fun j => decide (j < 0))) = L := fun L => by
              conv => rhs; rw [← List.map_id L]
              exact List.map_congr_left (fun p _ => by unfold flp; rfl)
            conv => rhs; rw [← List.map_id A]
            exact List.map_congr_left (fun L _ => this L)
          rw [e1]
          exact hV
      · rintro a v y2 ha ⟨h2, e0⟩
        have e0 : y2 = y1 := e0
        subst e0
        rcases h2 with h2 | h2
        · exact w_some (Or.inr ⟨d, A, sg, hd, rfl, hSt, Or.inl ⟨h2.1, hN, fr_rf, hC, h2.2⟩⟩)
        · exact absurd h2.1 ha
  · rintro a y1 ha ⟨h1, e0⟩
    have e0 : y1 = y := e0
    subst e0
    rcases h1 with h1 | h1
    · exact w_some (Or.inl ⟨h1.1, hN, fr_rf, hC, h1.2⟩)
    · exact absurd h1.1 ha
end XC
