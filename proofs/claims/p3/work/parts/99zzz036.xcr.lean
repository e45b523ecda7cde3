section
/-! 99zzzzzzzzzg.xcr -/
/-! exact calls of the class: reverse -/
section IRV
variable {A : rn_L} {sg : Nat → Bool} {f : Nat → Nat} {T : ow_NT} {t : Nat → Bool} {τ : Nat → Bool}
theorem rvX_in {L' : List (Nat × Nat)} (h : L' ∈ rvX τ A A.length) : ∃ k, ∃ hk : k < A.length, L' = tLL (τ k) A[k] := by
  obtain ⟨k, k1, k2⟩ := List.mem_map.mp h
  have hk := List.mem_range.mp k1
  refine ⟨k, hk, ?_⟩
  rw [← k2, List.getD_eq_getElem?_getD, List.getElem?_eq_getElem hk]
  rfl
theorem cirs_rvX : cirs (rvX τ A A.length) = cirs A := by
  have e : A = (List.range A.length).map (fun k => A.getD k []) := by
    apply List.ext_getElem?
    intro i
    rw [List.getElem?_map]
    by_cases h : i < A.length
    · rw [List.getElem?_range h, List.getElem?_eq_getElem h]
      show _ = some (A.getD i [])
      rw [List.getD_eq_getElem?_getD, List.getElem?_eq_getElem h]
      rfl
    · rw [List.getElem?_eq_none (by omega), List.getElem?_eq_none (by rw [List.length_range]; omega)]
      rfl
  have h1 : cirs (rvX τ A A.length) = (List.range A.length).countP (fun k => (A.getD k []).isEmpty) := by
    unfold cirs rvX
    rw [List.countP_map]
    congr 1
    funext k
    show (tLL (τ k) (A.getD k [])).isEmpty = _
    unfold tLL
    split
    · cases A.getD k [] with
      | nil => rfl
      | cons a X => simp
    · rfl
  rw [h1]
  conv => rhs; rw [e]
  unfold cirs
  rw [List.countP_map]
  rfl
theorem iso_turn (h : isoV A sg f T) (hT : pm1 T) (ht : ∀ p, p ∈ A.flatten → t (gl f p) = τ (cidx A p)) : (∀ k, k < 2 * T.1 → t (T.2.2.1.1 k) = t k) ∧ isoV (rvX τ A A.length) (sgT τ A sg) f (ntT T t) := by
  have hv := isoV_vn h
  have hF := h.1.1
  have sameC : ∀ k (hk : k < A.length) p, p ∈ A[k] → cidx A p = k := fun k hk p hp => cidx_of hF.1 hk hp
  have hloop : ∀ k, k < 2 * T.1 → t (T.2.2.1.1 k) = t k := fun k hk => by
    obtain ⟨p, p1, rfl⟩ := gl_sur h hk
    obtain ⟨L, l1, l2⟩ := List.mem_flatten.mp p1
    have nL := L_nd hF.1 l1
    have s1 : sc L p ∈ A.flatten := List.mem_flatten.mpr ⟨L, l1, sc_in l2 nL⟩
    rw [(h.2 L l1 p l2).1, ht _ s1, ht _ p1]
    obtain ⟨j, hj, rfl⟩ := List.mem_iff_getElem.mp l1
    rw [sameC j hj _ (sc_in l2 nL), sameC j hj _ l2]
  have pm := rvX_perm (τ := τ) (A := A)
  refine ⟨hloop, isoV_of (isoS_iff.mp ⟨wkF_perm pm hF, ?_, h.1.2.2.1, fun p hp => h.1.2.2.2.1 p (pm.mem_iff.mp hp), fun p q hp hq e => h.1.2.2.2.2.1 p q (pm.mem_iff.mp hp) (pm.mem_iff.mp hq) e, ?_, ?_, ?_⟩) (vn_T hv hloop)⟩
  · rw [pm.length_eq]
    exact h.1.2.1
  · intro L' hL' p hp
    obtain ⟨k, hk, rfl⟩ := rvX_in hL'
    have hpL : p ∈ A[k] := tLL_mem.mp hp
    have hLA : A[k] ∈ A := List.getElem_mem hk
    have nL := L_nd hF.1 hLA
    have pF : p ∈ A.flatten := List.mem_flatten.mpr ⟨_, hLA, hpL⟩
    have hgl := gl_lt h pF
    have htp : t (gl f p) = τ k := by rw [ht p pF, sameC k hk p hpL]
    show (ntT T t).2.2.1.1 (gl f p) = gl f (sc (tLL (τ k) A[k]) p)
    rw [(ntT_1 hgl).1, htp]
    unfold tLL
    cases τ k with
    | false =>
      rw [if_neg (by decide)]
      exact (h.2 _ hLA p hpL).1
    | true =>
      rw [if_pos rfl, if_pos rfl]
      obtain ⟨q, q1, q2⟩ := sc_pre nL hpL
      have e1 := (h.2 _ hLA q q1).2
      rw [q2] at e1
      have e2 := sc_rev nL q1
      rw [q2] at e2
      rw [e1, e2]
  · intro p hp
    have pF := pm.mem_iff.mp hp
    have hx := h.1.2.2.2.1 p pF
    have hw := hF.2 p pF
    have b0 : (p.1, 0) ∈ A.flatten ∧ (p.1, 1) ∈ A.flatten := by
      rcases (show p.2 = 0 ∨ p.2 = 1 by omega) with e | e
      · have e1 : p = (p.1, 0) := Prod.ext rfl e
        refine ⟨by rw [← e1]; exact pF, ?_⟩
        have := hw.2.2
        rw [e] at this
        exact this
      · have e1 : p = (p.1, 1) := Prod.ext rfl e
        refine ⟨?_, by rw [← e1]; exact pF⟩
        have := hw.2.2
        rw [e] at this
        exact this
    rw [ntT_G hx]
    have t0 : t (2 * f p.1) = τ (cidx A (p.1, 0)) := ht _ b0.1
    have t1 : t (2 * f p.1 + 1) = τ (cidx A (p.1, 1)) := ht _ b0.2
    rw [t0, t1]
    have hs := h.1.2.2.2.2.2.2.1 p pF
    unfold sgT
    by_cases e : (τ (cidx A (p.1, 0)) != τ (cidx A (p.1, 1))) = true
    · rw [if_pos e, if_pos e]
      rcases hT _ hx with h9 | h9
      · rw [h9] at hs ⊢
        cases hq : sg p.1 with
        | true => exact absurd (hs.mpr hq) (by decide)
        | false => exact ⟨fun _ => rfl, fun _ => by decide⟩
      · rw [h9] at hs ⊢
        rw [hs.mp (by decide)]
        exact ⟨fun h8 => absurd h8 (by decide), fun h8 => absurd h8 (by decide)⟩
    · rw [if_neg e, if_neg e]
      exact hs
  · rw [cirs_rvX]
    exact h.1.2.2.2.2.2.2.2
end IRV
section XCR
variable {vl : Nat → Nat} {y : ow_MS} {St : plT} {x x' : Int32}
theorem xc_reverse (hN : gN y) (hC : relC y St) (hS : okS St) : Te (fun K => ce_X11_reverse vl K 0 x x' y) (fun r => r.1 = 1 ∧ gN r.2.2 ∧ fr uP y r.2.2 ∧ relC r.2.2 St ∧ (∀ d, d < 40 → x = nI d → St d = none) ∨ ∃ d A sg, d < 40 ∧ x = nI d ∧ St d = some (A, sg) ∧ (r.1 = 1 ∧ gN r.2.2 ∧ fr uP y r.2.2 ∧ relC r.2.2 St ∧ ¬ cokC A x' ∨ cokC A x' ∧ (r.1 = 3 ∧ gN r.2.2 ∧ fr uP y r.2.2 ∧ relC r.2.2 St ∧ allF St ∨ r.1 = 0 ∧ ∃ e, lstF St e ∧ cKp y e (rvX (tauC x') A A.length) (sgT (tauC x') A sg) r.2))) := by
  let Q0 : ow_MS → Int32 → Nat × Int32 × ow_MS → Prop := fun y x r => r.1 = 1 ∧ gN r.2.2 ∧ fr uP y r.2.2 ∧ relC r.2.2 St ∧ (∀ d, d < 40 → x = nI d → St d = none) ∨ ∃ d A sg, d < 40 ∧ x = nI d ∧ St d = some (A, sg) ∧ (r.1 = 1 ∧ gN r.2.2 ∧ fr uP y r.2.2 ∧ relC r.2.2 St ∧ ¬ cokC A x' ∨ cokC A x' ∧ (r.1 = 3 ∧ gN r.2.2 ∧ fr uP y r.2.2 ∧ relC r.2.2 St ∧ allF St ∨ r.1 = 0 ∧ ∃ e, lstF St e ∧ cKp y e (rvX (tauC x') A A.length) (sgT (tauC x') A sg) r.2))
  refine e_X11_reverse ?_
  refine u_X11_reverse_0 ?_; unfold cm_X11_reverse_0
  refine w_tc0 (xc_need hN.1 hC hS) ?_ ?_
  · rintro y1 ⟨h1, rfl⟩
    rcases h1 with h1 | ⟨-, d, A, sg, c, hd, rfl, hSt, hs, hA, hne, hpl⟩
    · exact absurd (show (0 : Nat) = 1 from h1.1) (by decide)
    · refine w_cs0 (xc_ld hN hd hs hA hpl) ?_
      rintro y3 ⟨hN3, f3, T, hT, hT1, hV, hpm, hTp⟩
      have f3u : fr uP y1 y3 := fr_mono (fun g hg => by unfold cL at hg; unfold uP; omega) f3
      have hC3 : relC y3 St := relC_fr f3 (fun q hq h9 => by unfold cW at hq; unfold cL at h9; omega) hC
      have hv := hT.2.2.1
      have h6 := hA.2.2.2.2
      have c1 : cokC A x' → Tt (fun K t => c_X11_reverse vl K t 1 (nI d) x' 0 y3) (Q0 y1 (nI d)) := by
        intro hok
        refine u_X11_reverse_1 ?_; unfold cm_X11_reverse_1
        refine w_tc1 (xc_free hN3.1 hC3 hS) ?_ ?_
        · rintro v y5 ⟨h5, rfl⟩
          rcases h5 with h5 | ⟨-, e, rfl, hl⟩
          · exact absurd (show (0 : Nat) = 3 from h5.1) (by decide)
          · refine w_cs0 (tc_turn (F := y5.2.1 4005) nH4 hT.1 hv.2.1 (fun _ => rfl)) ?_
            rintro y6 ⟨g1, g2⟩
            have g1 : cAt y6 4000 (ntT T (fun v => decide (x' = -1) || decide (y5.2.1 4005 v = x'))) := g1
            have htau : ∀ p, p ∈ A.flatten → (fun v => decide (x' = -1) || decide (y5.2.1 4005 v = x')) (gl (fun x => x) p) = tauC x' (cidx A p) := fun p hp => by
              obtain ⟨u, u1, u2⟩ := mem_vAt hp
              have e1 : y5.2.1 4005 (lb (vAt A u)) = nI (rn_c A u) := hT.2.2.2.2.1 u u1
              rw [u2] at e1
              have e1 : y5.2.1 4005 (gl (fun x => x) p) = nI (rn_c A u) := e1
              have e2 := rc_idx hV.1.1.1 u1
              rw [u2] at e2
              show (decide (x' = -1) || decide (y5.2.1 4005 (gl (fun x => x) p) = x')) = _
              unfold tauC
              rw [e1, e2]
              congr 1
              exact decide_eq_decide.mpr eq_comm
            obtain ⟨k1, k2⟩ := iso_turn (t := fun v => decide (x' = -1) || decide (y5.2.1 4005 v = x')) (τ := tauC x') hV hpm htau
            have hv6 := nv_turn (t := fun v => decide (x' = -1) || decide (y5.2.1 4005 v = x')) (G := (np_turn (fun v => decide (x' = -1) || decide (y5.2.1 4005 v = x')) T.2.2.1 T.2.2.2 (2 * T.1)).2) hv k1
            refine w_cs1 (tc_keep (gN_net nH4 g2 (fun g hg => by unfold cP at hg; omega) ⟨_, g1, hv6.2.2.1⟩ hN3) hl.1 g1 hv6) ?_
            rintro r y7 ⟨q0, q1, q2, ⟨Cs, os, q3, q4⟩, q5, -⟩
            exact w_some (Or.inr ⟨d, A, sg, hd, rfl, hSt, Or.inr ⟨hok, Or.inr ⟨rfl, e, hl, q0, q1, fr_tr f3u (fr_tr (fr_mono (fun g hg => by unfold cP at hg; unfold uP; omega) g2) q2), ⟨_, _, Cs, os, hv6, pm1_T hpm, k2, pl_turn hv.1 hv.2.1 hpm k1 hTp, q3, q4⟩, fun d' C' h1 h2 h3 => q5 d' C' h1 h2 (slC_fr g2 (fun q hq h9 => by unfold cW at hq; unfold cP at h9; omega) (slC_fr f3 (fun q hq h9 => by unfold cW at hq; unfold cL at h9; omega) h3))⟩⟩⟩)
        · rintro a v y5 ha ⟨h5, rfl⟩
          rcases h5 with h5 | h5
          · exact w_some (Or.inr ⟨d, A, sg, hd, rfl, hSt, Or.inr ⟨hok, Or.inl ⟨h5.1, hN3, f3u, hC3, h5.2⟩⟩⟩)
          · exact absurd h5.1 ha
      refine w_if (fun h9 => c1 (Or.inl h9)) (fun h9 => w_tc0 (tc_needComponent hT.2.2.2.2.2 (by omega)) ?_ ?_)
      · rintro y4 ⟨h4, e4⟩
        have e4 : y4 = y3 := e4
        rw [e4]
        rcases h4 with ⟨-, i, hi, e5⟩ | h4
        · exact c1 (Or.inr ⟨i, hi, e5⟩)
        · exact absurd (show (0 : Nat) = 1 from h4.1) (by decide)
      · rintro a y4 ha ⟨h4, e4⟩
        have e4 : y4 = y3 := e4
        rw [e4]
        rcases h4 with h4 | h4
        · exact absurd h4.1 ha
        · refine w_some (Or.inr ⟨d, A, sg, hd, rfl, hSt, Or.inl ⟨h4.1, hN3, f3u, hC3, fun hk => ?_⟩⟩)
          rcases hk with hk | ⟨k, k1, k2⟩
          · exact h9 hk
          · exact h4.2 k k1 k2
  · rintro a y1 ha ⟨h1, rfl⟩
    rcases h1 with h1 | h1
    · exact w_some (Or.inl ⟨h1.1, hN, fr_rf, hC, h1.2⟩)
    · exact absurd h1.1 ha
end XCR
end
section
/-! 99zzzzzzzzzh.xsm -/
/-! exact calls of the reference: smoothIn -/
def seg (a b : Nat) : List Nat := (List.range (b - a)).map (fun i => a + i)
def cps (A : rn_L) (a b : Nat) : List (List Nat) := (List.range (b - a)).map (fun k => seg (rn_b A (a + k)) (rn_b A (a + k + 1)))
theorem seg_s {a i : Nat} (h : a ≤ i) : seg a (i + 1) = seg a i ++ [i] := by
  unfold seg
  rw [show i + 1 - a = (i - a) + 1 by omega, List.range_succ, List.map_append]
  show _ ++ [a + (i - a)] = _
  rw [show a + (i - a) = i by omega]
theorem seg_0 (a : Nat) : seg a a = [] := by
  unfold seg
  rw [Nat.sub_self]
  rfl
theorem seg_len (a b : Nat) : (seg a b).length = b - a := by
  unfold seg
  rw [List.length_map, List.length_range]
theorem cps_0 (A : rn_L) (a : Nat) : cps A a a = [] := by
  unfold cps
  rw [Nat.sub_self]
  rfl
theorem cps_s {A : rn_L} {a m : Nat} (h : a ≤ m) : cps A a (m + 1) = cps A a m ++ [seg (rn_b A m) (rn_b A (m + 1))] := by
  unfold cps
  rw [show m + 1 - a = (m - a) + 1 by omega, List.range_succ, List.map_append]
  show _ ++ [seg (rn_b A (a + (m - a))) (rn_b A (a + (m - a) + 1))] = _
  rw [show a + (m - a) = m by omega]
theorem cps_n (A : rn_L) (a b : Nat) : (cps A a b).length = b - a := by
  unfold cps
  rw [List.length_map, List.length_range]
theorem cps_len {A : rn_L} {a : Nat} : ∀ {m : Nat}, a ≤ m → (cps A a m).flatten.length = rn_b A m - rn_b A a := by
  intro m h
  obtain ⟨d, rfl⟩ : ∃ d, m = a + d := ⟨m - a, by omega⟩
  induction d with
  | zero =>
    rw [Nat.add_zero, cps_0, Nat.sub_self]
    rfl
  | succ d ih =>
    have m1 := rn_b_mono2 (A := A) (show a ≤ a + d by omega)
    have m2 := rn_b_mono A (a + d)
    rw [show a + (d + 1) = (a + d) + 1 by omega, cps_s (by omega), List.flatten_append, List.length_append, ih (by omega), List.flatten_cons, List.flatten_nil, List.append_nil, seg_len]
    omega
/-- a net built out of the visits of A by their numbers: closed components C, the open one B -/
def bmX (y : ow_MS) (n : Nat) (A : rn_L) (C : List (List Nat)) (B : List Nat) : Prop := rn_At y n (C.map (List.map (vAt A))) (B.map (vAt A))
theorem map_fl2 {A : rn_L} : ∀ C : List (List Nat), ((C.map (List.map (vAt A))).flatten).length = C.flatten.length
  | [] => rfl
  | L :: C => by
    rw [List.map_cons, List.flatten_cons, List.length_append, map_fl2 C, List.flatten_cons, List.length_append, List.length_map]
section XS
variable {y : ow_MS} {n : Nat} {A : rn_L} {C : List (List Nat)} {B : List Nat}
theorem bmX_add {i : Nat} (hn : mw_net n) (hb : bmX y n A C B) (hl : C.flatten.length + B.length < 40) : Te (fun K => qe_X12_add K n (nI (crs A i)) (nI (uns A i)) y) (fun y2 => bmX y2 n A C (B ++ [i]) ∧ fr (fun g => g = n + 1 ∨ g = n + 4 ∨ g = n + 5) y y2) := by
  refine w_monoE (tn_add hn hb (by rw [List.length_append, map_fl2, List.length_map]; exact hl)) (fun y2 h => ⟨?_, h.2⟩)
  unfold bmX
  rw [List.map_append]
  exact h.1
theorem bmX_end (hn : mw_net n) (hb : bmX y n A C B) (hl : C.length < 39) : Te (fun K => qe_X12_end K n y) (fun y2 => bmX y2 n A (C ++ [B]) [] ∧ fr (fun g => g = n + 2 ∨ g = n + 3) y y2) := by
  refine w_monoE (tn_end hn hb (by rw [List.length_map]; exact hl)) (fun y2 h => ⟨?_, h.2⟩)
  unfold bmX
  rw [List.map_append]
  exact h.1
theorem bmX_fr {P : Nat → Prop} {y2 : ow_MS} (hf : fr P y y2) (hP : ∀ g, P g → g < n + 1 ∨ n + 5 < g) (hb : bmX y n A C B) : bmX y2 n A C B := fr_At hf hP hb
end XS
/-- what smoothing leaves: both visits in one component, or in two -/
def smC (A : rn_L) (c v w J : Nat) : List (List Nat) := if w < rn_b A (c + 1) then cps A 0 c ++ [seg (rn_b A c) v ++ seg (w + 1) (rn_b A (c + 1))] ++ cps A (c + 1) A.length ++ [seg (v + 1) w] else cps A 0 c ++ [((seg (rn_b A c) v ++ seg (w + 1) (rn_b A (J + 1))) ++ seg (rn_b A J) w) ++ seg (v + 1) (rn_b A (c + 1))] ++ cps A (c + 1) J ++ cps A (J + 1) A.length
theorem xr_smoothIn {o n c v w : Nat} {z : ow_MS} {A : rn_L} (ho : mw_net o) (hn : mw_net n) (hon : n ≠ o) (hl : A.flatten.length ≤ 24) (hC : A.length ≤ 37) (hA : rn_At z o A []) (hc : c < A.length) (hv1 : rn_b A c ≤ v) (hv2 : v < rn_b A (c + 1)) (hvw : v < w) (hw : w < A.flatten.length) : Te (fun K => qe_X13_smoothIn K o (nI c) (nI v) (nI w) n z) (fun z1 => bmX z1 n A (smC A c v w (rn_c A w)) [] ∧ (∀ x, x < 40 → z1.2.1 (n + 6) x = z.2.1 (o + 6) x) ∧ fr (fun g => n + 1 ≤ g ∧ g ≤ n + 6) z z1) := by
  have hmn := net_mod hn
  have hmo := net_mod ho
  let I : ow_MS → Prop := fun y => fr (fun g => n + 1 ≤ g ∧ g ≤ n + 6) z y ∧ ∀ x, x < 40 → y.2.1 (n + 6) x = z.2.1 (o + 6) x
  let Q : ow_MS → Prop := fun z1 => bmX z1 n A (smC A c v w (rn_c A w)) [] ∧ (∀ x, x < 40 → z1.2.1 (n + 6) x = z.2.1 (o + 6) x) ∧ fr (fun g => n + 1 ≤ g ∧ g ≤ n + 6) z z1
  have atI : ∀ {y : ow_MS}, I y → rn_At y o A [] := fun hI => fr_At hI.1 (fun g hg => by omega) hA
  have cuI : ∀ {y : ow_MS} {i : Nat}, I y → i < A.flatten.length → y.2.1 (o + 4) i = nI (crs A i) ∧ y.2.1 (o + 5) i = nI (uns A i) := fun hI hi => at_cu (atI hI) hi
  have bI : ∀ {y : ow_MS} {k : Nat}, I y → k ≤ A.length → y.2.1 (o + 3) k = nI (rn_b A k) := fun hI hk => (atI hI).2.2.1 _ hk
  have addI : ∀ {y y2 : ow_MS}, I y → fr (fun g => g = n + 1 ∨ g = n + 4 ∨ g = n + 5) y y2 → I y2 := fun hI hf => ⟨fr_tr hI.1 (fr_mono (fun g hg => by omega) hf), fun x hx => by rw [(hf (n + 6) (by omega)).2.1]; exact hI.2 x hx⟩
  have endI : ∀ {y y2 : ow_MS}, I y → fr (fun g => g = n + 2 ∨ g = n + 3) y y2 → I y2 := fun hI hf => ⟨fr_tr hI.1 (fr_mono (fun g hg => by omega) hf), fun x hx => by rw [(hf (n + 6) (by omega)).2.1]; exact hI.2 x hx⟩
  have hbl := rn_b_le A (c + 1)
  have hbl2 := fun k => rn_b_le A k
  have hbl3 := hbl2 c
  obtain ⟨hJ1, hJ2, hJ3⟩ := rn_c_in A w hw
  obtain ⟨J, hJ⟩ : ∃ J, J = rn_c A w := ⟨_, rfl⟩
  rw [← hJ] at hJ1 hJ2 hJ3
  have hbJ := hbl2 (J + 1)
  have mono := fun {a b : Nat} (h9 : a ≤ b) => rn_b_mono2 (A := A) h9
  -- a component as it is
  have l11 : ∀ (x5 : Int32) (m : Nat) (C : List (List Nat)), m < A.length → C.length < 39 → C.flatten.length + (rn_b A (m + 1) - rn_b A m) ≤ 39 → (∀ y2, I y2 → bmX y2 n A (C ++ [seg (rn_b A m) (rn_b A (m + 1))]) [] → Tt (fun K i9 => q_X13_smoothIn K i9 12 (nI c) (nI v) (nI w) x5 (nI m) 0 0 o n 0 y2) Q) → ∀ (k i : Nat) (y : ow_MS), i + k = rn_b A (m + 1) → rn_b A m ≤ i → I y → bmX y n A C (seg (rn_b A m) i) → Tt (fun K i9 => q_X13_smoothIn K i9 11 (nI c) (nI v) (nI w) x5 (nI m) (nI i) 0 o n 0 y) Q := by
    intro x5 m C hm hq hsz hout k
    have hbm := hbl2 (m + 1)
    induction k with
    | zero =>
      intro i y hi hlo hI hb
      have hie : i = rn_b A (m + 1) := by omega
      rw [hie] at hb ⊢
      refine u_X13_smoothIn_11 ?_; unfold qm_X13_smoothIn_11
      rw [nI_1]
      exact w_rdI (pl3 ho) rfl (by omega) (bI hI (by omega)) (w_leT (by omega) (Nat.le_refl _) (w_cs0 (bmX_end hn hb hq) (fun y2 ⟨g1, g2⟩ => hout y2 (endI hI g2) g1)))
    | succ k ih =>
      intro i y hi hlo hI hb
      have hil : i < A.flatten.length := by omega
      refine u_X13_smoothIn_11 ?_; unfold qm_X13_smoothIn_11
      rw [nI_1]
      refine w_rdI (pl3 ho) rfl (by omega) (bI hI (by omega)) (w_leF (by omega) (by omega) (w_rdI (pl4 ho) rfl (by omega) (cuI hI hil).1 (w_rdI (pl5 ho) rfl (by omega) (cuI hI hil).2 (w_cs0 (bmX_add hn hb (by rw [seg_len]; omega)) (fun y2 ⟨g1, g2⟩ => ?_)))))
      rw [nI_1]
      refine ih (i + 1) y2 (by omega) (by omega) (addI hI g2) ?_
      rw [seg_s hlo]
      exact g1
  have c10 : ∀ (x5 : Int32) (m : Nat) (C : List (List Nat)) (y : ow_MS), m < A.length → C.length < 39 → C.flatten.length + (rn_b A (m + 1) - rn_b A m) ≤ 39 → (∀ y2, I y2 → bmX y2 n A (C ++ [seg (rn_b A m) (rn_b A (m + 1))]) [] → Tt (fun K i9 => q_X13_smoothIn K i9 12 (nI c) (nI v) (nI w) x5 (nI m) 0 0 o n 0 y2) Q) → I y → bmX y n A C [] → Tt (fun K i9 => q_X13_smoothIn K i9 10 (nI c) (nI v) (nI w) x5 (nI m) 0 0 o n 0 y) Q := by
    intro x5 m C y hm hq hsz hout hI hb
    have hmm := rn_b_mono A m
    refine u_X13_smoothIn_10 ?_; unfold qm_X13_smoothIn_10
    refine w_rdI (pl3 ho) rfl (by omega) (bI hI (by omega)) (l11 x5 m C hm hq hsz hout (rn_b A (m + 1) - rn_b A m) (rn_b A m) y (by omega) (Nat.le_refl _) hI ?_)
    rw [seg_0]
    exact hb
  have s0c := cps_len (A := A) (Nat.zero_le c)
  rw [rn_b0, Nat.sub_zero] at s0c
  by_cases hone : w < rn_b A (c + 1)
  · -- both visits in one component
    have eS : smC A c v w (rn_c A w) = cps A 0 c ++ [seg (rn_b A c) v ++ seg (w + 1) (rn_b A (c + 1))] ++ cps A (c + 1) A.length ++ [seg (v + 1) w] := if_pos hone
    have l13 : ∀ (k i : Nat) (y : ow_MS), i + k = w → v + 1 ≤ i → I y → bmX y n A (cps A 0 c ++ [seg (rn_b A c) v ++ seg (w + 1) (rn_b A (c + 1))] ++ cps A (c + 1) A.length) (seg (v + 1) i) → Tt (fun K i9 => q_X13_smoothIn K i9 13 (nI c) (nI v) (nI w) 1 (nI i) 0 0 o n 0 y) Q := by
      intro k
      have sa := cps_len (A := A) (show c + 1 ≤ A.length by omega)
      have hbn := rn_b_len A
      have hsz : (cps A 0 c ++ [seg (rn_b A c) v ++ seg (w + 1) (rn_b A (c + 1))] ++ cps A (c + 1) A.length).flatten.length ≤ 24 := by
        rw [List.flatten_append, List.flatten_append, List.length_append, List.length_append, s0c, sa, List.flatten_cons, List.flatten_nil, List.append_nil, List.length_append, seg_len, seg_len]
        omega
      have hcn : (cps A 0 c ++ [seg (rn_b A c) v ++ seg (w + 1) (rn_b A (c + 1))] ++ cps A (c + 1) A.length).length < 39 := by
        rw [List.length_append, List.length_append, cps_n, cps_n]
        show c - 0 + 1 + (A.length - (c + 1)) < 39
        omega
      have hsz2 : ∀ i, i < w → v + 1 ≤ i → (cps A 0 c ++ [seg (rn_b A c) v ++ seg (w + 1) (rn_b A (c + 1))] ++ cps A (c + 1) A.length).flatten.length + (seg (v + 1) i).length < 40 := fun i h1 h2 => by
        rw [List.flatten_append, List.flatten_append, List.length_append, List.length_append, s0c, sa, List.flatten_cons, List.flatten_nil, List.append_nil, List.length_append, seg_len, seg_len, seg_len]
        omega
      induction k with
      | zero =>
        intro i y hi hlo hI hb
        have hie : i = w := by omega
        rw [hie] at hb ⊢
        refine u_X13_smoothIn_13 ?_; unfold qm_X13_smoothIn_13
        refine w_leT (by omega) (Nat.le_refl _) (w_cs0 (bmX_end hn hb hcn) (fun y3 ⟨g1, g2⟩ => w_some ⟨?_, (endI hI g2).2, (endI hI g2).1⟩))
        rw [eS]
        exact g1
      | succ k ih =>
        intro i y hi hlo hI hb
        have hil : i < A.flatten.length := by omega
        refine u_X13_smoothIn_13 ?_; unfold qm_X13_smoothIn_13
        refine (w_leF (by omega) (by omega) (w_rdI (pl4 ho) rfl (by omega) (cuI hI hil).1 (w_rdI (pl5 ho) rfl (by omega) (cuI hI hil).2 (w_cs0 (bmX_add hn hb (hsz2 i (by omega) hlo)) (fun y2 ⟨g1, g2⟩ => ?_)))))
        rw [nI_1]
        refine ih (i + 1) y2 (by omega) (by omega) (addI hI g2) ?_
        rw [seg_s hlo]
        exact g1
    have aft : ∀ (k m : Nat) (y : ow_MS), m + k = A.length → c < m → I y → bmX y n A (cps A 0 c ++ [seg (rn_b A c) v ++ seg (w + 1) (rn_b A (c + 1))] ++ cps A (c + 1) m) [] → Tt (fun K i9 => q_X13_smoothIn K i9 2 (nI c) (nI v) (nI w) 1 (nI m) 0 0 o n 0 y) Q := by
      intro k
      induction k with
      | zero =>
        intro m y hm hcm hI hb
        have hme : m = A.length := by omega
        rw [hme] at hb
        refine u_X13_smoothIn_2 ?_; unfold qm_X13_smoothIn_2
        rw [nI_1 v]
        refine w_rdF (atI hI).2.1 (w_leT (by omega) (by omega) (w_ifF (by decide) (l13 (w - (v + 1)) (v + 1) y (by omega) (Nat.le_refl _) hI ?_)))
        rw [seg_0]
        exact hb
      | succ k ih =>
        intro m y hm hcm hI hb
        have m1 := mono (a := c + 1) (b := m) (by omega)
        have m2 := rn_b_mono A m
        have m3 := hbl2 (m + 1)
        have sa := cps_len (A := A) (show c + 1 ≤ m by omega)
        refine u_X13_smoothIn_2 ?_; unfold qm_X13_smoothIn_2
        rw [nI_1 v]
        refine w_rdF (atI hI).2.1 (w_leF (by omega) (by omega) (w_ifF (fun e => by have := (nI_eq (by omega) (by omega)).mp e; omega) (w_ifF (by decide) (c10 1 m _ y (by omega) ?_ ?_ (fun y2 hI2 hb2 => ?_) hI hb))))
        · rw [List.length_append, List.length_append, cps_n, cps_n]
          show c - 0 + 1 + (m - (c + 1)) < 39
          omega
        · rw [List.flatten_append, List.flatten_append, List.length_append, List.length_append, s0c, sa, List.flatten_cons, List.flatten_nil, List.append_nil, List.length_append, seg_len, seg_len]
          omega
        · refine u_X13_smoothIn_12 ?_; unfold qm_X13_smoothIn_12
          rw [nI_1]
          refine ih (m + 1) y2 (by omega) (by omega) hI2 ?_
          rw [cps_s (by omega), ← List.append_assoc]
          exact hb2
    have l4 : ∀ (k i : Nat) (y : ow_MS), i + k = rn_b A (c + 1) → w + 1 ≤ i → I y → bmX y n A (cps A 0 c) (seg (rn_b A c) v ++ seg (w + 1) i) → (∀ y2, I y2 → bmX y2 n A (cps A 0 c) (seg (rn_b A c) v ++ seg (w + 1) (rn_b A (c + 1))) → Tt (fun K i9 => q_X13_smoothIn K i9 9 (nI c) (nI v) (nI w) 1 (nI c) (nI (rn_b A (c + 1))) 0 o n 0 y2) Q) → Tt (fun K i9 => q_X13_smoothIn K i9 4 (nI c) (nI v) (nI w) 1 (nI c) (nI i) 0 o n 0 y) Q := by
      intro k
      induction k with
      | zero =>
        intro i y hi hlo hI hb hout
        have hie : i = rn_b A (c + 1) := by omega
        rw [hie] at hb ⊢
        refine u_X13_smoothIn_4 ?_; unfold qm_X13_smoothIn_4
        exact w_rdI (pl3 ho) (nI_1 _) (by omega) (bI hI (by omega)) (w_leT (by omega) (Nat.le_refl _) (hout y hI hb))
      | succ k ih =>
        intro i y hi hlo hI hb hout
        have hil : i < A.flatten.length := by omega
        refine u_X13_smoothIn_4 ?_; unfold qm_X13_smoothIn_4
        refine w_rdI (pl3 ho) (nI_1 _) (by omega) (bI hI (by omega)) (w_leF (by omega) (by omega) (w_rdI (pl4 ho) rfl (by omega) (cuI hI hil).1 (w_rdI (pl5 ho) rfl (by omega) (cuI hI hil).2 (w_cs0 (bmX_add hn hb (by rw [s0c, List.length_append, seg_len, seg_len]; omega)) (fun y2 ⟨g1, g2⟩ => ?_)))))
        rw [nI_1]
        refine ih (i + 1) y2 (by omega) (by omega) (addI hI g2) ?_ hout
        rw [seg_s hlo, ← List.append_assoc]
        exact g1
    have l3 : ∀ (k i : Nat) (y : ow_MS), i + k = v → rn_b A c ≤ i → I y → bmX y n A (cps A 0 c) (seg (rn_b A c) i) → (∀ y2, I y2 → bmX y2 n A (cps A 0 c) (seg (rn_b A c) v) → Tt (fun K i9 => q_X13_smoothIn K i9 4 (nI c) (nI v) (nI w) 1 (nI c) (nI (w + 1)) 0 o n 0 y2) Q) → Tt (fun K i9 => q_X13_smoothIn K i9 3 (nI c) (nI v) (nI w) 1 (nI c) (nI i) 0 o n 0 y) Q := by
      intro k
      induction k with
      | zero =>
        intro i y hi hlo hI hb hout
        have hie : i = v := by omega
        rw [hie] at hb ⊢
        refine u_X13_smoothIn_3 ?_; unfold qm_X13_smoothIn_3
        rw [nI_1 w]
        exact w_leT (by omega) (Nat.le_refl _) (w_ifF (by decide) (hout y hI hb))
      | succ k ih =>
        intro i y hi hlo hI hb hout
        have hil : i < A.flatten.length := by omega
        refine u_X13_smoothIn_3 ?_; unfold qm_X13_smoothIn_3
        rw [nI_1 w]
        refine (w_leF (by omega) (by omega) (w_rdI (pl4 ho) rfl (by omega) (cuI hI hil).1 (w_rdI (pl5 ho) rfl (by omega) (cuI hI hil).2 (w_cs0 (bmX_add hn hb (by rw [s0c, seg_len]; omega)) (fun y2 ⟨g1, g2⟩ => ?_)))))
        rw [nI_1]
        refine ih (i + 1) y2 (by omega) (by omega) (addI hI g2) ?_ hout
        rw [seg_s hlo]
        exact g1
    have bef : ∀ (k m : Nat) (y : ow_MS), m + k = c → I y → bmX y n A (cps A 0 m) [] → Tt (fun K i9 => q_X13_smoothIn K i9 2 (nI c) (nI v) (nI w) 1 (nI m) 0 0 o n 0 y) Q := by
      intro k
      induction k with
      | zero =>
        intro m y hm hI hb
        have hme : m = c := by omega
        rw [hme] at hb ⊢
        refine u_X13_smoothIn_2 ?_; unfold qm_X13_smoothIn_2
        refine w_rdF (atI hI).2.1 (w_leF (by omega) (by omega) (w_ifT rfl (w_rdI (pl3 ho) rfl (by omega) (bI hI (by omega)) (l3 (v - rn_b A c) (rn_b A c) y (by omega) (Nat.le_refl _) hI (by rw [seg_0]; exact hb) (fun y2 hI2 hb2 => l4 (rn_b A (c + 1) - (w + 1)) (w + 1) y2 (by omega) (Nat.le_refl _) hI2 (by rw [seg_0, List.append_nil]; exact hb2) (fun y3 hI3 hb3 => ?_))))))
        refine u_X13_smoothIn_9 ?_; unfold qm_X13_smoothIn_9
        refine w_cs0 (bmX_end hn hb3 (by rw [cps_n]; omega)) (fun y4 ⟨g1, g2⟩ => ?_)
        refine u_X13_smoothIn_12 ?_; unfold qm_X13_smoothIn_12
        rw [nI_1]
        refine aft (A.length - (c + 1)) (c + 1) y4 (by omega) (by omega) (endI hI3 g2) ?_
        rw [cps_0, List.append_nil]
        exact g1
      | succ k ih =>
        intro m y hm hI hb
        have m1 := mono (a := m + 1) (b := c) (by omega)
        have m2 := rn_b_mono A m
        have sm := cps_len (A := A) (Nat.zero_le m)
        rw [rn_b0, Nat.sub_zero] at sm
        refine u_X13_smoothIn_2 ?_; unfold qm_X13_smoothIn_2
        rw [nI_1 v]
        refine w_rdF (atI hI).2.1 (w_leF (by omega) (by omega) (w_ifF (fun e => by have := (nI_eq (by omega) (by omega)).mp e; omega) (w_ifF (by decide) (c10 1 m _ y (by omega) (by rw [cps_n]; omega) (by rw [sm]; omega) (fun y2 hI2 hb2 => ?_) hI hb))))
        refine u_X13_smoothIn_12 ?_; unfold qm_X13_smoothIn_12
        rw [nI_1]
        refine ih (m + 1) y2 (by omega) hI2 ?_
        rw [cps_s (by omega)]
        exact hb2
    refine e_X13_smoothIn ?_
    refine u_X13_smoothIn_0 ?_; unfold qm_X13_smoothIn_0
    refine w_cs0 (tn_clear hn) (fun z3 ⟨b3, f3⟩ => w_cs0 (tn_signs hn ho hon) (fun z4 ⟨f4, s4⟩ => ?_))
    have hI4 : I z4 := ⟨fr_tr (fr_mono (fun g hg => by omega) f3) (fr_mono (fun g hg => by omega) f4), fun x hx => by rw [s4 x hx, (f3 (o + 6) (by omega)).2.1]⟩
    refine w_rdI (pl3 ho) (nI_1 _) (by omega) (bI hI4 (by omega)) (w_leF (by omega) hone ?_)
    refine u_X13_smoothIn_1 ?_; unfold qm_X13_smoothIn_1
    refine bef c 0 z4 (by omega) hI4 ?_
    rw [cps_0]
    exact bmX_fr (C := []) (B := []) f4 (fun g hg => by omega) b3
  · -- two components become one
    have eS : smC A c v w (rn_c A w) = cps A 0 c ++ [((seg (rn_b A c) v ++ seg (w + 1) (rn_b A (J + 1))) ++ seg (rn_b A J) w) ++ seg (v + 1) (rn_b A (c + 1))] ++ cps A (c + 1) J ++ cps A (J + 1) A.length := by
      rw [hJ]
      exact if_neg hone
    have hcJ : c < J := by
      rcases Nat.lt_or_ge c J with h9 | h9
      · exact h9
      · have := mono (a := J + 1) (b := c + 1) (by omega)
        omega
    have mJ := mono (a := c + 1) (b := J) (by omega)
    have mJ2 := rn_b_mono A J
    generalize hK : cps A 0 c ++ [((seg (rn_b A c) v ++ seg (w + 1) (rn_b A (J + 1))) ++ seg (rn_b A J) w) ++ seg (v + 1) (rn_b A (c + 1))] = K0 at eS
    have K0n : K0.length = c + 1 := by
      rw [← hK, List.length_append, cps_n]
      rfl
    have K0l : K0.flatten.length + 2 = rn_b A (c + 1) + (rn_b A (J + 1) - rn_b A J) := by
      rw [← hK, List.flatten_append, List.length_append, s0c, List.flatten_cons, List.flatten_nil, List.append_nil, List.length_append, List.length_append, List.length_append, seg_len, seg_len, seg_len, seg_len]
      omega
    have aft2 : ∀ (k m : Nat) (y : ow_MS), m + k = A.length → J < m → I y → bmX y n A (K0 ++ cps A (c + 1) J ++ cps A (J + 1) m) [] → Tt (fun K i9 => q_X13_smoothIn K i9 2 (nI c) (nI v) (nI w) 0 (nI m) 0 0 o n 0 y) Q := by
      intro k
      induction k with
      | zero =>
        intro m y hm hcm hI hb
        have hme : m = A.length := by omega
        rw [hme] at hb
        refine u_X13_smoothIn_2 ?_; unfold qm_X13_smoothIn_2
        refine w_rdF (atI hI).2.1 (w_leT (by omega) (by omega) (w_ifT rfl (w_some ⟨?_, hI.2, hI.1⟩)))
        rw [eS]
        exact hb
      | succ k ih =>
        intro m y hm hcm hI hb
        have m1 := mono (a := J + 1) (b := m) (by omega)
        have m2 := rn_b_mono A m
        have m3 := hbl2 (m + 1)
        have sa := cps_len (A := A) (show c + 1 ≤ J by omega)
        have sb := cps_len (A := A) (show J + 1 ≤ m by omega)
        refine u_X13_smoothIn_2 ?_; unfold qm_X13_smoothIn_2
        refine w_rdF (atI hI).2.1 (w_leF (by omega) (by omega) (w_ifF (fun e => by have := (nI_eq (by omega) (by omega)).mp e; omega) (w_ifT rfl (w_rdI (pl3 ho) rfl (by omega) (bI hI (by omega)) (w_ltT (by omega) (by omega) (c10 0 m _ y (by omega) ?_ ?_ (fun y2 hI2 hb2 => ?_) hI hb))))))
        · rw [List.length_append, List.length_append, cps_n, cps_n, K0n]
          omega
        · rw [List.flatten_append, List.flatten_append, List.length_append, List.length_append, sa, sb]
          omega
        · refine u_X13_smoothIn_12 ?_; unfold qm_X13_smoothIn_12
          rw [nI_1]
          refine ih (m + 1) y2 (by omega) (by omega) hI2 ?_
          rw [cps_s (by omega), ← List.append_assoc]
          exact hb2
    have aft1 : ∀ (k m : Nat) (y : ow_MS), m + k = J → c < m → I y → bmX y n A (K0 ++ cps A (c + 1) m) [] → Tt (fun K i9 => q_X13_smoothIn K i9 2 (nI c) (nI v) (nI w) 0 (nI m) 0 0 o n 0 y) Q := by
      intro k
      induction k with
      | zero =>
        intro m y hm hcm hI hb
        have hme : m = J := by omega
        rw [hme] at hb ⊢
        refine u_X13_smoothIn_2 ?_; unfold qm_X13_smoothIn_2
        refine w_rdF (atI hI).2.1 (w_leF (by omega) (by omega) (w_ifF (fun e => by have := (nI_eq (by omega) (by omega)).mp e; omega) (w_ifT rfl (w_rdI (pl3 ho) rfl (by omega) (bI hI (by omega)) (w_ltF (by omega) (by omega) (w_rdI (pl3 ho) (nI_1 _) (by omega) (bI hI (by omega)) (w_ltT (by omega) (by omega) ?_)))))))
        refine u_X13_smoothIn_12 ?_; unfold qm_X13_smoothIn_12
        rw [nI_1]
        refine aft2 (A.length - (J + 1)) (J + 1) y (by omega) (by omega) hI ?_
        rw [cps_0, List.append_nil]
        exact hb
      | succ k ih =>
        intro m y hm hcm hI hb
        have m1 := mono (a := c + 1) (b := m) (by omega)
        have m2 := rn_b_mono A m
        have m3 := hbl2 (m + 1)
        have m4 := mono (a := m + 1) (b := J) (by omega)
        have sa := cps_len (A := A) (show c + 1 ≤ m by omega)
        refine u_X13_smoothIn_2 ?_; unfold qm_X13_smoothIn_2
        refine w_rdF (atI hI).2.1 (w_leF (by omega) (by omega) (w_ifF (fun e => by have := (nI_eq (by omega) (by omega)).mp e; omega) (w_ifT rfl (w_rdI (pl3 ho) rfl (by omega) (bI hI (by omega)) (w_ltF (by omega) (by omega) (w_rdI (pl3 ho) (nI_1 _) (by omega) (bI hI (by omega)) (w_ltF (by omega) (by omega) (c10 0 m _ y (by omega) ?_ ?_ (fun y2 hI2 hb2 => ?_) hI hb))))))))
        · rw [List.length_append, cps_n, K0n]
          omega
        · rw [List.flatten_append, List.length_append, sa]
          omega
        · refine u_X13_smoothIn_12 ?_; unfold qm_X13_smoothIn_12
          rw [nI_1]
          refine ih (m + 1) y2 (by omega) (by omega) hI2 ?_
          rw [cps_s (by omega), ← List.append_assoc]
          exact hb2
    have l8 : ∀ (k i : Nat) (y : ow_MS), i + k = rn_b A (c + 1) → v + 1 ≤ i → I y → bmX y n A (cps A 0 c) (((seg (rn_b A c) v ++ seg (w + 1) (rn_b A (J + 1))) ++ seg (rn_b A J) w) ++ seg (v + 1) i) → (∀ y2, I y2 → bmX y2 n A (cps A 0 c) (((seg (rn_b A c) v ++ seg (w + 1) (rn_b A (J + 1))) ++ seg (rn_b A J) w) ++ seg (v + 1) (rn_b A (c + 1))) → Tt (fun K i9 => q_X13_smoothIn K i9 9 (nI c) (nI v) (nI w) 0 (nI c) (nI J) 0 o n 0 y2) Q) → Tt (fun K i9 => q_X13_smoothIn K i9 8 (nI c) (nI v) (nI w) 0 (nI c) (nI J) (nI i) o n 0 y) Q := by
      intro k
      induction k with
      | zero =>
        intro i y hi hlo hI hb hout
        have hie : i = rn_b A (c + 1) := by omega
        rw [hie] at hb ⊢
        refine u_X13_smoothIn_8 ?_; unfold qm_X13_smoothIn_8
        exact w_rdI (pl3 ho) (nI_1 _) (by omega) (bI hI (by omega)) (w_leT (by omega) (Nat.le_refl _) (hout y hI hb))
      | succ k ih =>
        intro i y hi hlo hI hb hout
        have hil : i < A.flatten.length := by omega
        refine u_X13_smoothIn_8 ?_; unfold qm_X13_smoothIn_8
        refine w_rdI (pl3 ho) (nI_1 _) (by omega) (bI hI (by omega)) (w_leF (by omega) (by omega) (w_rdI (pl4 ho) rfl (by omega) (cuI hI hil).1 (w_rdI (pl5 ho) rfl (by omega) (cuI hI hil).2 (w_cs0 (bmX_add hn hb (by rw [s0c, List.length_append, List.length_append, List.length_append, seg_len, seg_len, seg_len, seg_len]; omega)) (fun y2 ⟨g1, g2⟩ => ?_)))))
        rw [nI_1]
        refine ih (i + 1) y2 (by omega) (by omega) (addI hI g2) ?_ hout
        rw [seg_s hlo, ← List.append_assoc]
        exact g1
    have l7 : ∀ (k i : Nat) (y : ow_MS), i + k = w → rn_b A J ≤ i → I y → bmX y n A (cps A 0 c) ((seg (rn_b A c) v ++ seg (w + 1) (rn_b A (J + 1))) ++ seg (rn_b A J) i) → (∀ y2, I y2 → bmX y2 n A (cps A 0 c) ((seg (rn_b A c) v ++ seg (w + 1) (rn_b A (J + 1))) ++ seg (rn_b A J) w) → Tt (fun K i9 => q_X13_smoothIn K i9 8 (nI c) (nI v) (nI w) 0 (nI c) (nI J) (nI (v + 1)) o n 0 y2) Q) → Tt (fun K i9 => q_X13_smoothIn K i9 7 (nI c) (nI v) (nI w) 0 (nI c) (nI J) (nI i) o n 0 y) Q := by
      intro k
      induction k with
      | zero =>
        intro i y hi hlo hI hb hout
        have hie : i = w := by omega
        rw [hie] at hb ⊢
        refine u_X13_smoothIn_7 ?_; unfold qm_X13_smoothIn_7
        rw [nI_1 v]
        exact (w_leT (by omega) (Nat.le_refl _) (hout y hI hb))
      | succ k ih =>
        intro i y hi hlo hI hb hout
        have hil : i < A.flatten.length := by omega
        refine u_X13_smoothIn_7 ?_; unfold qm_X13_smoothIn_7
        rw [nI_1 v]
        refine (w_leF (by omega) (by omega) (w_rdI (pl4 ho) rfl (by omega) (cuI hI hil).1 (w_rdI (pl5 ho) rfl (by omega) (cuI hI hil).2 (w_cs0 (bmX_add hn hb (by rw [s0c, List.length_append, List.length_append, seg_len, seg_len, seg_len]; omega)) (fun y2 ⟨g1, g2⟩ => ?_)))))
        rw [nI_1]
        refine ih (i + 1) y2 (by omega) (by omega) (addI hI g2) ?_ hout
        rw [seg_s hlo, ← List.append_assoc]
        exact g1
    have l6 : ∀ (k i : Nat) (y : ow_MS), i + k = rn_b A (J + 1) → w + 1 ≤ i → I y → bmX y n A (cps A 0 c) (seg (rn_b A c) v ++ seg (w + 1) i) → (∀ y2, I y2 → bmX y2 n A (cps A 0 c) (seg (rn_b A c) v ++ seg (w + 1) (rn_b A (J + 1))) → Tt (fun K i9 => q_X13_smoothIn K i9 7 (nI c) (nI v) (nI w) 0 (nI c) (nI J) (nI (rn_b A J)) o n 0 y2) Q) → Tt (fun K i9 => q_X13_smoothIn K i9 6 (nI c) (nI v) (nI w) 0 (nI c) (nI J) (nI i) o n 0 y) Q := by
      intro k
      induction k with
      | zero =>
        intro i y hi hlo hI hb hout
        have hie : i = rn_b A (J + 1) := by omega
        rw [hie] at hb ⊢
        refine u_X13_smoothIn_6 ?_; unfold qm_X13_smoothIn_6
        exact w_rdI (pl3 ho) (nI_1 _) (by omega) (bI hI (by omega)) (w_leT (by omega) (Nat.le_refl _) (w_rdI (pl3 ho) rfl (by omega) (bI hI (by omega)) (hout y hI hb)))
      | succ k ih =>
        intro i y hi hlo hI hb hout
        have hil : i < A.flatten.length := by omega
        refine u_X13_smoothIn_6 ?_; unfold qm_X13_smoothIn_6
        refine w_rdI (pl3 ho) (nI_1 _) (by omega) (bI hI (by omega)) (w_leF (by omega) (by omega) (w_rdI (pl4 ho) rfl (by omega) (cuI hI hil).1 (w_rdI (pl5 ho) rfl (by omega) (cuI hI hil).2 (w_cs0 (bmX_add hn hb (by rw [s0c, List.length_append, seg_len, seg_len]; omega)) (fun y2 ⟨g1, g2⟩ => ?_)))))
        rw [nI_1]
        refine ih (i + 1) y2 (by omega) (by omega) (addI hI g2) ?_ hout
        rw [seg_s hlo, ← List.append_assoc]
        exact g1
    have l3 : ∀ (k i : Nat) (y : ow_MS), i + k = v → rn_b A c ≤ i → I y → bmX y n A (cps A 0 c) (seg (rn_b A c) i) → (∀ y2, I y2 → bmX y2 n A (cps A 0 c) (seg (rn_b A c) v) → Tt (fun K i9 => q_X13_smoothIn K i9 5 (nI c) (nI v) (nI w) 0 (nI c) 0 0 o n 0 y2) Q) → Tt (fun K i9 => q_X13_smoothIn K i9 3 (nI c) (nI v) (nI w) 0 (nI c) (nI i) 0 o n 0 y) Q := by
      intro k
      induction k with
      | zero =>
        intro i y hi hlo hI hb hout
        have hie : i = v := by omega
        rw [hie] at hb ⊢
        refine u_X13_smoothIn_3 ?_; unfold qm_X13_smoothIn_3
        exact w_leT (by omega) (Nat.le_refl _) (w_ifT rfl (hout y hI hb))
      | succ k ih =>
        intro i y hi hlo hI hb hout
        have hil : i < A.flatten.length := by omega
        refine u_X13_smoothIn_3 ?_; unfold qm_X13_smoothIn_3
        refine (w_leF (by omega) (by omega) (w_rdI (pl4 ho) rfl (by omega) (cuI hI hil).1 (w_rdI (pl5 ho) rfl (by omega) (cuI hI hil).2 (w_cs0 (bmX_add hn hb (by rw [s0c, seg_len]; omega)) (fun y2 ⟨g1, g2⟩ => ?_)))))
        rw [nI_1]
        refine ih (i + 1) y2 (by omega) (by omega) (addI hI g2) ?_ hout
        rw [seg_s hlo]
        exact g1
    have mid : ∀ y, I y → bmX y n A (cps A 0 c) (seg (rn_b A c) v) → Tt (fun K i9 => q_X13_smoothIn K i9 6 (nI c) (nI v) (nI w) 0 (nI c) (nI J) (nI (w + 1)) o n 0 y) Q := by
      intro y hI hb
      refine l6 (rn_b A (J + 1) - (w + 1)) (w + 1) y (by omega) (Nat.le_refl _) hI (by rw [seg_0, List.append_nil]; exact hb) (fun y2 hI2 hb2 => l7 (w - rn_b A J) (rn_b A J) y2 (by omega) (Nat.le_refl _) hI2 (by rw [seg_0, List.append_nil]; exact hb2) (fun y3 hI3 hb3 => l8 (rn_b A (c + 1) - (v + 1)) (v + 1) y3 (by omega) (Nat.le_refl _) hI3 (by rw [seg_0, List.append_nil]; exact hb3) (fun y4 hI4 hb4 => ?_)))
      refine u_X13_smoothIn_9 ?_; unfold qm_X13_smoothIn_9
      refine w_cs0 (bmX_end hn hb4 (by rw [cps_n]; omega)) (fun y5 ⟨g1, g2⟩ => ?_)
      refine u_X13_smoothIn_12 ?_; unfold qm_X13_smoothIn_12
      rw [nI_1]
      refine aft1 (J - (c + 1)) (c + 1) y5 (by omega) (by omega) (endI hI4 g2) ?_
      rw [cps_0, List.append_nil, ← hK]
      exact g1
    have l5 : ∀ (k m : Nat) (y : ow_MS), m + k = J → I y → bmX y n A (cps A 0 c) (seg (rn_b A c) v) → Tt (fun K i9 => q_X13_smoothIn K i9 5 (nI c) (nI v) (nI w) 0 (nI c) (nI m) 0 o n 0 y) Q := by
      intro k
      induction k with
      | zero =>
        intro m y hm hI hb
        have hme : m = J := by omega
        rw [hme]
        refine u_X13_smoothIn_5 ?_; unfold qm_X13_smoothIn_5
        rw [nI_1 w]
        exact w_rdI (pl3 ho) (nI_1 _) (by omega) (bI hI (by omega)) (w_ltT (by omega) hJ3 (mid y hI hb))
      | succ k ih =>
        intro m y hm hI hb
        have m1 := mono (a := m + 1) (b := J) (by omega)
        refine u_X13_smoothIn_5 ?_; unfold qm_X13_smoothIn_5
        refine w_rdI (pl3 ho) (nI_1 _) (by omega) (bI hI (by omega)) (w_ltF (by omega) (by omega) ?_)
        rw [nI_1]
        exact ih (m + 1) y (by omega) hI hb
    have bef : ∀ (k m : Nat) (y : ow_MS), m + k = c → I y → bmX y n A (cps A 0 m) [] → Tt (fun K i9 => q_X13_smoothIn K i9 2 (nI c) (nI v) (nI w) 0 (nI m) 0 0 o n 0 y) Q := by
      intro k
      induction k with
      | zero =>
        intro m y hm hI hb
        have hme : m = c := by omega
        rw [hme] at hb ⊢
        refine u_X13_smoothIn_2 ?_; unfold qm_X13_smoothIn_2
        exact w_rdF (atI hI).2.1 (w_leF (by omega) (by omega) (w_ifT rfl (w_rdI (pl3 ho) rfl (by omega) (bI hI (by omega)) (l3 (v - rn_b A c) (rn_b A c) y (by omega) (Nat.le_refl _) hI (by rw [seg_0]; exact hb) (fun y2 hI2 hb2 => l5 J 0 y2 (by omega) hI2 hb2)))))
      | succ k ih =>
        intro m y hm hI hb
        have m1 := mono (a := m + 1) (b := c) (by omega)
        have m2 := rn_b_mono A m
        have m5 := mono (a := m + 1) (b := J) (by omega)
        have sm := cps_len (A := A) (Nat.zero_le m)
        rw [rn_b0, Nat.sub_zero] at sm
        refine u_X13_smoothIn_2 ?_; unfold qm_X13_smoothIn_2
        refine w_rdF (atI hI).2.1 (w_leF (by omega) (by omega) (w_ifF (fun e => by have := (nI_eq (by omega) (by omega)).mp e; omega) (w_ifT rfl (w_rdI (pl3 ho) rfl (by omega) (bI hI (by omega)) (w_ltF (by omega) (by omega) (w_rdI (pl3 ho) (nI_1 _) (by omega) (bI hI (by omega)) (w_ltF (by omega) (by omega) (c10 0 m _ y (by omega) (by rw [cps_n]; omega) (by rw [sm]; omega) (fun y2 hI2 hb2 => ?_) hI hb))))))))
        refine u_X13_smoothIn_12 ?_; unfold qm_X13_smoothIn_12
        rw [nI_1]
        refine ih (m + 1) y2 (by omega) hI2 ?_
        rw [cps_s (by omega)]
        exact hb2
    refine e_X13_smoothIn ?_
    refine u_X13_smoothIn_0 ?_; unfold qm_X13_smoothIn_0
    refine w_cs0 (tn_clear hn) (fun z3 ⟨b3, f3⟩ => w_cs0 (tn_signs hn ho hon) (fun z4 ⟨f4, s4⟩ => ?_))
    have hI4 : I z4 := ⟨fr_tr (fr_mono (fun g hg => by omega) f3) (fr_mono (fun g hg => by omega) f4), fun x hx => by rw [s4 x hx, (f3 (o + 6) (by omega)).2.1]⟩
    refine w_rdI (pl3 ho) (nI_1 _) (by omega) (bI hI4 (by omega)) (w_leT (by omega) (by omega) ?_)
    refine u_X13_smoothIn_1 ?_; unfold qm_X13_smoothIn_1
    refine bef c 0 z4 (by omega) hI4 ?_
    rw [cps_0]
    exact bmX_fr (C := []) (B := []) f4 (fun g hg => by omega) b3
end
section
/-! 99zzzzzzzzzi.ism -/
/-! a smoothed net shows the smoothed components -/
theorem isoV_lists {A A1 : rn_L} {sg : Nat → Bool} {f : Nat → Nat} {T : ow_NT} (h : isoV A sg f T) (hp : A1.flatten.Perm A.flatten) (hc : cirs A1 = cirs A) (hL : ∀ L, L ∈ A1 → ∀ p, p ∈ L → ∃ L0, L0 ∈ A ∧ p ∈ L0 ∧ sc L p = sc L0 p) : isoV A1 sg f T := by
  refine isoV_of (isoS_iff.mp ⟨wkF_perm hp h.1.1, by rw [hp.length_eq]; exact h.1.2.1, h.1.2.2.1, fun p h9 => h.1.2.2.2.1 p (hp.mem_iff.mp h9), fun p q h8 h9 e => h.1.2.2.2.2.1 p q (hp.mem_iff.mp h8) (hp.mem_iff.mp h9) e, fun L l1 p p1 => ?_, fun p h9 => h.1.2.2.2.2.2.2.1 p (hp.mem_iff.mp h9), by rw [hc]; exact h.1.2.2.2.2.2.2.2⟩) (isoV_vn h)
  obtain ⟨L0, a1, a2, a3⟩ := hL L l1 p p1
  rw [a3]
  exact (h.2 L0 a1 p a2).1
theorem iso_exch {A A1 : rn_L} {sg : Nat → Bool} {f : Nat → Nat} {T : ow_NT} {p q : vT} (h : isoV A sg f T) (hpA : p ∈ A.flatten) (hqA : q ∈ A.flatten) (hpq : p ≠ q) (hp : A1.flatten.Perm A.flatten) (hc : cirs A1 = cirs A) (hL : ∀ L, L ∈ A1 → ∀ r, r ∈ L → (r = p → ∃ L0, L0 ∈ A ∧ q ∈ L0 ∧ sc L r = sc L0 q) ∧ (r = q → ∃ L0, L0 ∈ A ∧ p ∈ L0 ∧ sc L r = sc L0 p) ∧ (r ≠ p → r ≠ q → ∃ L0, L0 ∈ A ∧ r ∈ L0 ∧ sc L r = sc L0 r)) : isoV A1 sg f (T.1, T.2.1, np_exchange T.2.2.1 (gl f p) (gl f q), T.2.2.2) := by
  have hv := isoV_vn h
  refine isoV_of (isoS_iff.mp ⟨wkF_perm hp h.1.1, by rw [hp.length_eq]; exact h.1.2.1, h.1.2.2.1, fun p h9 => h.1.2.2.2.1 p (hp.mem_iff.mp h9), fun p q h8 h9 e => h.1.2.2.2.2.1 p q (hp.mem_iff.mp h8) (hp.mem_iff.mp h9) e, fun L l1 r r1 => ?_, fun p h9 => h.1.2.2.2.2.2.2.1 p (hp.mem_iff.mp h9), by rw [hc]; exact h.1.2.2.2.2.2.2.2⟩) (vn_exchange hv (gl_lt h hpA) (gl_lt h hqA))
  have rA : r ∈ A.flatten := hp.mem_iff.mp (List.mem_flatten.mpr ⟨L, l1, r1⟩)
  obtain ⟨k1, k2, k3⟩ := hL L l1 r r1
  show (np_exchange T.2.2.1 (gl f p) (gl f q)).1 (gl f r) = gl f (sc L r)
  rw [np_exchange_1]
  by_cases e1 : r = q
  · obtain ⟨L0, a1, a2, a3⟩ := k2 e1
    rw [if_pos (by rw [e1]), a3]
    exact (h.2 L0 a1 p a2).1
  · rw [if_neg (fun e => e1 (gl_gin h.1 r q rA hqA e))]
    by_cases e2 : r = p
    · obtain ⟨L0, a1, a2, a3⟩ := k1 e2
      rw [if_pos (by rw [e2]), a3]
      exact (h.2 L0 a1 q a2).1
    · obtain ⟨L0, a1, a2, a3⟩ := k3 e2 e1
      rw [if_neg (fun e => e2 (gl_gin h.1 r p rA hpA e)), a3]
      exact (h.2 L0 a1 r a2).1
theorem ex_comm {c : Nat} {S : ow_NP} (hv : vn c S) {v w : Nat} (h1 : v < 2 * c) (h2 : w < 2 * c) (hne : v ≠ w) : np_exchange S v w = np_exchange S w v := by
  have hi : S.1 v ≠ S.1 w := fun e => hne (vn_inj hv h1 h2 e)
  refine Prod.ext (funext fun k => ?_) (funext fun k => ?_)
  · rw [np_exchange_1, np_exchange_1]
    by_cases e1 : k = w
    · rw [if_pos e1, if_neg (fun e => hne (e.symm.trans e1)), if_pos e1]
    · rw [if_neg e1]
      by_cases e2 : k = v
      · rw [if_pos e2, if_pos e2]
      · rw [if_neg e2, if_neg e2, if_neg e1]
  · rw [np_exchange_2, np_exchange_2]
    by_cases e1 : k = S.1 v
    · rw [if_pos e1, if_neg (fun e => hi (e1.symm.trans e)), if_pos e1]
    · rw [if_neg e1]
      by_cases e2 : k = S.1 w
      · rw [if_pos e2, if_pos e2]
      · rw [if_neg e2, if_neg e2, if_neg e1]
theorem woL {x : Nat} {L : List vT} (h : ∀ r, r ∈ L → r.2 < 2) : (L.filter (fun r => decide (r ≠ (x, 0)))).filter (fun r => decide (r ≠ (x, 1))) = L.filter (fun r => decide (r.1 ≠ x)) := by
  rw [List.filter_filter]
  refine List.filter_congr (fun r hr => ?_)
  have h2 := h r hr
  obtain ⟨a, u⟩ := r
  dsimp only at h2 ⊢
  by_cases e : a = x
  · subst e
    rcases (show u = 0 ∨ u = 1 by omega) with rfl | rfl
    · simp
    · simp
  · have n0 : (a, u) ≠ ((x, 0) : vT) := fun e9 => e (Prod.mk.inj e9).1
    have n1 : (a, u) ≠ ((x, 1) : vT) := fun e9 => e (Prod.mk.inj e9).1
    rw [decide_eq_true n0, decide_eq_true n1, decide_eq_true e]
    rfl
theorem fil_k {x : Nat} {L : List vT} (h : ∀ r, r ∈ L → r.1 ≠ x) : L.filter (fun r => decide (r.1 ≠ x)) = L := List.filter_eq_self.mpr (fun r hr => decide_eq_true (h r hr))
theorem cirs_cons (L : List vT) (A : rn_L) : cirs (L :: A) = (if L = [] then 1 else 0) + cirs A := by
  unfold cirs
  rw [List.countP_cons]
  cases L with
  | nil =>
    simp
    omega
  | cons a X => simp
theorem cirs_ne {L : List vT} {A : rn_L} (h : L ≠ []) : cirs (L :: A) = cirs A := by
  rw [cirs_cons, if_neg h, Nat.zero_add]
section ISM
variable {A : rn_L} {sg : Nat → Bool} {f : Nat → Nat} {T : ow_NT} {P Mi Po : rn_L} {X Y Z W : List vT} {p q : vT}
/-- the visits of a crossing parted or joined, then taken out -/
theorem iso_sm0 {A1 : rn_L} {x : Nat} (h : isoV A1 sg f (T.1, T.2.1, np_exchange T.2.2.1 (gl f p) (gl f q), T.2.2.2)) (hv : vn T.1 T.2.2.1) (hp : p.1 = x) (hq : q = (x, 1 - p.2)) (hp2 : p.2 < 2) (hpA : p ∈ A1.flatten) : ∃ f', isoV (A1.map (List.filter (fun r => decide (r.1 ≠ x)))) sg f' (ntSm T (f x)) := by
  have hF := h.1.1
  have hqA : q ∈ A1.flatten := by
    have := (hF.2 p hpA).2.2
    rw [hp, ← hq] at this
    exact this
  have x0 : (x, 0) ∈ A1.flatten ∧ (p = (x, 0) ∧ q = (x, 1) ∨ p = (x, 1) ∧ q = (x, 0)) := by
    rcases (show p.2 = 0 ∨ p.2 = 1 by omega) with e | e
    · have e1 : p = (x, 0) := Prod.ext hp e
      rw [e] at hq
      exact ⟨by rw [← e1]; exact hpA, Or.inl ⟨e1, hq⟩⟩
    · have e1 : p = (x, 1) := Prod.ext hp e
      rw [e] at hq
      exact ⟨by have hq' : q = (x, 0) := hq; rw [← hq']; exact hqA, Or.inr ⟨e1, hq⟩⟩
  obtain ⟨f', k1, -⟩ := iso_rm h x0.1
  refine ⟨f', ?_⟩
  have ew : wox A1 x = A1.map (List.filter (fun r => decide (r.1 ≠ x))) := by
    unfold wox rmv
    rw [List.map_map]
    exact List.map_congr_left (fun L hL => woL (fun r hr => (hF.2 r (List.mem_flatten.mpr ⟨L, hL, hr⟩)).2.1))
  rw [ew] at k1
  have hfx : f x < T.1 := h.1.2.2.2.1 _ x0.1
  have eT : nt_rm (T.1, T.2.1, np_exchange T.2.2.1 (gl f p) (gl f q), T.2.2.2) (f x) = ntSm T (f x) := by
    unfold ntSm
    rcases x0.2 with ⟨e1, e2⟩ | ⟨e1, e2⟩
    · rw [e1, e2]
      rfl
    · rw [e1, e2]
      rw [show np_exchange T.2.2.1 (gl f (x, 1)) (gl f (x, 0)) = np_exchange T.2.2.1 (2 * f x) (2 * f x + 1) from ex_comm (v := 2 * f x + 1) (w := 2 * f x) hv (by omega) (by omega) (by omega)]
  rw [eT] at k1
  exact k1
theorem nd_of {L : List vT} {p q : vT} (hF : wkF A.flatten) (hL : L ∈ A) {x : Nat} (hp : p = (x, 0) ∧ q = (x, 1) ∨ p = (x, 1) ∧ q = (x, 0)) {r : vT} (hr : r ∈ L) (h1 : r ≠ p) (h2 : r ≠ q) : r.1 ≠ x := fun e => by
  have h3 := (hF.2 r (List.mem_flatten.mpr ⟨L, hL, hr⟩)).2.1
  rcases (show r.2 = 0 ∨ r.2 = 1 by omega) with e2 | e2
  · have e3 : r = (x, 0) := Prod.ext e e2
    rcases hp with ⟨e4, e5⟩ | ⟨e4, e5⟩
    · exact h1 (e3.trans e4.symm)
    · exact h2 (e3.trans e5.symm)
  · have e3 : r = (x, 1) := Prod.ext e e2
    rcases hp with ⟨e4, e5⟩ | ⟨e4, e5⟩
    · exact h2 (e3.trans e5.symm)
    · exact h1 (e3.trans e4.symm)
/-- both visits in one component -/
theorem iso_sm1 {x : Nat} (hAe : A = P ++ (X ++ p :: (Y ++ q :: Z)) :: Po) (h : isoV A sg f T) (hx : p = (x, 0) ∧ q = (x, 1) ∨ p = (x, 1) ∧ q = (x, 0)) : ∃ f', isoV (P ++ (X ++ Z) :: Po ++ [Y]) sg f' (ntSm T (f x)) := by
  have hF := h.1.1
  have hv := isoV_vn h
  have hLA : X ++ p :: (Y ++ q :: Z) ∈ A := by rw [hAe]; exact List.mem_append_right _ List.mem_cons_self
  have nL := L_nd hF.1 hLA
  have hpL : p ∈ X ++ p :: (Y ++ q :: Z) := List.mem_append_right _ List.mem_cons_self
  have hqL : q ∈ X ++ p :: (Y ++ q :: Z) := List.mem_append_right _ (List.mem_cons_of_mem _ (List.mem_append_right _ List.mem_cons_self))
  have hpq : p ≠ q := by
    rcases hx with ⟨rfl, rfl⟩ | ⟨rfl, rfl⟩
    · exact fun e => absurd (Prod.mk.inj e).2 (by decide)
    · exact fun e => absurd (Prod.mk.inj e).2 (by decide)
  have eR : X ++ p :: (Y ++ q :: Z) = (X ++ p :: (Y ++ [q])) ++ Z := by simp
  have eR2 : Z ++ (X ++ p :: (Y ++ [q])) = ((Z ++ X) ++ [p]) ++ (Y ++ [q]) := by simp
  have nR : (((Z ++ X) ++ [p]) ++ (Y ++ [q])).Nodup := by
    rw [← eR2]
    refine nd_rot ?_
    rw [← eR]
    exact nL
  have memR : ∀ r, r ∈ ((Z ++ X) ++ [p]) ++ (Y ++ [q]) ↔ r ∈ X ++ p :: (Y ++ q :: Z) := fun r => by
    simp only [List.mem_append, List.mem_cons, List.mem_singleton]
    grind
  have scR : ∀ r, r ∈ X ++ p :: (Y ++ q :: Z) → sc (((Z ++ X) ++ [p]) ++ (Y ++ [q])) r = sc (X ++ p :: (Y ++ q :: Z)) r := fun r hr => by
    have hn2 : ((X ++ p :: (Y ++ [q])) ++ Z).Nodup := by rw [← eR]; exact nL
    have := sc_rot (p := r) hn2 (by rw [← eR]; exact hr)
    rw [eR2, ← eR] at this
    exact this
  have otherL : ∀ L, L ∈ P ++ Po → L ∈ A := fun L hL => by
    rw [hAe]
    rcases List.mem_append.mp hL with h9 | h9
    · exact List.mem_append_left _ h9
    · exact List.mem_append_right _ (List.mem_cons_of_mem _ h9)
  have otherN : ∀ L, L ∈ P ++ Po → ∀ r, r ∈ L → r ≠ p ∧ r ≠ q := fun L hL r hr => by
    have hn := hF.1
    rw [hAe, List.flatten_append, List.flatten_cons] at hn
    have dis : ∀ s, s ∈ X ++ p :: (Y ++ q :: Z) → r ≠ s := fun s hs e => by
      obtain ⟨n1, n2, n3⟩ := List.nodup_append.mp hn
      obtain ⟨m1, m2, m3⟩ := List.nodup_append.mp n2
      rcases List.mem_append.mp hL with h9 | h9
      · exact n3 r (List.mem_flatten.mpr ⟨L, h9, hr⟩) s (List.mem_append_left _ hs) e
      · exact m3 s hs r (List.mem_flatten.mpr ⟨L, h9, hr⟩) e.symm
    exact ⟨dis p hpL, dis q hqL⟩
  let A1 : rn_L := P ++ ((Z ++ X) ++ [p]) :: Po ++ [Y ++ [q]]
  have perm1 : A1.flatten.Perm A.flatten := by
    rw [hAe]
    show (P ++ ((Z ++ X) ++ [p]) :: Po ++ [Y ++ [q]]).flatten.Perm _
    refine List.perm_iff_count.mpr (fun a => ?_)
    simp only [List.flatten_append, List.flatten_cons, List.flatten_nil, List.count_append, List.count_cons, List.count_nil]
    omega
  have cirs1 : cirs A1 = cirs A := by
    rw [hAe]
    show cirs (P ++ ((Z ++ X) ++ [p]) :: Po ++ [Y ++ [q]]) = _
    rw [cirs_app2, cirs_app2, cirs_app2, cirs_ne (by simp), cirs_ne (by simp), cirs_ne (by simp)]
    show cirs P + cirs Po + 0 = _
    omega
  have hpA : p ∈ A.flatten := List.mem_flatten.mpr ⟨_, hLA, hpL⟩
  have hqA : q ∈ A.flatten := List.mem_flatten.mpr ⟨_, hLA, hqL⟩
  have dis : ∀ r, r ∈ (Z ++ X) ++ [p] → r ∈ Y ++ [q] → False := fun r h1 h2 => (List.nodup_append.mp nR).2.2 r h1 r h2 rfl
  have key1 : isoV A1 sg f (T.1, T.2.1, np_exchange T.2.2.1 (gl f p) (gl f q), T.2.2.2) := by
    refine iso_exch h hpA hqA hpq perm1 cirs1 (fun L hL r hr => ?_)
    have hL : L ∈ P ++ Po ∨ L = (Z ++ X) ++ [p] ∨ L = Y ++ [q] := by
      have hL : L ∈ P ++ ((Z ++ X) ++ [p]) :: Po ++ [Y ++ [q]] := hL
      rcases List.mem_append.mp hL with h9 | h9
      · rcases List.mem_append.mp h9 with h8 | h8
        · exact Or.inl (List.mem_append_left _ h8)
        · rcases List.mem_cons.mp h8 with h7 | h7
          · exact Or.inr (Or.inl h7)
          · exact Or.inl (List.mem_append_right _ h7)
      · exact Or.inr (Or.inr (List.mem_singleton.mp h9))
    rcases hL with hL | rfl | rfl
    · obtain ⟨n1, n2⟩ := otherN L hL r hr
      exact ⟨fun e => absurd e n1, fun e => absurd e n2, fun _ _ => ⟨L, otherL L hL, hr, rfl⟩⟩
    · have hs := sc_spl1 nR hr
      have hrR := (memR r).mp (List.mem_append_left _ hr)
      refine ⟨fun e => ⟨_, hLA, hqL, ?_⟩, fun e => absurd (List.mem_append_right _ (by rw [e]; exact List.mem_singleton.mpr rfl)) (fun h9 => dis r hr h9), fun e1 _ => ⟨_, hLA, hrR, ?_⟩⟩
      · rw [hs, if_pos e, scR q hqL]
      · rw [hs, if_neg e1, scR r hrR]
    · have hs := sc_spl2 nR hr
      have hrR := (memR r).mp (List.mem_append_right _ hr)
      refine ⟨fun e => absurd (List.mem_append_right _ (by rw [e]; exact List.mem_singleton.mpr rfl)) (fun h9 => dis r h9 hr), fun e => ⟨_, hLA, hpL, ?_⟩, fun _ e2 => ⟨_, hLA, hrR, ?_⟩⟩
      · rw [hs, if_pos e, scR p hpL]
      · rw [hs, if_neg e2, scR r hrR]
  have hp1 : p.1 = x ∧ q = (x, 1 - p.2) ∧ p.2 < 2 := by
    rcases hx with ⟨rfl, rfl⟩ | ⟨rfl, rfl⟩
    · exact ⟨rfl, rfl, by show 0 < 2; omega⟩
    · exact ⟨rfl, rfl, by show 1 < 2; omega⟩
  obtain ⟨f', k1⟩ := iso_sm0 key1 hv hp1.1 hp1.2.1 hp1.2.2 (perm1.mem_iff.mpr hpA)
  have hq1 : q.1 = x := by rw [hp1.2.1]
  have notx : ∀ r, r ∈ X ++ p :: (Y ++ q :: Z) → r ≠ p → r ≠ q → r.1 ≠ x := fun r hr h1 h2 => nd_of hF hLA hx hr h1 h2
  have fo1 : ∀ L, L ∈ P ++ Po → L.filter (fun r => decide (r.1 ≠ x)) = L := fun L hL => fil_k (fun r hr => nd_of hF (otherL L hL) hx hr (otherN L hL r hr).1 (otherN L hL r hr).2)
  have inZX : ∀ r, r ∈ Z ++ X → r.1 ≠ x := fun r hr => notx r ((memR r).mp (List.mem_append_left _ (List.mem_append_left _ hr))) (fun e => by
    have nn := (List.nodup_append.mp nR).1
    exact (List.nodup_append.mp nn).2.2 r hr p (List.mem_singleton.mpr rfl) e) (fun e => dis r (List.mem_append_left _ hr) (by rw [e]; exact List.mem_append_right _ (List.mem_singleton.mpr rfl)))
  have inY : ∀ r, r ∈ Y → r.1 ≠ x := fun r hr => notx r ((memR r).mp (List.mem_append_right _ (List.mem_append_left _ hr))) (fun e => dis r (by rw [e]; exact List.mem_append_right _ (List.mem_singleton.mpr rfl)) (List.mem_append_left _ hr)) (fun e => by
    have nn := (List.nodup_append.mp nR).2.1
    exact (List.nodup_append.mp nn).2.2 r hr q (List.mem_singleton.mpr rfl) e)
  have f1 : ((Z ++ X) ++ [p]).filter (fun r => decide (r.1 ≠ x)) = Z ++ X := by
    rw [List.filter_append, fil_k inZX, List.filter_cons_of_neg (by rw [hp1.1]; simp), List.filter_nil, List.append_nil]
  have f2 : (Y ++ [q]).filter (fun r => decide (r.1 ≠ x)) = Y := by
    rw [List.filter_append, fil_k inY, List.filter_cons_of_neg (by rw [hq1]; simp), List.filter_nil, List.append_nil]
  have fP : P.map (List.filter (fun r => decide (r.1 ≠ x))) = P := by
    conv => rhs; rw [← List.map_id P]
    exact List.map_congr_left (fun L hL => fo1 L (List.mem_append_left _ hL))
  have fPo : Po.map (List.filter (fun r => decide (r.1 ≠ x))) = Po := by
    conv => rhs; rw [← List.map_id Po]
    exact List.map_congr_left (fun L hL => fo1 L (List.mem_append_right _ hL))
  have eA1 : A1.map (List.filter (fun r => decide (r.1 ≠ x))) = P ++ (Z ++ X) :: Po ++ [Y] := by
    show (P ++ ((Z ++ X) ++ [p]) :: Po ++ [Y ++ [q]]).map _ = _
    rw [List.map_append, List.map_append, List.map_cons, List.map_cons, List.map_nil, f1, f2, fP, fPo]
  rw [eA1] at k1
  refine ⟨f', isoV_lists k1 ?_ ?_ (fun L hL r hr => ?_)⟩
  · refine List.perm_iff_count.mpr (fun a => ?_)
    simp only [List.flatten_append, List.flatten_cons, List.flatten_nil, List.count_append, List.count_nil]
    omega
  · rw [cirs_app2, cirs_app2, cirs_app2, cirs_app2, cirs_cons (X ++ Z), cirs_cons (Z ++ X)]
    have : (X ++ Z = []) ↔ (Z ++ X = []) := by
      rw [List.append_eq_nil_iff, List.append_eq_nil_iff]
      exact And.comm
    simp only [this]
  · rcases List.mem_append.mp hL with h9 | h9
    · rcases List.mem_append.mp h9 with h8 | h8
      · exact ⟨L, List.mem_append_left _ (List.mem_append_left _ h8), hr, rfl⟩
      · rcases List.mem_cons.mp h8 with h7 | h7
        · have nZX : (Z ++ X).Nodup := by
            have nn := (List.nodup_append.mp nR).1
            exact (List.nodup_append.mp nn).1
          have hrZ : r ∈ Z ++ X := by
            rw [h7] at hr
            rcases List.mem_append.mp hr with h6 | h6
            · exact List.mem_append_right _ h6
            · exact List.mem_append_left _ h6
          refine ⟨Z ++ X, List.mem_append_left _ (List.mem_append_right _ List.mem_cons_self), hrZ, ?_⟩
          rw [h7]
          exact sc_rot nZX hrZ
        · exact ⟨L, List.mem_append_left _ (List.mem_append_right _ (List.mem_cons_of_mem _ h7)), hr, rfl⟩
    · exact ⟨L, List.mem_append_right _ h9, hr, rfl⟩
end ISM
end
section
/-! 99zzzzzzzzzj.ism2 -/
/-! two components become one; the lists that smoothing leaves -/
section ISN
variable {A : rn_L} {sg : Nat → Bool} {f : Nat → Nat} {T : ow_NT} {P Mi Po : rn_L} {X X' W W' : List vT} {p q : vT}
theorem iso_sm2 {x : Nat} (hAe : A = P ++ (X ++ p :: X') :: (Mi ++ (W ++ q :: W') :: Po)) (h : isoV A sg f T) (hx : p = (x, 0) ∧ q = (x, 1) ∨ p = (x, 1) ∧ q = (x, 0)) : ∃ f', isoV (P ++ (((X ++ W') ++ W) ++ X') :: (Mi ++ Po)) sg f' (ntSm T (f x)) := by
  have hF := h.1.1
  have hv := isoV_vn h
  have hLA : X ++ p :: X' ∈ A := by rw [hAe]; exact List.mem_append_right _ List.mem_cons_self
  have hMA : W ++ q :: W' ∈ A := by rw [hAe]; exact List.mem_append_right _ (List.mem_cons_of_mem _ (List.mem_append_right _ List.mem_cons_self))
  have nL := L_nd hF.1 hLA
  have nM := L_nd hF.1 hMA
  have hpL : p ∈ X ++ p :: X' := List.mem_append_right _ List.mem_cons_self
  have hqM : q ∈ W ++ q :: W' := List.mem_append_right _ List.mem_cons_self
  have hpq : p ≠ q := by
    rcases hx with ⟨rfl, rfl⟩ | ⟨rfl, rfl⟩
    · exact fun e => absurd (Prod.mk.inj e).2 (by decide)
    · exact fun e => absurd (Prod.mk.inj e).2 (by decide)
  have eU : X ++ p :: X' = (X ++ [p]) ++ X' := by simp
  have eU2 : X' ++ (X ++ [p]) = (X' ++ X) ++ [p] := by simp
  have eW : W ++ q :: W' = (W ++ [q]) ++ W' := by simp
  have eW2 : W' ++ (W ++ [q]) = (W' ++ W) ++ [q] := by simp
  have memU : ∀ r, r ∈ (X' ++ X) ++ [p] ↔ r ∈ X ++ p :: X' := fun r => by
    simp only [List.mem_append, List.mem_cons, List.mem_singleton]
    grind
  have memW : ∀ r, r ∈ (W' ++ W) ++ [q] ↔ r ∈ W ++ q :: W' := fun r => by
    simp only [List.mem_append, List.mem_cons, List.mem_singleton]
    grind
  have scU : ∀ r, r ∈ X ++ p :: X' → sc ((X' ++ X) ++ [p]) r = sc (X ++ p :: X') r := fun r hr => by
    have hn2 : ((X ++ [p]) ++ X').Nodup := by rw [← eU]; exact nL
    have := sc_rot (p := r) hn2 (by rw [← eU]; exact hr)
    rw [eU2, ← eU] at this
    exact this
  have scW : ∀ r, r ∈ W ++ q :: W' → sc ((W' ++ W) ++ [q]) r = sc (W ++ q :: W') r := fun r hr => by
    have hn2 : ((W ++ [q]) ++ W').Nodup := by rw [← eW]; exact nM
    have := sc_rot (p := r) hn2 (by rw [← eW]; exact hr)
    rw [eW2, ← eW] at this
    exact this
  have nA := hF.1
  rw [hAe] at nA
  have cnt : ∀ r, A.flatten.count r = P.flatten.count r + ((X' ++ X) ++ [p]).count r + Mi.flatten.count r + ((W' ++ W) ++ [q]).count r + Po.flatten.count r := fun r => by
    rw [hAe]
    simp only [List.flatten_append, List.flatten_cons, List.count_append, List.count_cons, List.count_nil]
    omega
  have one : ∀ r, A.flatten.count r ≤ 1 := fun r => List.nodup_iff_count.mp hF.1 r
  have nR : (((X' ++ X) ++ [p]) ++ ((W' ++ W) ++ [q])).Nodup := by
    refine List.nodup_iff_count.mpr (fun r => ?_)
    have h1 := cnt r
    have h2 := one r
    rw [List.count_append]
    omega
  have dis : ∀ r, r ∈ (X' ++ X) ++ [p] → r ∈ (W' ++ W) ++ [q] → False := fun r h1 h2 => (List.nodup_append.mp nR).2.2 r h1 r h2 rfl
  have otherL : ∀ L, L ∈ P ++ (Mi ++ Po) → L ∈ A := fun L hL => by
    rw [hAe]
    rcases List.mem_append.mp hL with h9 | h9
    · exact List.mem_append_left _ h9
    · rcases List.mem_append.mp h9 with h8 | h8
      · exact List.mem_append_right _ (List.mem_cons_of_mem _ (List.mem_append_left _ h8))
      · exact List.mem_append_right _ (List.mem_cons_of_mem _ (List.mem_append_right _ (List.mem_cons_of_mem _ h8)))
  have otherN : ∀ L, L ∈ P ++ (Mi ++ Po) → ∀ r, r ∈ L → r ≠ p ∧ r ≠ q := fun L hL r hr => by
    have h1 := cnt r
    have h2 := one r
    have h3 : 0 < (P ++ (Mi ++ Po)).flatten.count r := List.count_pos_iff.mpr (List.mem_flatten.mpr ⟨L, hL, hr⟩)
    rw [List.flatten_append, List.flatten_append, List.count_append, List.count_append] at h3
    refine ⟨fun e => ?_, fun e => ?_⟩
    · have h4 : 0 < ((X' ++ X) ++ [p]).count r := List.count_pos_iff.mpr (by rw [e]; exact List.mem_append_right _ (List.mem_singleton.mpr rfl))
      omega
    · have h4 : 0 < ((W' ++ W) ++ [q]).count r := List.count_pos_iff.mpr (by rw [e]; exact List.mem_append_right _ (List.mem_singleton.mpr rfl))
      omega
  let A1 : rn_L := P ++ (((X' ++ X) ++ [p]) ++ ((W' ++ W) ++ [q])) :: (Mi ++ Po)
  have perm1 : A1.flatten.Perm A.flatten := by
    refine List.perm_iff_count.mpr (fun a => ?_)
    rw [cnt]
    show (P ++ (((X' ++ X) ++ [p]) ++ ((W' ++ W) ++ [q])) :: (Mi ++ Po)).flatten.count a = _
    simp only [List.flatten_append, List.flatten_cons, List.count_append]
    omega
  have cirs1 : cirs A1 = cirs A := by
    rw [hAe]
    show cirs (P ++ (((X' ++ X) ++ [p]) ++ ((W' ++ W) ++ [q])) :: (Mi ++ Po)) = _
    rw [cirs_app2, cirs_app2, cirs_ne (by simp), cirs_ne (by simp), cirs_app2, cirs_app2, cirs_ne (by simp)]
  have hpA : p ∈ A.flatten := List.mem_flatten.mpr ⟨_, hLA, hpL⟩
  have hqA : q ∈ A.flatten := List.mem_flatten.mpr ⟨_, hMA, hqM⟩
  have key1 : isoV A1 sg f (T.1, T.2.1, np_exchange T.2.2.1 (gl f p) (gl f q), T.2.2.2) := by
    refine iso_exch h hpA hqA hpq perm1 cirs1 (fun L hL r hr => ?_)
    have hL : L ∈ P ++ (Mi ++ Po) ∨ L = ((X' ++ X) ++ [p]) ++ ((W' ++ W) ++ [q]) := by
      have hL : L ∈ P ++ (((X' ++ X) ++ [p]) ++ ((W' ++ W) ++ [q])) :: (Mi ++ Po) := hL
      rcases List.mem_append.mp hL with h9 | h9
      · exact Or.inl (List.mem_append_left _ h9)
      · rcases List.mem_cons.mp h9 with h8 | h8
        · exact Or.inr h8
        · exact Or.inl (List.mem_append_right _ h8)
    rcases hL with hL | rfl
    · obtain ⟨n1, n2⟩ := otherN L hL r hr
      exact ⟨fun e => absurd e n1, fun e => absurd e n2, fun _ _ => ⟨L, otherL L hL, hr, rfl⟩⟩
    · rcases List.mem_append.mp hr with hr1 | hr1
      · have hs := sc_spl1 nR hr1
        have hrU := (memU r).mp hr1
        refine ⟨fun e => ⟨_, hMA, hqM, ?_⟩, fun e => absurd (List.mem_append_right _ (by rw [e]; exact List.mem_singleton.mpr rfl)) (fun h9 => dis r hr1 h9), fun e1 _ => ⟨_, hLA, hrU, ?_⟩⟩
        · have hs2 := sc_spl2 (p := q) nR (List.mem_append_right _ (List.mem_singleton.mpr rfl))
          rw [if_pos rfl, scW q hqM] at hs2
          rw [e, hs2]
        · rw [if_neg e1, scU r hrU] at hs
          exact hs.symm
      · have hs := sc_spl2 nR hr1
        have hrW := (memW r).mp hr1
        refine ⟨fun e => absurd (List.mem_append_right _ (by rw [e]; exact List.mem_singleton.mpr rfl)) (fun h9 => dis r h9 hr1), fun e => ⟨_, hLA, hpL, ?_⟩, fun _ e2 => ⟨_, hMA, hrW, ?_⟩⟩
        · have hs2 := sc_spl1 (p := p) nR (List.mem_append_right _ (List.mem_singleton.mpr rfl))
          rw [if_pos rfl, scU p hpL] at hs2
          rw [e, hs2]
        · rw [if_neg e2, scW r hrW] at hs
          exact hs.symm
  have hp1 : p.1 = x ∧ q = (x, 1 - p.2) ∧ p.2 < 2 := by
    rcases hx with ⟨rfl, rfl⟩ | ⟨rfl, rfl⟩
    · exact ⟨rfl, rfl, by show 0 < 2; omega⟩
    · exact ⟨rfl, rfl, by show 1 < 2; omega⟩
  obtain ⟨f', k1⟩ := iso_sm0 key1 hv hp1.1 hp1.2.1 hp1.2.2 (perm1.mem_iff.mpr hpA)
  have hq1 : q.1 = x := by rw [hp1.2.1]
  have fo1 : ∀ L, L ∈ P ++ (Mi ++ Po) → L.filter (fun r => decide (r.1 ≠ x)) = L := fun L hL => fil_k (fun r hr => nd_of hF (otherL L hL) hx hr (otherN L hL r hr).1 (otherN L hL r hr).2)
  have inU : ∀ r, r ∈ X' ++ X → r.1 ≠ x := fun r hr => nd_of hF hLA hx ((memU r).mp (List.mem_append_left _ hr)) (fun e => by
    have nn := (List.nodup_append.mp nR).1
    exact (List.nodup_append.mp nn).2.2 r hr p (List.mem_singleton.mpr rfl) e) (fun e => dis r (List.mem_append_left _ hr) (by rw [e]; exact List.mem_append_right _ (List.mem_singleton.mpr rfl)))
  have inW : ∀ r, r ∈ W' ++ W → r.1 ≠ x := fun r hr => nd_of hF hMA hx ((memW r).mp (List.mem_append_left _ hr)) (fun e => dis r (by rw [e]; exact List.mem_append_right _ (List.mem_singleton.mpr rfl)) (List.mem_append_left _ hr)) (fun e => by
    have nn := (List.nodup_append.mp nR).2.1
    exact (List.nodup_append.mp nn).2.2 r hr q (List.mem_singleton.mpr rfl) e)
  have f1 : (((X' ++ X) ++ [p]) ++ ((W' ++ W) ++ [q])).filter (fun r => decide (r.1 ≠ x)) = (X' ++ X) ++ (W' ++ W) := by
    rw [List.filter_append, List.filter_append (l₁ := X' ++ X), List.filter_append (l₁ := W' ++ W), fil_k inU, fil_k inW, List.filter_cons_of_neg (by rw [hp1.1]; simp), List.filter_cons_of_neg (by rw [hq1]; simp), List.filter_nil, List.append_nil, List.append_nil]
  have fP : P.map (List.filter (fun r => decide (r.1 ≠ x))) = P := by
    conv => rhs; rw [← List.map_id P]
    exact List.map_congr_left (fun L hL => fo1 L (List.mem_append_left _ hL))
  have fPo : (Mi ++ Po).map (List.filter (fun r => decide (r.1 ≠ x))) = Mi ++ Po := by
    conv => rhs; rw [← List.map_id (Mi ++ Po)]
    exact List.map_congr_left (fun L hL => fo1 L (List.mem_append_right _ hL))
  have eA1 : A1.map (List.filter (fun r => decide (r.1 ≠ x))) = P ++ ((X' ++ X) ++ (W' ++ W)) :: (Mi ++ Po) := by
    show (P ++ (((X' ++ X) ++ [p]) ++ ((W' ++ W) ++ [q])) :: (Mi ++ Po)).map _ = _
    rw [List.map_append, List.map_cons, f1, fP, fPo]
  rw [eA1] at k1
  have eZ : (X' ++ X) ++ (W' ++ W) = X' ++ ((X ++ W') ++ W) := by simp
  rw [eZ] at k1
  refine ⟨f', isoV_lists k1 ?_ ?_ (fun L hL r hr => ?_)⟩
  · refine List.perm_iff_count.mpr (fun a => ?_)
    simp only [List.flatten_append, List.flatten_cons, List.count_append]
    omega
  · rw [cirs_app2, cirs_app2, cirs_cons (((X ++ W') ++ W) ++ X'), cirs_cons (X' ++ ((X ++ W') ++ W))]
    have : (((X ++ W') ++ W) ++ X' = []) ↔ (X' ++ ((X ++ W') ++ W) = []) := by
      rw [List.append_eq_nil_iff (p := (X ++ W') ++ W), List.append_eq_nil_iff (p := X')]
      exact And.comm
    simp only [this]
  · rcases List.mem_append.mp hL with h9 | h9
    · exact ⟨L, List.mem_append_left _ h9, hr, rfl⟩
    · rcases List.mem_cons.mp h9 with h7 | h7
      · have nZX : (X' ++ ((X ++ W') ++ W)).Nodup := by
          rw [← eZ]
          have := nR.filter (fun r => decide (r.1 ≠ x))
          rw [f1] at this
          exact this
        have hrZ : r ∈ X' ++ ((X ++ W') ++ W) := by
          rw [h7] at hr
          rcases List.mem_append.mp hr with h6 | h6
          · exact List.mem_append_right _ h6
          · exact List.mem_append_left _ h6
        refine ⟨_, List.mem_append_right _ List.mem_cons_self, hrZ, ?_⟩
        rw [h7]
        exact sc_rot nZX hrZ
      · exact ⟨L, List.mem_append_right _ (List.mem_cons_of_mem _ h7), hr, rfl⟩
theorem seg_app {a b d : Nat} (h1 : a ≤ b) (h2 : b ≤ d) : seg a d = seg a b ++ seg b d := by
  obtain ⟨k, rfl⟩ : ∃ k, d = b + k := ⟨d - b, by omega⟩
  induction k with
  | zero => rw [Nat.add_zero, seg_0, List.append_nil]
  | succ k ih =>
    rw [show b + (k + 1) = (b + k) + 1 by omega, seg_s (show a ≤ b + k by omega), seg_s (show b ≤ b + k by omega), ih (by omega), List.append_assoc]
theorem seg_cons {a d : Nat} (h : a < d) : seg a d = a :: seg (a + 1) d := by
  rw [seg_app (show a ≤ a + 1 by omega) h, seg_s (Nat.le_refl a), seg_0]
  rfl
theorem cps_app {a b d : Nat} (h1 : a ≤ b) (h2 : b ≤ d) : cps A a d = cps A a b ++ cps A b d := by
  obtain ⟨k, rfl⟩ : ∃ k, d = b + k := ⟨d - b, by omega⟩
  induction k with
  | zero => rw [Nat.add_zero, cps_0, List.append_nil]
  | succ k ih =>
    rw [show b + (k + 1) = (b + k) + 1 by omega, cps_s (show a ≤ b + k by omega), cps_s (show b ≤ b + k by omega), ih (by omega), List.append_assoc]
theorem cps_cons {a d : Nat} (h : a < d) : cps A a d = seg (rn_b A a) (rn_b A (a + 1)) :: cps A (a + 1) d := by
  rw [cps_app (show a ≤ a + 1 by omega) h, cps_s (Nat.le_refl a), cps_0]
  rfl
theorem cmp_seg {c : Nat} (hc : c < A.length) : (seg (rn_b A c) (rn_b A (c + 1))).map (vAt A) = A.getD c [] := by
  have hl := gD_len hc
  apply List.ext_getElem?
  intro i
  rw [List.getElem?_map]
  by_cases h : i < rn_b A (c + 1) - rn_b A c
  · have h2 := cmp_at hc (show rn_b A c ≤ rn_b A c + i by omega) (by omega)
    rw [show rn_b A c + i - rn_b A c = i by omega] at h2
    unfold seg
    rw [List.getElem?_map, List.getElem?_range h]
    exact h2.symm
  · rw [List.getElem?_eq_none (l := A.getD c []) (by omega), List.getElem?_eq_none (l := seg (rn_b A c) (rn_b A (c + 1))) (by rw [seg_len]; omega)]
    rfl
theorem cps_all : (cps A 0 A.length).map (List.map (vAt A)) = A := by
  apply List.ext_getElem?
  intro i
  by_cases h : i < A.length
  · unfold cps
    rw [List.getElem?_map, List.getElem?_map, List.getElem?_range (by omega)]
    show some ((seg (rn_b A (0 + i)) (rn_b A (0 + i + 1))).map (vAt A)) = _
    rw [Nat.zero_add, cmp_seg h, List.getElem?_eq_getElem h, List.getD_eq_getElem?_getD, List.getElem?_eq_getElem h]
    rfl
  · rw [List.getElem?_eq_none (by rw [List.length_map, cps_n]; omega), List.getElem?_eq_none (by omega)]
/-- the components that smoothing leaves -/
def smV (A : rn_L) (v w : Nat) : rn_L := (smC A (rn_c A v) v w (rn_c A w)).map (List.map (vAt A))
theorem iso_sm {v w : Nat} (h : isoV A sg f T) (hvw : v < w) (hw : w < A.flatten.length) (hx : vAt A v = (crs A v, 0) ∧ vAt A w = (crs A v, 1) ∨ vAt A v = (crs A v, 1) ∧ vAt A w = (crs A v, 0)) : ∃ f', isoV (smV A v w) sg f' (ntSm T (f (crs A v))) := by
  obtain ⟨c1, c2, c3⟩ := rn_c_in A v (by omega)
  obtain ⟨j1, j2, j3⟩ := rn_c_in A w hw
  unfold smV
  generalize rn_c A v = c at c1 c2 c3
  generalize rn_c A w = J at j1 j2 j3
  have eA : A = ((cps A 0 c).map (List.map (vAt A))) ++ ((seg (rn_b A c) (rn_b A (c + 1))).map (vAt A)) :: ((cps A (c + 1) A.length).map (List.map (vAt A))) := by
    conv => lhs; rw [← cps_all (A := A)]
    rw [cps_app (Nat.zero_le c) (show c ≤ A.length by omega), cps_cons c1, List.map_append, List.map_cons]
  have eL : seg (rn_b A c) (rn_b A (c + 1)) = seg (rn_b A c) v ++ v :: seg (v + 1) (rn_b A (c + 1)) := by
    rw [seg_app c2 (Nat.le_of_lt c3), seg_cons c3]
  unfold smC
  by_cases hone : w < rn_b A (c + 1)
  · rw [if_pos hone]
    have eL2 : seg (v + 1) (rn_b A (c + 1)) = seg (v + 1) w ++ w :: seg (w + 1) (rn_b A (c + 1)) := by
      rw [seg_app (show v + 1 ≤ w by omega) (Nat.le_of_lt hone), seg_cons hone]
    rw [eL, eL2, List.map_append, List.map_cons, List.map_append, List.map_cons] at eA
    obtain ⟨f', k⟩ := iso_sm1 eA h hx
    refine ⟨f', ?_⟩
    rw [List.map_append, List.map_append, List.map_append, List.map_cons, List.map_cons, List.map_nil, List.map_append]
    rw [show ∀ (a : rn_L) (b : List vT) (d e : rn_L), a ++ [b] ++ d ++ e = a ++ b :: d ++ e from fun a b d e => by simp]
    exact k
  · rw [if_neg hone]
    have hcJ : c < J := by
      rcases Nat.lt_or_ge c J with h9 | h9
      · exact h9
      · have := rn_b_mono2 (A := A) (show J + 1 ≤ c + 1 by omega)
        omega
    have eP : cps A (c + 1) A.length = cps A (c + 1) J ++ seg (rn_b A J) (rn_b A (J + 1)) :: cps A (J + 1) A.length := by
      rw [cps_app (show c + 1 ≤ J by omega) (show J ≤ A.length by omega), cps_cons j1]
    have eM : seg (rn_b A J) (rn_b A (J + 1)) = seg (rn_b A J) w ++ w :: seg (w + 1) (rn_b A (J + 1)) := by
      rw [seg_app j2 (Nat.le_of_lt j3), seg_cons j3]
    rw [eL, eP, eM, List.map_append, List.map_cons, List.map_append, List.map_cons, List.map_append, List.map_cons] at eA
    obtain ⟨f', k⟩ := iso_sm2 eA h hx
    refine ⟨f', ?_⟩
    rw [List.map_append, List.map_append, List.map_append, List.map_cons, List.map_nil, List.map_append, List.map_append, List.map_append]
    rw [show ∀ (a : rn_L) (b : List vT) (d e : rn_L), a ++ [b] ++ d ++ e = a ++ b :: (d ++ e) from fun a b d e => by simp]
    exact k
end ISN
end
section
/-! 99zzzzzzzzzk.xsm2 -/
/-! exact calls: smooth, of the reference and of the class -/
theorem iso_rge {A : rn_L} {sg : Nat → Bool} {f : Nat → Nat} {T : ow_NT} (hi : isoN A sg f T) (hv : vn T.1 T.2.2.1) : np_rg T.1 T.2.2.1 + T.2.1 = A.length := by
  have h0 := iso_rg hi
  have h2 := ne_cnt A
  have h3 : cirs A = T.2.1 := hi.2.2.2.2.2.2.2
  have h12 := hi.2.2.1
  have stay : ∀ i v, v < A.flatten.length → ∃ w, w < A.flatten.length ∧ rn_c A w = rn_c A v ∧ it T.2.2.1.1 i (lbv A f v) = lbv A f w := by
    intro i
    induction i with
    | zero => exact fun v hv9 => ⟨v, hv9, rfl, rfl⟩
    | succ i ih =>
      intro v hv9
      obtain ⟨w, w1, w2, w3⟩ := ih v hv9
      refine ⟨rn_nx A w, rn_nx_lt w1, (c_nx w1).trans w2, ?_⟩
      show T.2.2.1.1 (it T.2.2.1.1 i (lbv A f v)) = _
      rw [w3]
      exact hi.2.2.2.2.2.1 w w1
  have ex : ∀ k, k < A.length → neB A k = true → ∃ w, w < 2 * T.1 ∧ lst T.2.2.1.1 w 24 = true ∧ ∃ u, u < A.flatten.length ∧ rn_c A u = k ∧ lbv A f u = w := by
    intro k hk hn
    have hb := rnb_s hk
    have hl : 0 < (A[k]).length := by
      unfold neB at hn
      rw [List.getElem?_eq_getElem hk] at hn
      have hn : (!(A[k]).isEmpty) = true := hn
      cases e : A[k] with
      | nil =>
        rw [e] at hn
        exact absurd hn (by decide)
      | cons a X => exact Nat.succ_pos _
    have h9 := rn_b_le A (k + 1)
    have hlt : rn_b A k < A.flatten.length := by omega
    have hc := rn_c_of A k (rn_b A k) (Nat.le_refl _) (by omega)
    obtain ⟨w, w1, ⟨i, w2⟩, w3⟩ := sr_least (vD_vn.mpr hv) (fun j (hj : j < 2 * T.1) => by omega) (lbv_lt hi hlt)
    obtain ⟨u, u1, u2, u3⟩ := stay i _ hlt
    exact ⟨w, w1, w3, u, u1, u2.trans hc, by rw [← u3]; exact w2⟩
  have ch : ∀ k, ∃ w, k < A.length → neB A k = true → w < 2 * T.1 ∧ lst T.2.2.1.1 w 24 = true ∧ ∃ u, u < A.flatten.length ∧ rn_c A u = k ∧ lbv A f u = w := fun k => by
    by_cases e1 : k < A.length
    · by_cases e2 : neB A k = true
      · obtain ⟨w, hw⟩ := ex k e1 e2
        exact ⟨w, fun _ _ => hw⟩
      · exact ⟨0, fun _ h9 => absurd h9 e2⟩
    · exact ⟨0, fun h9 => absurd h9 e1⟩
  have h1 : cntB (neB A) A.length ≤ np_rg T.1 T.2.2.1 := by
    refine cntB_inj A.length (neB A) (fun k => lst T.2.2.1.1 k 24) (fun k => Classical.choose (ch k)) (fun k hk hn => ?_) (fun k j hk hj qk qj e => ?_)
    · obtain ⟨a1, a2, -⟩ := Classical.choose_spec (ch k) hk hn
      exact ⟨a1, a2⟩
    · obtain ⟨-, -, u, u1, u2, u3⟩ := Classical.choose_spec (ch k) hk qk
      obtain ⟨-, -, t, t1, t2, t3⟩ := Classical.choose_spec (ch j) hj qj
      have e : Classical.choose (ch k) = Classical.choose (ch j) := e
      have := lbv_inj hi u1 t1 (by rw [u3, t3, e])
      rw [← u2, ← t2, this]
  omega
/-- the two visits of crossing k, in their order -/
def sm2 (A : rn_L) (k v w : Nat) : Prop := v < w ∧ w < A.flatten.length ∧ crs A v = k ∧ (vAt A v = (k, 0) ∧ vAt A w = (k, 1) ∨ vAt A v = (k, 1) ∧ vAt A w = (k, 0))
theorem sm2_ex {A : rn_L} (hF : wkF A.flatten) {v : Nat} (hv : v < A.flatten.length) : ∃ a b, sm2 A (crs A v) a b := by
  obtain ⟨v0, v1, a1, b1, a2, b2, -, -, -⟩ := vis_two hF hv
  have c0 : crs A v0 = crs A v := by show (vAt A v0).1 = _; rw [a2]
  have c1 : crs A v1 = crs A v := by show (vAt A v1).1 = _; rw [b2]
  rcases Nat.lt_trichotomy v0 v1 with h | h | h
  · exact ⟨v0, v1, h, b1, c0, Or.inl ⟨a2, b2⟩⟩
  · rw [h, b2] at a2
    exact absurd (Prod.mk.inj a2).2 (by decide)
  · exact ⟨v1, v0, h, a1, c1, Or.inr ⟨b2, a2⟩⟩
theorem sm2_uni {A : rn_L} (hn : A.flatten.Nodup) {k v w v' w' : Nat} (h : sm2 A k v w) (h' : sm2 A k v' w') : v = v' ∧ w = w' := by
  obtain ⟨a1, a2, -, a3⟩ := h
  obtain ⟨b1, b2, -, b3⟩ := h'
  have inj : ∀ {s t : Nat}, s < A.flatten.length → t < A.flatten.length → vAt A s = vAt A t → s = t := fun hs ht e => nodup_at hn (vAt_of hs) (by rw [vAt_of ht, e])
  rcases a3 with ⟨p1, p2⟩ | ⟨p1, p2⟩ <;> rcases b3 with ⟨q1, q2⟩ | ⟨q1, q2⟩
  · exact ⟨inj (by omega) (by omega) (p1.trans q1.symm), inj a2 b2 (p2.trans q2.symm)⟩
  · have e1 := inj (s := v) (t := w') (by omega) b2 (p1.trans q2.symm)
    have e2 := inj (s := w) (t := v') a2 (by omega) (p2.trans q1.symm)
    omega
  · have e1 := inj (s := v) (t := w') (by omega) b2 (p1.trans q2.symm)
    have e2 := inj (s := w) (t := v') a2 (by omega) (p2.trans q1.symm)
    omega
  · exact ⟨inj (by omega) (by omega) (p1.trans q1.symm), inj a2 b2 (p2.trans q2.symm)⟩
theorem sm_perm {A : rn_L} {v w : Nat} (hvw : v < w) (hw : w < A.flatten.length) : A.flatten.Perm (vAt A v :: vAt A w :: (smV A v w).flatten) := by
  obtain ⟨c1, c2, c3⟩ := rn_c_in A v (by omega)
  obtain ⟨j1, j2, j3⟩ := rn_c_in A w hw
  unfold smV
  generalize rn_c A v = c at c1 c2 c3
  generalize rn_c A w = J at j1 j2 j3
  have eA : A = ((cps A 0 c).map (List.map (vAt A))) ++ ((seg (rn_b A c) (rn_b A (c + 1))).map (vAt A)) :: ((cps A (c + 1) A.length).map (List.map (vAt A))) := by
    conv => lhs; rw [← cps_all (A := A)]
    rw [cps_app (Nat.zero_le c) (show c ≤ A.length by omega), cps_cons c1, List.map_append, List.map_cons]
  have eL : seg (rn_b A c) (rn_b A (c + 1)) = seg (rn_b A c) v ++ v :: seg (v + 1) (rn_b A (c + 1)) := by
    rw [seg_app c2 (Nat.le_of_lt c3), seg_cons c3]
  have fin : ∀ (B D : rn_L), A = B → (∀ a, B.flatten.count a = (vAt A v :: vAt A w :: D.flatten).count a) → A.flatten.Perm (vAt A v :: vAt A w :: D.flatten) := fun B D e h => List.perm_iff_count.mpr (fun a => by
    have h9 := h a
    rw [← e] at h9
    exact h9)
  unfold smC
  by_cases hone : w < rn_b A (c + 1)
  · rw [if_pos hone]
    have eL2 : seg (v + 1) (rn_b A (c + 1)) = seg (v + 1) w ++ w :: seg (w + 1) (rn_b A (c + 1)) := by
      rw [seg_app (show v + 1 ≤ w by omega) (Nat.le_of_lt hone), seg_cons hone]
    rw [eL, eL2] at eA
    refine fin _ _ eA (fun a => ?_)
    simp only [List.map_append, List.map_cons, List.map_nil, List.flatten_append, List.flatten_cons, List.flatten_nil, List.count_append, List.count_cons, List.count_nil]
    omega
  · rw [if_neg hone]
    have hcJ : c < J := by
      rcases Nat.lt_or_ge c J with h9 | h9
      · exact h9
      · have := rn_b_mono2 (A := A) (show J + 1 ≤ c + 1 by omega)
        omega
    have eP : cps A (c + 1) A.length = cps A (c + 1) J ++ seg (rn_b A J) (rn_b A (J + 1)) :: cps A (J + 1) A.length := by
      rw [cps_app (show c + 1 ≤ J by omega) (show J ≤ A.length by omega), cps_cons j1]
    have eM : seg (rn_b A J) (rn_b A (J + 1)) = seg (rn_b A J) w ++ w :: seg (w + 1) (rn_b A (J + 1)) := by
      rw [seg_app j2 (Nat.le_of_lt j3), seg_cons j3]
    rw [eL, eP, eM] at eA
    refine fin _ _ eA (fun a => ?_)
    simp only [List.map_append, List.map_cons, List.map_nil, List.flatten_append, List.flatten_cons, List.flatten_nil, List.count_append, List.count_cons, List.count_nil]
    omega
theorem sm_wk {A : rn_L} {k v w : Nat} (hF : wkF A.flatten) (h : sm2 A k v w) : wkF (smV A v w).flatten ∧ (smV A v w).flatten.length + 2 = A.flatten.length ∧ ∀ p, p ∈ (smV A v w).flatten → p ∈ A.flatten := by
  obtain ⟨h1, h2, -, h3⟩ := h
  have pm := sm_perm h1 h2
  have nn := pm.nodup_iff.mp hF.1
  obtain ⟨n1, n2⟩ := List.nodup_cons.mp nn
  obtain ⟨n3, n4⟩ := List.nodup_cons.mp n2
  have up : ∀ p, p ∈ (smV A v w).flatten → p ∈ A.flatten := fun p hp => pm.mem_iff.mpr (List.mem_cons_of_mem _ (List.mem_cons_of_mem _ hp))
  refine ⟨⟨n4, fun p hp => ?_⟩, by rw [pm.length_eq]; rfl, up⟩
  obtain ⟨a1, a2, a3⟩ := hF.2 p (up p hp)
  refine ⟨a1, a2, ?_⟩
  have ne1 : p ≠ vAt A v := fun e => n1 (List.mem_cons_of_mem _ (by rw [← e]; exact hp))
  have ne2 : p ≠ vAt A w := fun e => n3 (by rw [← e]; exact hp)
  rcases List.mem_cons.mp (pm.mem_iff.mp a3) with e | h9
  · exfalso
    rcases h3 with ⟨p1, p2⟩ | ⟨p1, p2⟩
    · rw [p1] at e
      obtain ⟨e1, e2⟩ := Prod.mk.inj e
      exact ne2 (by rw [p2]; exact Prod.ext e1 (by show p.2 = 1; omega))
    · rw [p1] at e
      obtain ⟨e1, e2⟩ := Prod.mk.inj e
      exact ne2 (by rw [p2]; exact Prod.ext e1 (by show p.2 = 0; omega))
  · rcases List.mem_cons.mp h9 with e | h9
    · exfalso
      rcases h3 with ⟨p1, p2⟩ | ⟨p1, p2⟩
      · rw [p2] at e
        obtain ⟨e1, e2⟩ := Prod.mk.inj e
        exact ne1 (by rw [p1]; exact Prod.ext e1 (by show p.2 = 0; omega))
      · rw [p2] at e
        obtain ⟨e1, e2⟩ := Prod.mk.inj e
        exact ne1 (by rw [p1]; exact Prod.ext e1 (by show p.2 = 1; omega))
    · exact h9
section XSQ
variable {X : (Nat → Nat → Int32) → Prop} {z : ow_MS} {St : plT}
theorem xq_smooth {d x : Int32} (h : gI X z) (hR : relR z St) : Te (fun K => qe_X13_smooth K d x z) (fun r => rFl X z 1 r ∧ (∀ e, e < 40 → d = nI e → St e = none) ∨ ∃ e A sg, e < 40 ∧ d = nI e ∧ St e = some (A, sg) ∧ (rFl X z 1 r ∧ (∀ k, 2 * k < A.flatten.length → x ≠ nI k) ∨ ∃ k v w, 2 * k < A.flatten.length ∧ x = nI k ∧ sm2 A k v w ∧ (rFl X z 2 r ∧ 6 < (smV A v w).length ∨ (smV A v w).length ≤ 6 ∧ (rFl X z 3 r ∧ allF St ∨ ∃ e, lstF St e ∧ rKp X z e (smV A v w) sg r)))) := by
  let Q : Int32 × ow_MS → Prop := fun r => rFl X z 1 r ∧ (∀ e, e < 40 → d = nI e → St e = none) ∨ ∃ e A sg, e < 40 ∧ d = nI e ∧ St e = some (A, sg) ∧ (rFl X z 1 r ∧ (∀ k, 2 * k < A.flatten.length → x ≠ nI k) ∨ ∃ k v w, 2 * k < A.flatten.length ∧ x = nI k ∧ sm2 A k v w ∧ (rFl X z 2 r ∧ 6 < (smV A v w).length ∨ (smV A v w).length ≤ 6 ∧ (rFl X z 3 r ∧ allF St ∨ ∃ e, lstF St e ∧ rKp X z e (smV A v w) sg r)))
  have h1 := gI_1 (c := 0) h
  have hR1 := relR_1 (c := 0) hR
  refine e_X13_smooth ?_
  refine u_X13_smooth_0 ?_; unfold qm_X13_smooth_0
  refine w_wrF (w_hasX hR1 (fun h0 => w_ifT rfl (w_mono (w_failX h1 fr_1) (fun r hr => Or.inl ⟨hr, h0⟩))) (fun e A sg he hx hs hv hne => w_ifF (by decide) ?_))
  subst hx
  refine w_cs0 (to_open pn1 he hv) (fun z2 ⟨o1, f1⟩ => ?_)
  have h2 : gI X z2 := gI_net pn1 f1 (fun g hg => by omega) h1
  have hl := o1.len
  have hC := o1.2.2.2
  have hd := wkF_ok o1.wk
  have f02 : fr rPs z z2 := fr_tr fr_1 (fr_mono (fun g hg => Or.inr (by unfold rSc; omega)) f1)
  have hR2 : relR z2 St := relR_fr f1 (by omega) hR1
  have z21 : z2.1 1 = 0 := by rw [(f1 1 (by omega)).1]; exact po_usF_at
  have fin : ∀ {r}, (rFl X z 1 r ∧ (∀ k, 2 * k < A.flatten.length → x ≠ nI k) ∨ ∃ k v w, 2 * k < A.flatten.length ∧ x = nI k ∧ sm2 A k v w ∧ (rFl X z 2 r ∧ 6 < (smV A v w).length ∨ (smV A v w).length ≤ 6 ∧ (rFl X z 3 r ∧ allF St ∨ ∃ e, lstF St e ∧ rKp X z e (smV A v w) sg r))) → Q r := fun hr => Or.inr ⟨e, A, sg, he, rfl, hs, hr⟩
  have c1 : (∀ k, 2 * k < A.flatten.length → x ≠ nI k) → Tt (fun K k => q_X13_smooth K k 1 (nI e) x 0 z2) Q := by
    intro hno
    refine u_X13_smooth_1 ?_; unfold qm_X13_smooth_1
    exact w_mono (w_failX (k := 1) h2 f02) (fun r hr => fin (Or.inl ⟨hr, hno⟩))
  refine w_if (fun h9 => c1 (fun k hk ek => ?_)) (fun h0 => w_rdF o1.1.V (w_nzI (by decide) ?_))
  · rw [ek] at h9
    exact absurd h9 (nI_pos (by omega))
  rw [show nI A.flatten.length / 2 = nI (A.flatten.length / 2) from pk_div (d := 2) (by omega) (by omega) (by omega)]
  obtain ⟨c, hok, hc12⟩ := o1.2.2.1
  have hVc := okF_len hok
  refine w_if (fun h9 => ?_) (fun h9 => c1 (fun k hk ek => ?_))
  rotate_left
  · rw [ek] at h9
    exact h9 ((nI_ltI (by omega) (by omega)).mpr (by omega))
  obtain ⟨y, hy31, rfl⟩ := nI_of h0
  have hy : y < A.flatten.length / 2 := (nI_ltI hy31 (by omega)).mp h9
  obtain ⟨t0, ht0, ht0e⟩ := ok_has hok (x := y) (by omega)
  obtain ⟨t, w, hsm⟩ := sm2_ex o1.wk ht0
  rw [ht0e] at hsm
  have ht1 : t < A.flatten.length := by have := hsm.1; have := hsm.2.1; omega
  have ht2 : crs A t = y := hsm.2.2.1
  have hml := mtf_lt hd ht1
  have hmw : mtf A t = w := by
    obtain ⟨v0, v1, a1, b1, a2, b2, m0, m1, all⟩ := vis_two o1.wk ht1
    rw [ht2] at a2 b2
    have inj : ∀ {s t : Nat}, s < A.flatten.length → t < A.flatten.length → vAt A s = vAt A t → s = t := fun hs ht e => nodup_at o1.wk.1 (vAt_of hs) (by rw [vAt_of ht, e])
    rcases hsm.2.2.2 with ⟨p1, p2⟩ | ⟨p1, p2⟩
    · rw [inj ht1 a1 (p1.trans a2.symm), m0]
      exact inj b1 hsm.2.1 (b2.trans p2.symm)
    · rw [inj ht1 b1 (p1.trans b2.symm), m1]
      exact inj a1 hsm.2.1 (a2.trans p2.symm)
  have hfst : ∀ j, j < t → crs A j ≠ y := fun j hj e9 => by
    obtain ⟨v0, v1, a1, b1, a2, b2, m0, m1, all⟩ := vis_two o1.wk ht1
    have hj1 := all j (by omega) (e9.trans ht2.symm)
    have ht3 := all t ht1 rfl
    have hw3 := all w hsm.2.1 (by
      show (vAt A w).1 = _
      rw [ht2]
      rcases hsm.2.2.2 with ⟨-, p2⟩ | ⟨-, p2⟩
      · rw [p2]
      · rw [p2])
    have := hsm.1
    omega
  have find : ∀ (k v : Nat), v + k = t → Tt (fun K i => q_X13_smooth K i 2 (nI e) (nI y) (nI v) z2) Q := by
    intro k
    induction k with
    | zero =>
      intro v hv9
      have hvt : v = t := by omega
      subst hvt
      obtain ⟨g1, g2, g3⟩ := rn_c_in A v ht1
      refine u_X13_smooth_2 ?_; unfold qm_X13_smooth_2
      refine w_rdI (pl4 pn1) rfl (by omega) (lk_cu o1.1 ht1).1 (w_ifT (by rw [ht2]) (w_rdI (pl8 pn1) rfl (by omega) (lk_c o1.1 ht1) (w_rdI (pl7 pn1) rfl (by omega) (lk_m hd o1.1 ht1) (w_cs0 (xr_smoothIn pn1 pn3 (by omega) hl (by omega) o1.1.1 g1 g2 g3 (by rw [hmw]; exact hsm.1) hml) (fun z3 ⟨b3, s3, f3⟩ => ?_)))))
      rw [hmw] at b3
      have b3 : rn_At z3 3000 (smV A v w) [] := b3
      have h3 : gI X z3 := gI_net pn3 f3 (fun g hg => by omega) h2
      have f03 : fr rPs z z3 := fr_tr f02 (fr_mono (fun g hg => Or.inr (by unfold rSc; omega)) f3)
      have hR3 : relR z3 St := relR_fr f3 (by omega) hR2
      obtain ⟨k1, k2, k3⟩ := sm_wk o1.wk hsm
      have hsl : (smV A v w).length ≤ 7 := by
        unfold smV
        rw [List.length_map]
        unfold smC
        split
        · simp only [List.length_append, cps_n, List.length_cons, List.length_nil]
          omega
        · simp only [List.length_append, cps_n, List.length_cons, List.length_nil]
          obtain ⟨j1, j2, j3⟩ := rn_c_in A w hsm.2.1
          rename_i hone
          have hcJ : rn_c A v < rn_c A w := by
            rcases Nat.lt_or_ge (rn_c A v) (rn_c A w) with h9 | h9
            · exact h9
            · have := rn_b_mono2 (A := A) (show rn_c A w + 1 ≤ rn_c A v + 1 by omega)
              omega
          omega
      have fin2 : ∀ {r}, (rFl X z 2 r ∧ 6 < (smV A v w).length ∨ (smV A v w).length ≤ 6 ∧ (rFl X z 3 r ∧ allF St ∨ ∃ e, lstF St e ∧ rKp X z e (smV A v w) sg r)) → Q r := fun hr => fin (Or.inr ⟨y, v, w, by omega, rfl, hsm, hr⟩)
      refine w_rdF b3.2.1 (w_le (b := 6) (by omega) (by omega) (fun h8 => w_freeX hR3 (fun hall => w_ifT rfl (w_mono (w_failX (k := 3) h3 f03) (fun r hr => fin2 (Or.inr ⟨h8, Or.inl ⟨hr, hall⟩⟩)))) (fun f hfr => w_ifF (rn_neg1 (by have := hfr.1; omega)) (w_mono (w_keepX (z0 := z) (sg2 := sg) h3 hR3 hfr (by rw [(f3 1 (by omega)).1]; exact z21) f03 b3 (fun p hp => ?_) k1 (by omega) h8) (fun r hr => fin2 (Or.inr ⟨h8, Or.inr ⟨f, hfr, hr⟩⟩))))) (fun h8 => w_mono (w_failX (k := 2) h3 f03) (fun r hr => fin2 (Or.inl ⟨hr, by omega⟩))))
      show z3.2.1 3006 p.1 = _
      rw [s3 _ ((k1.2 p hp).1)]
      exact o1.2.1 p (k3 p hp)
    | succ k ih =>
      intro v hv9
      have hvl : v < A.flatten.length := by omega
      have hcv := hfst v (by omega)
      have hx12 := (o1.cx hvl).1
      refine u_X13_smooth_2 ?_; unfold qm_X13_smooth_2
      refine w_rdI (pl4 pn1) rfl (by omega) (lk_cu o1.1 hvl).1 (w_ifF (fun e9 => hcv ((nI_eq (by omega) (by omega)).mp e9)) ?_)
      rw [nI_1]
      exact ih (v + 1) (by omega)
  exact find t 0 (by omega)
end XSQ
section XSC
variable {vl : Nat → Nat} {y : ow_MS} {St : plT} {x x' : Int32}
theorem xc_smooth (hN : gN y) (hC : relC y St) (hS : okS St) : Te (fun K => ce_X11_smooth vl K 0 x x' y) (fun r => r.1 = 1 ∧ gN r.2.2 ∧ fr uP y r.2.2 ∧ relC r.2.2 St ∧ (∀ d, d < 40 → x = nI d → St d = none) ∨ ∃ d A sg, d < 40 ∧ x = nI d ∧ St d = some (A, sg) ∧ (r.1 = 1 ∧ gN r.2.2 ∧ fr uP y r.2.2 ∧ relC r.2.2 St ∧ (∀ k, 2 * k < A.flatten.length → x' ≠ nI k) ∨ ∃ k v w, 2 * k < A.flatten.length ∧ x' = nI k ∧ sm2 A k v w ∧ (r.1 = 4 ∧ gN r.2.2 ∧ fr uP y r.2.2 ∧ relC r.2.2 St ∧ 6 < (smV A v w).length ∨ (smV A v w).length ≤ 6 ∧ (r.1 = 3 ∧ gN r.2.2 ∧ fr uP y r.2.2 ∧ relC r.2.2 St ∧ allF St ∨ r.1 = 0 ∧ ∃ e, lstF St e ∧ cKp y e (smV A v w) sg r.2)))) := by
  refine e_X11_smooth ?_; unfold cm_X11_smooth_0
  refine w_tc0 (xc_need hN.1 hC hS) ?_ ?_
  · rintro y1 ⟨h1, rfl⟩
    rcases h1 with h1 | ⟨-, d, A, sg, c, hd, rfl, hSt, hs, hA, hne, hpl⟩
    · exact absurd (show (0 : Nat) = 1 from h1.1) (by decide)
    · refine w_cs0 (xc_ld hN hd hs hA hpl) ?_
      rintro y3 ⟨hN3, f3, T, hT, hT1, hV, hpm, hTp⟩
      have f3u : fr uP y1 y3 := fr_mono (fun g hg => by unfold cL at hg; unfold uP; omega) f3
      have hC3 : relC y3 St := relC_fr f3 (fun q hq h9 => by unfold cW at hq; unfold cL at h9; omega) hC
      have hv := hT.2.2.1
      have h12 := hv.2.1
      have hlen := hV.1.2.1
      refine w_tc0 (tc_needCrossing hT.1.1 hv.2.1) ?_ ?_
      · rintro y4 ⟨h4, rfl⟩
        rcases h4 with ⟨-, i, hi, rfl⟩ | h4
        · obtain ⟨t0, ht0, ht0e⟩ := ok_has hA.1 (x := i) (by omega)
          obtain ⟨v, w, hsm⟩ := sm2_ex hV.1.1 ht0
          rw [ht0e] at hsm
          obtain ⟨f', hV5⟩ := iso_sm hV hsm.1 hsm.2.1 (by rw [hsm.2.2.1]; exact hsm.2.2.2)
          rw [hsm.2.2.1] at hV5
          have hV5 : isoV (smV A v w) sg f' (ntSm T i) := hV5
          have hpm5 : pm1 (ntSm T i) := pm1_rm (T := (T.1, T.2.1, np_exchange T.2.2.1 (2 * i) (2 * i + 1), T.2.2.2)) hpm hi
          have hpl5 := pl_smooth hv.1 h12 hi hTp
          have hv5 : vn (ntSm T i).1 (ntSm T i).2.2.1 := isoV_vn hV5
          have hrg := iso_rge (isoS_iff.mp hV5.1) hv5
          refine w_cs0 (tc_smoothCrossing nH4 hT.1 hv.2.2.1 hi h12) ?_
          rintro y5 ⟨g1, g2⟩
          have g1 : cAt y5 4000 (ntSm T i) := g1
          have hbx : ow_b24 (np_exchange T.2.2.1 (2 * i) (2 * i + 1)) := b24_exchange hv.2.2.1 (by omega) (by omega)
          have hb5 : ow_b24 (ntSm T i).2.2.1 := np_rmS_b24 hbx (by omega)
          have e1 : (ntSm T i).1 = T.1 - 1 := rfl
          generalize ntSm T i = T5 at hV5 hpm5 hpl5 hv5 hrg g1 hb5 e1
          have hc5 : T5.1 ≤ 12 := by omega
          have hsl : (smV A v w).length ≤ 40 := by
            unfold smV
            rw [List.length_map]
            unfold smC
            have := hA.2.2.2.2
            have j1 := (rn_c_in A w hsm.2.1).1
            have j2 := (rn_c_in A v (by have := hsm.1; have := hsm.2.1; omega)).1
            split
            · simp only [List.length_append, cps_n, List.length_cons, List.length_nil]
              omega
            · simp only [List.length_append, cps_n, List.length_cons, List.length_nil]
              omega
          refine w_cs0 (tc_markRings nH4 g1 hb5 hc5) ?_
          rintro y6 ⟨m1, m2, m3⟩
          have hof := np_rings_of (N := T5.2.2.1.1) (c := T5.1) (fun a ha => (hv5 a ha).1) (y5.2.1 (4000 + 5))
          rw [hof.2, rings_cnt hv5 hc5] at m2
          have hy6 : cAt y6 4000 T5 := cAt_fr m3 (fun g hg h9 => by unfold cP at hg; unfold cR at h9; omega) g1
          have hN5 : gN y5 := gN_net nH4 g2 (fun g hg => by unfold cP at hg; omega) ⟨T5, g1, hb5⟩ hN3
          have hN6 : gN y6 := gN_net nH4 m3 (fun g hg => by unfold cR at hg; omega) ⟨T5, hy6, hb5⟩ hN5
          have f6u : fr uP y1 y6 := fr_tr f3u (fr_tr (fr_mono (fun g hg => by unfold cP at hg; unfold uP; omega) g2) (fr_mono (fun g hg => by unfold cR at hg; unfold uP; omega) m3))
          have hC6 : relC y6 St := relC_fr m3 (fun q hq h9 => by unfold cW at hq; unfold cR at h9; omega) (relC_fr g2 (fun q hq h9 => by unfold cW at hq; unfold cP at h9; omega) hC3)
          refine w_rdF m2 (w_rdF hy6.2.1 ?_)
          rw [nI_add, hrg]
          refine w_le (b := 6) (by omega) (by omega) (fun h6 => ?_) (fun h6 => w_some (Or.inr ⟨d, A, sg, hd, rfl, hSt, Or.inr ⟨i, v, w, by omega, rfl, hsm, Or.inl ⟨rfl, hN6, f6u, hC6, by omega⟩⟩⟩))
          refine w_tc1 (xc_free hN6.1 hC6 hS) ?_ ?_
          · rintro u y7 ⟨h7, rfl⟩
            rcases h7 with h7 | ⟨-, e, rfl, hl⟩
            · exact absurd (show (0 : Nat) = 3 from h7.1) (by decide)
            · have hnv : nv T5 := ⟨hv5, hc5, hb5, by omega⟩
              refine w_cs1 (tc_keep hN6 hl.1 hy6 hnv) ?_
              rintro r y8 ⟨q0, q1, q2, ⟨Cs, os, q3, q4⟩, q5, -⟩
              exact w_some (Or.inr ⟨d, A, sg, hd, rfl, hSt, Or.inr ⟨i, v, w, by omega, rfl, hsm, Or.inr ⟨h6, Or.inr ⟨rfl, e, hl, q0, q1, fr_tr f6u q2, ⟨T5, f', Cs, os, hnv, hpm5, hV5, hpl5, q3, q4⟩, fun d' C' h1 h2 h3 => q5 d' C' h1 h2 (slC_fr m3 (fun q hq h9 => by unfold cW at hq; unfold cR at h9; omega) (slC_fr g2 (fun q hq h9 => by unfold cW at hq; unfold cP at h9; omega) (slC_fr f3 (fun q hq h9 => by unfold cW at hq; unfold cL at h9; omega) h3)))⟩⟩⟩⟩)
          · rintro a u y7 ha ⟨h7, rfl⟩
            rcases h7 with h7 | h7
            · exact w_some (Or.inr ⟨d, A, sg, hd, rfl, hSt, Or.inr ⟨i, v, w, by omega, rfl, hsm, Or.inr ⟨h6, Or.inl ⟨h7.1, hN6, f6u, hC6, h7.2⟩⟩⟩⟩)
            · exact absurd h7.1 ha
        · exact absurd (show (0 : Nat) = 1 from h4.1) (by decide)
      · rintro a y4 ha ⟨h4, rfl⟩
        rcases h4 with h4 | h4
        · exact absurd h4.1 ha
        · exact w_some (Or.inr ⟨d, A, sg, hd, rfl, hSt, Or.inl ⟨h4.1, hN3, f3u, hC3, fun k hk => h4.2 k (by omega)⟩⟩)
  · rintro a y1 ha ⟨h1, rfl⟩
    rcases h1 with h1 | h1
    · exact w_some (Or.inl ⟨h1.1, hN, fr_rf, hC, h1.2⟩)
    · exact absurd h1.1 ha
end XSC
end
