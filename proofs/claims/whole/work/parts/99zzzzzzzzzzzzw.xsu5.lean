/-! summands: waitsFor, exactly -/
def wfB (A : rn_L) (σ : Nat → Bool) (c i : Nat) : List Nat := (List.range i).filter (fun j => decide (rn_b A c ≤ j) && σ j)
/-- the rings of the visits that σ takes, by flat numbers -/
def wfI (A : rn_L) (σ : Nat → Bool) : Nat → List (List Nat)
  | 0 => []
  | c + 1 => if (wfB A σ c (rn_b A (c + 1))).isEmpty then wfI A σ c else wfI A σ c ++ [wfB A σ c (rn_b A (c + 1))]
def wfW (A : rn_L) (σ : Nat → Bool) (c : Nat) : rn_L := (wfI A σ c).map (List.map (vAt A))
section XSQ
variable {z : ow_MS} {A : rn_L} {sg : Nat → Bool} {σ : Nat → Bool}
theorem wfB_0 {c : Nat} : wfB A σ c (rn_b A c) = [] := by
  unfold wfB
  refine List.filter_eq_nil_iff.mpr (fun j hj => ?_)
  have := List.mem_range.mp hj
  rw [decide_eq_false (by omega), Bool.false_and]
  decide
theorem wfB_s {c i : Nat} (h : rn_b A c ≤ i) : wfB A σ c (i + 1) = if σ i then wfB A σ c i ++ [i] else wfB A σ c i := by
  unfold wfB
  rw [List.range_succ, List.filter_append]
  cases e : σ i with
  | true =>
    rw [List.filter_cons_of_pos (by rw [decide_eq_true h, e]; rfl), if_pos rfl]
    rfl
  | false =>
    rw [List.filter_cons_of_neg (by rw [decide_eq_true h, e]; decide), if_neg (by decide), List.filter_nil, List.append_nil]
theorem wfB_m {c i j : Nat} : j ∈ wfB A σ c i ↔ j < i ∧ rn_b A c ≤ j ∧ σ j = true := by
  unfold wfB
  rw [List.mem_filter, List.mem_range, Bool.and_eq_true, decide_eq_true_iff]
theorem wfI_fl {c : Nat} : (wfI A σ (c + 1)).flatten = (wfI A σ c).flatten ++ wfB A σ c (rn_b A (c + 1)) := by
  rw [wfI]
  split
  · rename_i h
    rw [List.isEmpty_iff.mp h, List.append_nil]
  · rw [List.flatten_append, List.flatten_cons, List.flatten_nil, List.append_nil]
theorem wfI_m {j : Nat} : ∀ c, j ∈ (wfI A σ c).flatten ↔ j < rn_b A c ∧ σ j = true
  | 0 => by
    have : rn_b A 0 = 0 := rfl
    rw [this]
    exact ⟨fun h => absurd h (List.not_mem_nil), fun h => absurd h.1 (Nat.not_lt_zero _)⟩
  | c + 1 => by
    have := rn_b_mono A c
    rw [wfI_fl, List.mem_append, wfI_m c, wfB_m]
    constructor
    · rintro (h | h)
      · exact ⟨by omega, h.2⟩
      · exact ⟨h.1, h.2.2⟩
    · rintro ⟨h1, h2⟩
      by_cases e : j < rn_b A c
      · exact Or.inl ⟨e, h2⟩
      · exact Or.inr ⟨h1, by omega, h2⟩
theorem wfI_nd : ∀ c, (wfI A σ c).flatten.Nodup
  | 0 => List.nodup_nil
  | c + 1 => by
    rw [wfI_fl]
    refine List.nodup_append.mpr ⟨wfI_nd c, nodup_filter List.nodup_range, fun a ha b hb e => ?_⟩
    have h1 := (wfI_m c).mp ha
    have h2 := wfB_m.mp hb
    omega
theorem wfI_n : ∀ c, (wfI A σ c).length ≤ c
  | 0 => Nat.le_refl _
  | c + 1 => by
    have := wfI_n c
    rw [wfI]
    split
    · omega
    · rw [List.length_append, List.length_cons, List.length_nil]
      omega
theorem wf_len {c i : Nat} (hi : rn_b A c ≤ i) : (wfI A σ c).flatten.length + (wfB A σ c i).length ≤ i := by
  have h1 : ((wfI A σ c).flatten ++ wfB A σ c i).Nodup := by
    refine List.nodup_append.mpr ⟨wfI_nd c, nodup_filter List.nodup_range, fun a ha b hb e => ?_⟩
    have h1 := (wfI_m c).mp ha
    have h2 := wfB_m.mp hb
    omega
  have h2 := nodup_le _ (List.range i) h1 (fun j hj => by
    rw [List.mem_range]
    rcases List.mem_append.mp hj with h | h
    · have := ((wfI_m c).mp h).1
      omega
    · exact (wfB_m.mp h).1)
  rw [List.length_append, List.length_range] at h2
  exact h2
/-- what is closed under mates may stand alone -/
theorem wkF_sub {C : List (List Nat)} {P : Nat → Prop} (hF : wkF A.flatten) (hP : ∀ j, P j → j < A.flatten.length) (hc : ∀ j, P j → P (mtf A j)) (h3 : C.flatten.Nodup) (h4 : ∀ j, j ∈ C.flatten ↔ P j) : wkF (C.map (List.map (vAt A))).flatten := by
  have hd := wkF_ok hF
  have inj : ∀ i j, i < A.flatten.length → j < A.flatten.length → vAt A i = vAt A j → i = j := fun i j hi hj e => nodup_at hF.1 (vAt_of hi) (by rw [e]; exact vAt_of hj)
  refine ⟨?_, fun p hp => ?_⟩
  · rw [fl_map]
    exact nodup_map h3 (fun i j hi hj e => inj i j (hP i ((h4 i).mp hi)) (hP j ((h4 j).mp hj)) e)
  · rw [fl_map] at hp ⊢
    obtain ⟨j, hj, e⟩ := List.mem_map.mp hp
    have hjP := (h4 j).mp hj
    have hjl := hP j hjP
    obtain ⟨g1, g2, -⟩ := hF.2 _ (List.mem_of_getElem? (vAt_of hjl))
    rw [← e]
    refine ⟨g1, g2, ?_⟩
    have hm := mtf_mt hd hjl
    obtain ⟨n1, p1, p2, a1, a2, a3⟩ := hm
    rw [vAt_of hjl] at a1
    cases a1
    have hml := hP _ (hc j hjP)
    have e2 := vAt_eq a2
    obtain ⟨-, k2, -⟩ := hF.2 _ (List.mem_of_getElem? a2)
    refine List.mem_map.mpr ⟨mtf A j, (h4 _).mpr (hc j hjP), ?_⟩
    have hne : (vAt A j).2 ≠ p2.2 := fun e9 => n1 (inj j (mtf A j) hjl hml (by rw [e2]; exact Prod.ext a3 e9))
    rw [e2]
    exact Prod.ext a3.symm (by show p2.2 = 1 - (vAt A j).2; omega)
theorem wfW_wk (hF : wkF A.flatten) (hc : ∀ j, j < A.flatten.length → σ j = true → σ (mtf A j) = true) : wkF (wfW A σ A.length).flatten := wkF_sub (P := fun j => j < A.flatten.length ∧ σ j = true) hF (fun j h => h.1) (fun j h => ⟨mtf_lt (wkF_ok hF) h.1, hc j h.1 h.2⟩) (wfI_nd _) (fun j => by rw [wfI_m, rn_b_len])
theorem xp_waits {n at9 : Nat} {b : Bool} (hn : mw_net n) (hn3 : n ≠ 3000) (ha : at9 < 16) (hO : oNet z n A sg) (hcl : ∀ v, v < A.flatten.length → z.2.1 38 v = bZ b → z.2.1 38 (mtf A v) = bZ b) : Te (fun K => qe_X13_waitsFor K n (bZ b) (nI at9) z) (fun z1 => (∃ m P, mk (wfW A (fun v => decide (z.2.1 38 v = bZ b)) A.length) m P ∧ rc_At z1 37 (32 * at9) (pkR (wfW A (fun v => decide (z.2.1 38 v = bZ b)) A.length) sg m P)) ∧ fr (fun g => 2 ≤ g ∧ g ≤ 9 ∨ g = 37 ∨ 3001 ≤ g ∧ g ≤ 3013) z z1 ∧ ∀ i, i < 32 * at9 ∨ 32 * at9 + 32 ≤ i → z1.2.1 37 i = z.2.1 37 i) := by
  have hmn := net_mod hn
  have hl := hO.len
  have hC := hO.2.2.2
  have hd := wkF_ok hO.wk
  let σ : Nat → Bool := fun v => decide (z.2.1 38 v = bZ b)
  let Q : ow_MS → Prop := fun z1 => (∃ m P, mk (wfW A σ A.length) m P ∧ rc_At z1 37 (32 * at9) (pkR (wfW A σ A.length) sg m P)) ∧ fr (fun g => 2 ≤ g ∧ g ≤ 9 ∨ g = 37 ∨ 3001 ≤ g ∧ g ≤ 3013) z z1 ∧ ∀ i, i < 32 * at9 ∨ 32 * at9 + 32 ≤ i → z1.2.1 37 i = z.2.1 37 i
  refine e_X13_waitsFor ?_
  refine u_X13_waitsFor_0 ?_; unfold qm_X13_waitsFor_0
  refine w_cs0 (tn_clear pn3) (fun z3 ⟨b3, f3⟩ => w_cs0 (tn_signs pn3 hn (fun e => hn3 e.symm)) (fun z4 ⟨f4, s4⟩ => ?_))
  let I : ow_MS → Prop := fun y => fr (fun g => 3001 ≤ g ∧ g ≤ 3006) z y ∧ ∀ x, x < 40 → y.2.1 3006 x = z.2.1 (n + 6) x
  have oI : ∀ {y : ow_MS}, I y → oNet y n A sg := fun hI => oNet_fr hI.1 (fun g hg => by omega) hO
  have stI : ∀ {P : Nat → Prop} {y y2 : ow_MS}, I y → fr P y y2 → (∀ g, P g → 3001 ≤ g ∧ g ≤ 3005) → I y2 := fun hI hf hP => ⟨fr_tr hI.1 (fr_mono (fun g hg => by have := hP g hg; omega) hf), fun x hx => by rw [(hf 3006 (fun h9 => by have := hP _ h9; omega)).2.1]; exact hI.2 x hx⟩
  have e38 : ∀ {y : ow_MS}, I y → y.2.1 38 = z.2.1 38 := fun hI => (hI.1 38 (by omega)).2.1
  have out : ∀ (k c : Nat) (y : ow_MS), c + k = A.length → I y → rn_At y 3000 (wfW A σ c) [] → Tt (fun K i => q_X13_waitsFor K i 1 (bZ b) (nI at9) (nI c) 0 0 n y) Q := by
    intro k
    induction k with
    | zero =>
      intro c y hc hI hb
      have hce : c = A.length := by omega
      rw [hce] at hb
      have hlen : (wfW A σ A.length).flatten.length ≤ A.flatten.length := by
        have := wf_len (A := A) (σ := σ) (c := A.length) (i := A.flatten.length) (by rw [rn_b_len]; exact Nat.le_refl _)
        unfold wfW
        rw [fl_map, List.length_map]
        omega
      have hn6 : (wfW A σ A.length).length ≤ A.length := by
        unfold wfW
        rw [List.length_map]
        exact wfI_n _
      have hwk : wkF (wfW A σ A.length).flatten := wfW_wk hO.wk (fun j hj h9 => decide_eq_true (hcl j hj (of_decide_eq_true h9)))
      have hsg : rn_sg y 3000 (wfW A σ A.length).flatten sg := fun p hp => by
        unfold wfW at hp
        rw [fl_map] at hp
        obtain ⟨j, hj, e⟩ := List.mem_map.mp hp
        have hj2 := (wfI_m _).mp hj
        rw [rn_b_len] at hj2
        obtain ⟨x1, x2, x3⟩ := hO.cx hj2.1
        rw [← e]
        show y.2.1 3006 (crs A j) = if sg (crs A j) then -1 else 1
        rw [hI.2 _ (by omega)]
        exact x3
      refine u_X13_waitsFor_1 ?_; unfold qm_X13_waitsFor_1
      rw [show (32 : Int32) * nI at9 = nI (32 * at9) from pk_mul 32 at9]
      refine w_rdF (lk_C (oI hI).1) (w_leT (by omega) (by omega) (w_cs0 (tr_pack pn3 (by omega) ml37 (by omega) (by omega) (by omega) (by omega) hwk hb hsg) (fun y2 hy2 => w_some ?_)))
      obtain ⟨m, P, k1, k2, k3, k4, -, -⟩ := hy2
      refine ⟨⟨m, P, k1, k2⟩, fr_tr (fr_mono (fun g hg => by omega) hI.1) (fr_mono (fun g hg => by unfold frQ at hg; omega) k3), fun i hi => ?_⟩
      rw [k4 i hi, (hI.1 37 (by omega)).2.1]
    | succ k ih =>
      intro c y hc hI hb
      have m1 := rn_b_mono A c
      have m2 := rn_b_le A (c + 1)
      have c4 : ∀ (x5 x6 : Int32) (y2 : ow_MS), I y2 → rn_At y2 3000 (wfW A σ (c + 1)) [] → Tt (fun K i => q_X13_waitsFor K i 4 (bZ b) (nI at9) (nI c) x5 x6 n y2) Q := by
        intro x5 x6 y2 hI2 hb2
        refine u_X13_waitsFor_4 ?_; unfold qm_X13_waitsFor_4
        rw [nI_1]
        exact ih (c + 1) y2 (by omega) hI2 hb2
      have inn : ∀ (d i : Nat) (y : ow_MS), i + d = rn_b A (c + 1) → rn_b A c ≤ i → I y → rn_At y 3000 (wfW A σ c) ((wfB A σ c i).map (vAt A)) → Tt (fun K i9 => q_X13_waitsFor K i9 2 (bZ b) (nI at9) (nI c) (nI (wfB A σ c i).length) (nI i) n y) Q := by
        intro d
        induction d with
        | zero =>
          intro i y hi hlo hI hb
          have hie : i = rn_b A (c + 1) := by omega
          rw [hie] at hb ⊢
          have hwl := wf_len (A := A) (σ := σ) m1
          have hwn := wfI_n (A := A) (σ := σ) c
          refine u_X13_waitsFor_2 ?_; unfold qm_X13_waitsFor_2
          rw [nI_1]
          refine w_rdI (pl3 hn) rfl (by omega) (lk_b (oI hI).1 (by omega)) (w_leT (by omega) (Nat.le_refl _) (w_le (b := 0) (by omega) (by omega) (fun h0 => c4 _ _ y hI ?_) (fun h0 => w_cs0 (tn_end pn3 hb (by unfold wfW; rw [List.length_map]; omega)) (fun y2 ⟨g1, g2⟩ => c4 _ _ y2 (stI hI g2 (fun g hg => by omega)) ?_))))
          · have e0 : wfB A σ c (rn_b A (c + 1)) = [] := List.eq_nil_of_length_eq_zero (by omega)
            rw [e0] at hb
            unfold wfW
            rw [wfI, e0, if_pos List.isEmpty_nil]
            exact hb
          · have e0 : ¬ (wfB A σ c (rn_b A (c + 1))).isEmpty = true := fun e => by
              rw [List.isEmpty_iff.mp e] at h0
              exact absurd h0 (by show ¬ (0 < 0); omega)
            unfold wfW
            rw [wfI, if_neg e0, List.map_append]
            exact g1
        | succ d ihd =>
          intro i y hi hlo hI hb
          have hil : i < A.flatten.length := by omega
          have hwl := wf_len (A := A) (σ := σ) hlo
          refine u_X13_waitsFor_2 ?_; unfold qm_X13_waitsFor_2
          rw [nI_1, nI_1]
          refine w_rdI (pl3 hn) rfl (by omega) (lk_b (oI hI).1 (by omega)) (w_leF (by omega) (by omega) (w_rdI ml38 rfl (by omega) (by rw [e38 hI]) (w_if (fun h9 => w_rdI (pl4 hn) rfl (by omega) (lk_cu (oI hI).1 hil).1 (w_rdI (pl5 hn) rfl (by omega) (lk_cu (oI hI).1 hil).2 (w_cs0 (tn_add pn3 hb (by unfold wfW; rw [List.length_append, fl_map, List.length_map, List.length_map]; omega)) (fun y2 ⟨g1, g2⟩ => ?_)))) (fun h9 => ?_))))
          · refine u_X13_waitsFor_3 ?_; unfold qm_X13_waitsFor_3
            rw [nI_1]
            have es : wfB A σ c (i + 1) = wfB A σ c i ++ [i] := by
              rw [wfB_s hlo, if_pos (decide_eq_true h9)]
            have := ihd (i + 1) y2 (by omega) (by omega) (stI hI g2 (fun g hg => by omega)) (by rw [es, List.map_append]; exact g1)
            rw [es, List.length_append] at this
            exact this
          · refine u_X13_waitsFor_3 ?_; unfold qm_X13_waitsFor_3
            rw [nI_1]
            have es : wfB A σ c (i + 1) = wfB A σ c i := by
              rw [wfB_s hlo, if_neg (fun e => h9 (of_decide_eq_true e))]
            have := ihd (i + 1) y (by omega) (by omega) hI (by rw [es]; exact hb)
            rw [es] at this
            exact this
      refine u_X13_waitsFor_1 ?_; unfold qm_X13_waitsFor_1
      refine w_rdF (lk_C (oI hI).1) (w_leF (by omega) (by omega) (w_rdI (pl3 hn) rfl (by omega) (lk_b (oI hI).1 (by omega)) ?_))
      have := inn (rn_b A (c + 1) - rn_b A c) (rn_b A c) y (by omega) (Nat.le_refl _) hI (by rw [wfB_0]; exact hb)
      rw [wfB_0] at this
      exact this
  refine out A.length 0 z4 (by omega) ⟨fr_tr (fr_mono (fun g hg => by omega) f3) (fr_mono (fun g hg => by omega) f4), fun x hx => ?_⟩ (fr_At f4 (fun g hg => by omega) b3)
  rw [show z4.2.1 3006 x = z3.2.1 (n + 6) x from s4 x hx, (f3 (n + 6) (by omega)).2.1]
end XSQ
