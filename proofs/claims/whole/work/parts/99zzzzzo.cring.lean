/-! every valid net shows a list of components -/
theorem cntB_fl {q : Nat → Bool} : ∀ n, cntB q n = ((List.range n).filter q).length
  | 0 => rfl
  | n + 1 => by
    rw [List.range_succ, List.filter_append, List.length_append, ← cntB_fl n]
    show cntB q n + (if q n = true then 1 else 0) = _
    congr 1
    cases e : q n with
    | true =>
      rw [if_pos rfl, List.filter_cons_of_pos e]
      rfl
    | false =>
      rw [if_neg (by decide), List.filter_cons_of_neg (by rw [e]; decide)]
      rfl
/-- rl names the rings' lengths -/
def rlK (c : Nat) (S : ow_NP) (rl : Nat → Nat) : Prop := ∀ w, w < 2 * c → rl w ≤ 2 * c ∧ ring_len S.1 w (rl w)
theorem rlK_ex {c : Nat} {S : ow_NP} (h : vn c S) : ∃ rl, rlK c S rl := by
  have hx : ∀ w, ∃ m, w < 2 * c → m ≤ 2 * c ∧ ring_len S.1 w m := by
    intro w
    by_cases hw : w < 2 * c
    · obtain ⟨m, hm⟩ := ring_ex h hw
      exact ⟨m, fun _ => hm⟩
    · exact ⟨0, fun h9 => absurd h9 hw⟩
  exact ⟨fun w => Classical.choose (hx w), fun w hw => Classical.choose_spec (hx w) hw⟩
def kp (k : Nat) : Nat × Nat := (k / 2, k % 2)
theorem kp_lb (k : Nat) : lb (kp k) = k := by
  unfold lb kp
  show 2 * (k / 2) + k % 2 = k
  omega
def rgV (rl : Nat → Nat) (S : ow_NP) (w : Nat) : List (Nat × Nat) := (List.range (rl w)).map (fun i => kp (it S.1 i w))
def netL (rl : Nat → Nat) (T : ow_NT) : rn_L := ((List.range (2 * T.1)).filter (fun k => lst T.2.2.1.1 k 24)).map (rgV rl T.2.2.1) ++ List.replicate T.2.1 []
section CO
variable {c : Nat} {S : ow_NP} {rl : Nat → Nat}
theorem lst_same (hr : rlK c S rl) (hc : c ≤ 12) {w w' i j : Nat} (hw : w < 2 * c) (hw' : w' < 2 * c) (l1 : lst S.1 w 24 = true) (l2 : lst S.1 w' 24 = true) (hj : j < rl w') (e : it S.1 i w = it S.1 j w') : w ≤ w' := by
  have r1 := hr _ hw
  have r2 := hr _ hw'
  have e1 : w' = it S.1 (rl w' - j + i) w := by
    rw [it_add, e, ← it_add, show rl w' - j + j = rl w' by omega]
    exact r2.2.2.1.symm
  obtain ⟨k, k1, k2⟩ := it_mod r1.2 (rl w' - j + i)
  rw [e1, k2]
  exact (lst_t 24).mp l1 k (by omega)
theorem rgV_nd (h : vn c S) (hr : rlK c S rl) {w : Nat} (hw : w < 2 * c) : (rgV rl S w).Nodup := by
  have r1 := hr _ hw
  refine nodup_map List.nodup_range (fun a b ha hb e => ?_)
  have ha := List.mem_range.mp ha
  have hb := List.mem_range.mp hb
  have e2 : it S.1 a w = it S.1 b w := by
    have := congrArg lb e
    rw [kp_lb, kp_lb] at this
    exact this
  rcases Nat.lt_trichotomy a b with q | q | q
  · exact absurd e2 (ring_dist h hw r1.2 q hb)
  · exact q
  · exact absurd e2.symm (ring_dist h hw r1.2 q ha)
theorem netL_ok {T : ow_NT} (hr : rlK T.1 T.2.2.1 rl) (h : vn T.1 T.2.2.1) (hc : T.1 ≤ 12) : okF (netL rl T).flatten T.1 := by
  unfold netL
  rw [List.flatten_append, fl_nil, List.append_nil]
  have hlm : ∀ w, w ∈ (List.range (2 * T.1)).filter (fun k => lst T.2.2.1.1 k 24) ↔ w < 2 * T.1 ∧ lst T.2.2.1.1 w 24 = true := by
    intro w
    rw [List.mem_filter, List.mem_range]
  refine ⟨?_, fun p => ?_⟩
  · show List.Pairwise _ _
    rw [List.pairwise_flatten]
    refine ⟨fun L hL => ?_, ?_⟩
    · obtain ⟨w, hw, e⟩ := List.mem_map.mp hL
      rw [← e]
      exact rgV_nd h hr ((hlm w).mp hw).1
    · rw [List.pairwise_map]
      have hnd : ((List.range (2 * T.1)).filter (fun k => lst T.2.2.1.1 k 24)).Nodup := nodup_filter List.nodup_range
      refine List.Pairwise.imp_of_mem ?_ hnd
      intro a b ha hb hne x hx y hy exy
      have ha := (hlm a).mp ha
      have hb := (hlm b).mp hb
      obtain ⟨i, hi, ei⟩ := List.mem_map.mp hx
      obtain ⟨j, hj, ej⟩ := List.mem_map.mp hy
      have hi := List.mem_range.mp hi
      have hj := List.mem_range.mp hj
      have e : it T.2.2.1.1 i a = it T.2.2.1.1 j b := by
        have := congrArg lb (ei.trans (exy.trans ej.symm))
        rw [kp_lb, kp_lb] at this
        exact this
      have h1 := lst_same hr hc ha.1 hb.1 ha.2 hb.2 hj e
      have h2 := lst_same hr hc hb.1 ha.1 hb.2 ha.2 hi e.symm
      exact hne (Nat.le_antisymm h1 h2)
  · constructor
    · intro hp
      obtain ⟨L, hL, hpL⟩ := List.mem_flatten.mp hp
      obtain ⟨w, hw, e⟩ := List.mem_map.mp hL
      rw [← e] at hpL
      obtain ⟨i, hi, ei⟩ := List.mem_map.mp hpL
      have := it_lt h ((hlm w).mp hw).1 i
      rw [← ei]
      unfold kp
      show it T.2.2.1.1 i w / 2 < T.1 ∧ it T.2.2.1.1 i w % 2 < 2
      omega
    · intro ⟨hp1, hp2⟩
      have hk : lb p < 2 * T.1 := by unfold lb; omega
      obtain ⟨m, hm1, hm2⟩ := ring_ex h hk
      obtain ⟨w, w1, ⟨j, j1, j2⟩, w3⟩ := ring_least h hc hk hm2 hm1
      have hl : lst T.2.2.1.1 w 24 = true := (w3 w ⟨j, j1, j2⟩).mpr rfl
      have r1 := hr _ w1
      have e1 : it T.2.2.1.1 (m - j) w = lb p := by
        rw [j2, ← it_add, show m - j + j = m by omega]
        exact hm2.2.1
      obtain ⟨i, i1, i2⟩ := it_mod r1.2 (m - j)
      refine List.mem_flatten.mpr ⟨rgV rl T.2.2.1 w, List.mem_map.mpr ⟨w, (hlm w).mpr ⟨w1, hl⟩, rfl⟩, List.mem_map.mpr ⟨i, List.mem_range.mpr i1, ?_⟩⟩
      rw [← i2, e1]
      unfold kp lb
      exact Prod.ext (by show (2 * p.1 + p.2) / 2 = p.1; omega) (by show (2 * p.1 + p.2) % 2 = p.2; omega)
/-- a component goes round -/
def cyc (N : Nat → Nat) (L : List (Nat × Nat)) : Prop := ∀ i p q, L[i]? = some p → (if i + 1 < L.length then L[i + 1]? else L[0]?) = some q → N (lb p) = lb q
theorem cyc_all {N : Nat → Nat} : ∀ A : rn_L, (∀ L, L ∈ A → cyc N L) → ∀ v, v < A.flatten.length → N (lb (vAt A v)) = lb (vAt A (rn_nx A v)) := by
  refine snocI (fun _ v hv => absurd hv (Nat.not_lt_zero _)) (fun A L ih h v hv => ?_)
  rw [fl_app, List.length_append] at hv
  by_cases e : v < A.flatten.length
  · rw [vAt_ap e, rnx_app e, vAt_ap (rnx_lt e)]
    exact ih (fun K hK => h K (List.mem_append_left _ hK)) v e
  · obtain ⟨i, rfl⟩ : ∃ i, v = A.flatten.length + i := ⟨v - A.flatten.length, by omega⟩
    have hi : i < L.length := by omega
    have hL := h L (List.mem_append_right _ (List.mem_singleton.mpr rfl))
    rw [rnx_new hi, vAt_nw (List.getElem?_eq_getElem hi)]
    by_cases h1 : i + 1 < L.length
    · rw [if_pos h1, vAt_nw (List.getElem?_eq_getElem h1)]
      refine hL i _ _ (List.getElem?_eq_getElem hi) ?_
      rw [if_pos h1]
      exact List.getElem?_eq_getElem h1
    · rw [if_neg h1, show A.flatten.length = A.flatten.length + 0 from rfl, vAt_nw (List.getElem?_eq_getElem (show 0 < L.length by omega))]
      refine hL i _ _ (List.getElem?_eq_getElem hi) ?_
      rw [if_neg h1]
      exact List.getElem?_eq_getElem (by omega)
theorem rgV_cyc (hr : rlK c S rl) {w : Nat} (hw : w < 2 * c) : cyc S.1 (rgV rl S w) := by
  have r1 := hr _ hw
  have hl : (rgV rl S w).length = rl w := by
    unfold rgV
    rw [List.length_map, List.length_range]
  have hat : ∀ i, i < rl w → (rgV rl S w)[i]? = some (kp (it S.1 i w)) := by
    intro i hi
    unfold rgV
    rw [List.getElem?_map, List.getElem?_range hi]
    rfl
  intro i p q ep eq
  have hi := (List.getElem?_eq_some_iff.mp ep).1
  rw [hl] at hi eq
  rw [hat i hi] at ep
  cases ep
  rw [kp_lb]
  by_cases h1 : i + 1 < rl w
  · rw [if_pos h1, hat _ h1] at eq
    cases eq
    rw [kp_lb]
    rfl
  · rw [if_neg h1, hat 0 (by omega)] at eq
    cases eq
    rw [kp_lb]
    have := r1.2.2.1
    rw [show rl w = i + 1 by omega] at this
    exact this
end CO
theorem netL_iso {T : ow_NT} {rl : Nat → Nat} (hr : rlK T.1 T.2.2.1 rl) (h : vn T.1 T.2.2.1) (hc : T.1 ≤ 12) : isoN (netL rl T) (fun x => decide (T.2.2.2 x < 0)) (fun x => x) T ∧ (netL rl T).length = np_rg T.1 T.2.2.1 + T.2.1 := by
  have hok := netL_ok hr h hc
  have hlen := okF_len hok
  have hlm : ∀ w, w ∈ (List.range (2 * T.1)).filter (fun k => lst T.2.2.1.1 k 24) → w < 2 * T.1 := by
    intro w hw
    rw [List.mem_filter, List.mem_range] at hw
    exact hw.1
  have hn : (netL rl T).length = np_rg T.1 T.2.2.1 + T.2.1 := by
    unfold netL np_rg
    rw [List.length_append, List.length_map, List.length_replicate, cntB_fl]
  have hcy : ∀ L, L ∈ netL rl T → cyc T.2.2.1.1 L := by
    intro L hL
    rcases List.mem_append.mp hL with h9 | h9
    · obtain ⟨w, hw, e⟩ := List.mem_map.mp h9
      rw [← e]
      exact rgV_cyc hr (hlm w hw)
    · rw [(List.mem_replicate.mp h9).2]
      intro i p q ep
      rw [List.getElem?_nil] at ep
      cases ep
  have hin : ∀ v, v < (netL rl T).flatten.length → crs (netL rl T) v < T.1 ∧ uns (netL rl T) v < 2 := fun v hv => (hok.2 _).mp (vAt_mem hv)
  refine ⟨⟨okF_wk (by omega) hok, hlen, hc, fun v hv => (hin v hv).1, fun v w _ _ e => e, fun v hv => cyc_all (netL rl T) hcy v hv, fun v hv => ?_, ?_⟩, hn⟩
  · rw [decide_eq_true_iff]
  · unfold cirs netL
    rw [List.countP_append]
    have e1 : (((List.range (2 * T.1)).filter (fun k => lst T.2.2.1.1 k 24)).map (rgV rl T.2.2.1)).countP (fun B => B.isEmpty) = 0 := by
      rw [List.countP_eq_zero]
      intro L hL
      obtain ⟨w, hw, e⟩ := List.mem_map.mp hL
      have r1 := (hr _ (hlm w hw)).2.1
      rw [← e]
      intro he
      have := List.isEmpty_iff.mp he
      have hl : (rgV rl T.2.2.1 w).length = rl w := by
        unfold rgV
        rw [List.length_map, List.length_range]
      rw [this] at hl
      have hl' : 0 = rl w := hl
      omega
    rw [e1, List.countP_replicate]
    show 0 + T.2.1 = T.2.1
    omega
/-- marks of classes -/
theorem marks_ex {R : Nat → Nat → Prop} (hr : ∀ a, R a a) (hs : ∀ a b, R a b → R b a) (ht : ∀ a b c, R a b → R b c → R a c) : ∀ n, ∃ (m : Nat → Nat) (P : Nat), (∀ c, c < n → m c < P) ∧ (∀ a b, a < n → b < n → (m a = m b ↔ R a b)) ∧ ∀ p, p < P → ∃ c, c < n ∧ m c = p
  | 0 => ⟨fun _ => 0, 0, fun c hc => absurd hc (Nat.not_lt_zero _), fun a b ha => absurd ha (Nat.not_lt_zero _), fun p hp => absurd hp (Nat.not_lt_zero _)⟩
  | n + 1 => by
    obtain ⟨m, P, h1, h2, h3⟩ := marks_ex hr hs ht n
    by_cases hex : ∃ b, b < n ∧ R b n
    · obtain ⟨b, b1, b2⟩ := hex
      refine ⟨fun c => if c = n then m b else m c, P, fun c hc => ?_, fun a d ha hd => ?_, fun p hp => ?_⟩
      · show (if c = n then m b else m c) < P
        split
        · exact h1 b b1
        · exact h1 c (by omega)
      · show (if a = n then m b else m a) = (if d = n then m b else m d) ↔ R a d
        by_cases ea : a = n
        · by_cases ed : d = n
          · rw [if_pos ea, if_pos ed, ea, ed]
            exact ⟨fun _ => hr n, fun _ => rfl⟩
          · rw [if_pos ea, if_neg ed, ea, h2 b d b1 (by omega)]
            exact ⟨fun h => ht _ _ _ (hs _ _ b2) h, fun h => ht _ _ _ b2 h⟩
        · by_cases ed : d = n
          · rw [if_neg ea, if_pos ed, ed, h2 a b (by omega) b1]
            exact ⟨fun h => ht _ _ _ h b2, fun h => ht _ _ _ h (hs _ _ b2)⟩
          · rw [if_neg ea, if_neg ed]
            exact h2 a d (by omega) (by omega)
      · obtain ⟨c, c1, c2⟩ := h3 p hp
        refine ⟨c, by omega, ?_⟩
        show (if c = n then m b else m c) = p
        rw [if_neg (by omega)]
        exact c2
    · refine ⟨fun c => if c = n then P else m c, P + 1, fun c hc => ?_, fun a d ha hd => ?_, fun p hp => ?_⟩
      · show (if c = n then P else m c) < P + 1
        split
        · omega
        · have := h1 c (by omega)
          omega
      · show (if a = n then P else m a) = (if d = n then P else m d) ↔ R a d
        by_cases ea : a = n
        · by_cases ed : d = n
          · rw [if_pos ea, if_pos ed, ea, ed]
            exact ⟨fun _ => hr n, fun _ => rfl⟩
          · rw [if_pos ea, if_neg ed, ea]
            have := h1 d (by omega)
            exact ⟨fun h => absurd h (by omega), fun h => absurd ⟨d, by omega, hs _ _ h⟩ hex⟩
        · by_cases ed : d = n
          · rw [if_neg ea, if_pos ed, ed]
            have := h1 a (by omega)
            exact ⟨fun h => absurd h (by omega), fun h => absurd ⟨a, by omega, h⟩ hex⟩
          · rw [if_neg ea, if_neg ed]
            exact h2 a d (by omega) (by omega)
      · by_cases ep : p = P
        · refine ⟨n, by omega, ?_⟩
          show (if n = n then P else m n) = p
          rw [if_pos rfl, ep]
        · obtain ⟨c, c1, c2⟩ := h3 p (by omega)
          refine ⟨c, by omega, ?_⟩
          show (if c = n then P else m c) = p
          rw [if_neg (by omega)]
          exact c2
theorem mk_ex (A : rn_L) : ∃ m P, mk A m P := by
  obtain ⟨m, P, h1, h2, h3⟩ := marks_ex (R := rn_con A) (fun _ => rn_con.rf) (fun _ _ h => h.symm) (fun _ _ _ h k => h.tr k) A.length
  refine ⟨m, P, h1, fun a b hab => ?_, fun a b ha hb e => (h2 a b ha hb).mp e, h3⟩
  obtain ⟨v, w, e1, e2, e3⟩ := id hab
  have hl := rn_mt_lt e1
  refine (h2 a b ?_ ?_).mpr (rn_con.st rn_con.rf hab)
  · rw [← e2]
    exact (rn_c_in A v hl.1).1
  · rw [← e3]
    exact (rn_c_in A w hl.2).1
/-- the code of a valid net is written from a list of components -/
theorem enc_ok {T : ow_NT} {Cs : List cdT} {os : List Nat} (hT : nv T) (hZ : cpZ T (np_parts T.1 T.2.2.1.1).2 Cs os) : ∃ A' sg', okL A' T.1 ∧ enC T Cs os = clC sg' A' ∧ (T.1 ≠ 0 ∨ T.2.1 ≠ 0 → A' ≠ []) := by
  obtain ⟨rl, hr⟩ := rlK_ex hT.1
  obtain ⟨hi, h6⟩ := netL_iso hr hT.1 hT.2.1
  have h66 := hT.2.2.2
  obtain ⟨m, P, hk⟩ := mk_ex (netL rl T)
  obtain ⟨A', sg', -, h2, h3, h4⟩ := enc_pk hi (by omega) hT hk hZ
  refine ⟨A', sg', h2, h3, fun hne e => ?_⟩
  rw [e] at h4
  have h0 : netL rl T = [] := List.length_eq_zero_iff.mp h4.symm
  have h1 := hi.2.1
  have h5 : cirs (netL rl T) = T.2.1 := hi.2.2.2.2.2.2.2
  rw [h0] at h1 h5
  have h1' : 0 = 2 * T.1 := h1
  have h5' : 0 = T.2.1 := h5
  omega
