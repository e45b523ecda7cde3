/-! the class: chain: a net small enough -/
theorem rn_b_take (A : rn_L) (c : Nat) (h : c < A.length) : rn_b A (c + 1) = rn_b A c + A[c].length := by
  have e : A.take (c + 1) = A.take c ++ [A[c]] := by
    rw [List.take_succ, List.getElem?_eq_getElem h]
    rfl
  unfold rn_b
  rw [e, List.flatten_append, List.length_append, List.flatten_cons, List.flatten_nil, List.append_nil]
theorem cirs_eC (A : rn_L) : cirs A = eC A := by
  have h1 := filt_sum (neB A) (List.range A.length)
  rw [List.length_range, ← cirs_f] at h1
  have h2 := neC_eC A
  have h3 : ((List.range A.length).filter (neB A)).length ≤ neC A := by
    refine nodup_le _ _ (List.nodup_range.filter _) (fun c hc => ?_)
    obtain ⟨c1, c2⟩ := List.mem_filter.mp hc
    have c1' := List.mem_range.mp c1
    refine List.mem_filter.mpr ⟨c1, decide_eq_true ?_⟩
    have e := rn_b_take A c c1'
    unfold neB at c2
    rw [List.getElem?_eq_getElem c1'] at c2
    have : A[c] ≠ [] := fun h9 => by
      rw [h9] at c2
      cases c2
    have := List.length_pos_iff.mpr this
    omega
  have h4 := neC_cirs A
  omega
section CHN
variable {A : rn_L} {sg : Nat → Bool} {T : ow_NT} {c : Nat}
theorem ell_le (hok : okF A.flatten T.1) (h : isoV A sg (fun x => x) T) : ell2 (qE A) T.1 A.flatten.length sg T.1 0 + eC A ≤ (np_parts T.1 T.2.2.1.1).2 + T.2.1 := by
  have hc := h.1.2.2.1
  have hF := okF_wk (by omega) hok
  have hd := wkF_ok hF
  have hv := isoV_vn h
  have hN := isoS_iff.mp h.1
  let L := lab (qE A) T.1 (mdS sg T.1 0)
  have hS := lab_sat (q := qE A) (c := T.1) (m := mdS sg T.1 0)
  have all : ∀ v, v < A.flatten.length → L (rn_pv A v) = L v ∧ L (mtf A v) = L v := by
    intro v hv
    have hx : crs A v < T.1 := ((hok.2 _).mp (List.mem_of_getElem? (vAt_of hv))).1
    have h3 : mdS sg T.1 0 (crs A v) = 3 := by unfold mdS; rw [if_pos hx]
    have h1 := (hS _ hx).1 (Or.inr h3)
    have h2 := (hS _ hx).2 (Or.inr h3)
    have h1 : L (rn_pv A (ovx A (crs A v))) = L (mtf A (ovx A (crs A v))) ∧ L (rn_pv A (mtf A (ovx A (crs A v)))) = L (ovx A (crs A v)) := h1
    have h2 : L (rn_pv A (ovx A (crs A v))) = L (rn_pv A (mtf A (ovx A (crs A v)))) ∧ L (ovx A (crs A v)) = L (mtf A (ovx A (crs A v))) := h2
    by_cases h0 : uns A v = 0
    · rw [ovx_eq hok hv h0] at h1 h2
      exact ⟨by rw [h1.1, ← h2.2], h2.2.symm⟩
    · have e1 := ovx_eq hok (mtf_lt hd hv) (mtf_uns hF hv h0)
      rw [crs_mtf hd hv] at e1
      rw [e1, mtf_mtf hd hv] at h1 h2
      exact ⟨by rw [← h2.1, h1.1], h2.2⟩
  obtain ⟨-, p2, p3, -⟩ := parts_I hv hc
  have one : ∀ v w, v < A.flatten.length → w < A.flatten.length → (np_parts T.1 T.2.2.1.1).1 (lbv A (fun x => x) v) = (np_parts T.1 T.2.2.1.1).1 (lbv A (fun x => x) w) → L v = L w := by
    intro v w hv1 hw1 e
    have hr := (parts_iff hv hc (lbv_lt hN hv1) (lbv_lt hN hw1)).mp e
    have key := hr (fun k => ∃ u, u < A.flatten.length ∧ lbv A (fun x => x) u = k ∧ L u = L v) ⟨v, hv1, rfl, rfl⟩ ?_ ?_
    · obtain ⟨u, u1, u2, u3⟩ := key
      rw [← lbv_inj hN u1 hw1 u2]
      exact u3.symm
    · rintro k - ⟨u, u1, u2, u3⟩
      refine ⟨rn_nx A u, rn_nx_lt u1, ?_, ?_⟩
      · rw [← u2]
        exact (hN.2.2.2.2.2.1 u u1).symm
      · have := (all (rn_nx A u) (rn_nx_lt u1)).1
        rw [pv_nx u1] at this
        rw [← this]
        exact u3
    · rintro k - ⟨u, u1, u2, u3⟩
      obtain ⟨m1, -, m3, -⟩ := lbv_mt hN u1
      exact ⟨mtf A u, m1, by rw [m3, u2], by rw [(all u u1).2]; exact u3⟩
  have hex : ∀ r, ∃ l, ∀ v, v < A.flatten.length → (np_parts T.1 T.2.2.1.1).1 (lbv A (fun x => x) v) = nI r → L v = l := by
    intro r
    by_cases hp : ∃ v, v < A.flatten.length ∧ (np_parts T.1 T.2.2.1.1).1 (lbv A (fun x => x) v) = nI r
    · obtain ⟨v, hv1, e⟩ := hp
      exact ⟨L v, fun w hw e2 => one w v hw hv1 (by rw [e, e2])⟩
    · exact ⟨0, fun v h1 h2 => absurd ⟨v, h1, h2⟩ hp⟩
  have h1 : ell2 (qE A) T.1 A.flatten.length sg T.1 0 ≤ (np_parts T.1 T.2.2.1.1).2 := by
    refine cN_le ⟨(List.range (np_parts T.1 T.2.2.1.1).2).map (fun r => Classical.choose (hex r)), by rw [List.length_map, List.length_range]; exact Nat.le_refl _, fun v hv1 => ?_⟩
    obtain ⟨r, r1, r2⟩ := p2 _ (lbv_lt hN hv1)
    exact List.mem_map.mpr ⟨r, List.mem_range.mpr r1, (Classical.choose_spec (hex r) v hv1 r2).symm⟩
  have := cirs_eC A
  have := h.1.2.2.2.2.2.2.2
  omega
theorem ch_ok2 {k : Nat} (hok : okF A.flatten T.1) (hC : A.length ≤ 6) (h : isoV A sg (fun x => x) T) (hk : (np_parts T.1 T.2.2.1.1).2 + T.2.1 ≤ k) (hk1 : 1 ≤ k) (hck : T.1 + k ≤ 9) : chOK A sg T.1 k := by
  have hE := qE_ends hok (by omega)
  have hev := qE_evn hok (by omega)
  have hp := Nat.le_trans (ell_le hok h) hk
  have hle : ∀ s, s < 2 ^ T.1 → LcN A sg s ≤ ell (qE A) T.1 A.flatten.length sg s + eC A := fun s hs => Nat.add_le_add_right (rts_ell hok (by omega) hs) _
  have hblk : ∀ h, smH (fun s => mbt (ell (qE A) T.1 A.flatten.length sg s + eC A)) h 0 (2 ^ T.1) ≤ 1140 := by
    intro h
    rcases Nat.lt_or_ge h 9 with h9 | h9
    · exact blk_1140 hE hev hk1 hp (by omega) h9
    · rw [smH_0 _ (fun i hi e => by
        have := pc_le (c := T.1) hi
        omega)]
      omega
  have hblk2 : ∀ h, smH (fun s => mbt (LcN A sg s)) h 0 (2 ^ T.1) ≤ 1140 := fun h => Nat.le_trans (smH_le _ (fun i hi => by
    rw [Nat.zero_add]
    exact mbt_mono (hle i hi))) (hblk h)
  refine ⟨hok, by omega, hC, fun s hs => mbt_9 ?_, ?_, hblk2⟩
  · have h1 := smH_mono (w := fun s => mbt (LcN A sg s)) (h := pc s) (t := 0) (a := s + 1) (2 ^ T.1) hs
    have h2 : mbt (LcN A sg s) ≤ smH (fun s => mbt (LcN A sg s)) (pc s) 0 (s + 1) := by
      show _ ≤ smH _ _ _ s + (if pc s = pc s then mbt (LcN A sg (0 + s)) else 0)
      rw [if_pos rfl, Nat.zero_add]
      omega
    exact Nat.le_trans h2 (Nat.le_trans h1 (hblk2 _))
  · have h1 := gen_all (ab := sg) (e := eC A) hE hev T.1 0 (Nat.le_refl _) (Nat.zero_mod _)
    have h2 : bsN A sg (2 ^ T.1) ≤ smA (fun s => 2 ^ (ell (qE A) T.1 A.flatten.length sg s + eC A)) 0 (2 ^ T.1) := smA_le _ (fun i hi => by
      rw [Nat.zero_add]
      exact two_mono (hle i hi))
    have h3 : 3 ^ T.1 * 2 ^ (ell2 (qE A) T.1 A.flatten.length sg T.1 0 + eC A) ≤ 3 ^ T.1 * 2 ^ k := Nat.mul_le_mul_left _ (two_mono hp)
    have key : ∀ c : Fin 9, ∀ P : Fin 10, c.val + P.val ≤ 9 → 1 ≤ P.val → 3 ^ c.val * 2 ^ P.val ≤ 13122 := by decide
    have h4 := key ⟨T.1, by omega⟩ ⟨k, by omega⟩ hck hk1
    exact Nat.le_trans h2 (Nat.le_trans h1 (Nat.le_trans h3 h4))
end CHN
