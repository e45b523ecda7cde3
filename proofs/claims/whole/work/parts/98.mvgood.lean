/-! nets of the house: valid, at most 12 crossings, at most 6 rings and circles -/
def nv (R : ow_NT) : Prop := vn R.1 R.2.2.1 ∧ R.1 ≤ 12 ∧ ow_b24 R.2.2.1 ∧ np_rg R.1 R.2.2.1 + R.2.1 ≤ 6
theorem nv_gd {R : ow_NT} (h : nv R) : nt_gd R := by
  obtain ⟨h1, h2, h3, h4⟩ := h
  exact nt_gd_ok h1 h2 (by omega) (by omega) h3
theorem vn_ltB {c : Nat} {S : ow_NP} (h : vn c S) : vD (fun k => ltB c k = true) S := vD_cg (vD_vn.mpr h) (fun _ => ltB_t)
theorem ltB_24 {c : Nat} (hc : c ≤ 12) : ∀ k, ltB c k = true → k < 24 := fun k hk => by
  have := ltB_t.mp hk
  omega
theorem nv_copy {Q R : ow_NT} (h : nv R) (hQ : ow_b24 Q.2.2.1) : nv (nt_copy Q R) := by
  obtain ⟨h1, h2, h3, h4⟩ := h
  refine ⟨vn_copy h1, h2, nt_copy_b24 hQ h3, ?_⟩
  show np_rg R.1 (nt_copy Q R).2.2.1 + R.2.1 ≤ 6
  rw [np_rg_D _ h2, rgD_cg (D := ltB R.1) (T := (nt_copy Q R).2.2.1) (vn_ltB h1) (fun k hk => by
    show va_cpy R.2.2.1.1 Q.2.2.1.1 0 0 (2 * R.1) k = R.2.2.1.1 k
    have := ltB_t.mp hk
    rw [pk_cpy_in (Nat.zero_le k) (by omega), Nat.zero_add, Nat.sub_zero]), ← np_rg_D _ h2]
  exact h4
theorem nv_rm {R : ow_NT} {x : Nat} (h : nv R) (hx : x < R.1) : nv (nt_rm R x) := by
  obtain ⟨h1, h2, h3, h4⟩ := h
  obtain ⟨c, hc⟩ : ∃ c, R.1 = c + 1 := ⟨R.1 - 1, by omega⟩
  have hc1 : R.1 - 1 = c := by omega
  rw [hc] at h1 h4
  have hr := np_rg_rm (k := R.2.1) h1 (by omega) (show x ≤ c by omega)
  refine ⟨?_, ?_, np_rmS_b24 h3 (by omega), ?_⟩
  · show vn (R.1 - 1) (np_rmS R.2.2.1 x (R.1 - 1))
    rw [hc1]; exact vn_rm h1 (by omega)
  · show R.1 - 1 ≤ 12
    omega
  · show np_rg (R.1 - 1) (np_rmS R.2.2.1 x (R.1 - 1)) + np_rmN R.2.2.1 x R.2.1 ≤ 6
    rw [hc1, hr]; exact h4
theorem nv_swap {R : ow_NT} {v w : Nat} (h : nv R) (hv : v < 2 * R.1) (hw : w < 2 * R.1) : nv (nt_swap R v w) := by
  obtain ⟨h1, h2, h3, h4⟩ := h
  refine ⟨vD_vn.mp (vD_swap (vD_vn.mpr h1) hv hw), h2, np_swap_b24 h3 (by omega) (by omega), ?_⟩
  show np_rg R.1 (np_swap R.2.2.1 v w) + R.2.1 ≤ 6
  rw [np_rg_D _ h2, rgD_swap (vn_ltB h1) (ltB_24 h2) (ltB_t.mpr hv) (ltB_t.mpr hw), ← np_rg_D _ h2]
  exact h4
/-- two visits come: rings and circles stay as many -/
theorem rg_pair {D : Nat → Bool} {Q : ow_NT} (h : vD (fun k => D k = true) Q.2.2.1) (hD : ∀ k, D k = true → k < 24) {af : Option Nat} {f g : Nat} (ha : ∀ a, af = some a → D a = true) (hci : af = none → 1 ≤ Q.2.1) (hf : ¬ D f = true) (hg : ¬ D g = true) (hfg : ¬ f = g) (hf24 : f < 24) (hg24 : g < 24) : rgD (inB (inB D f) g) (nt_pair Q af f g).2.2.1 + (nt_pair Q af f g).2.1 = rgD D Q.2.2.1 + Q.2.1 := by
  have hD1 : ∀ k, inB D f k = true → k < 24 := fun k hk => by
    rcases inB_t.mp hk with q | q
    · exact hD k q
    · omega
  have hff : inB D f f = true := inB_t.mpr (Or.inr rfl)
  have hg1 : ¬ inB D f g = true := fun q => by
    rcases inB_t.mp q with r | r
    · exact hg r
    · exact hfg r.symm
  cases af with
  | none =>
    show rgD (inB (inB D f) g) (np_putBehind (nl Q.2.2.1 f f) f g) + (Q.2.1 - 1) = _
    rw [rgD_put (vD_inB (vD_open (D := fun k => D k = true) h hf)) hD1 hff hg1 hg24, rgD_open h hf hf24]
    have := hci rfl
    omega
  | some a =>
    show rgD (inB (inB D f) g) (np_putBehind (np_putBehind Q.2.2.1 a f) f g) + Q.2.1 = _
    rw [rgD_put (vD_inB (vD_put (D := fun k => D k = true) h (ha a rfl) hf)) hD1 hff hg1 hg24, rgD_put h hD (ha a rfl) hf hf24]
/-- all that a move of a kind makes is such a net -/
def mv_nvs (kd : Nat) (R : ow_NT) : Prop := ∀ (F P : Nat → Int32) (Q : ow_NT) (j : Nat), mv_mk kd R F P → ow_b24 Q.2.2.1 → j < mv_cnt R.1 kd → ow_b24 (mv_T kd j Q R F P).2.2.1 ∧ (mv_B kd j Q R F P = true → nv (mv_T kd j Q R F P))
/-! moves of kinds 0, 2, 4 -/
theorem mv_nv0 {R : ow_NT} (h : nv R) : mv_nvs 0 R := by
  intro F P Q j _ hQ hj
  have hj : j < R.1 := hj
  show ow_b24 (mv_t0 Q R j).2.2.1 ∧ (mv_bs R.2.2.1.1 (2 * j) (2 * j + 1) = true → nv (mv_t0 Q R j))
  unfold mv_t0
  split
  · have := nv_rm (nv_copy h hQ) (show j < (nt_copy Q R).1 from hj)
    exact ⟨this.2.2.1, fun _ => this⟩
  · rename_i e
    exact ⟨hQ, fun q => absurd q e⟩
theorem mv_nv2 {R : ow_NT} (h : nv R) : mv_nvs 2 R := by
  intro F P Q j _ hQ hj
  have hj : j < R.1 * R.1 := hj
  have h0 : 0 < R.1 := Nat.pos_of_ne_zero (fun e => by rw [e] at hj; omega)
  have hm : j % R.1 < R.1 := Nat.mod_lt _ h0
  have hd : j / R.1 < R.1 := Nat.div_lt_of_lt_mul hj
  show ow_b24 (mv_t2 Q R (j / R.1) (j % R.1)).2.2.1 ∧ (mv_b2 R (j / R.1) (j % R.1) = true → nv (mv_t2 Q R (j / R.1) (j % R.1)))
  unfold mv_t2
  split
  · rename_i e
    have hlt : j % R.1 < j / R.1 := by
      unfold mv_b2 at e
      rw [Bool.and_eq_true, decide_eq_true_eq] at e
      exact e.1
    have h1 := nv_rm (nv_copy h hQ) (show j / R.1 < (nt_copy Q R).1 from hd)
    have := nv_rm h1 (show j % R.1 < R.1 - 1 by omega)
    exact ⟨this.2.2.1, fun _ => this⟩
  · rename_i e
    exact ⟨hQ, fun q => absurd q e⟩
theorem mv_nv4 {R : ow_NT} (h : nv R) : mv_nvs 4 R := by
  intro F P Q j _ hQ hj
  have hj : j < 2 * (2 * R.1) := hj
  have hb := fc_on_vn h.1 R.2.2.2 (show j < 4 * R.1 by omega)
  have hd := fc_on_vn h.1 R.2.2.2 hb
  show ow_b24 (mv_t4 Q R j).2.2.1 ∧ (mv_b4 R j = true → nv (mv_t4 Q R j))
  unfold mv_t4
  split
  · have sw : ∀ (T : ow_NT) (a : Nat), nv T → T.1 = R.1 → a < 4 * R.1 → nv (nt_sw R T a) ∧ (nt_sw R T a).1 = R.1 := fun T a hT he ha => ⟨nv_swap hT (by rw [he]; omega) (by rw [he]; exact (h.1 _ (by omega)).1), he⟩
    have s1 := sw (nt_copy Q R) j (nv_copy h hQ) rfl (by omega)
    have s2 := sw _ _ s1.1 s1.2 hb
    have s3 := sw _ _ s2.1 s2.2 hd
    exact ⟨s3.1.2.2.1, fun _ => s3.1⟩
  · rename_i e
    exact ⟨hQ, fun q => absurd q e⟩
/-! moves of kind 1 -/
theorem mv_nv1 {R : ow_NT} (h : nv R) : mv_nvs 1 R := by
  intro F P Q j _ hQ hj
  have hcc : R.1 + 1 ≤ 12 := by
    rcases Nat.lt_or_ge 12 (R.1 + 1) with q | q
    · have h9 : mv_cnt R.1 1 = 0 := if_neg (by omega)
      omega
    · exact q
  have hj : j < (2 * R.1 + 1) * 4 := by rw [show mv_cnt R.1 1 = (2 * R.1 + 1) * 4 from if_pos hcc] at hj; exact hj
  show ow_b24 (mv_t1 Q R (j / 4) (j % 4)).2.2.1 ∧ (mv_b1 R (j / 4) = true → nv (mv_t1 Q R (j / 4) (j % 4)))
  unfold mv_t1
  split
  · rename_i e
    obtain ⟨h1, h2, h3, h4⟩ := nv_copy h hQ
    have haf : ∀ a, mv_af R (j / 4) = some a → a < 2 * R.1 := fun a ha => mv_af_lt (by omega) ha
    have hci : mv_af R (j / 4) = none → 1 ≤ R.2.1 := fun hn => by
      unfold mv_af at hn
      split at hn
      · rename_i eg
        rcases Nat.eq_zero_or_pos R.2.1 with q | q
        · unfold mv_b1 at e
          rw [decide_eq_true eg, decide_eq_true q] at e
          exact absurd e (by decide)
        · exact q
      · cases hn
    have hk : (2 * R.1 + j % 4 % 2 = 2 * R.1 ∧ mt (2 * R.1 + j % 4 % 2) = 2 * R.1 + 1) ∨ (2 * R.1 + j % 4 % 2 = 2 * R.1 + 1 ∧ mt (2 * R.1 + j % 4 % 2) = 2 * R.1) := by
      unfold mt
      by_cases e2 : (2 * R.1 + j % 4 % 2) % 2 = 0
      · rw [if_pos e2]; omega
      · rw [if_neg e2]; omega
    have hv0 : vD (fun k => k < 2 * R.1) (nt_copy Q R).2.2.1 := vD_vn.mpr h1
    have hb : ow_b24 (nt_pair (nt_add (nt_copy Q R) (mv_sg (j % 4))) (mv_af R (j / 4)) (2 * R.1 + j % 4 % 2) (mt (2 * R.1 + j % 4 % 2))).2.2.1 := nt_pair_b24 (Q := nt_add (nt_copy Q R) (mv_sg (j % 4))) h3 (fun a ha => by have := haf a ha; omega) (by omega) (by rcases hk with q | q <;> omega)
    have hc1 : (nt_pair (nt_add (nt_copy Q R) (mv_sg (j % 4))) (mv_af R (j / 4)) (2 * R.1 + j % 4 % 2) (mt (2 * R.1 + j % 4 % 2))).1 = R.1 + 1 := nt_pair_c _ _ _ _
    refine ⟨hb, fun _ => ⟨?_, by rw [hc1]; exact hcc, hb, ?_⟩⟩
    · rw [hc1]
      exact vD_vn.mp (vD_cg (vD_pair (Q := nt_add (nt_copy Q R) (mv_sg (j % 4))) hv0 (fun a ha => haf a ha) (by rcases hk with q | q <;> omega) (by rcases hk with q | q <;> omega) (by rcases hk with q | q <;> omega)) (fun k => by rcases hk with q | q <;> omega))
    · rw [hc1, np_rg_D _ hcc]
      have hr := rg_pair (D := ltB R.1) (Q := nt_add (nt_copy Q R) (mv_sg (j % 4))) (af := mv_af R (j / 4)) (f := 2 * R.1 + j % 4 % 2) (g := mt (2 * R.1 + j % 4 % 2)) (vn_ltB h1) (ltB_24 (by omega)) (fun a ha => ltB_t.mpr (haf a ha)) hci (fun q => by have := ltB_t.mp q; omega) (fun q => by have := ltB_t.mp q; rcases hk with r | r <;> omega) (by rcases hk with q | q <;> omega) (by omega) (by rcases hk with q | q <;> omega)
      rw [rgD_set (D := ltB (R.1 + 1)) (E := inB (inB (ltB R.1) (2 * R.1 + j % 4 % 2)) (mt (2 * R.1 + j % 4 % 2))) (fun k => by
        rw [Bool.eq_iff_iff, inB_t, inB_t, ltB_t, ltB_t]
        rcases hk with q | q <;> omega), hr]
      have h5 : np_rg R.1 (nt_copy Q R).2.2.1 + R.2.1 ≤ 6 := h4
      rw [np_rg_D _ (by omega)] at h5
      exact h5
  · rename_i e
    exact ⟨hQ, fun q => absurd q e⟩
/-! moves of kind 3 -/
theorem mv_nv3 {R : ow_NT} (h : nv R) : mv_nvs 3 R := by
  intro F P Q j _ hQ hj
  have hcc : R.1 + 2 ≤ 12 := by
    rcases Nat.lt_or_ge 12 (R.1 + 2) with q | q
    · have h9 : mv_cnt R.1 3 = 0 := if_neg (by omega)
      omega
    · exact q
  have hj : j < (2 * R.1 + 1) * (2 * R.1 + 2) * 4 := by rw [show mv_cnt R.1 3 = (2 * R.1 + 1) * (2 * R.1 + 2) * 4 from if_pos hcc] at hj; exact hj
  have ho : j / 4 / (2 * R.1 + 2) ≤ 2 * R.1 := by
    have : j / 4 / (2 * R.1 + 2) < 2 * R.1 + 1 := Nat.div_lt_of_lt_mul (by rw [Nat.mul_comm]; omega)
    omega
  have hu : j / 4 % (2 * R.1 + 2) ≤ 2 * R.1 + 1 := by
    have : j / 4 % (2 * R.1 + 2) < 2 * R.1 + 2 := Nat.mod_lt _ (by omega)
    omega
  show ow_b24 (mv_t3 Q R F P (j / 4 / (2 * R.1 + 2)) (j / 4 % (2 * R.1 + 2)) (j % 4)).2.2.1 ∧ ((mv_b3 R F P (j / 4 / (2 * R.1 + 2)) (j / 4 % (2 * R.1 + 2)) && nt_plane (mv_t3b Q R (j / 4 / (2 * R.1 + 2)) (j / 4 % (2 * R.1 + 2)) (j % 4))) = true → nv (mv_t3 Q R F P (j / 4 / (2 * R.1 + 2)) (j / 4 % (2 * R.1 + 2)) (j % 4)))
  generalize j / 4 / (2 * R.1 + 2) = o at ho
  generalize j / 4 % (2 * R.1 + 2) = u at hu
  generalize j % 4 = ch
  unfold mv_t3
  split
  · rename_i e
    have hnd : mv_nd R o u ≤ R.2.1 := by
      unfold mv_b3 at e
      rw [Bool.and_eq_true, decide_eq_true_eq] at e
      exact e.1
    obtain ⟨h1, h2, h3, h4⟩ := nv_copy h hQ
    have hTa : ow_b24 (mv_t3a Q R o ch).2.2.1 := nt_pair_b24 (Q := nt_add (nt_add (nt_copy Q R) (mv_s1 ch)) (mv_s2 ch)) h3 (fun a ha => by have := mv_af_lt ho ha; omega) (by omega) (by omega)
    have hfg : ∃ f g, mv_t3b Q R o u ch = nt_pair (mv_t3a Q R o ch) (mv_au R u) f g ∧ ((f = 2 * R.1 + 1 ∧ g = 2 * R.1 + 3) ∨ (f = 2 * R.1 + 3 ∧ g = 2 * R.1 + 1)) := by
      unfold mv_t3b
      by_cases e2 : ch / 2 % 2 = 0
      · rw [if_pos e2, if_pos e2]; exact ⟨_, _, rfl, Or.inl ⟨rfl, rfl⟩⟩
      · rw [if_neg e2, if_neg e2]; exact ⟨_, _, rfl, Or.inr ⟨rfl, rfl⟩⟩
    obtain ⟨f, g, eT, hk⟩ := hfg
    have hc1 := mv_t3b_c Q R o u ch
    have hvn := vn_t3b (Q := Q) (u := u) (ch := ch) h.1 ho
    have hb : ow_b24 (mv_t3b Q R o u ch).2.2.1 := by
      rw [eT]
      exact nt_pair_b24 hTa (fun a ha => by have := mv_au_in ha; omega) (by rcases hk with q | q <;> omega) (by rcases hk with q | q <;> omega)
    refine ⟨hb, fun _ => ⟨by rw [hc1]; exact hvn, by rw [hc1]; exact hcc, hb, ?_⟩⟩
    rw [hc1, np_rg_D _ hcc]
    have r1 := rg_pair (D := ltB R.1) (Q := nt_add (nt_add (nt_copy Q R) (mv_s1 ch)) (mv_s2 ch)) (af := mv_af R o) (f := 2 * R.1) (g := 2 * R.1 + 2) (vn_ltB h1) (ltB_24 (by omega)) (fun a ha => ltB_t.mpr (mv_af_lt ho ha)) (fun hn => show 1 ≤ R.2.1 from mv_nd_1 hnd hn) (fun q => by have := ltB_t.mp q; omega) (fun q => by have := ltB_t.mp q; omega) (by omega) (by omega) (by omega)
    have r1 : rgD (inB (inB (ltB R.1) (2 * R.1)) (2 * R.1 + 2)) (mv_t3a Q R o ch).2.2.1 + (mv_t3a Q R o ch).2.1 = rgD (ltB R.1) (nt_copy Q R).2.2.1 + R.2.1 := r1
    have va : vD (fun k => inB (inB (ltB R.1) (2 * R.1)) (2 * R.1 + 2) k = true) (mv_t3a Q R o ch).2.2.1 := vD_cg (vD_t3a (Q := Q) (ch := ch) h.1 ho) (fun k => by rw [inB_t, inB_t, ltB_t])
    have r2 := rg_pair (D := inB (inB (ltB R.1) (2 * R.1)) (2 * R.1 + 2)) (Q := mv_t3a Q R o ch) (af := mv_au R u) (f := f) (g := g) va (fun k hk2 => by
      rcases inB_t.mp hk2 with q | q
      · rcases inB_t.mp q with q | q
        · have := ltB_t.mp q; omega
        · omega
      · omega) (fun a ha => by
      rcases mv_au_in ha with q | q
      · exact inB_t.mpr (Or.inl (inB_t.mpr (Or.inl (ltB_t.mpr q))))
      · exact inB_t.mpr (Or.inr q)) (fun hn => mv_nd_2 hnd hu hn) (fun q => by
      rw [inB_t, inB_t, ltB_t] at q
      rcases hk with r | r <;> omega) (fun q => by
      rw [inB_t, inB_t, ltB_t] at q
      rcases hk with r | r <;> omega) (by rcases hk with r | r <;> omega) (by rcases hk with r | r <;> omega) (by rcases hk with r | r <;> omega)
    rw [eT]
    rw [rgD_set (D := ltB (R.1 + 2)) (E := inB (inB (inB (inB (ltB R.1) (2 * R.1)) (2 * R.1 + 2)) f) g) (fun k => by
      rw [Bool.eq_iff_iff, inB_t, inB_t, inB_t, inB_t, ltB_t, ltB_t]
      rcases hk with q | q <;> omega), r2, r1]
    have h5 : np_rg R.1 (nt_copy Q R).2.2.1 + R.2.1 ≤ 6 := h4
    rw [np_rg_D _ (by omega)] at h5
    exact h5
  · rename_i e
    exact ⟨hQ, fun q => by rw [Bool.and_eq_true] at q; exact absurd q.1 e⟩
theorem mv_nv {R : ow_NT} (h : nv R) {kd : Nat} (hkd : kd < 5) : mv_nvs kd R := by
  have h5 : kd = 0 ∨ kd = 1 ∨ kd = 2 ∨ kd = 3 ∨ kd = 4 := by omega
  rcases h5 with rfl | rfl | rfl | rfl | rfl
  · exact mv_nv0 h
  · exact mv_nv1 h
  · exact mv_nv2 h
  · exact mv_nv3 h
  · exact mv_nv4 h
/-- every move of a house's net makes nets that can be given codes -/
theorem mv_good_nv {R : ow_NT} (h : nv R) {kd : Nat} (hkd : kd < 5) : mv_good kd R := fun F P Q j h1 h2 h3 => by
  obtain ⟨a1, a2⟩ := mv_nv h hkd F P Q j h1 h2 h3
  exact ⟨a1, fun q => nv_gd (a2 q)⟩
