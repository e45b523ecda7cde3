/-! moves make plane nets of plane nets -/
section PM3
variable {R Q : ow_NT} {F P : Nat → Int32} {j : Nat}
theorem mv_bs_t {N : Nat → Nat} {v w : Nat} (h : mv_bs N v w = true) : N v = w ∨ N w = v := by
  unfold mv_bs at h
  rcases (Bool.or_eq_true _ _).mp h with h | h
  · exact Or.inl (of_decide_eq_true h)
  · exact Or.inr (of_decide_eq_true h)
theorem cpy_on (hv : vn R.1 R.2.2.1) {s : Nat} (hs : s < 4 * R.1) : fc_on (nt_copy Q R).2.2.1 (nt_copy Q R).2.2.2 s = fc_on R.2.2.1 R.2.2.2 s ∧ fc_end (nt_copy Q R).2.2.1.1 s = fc_end R.2.2.1.1 s := by
  have he : fc_end (nt_copy Q R).2.2.1.1 s = fc_end R.2.2.1.1 s := by
    unfold fc_end
    split
    · exact (cpyN (by omega)).1
    · rfl
  have hl : fc_end R.2.2.1.1 s < 2 * R.1 := by
    have := (hv (s / 2) (by omega)).1
    unfold fc_end
    split <;> omega
  refine ⟨?_, he⟩
  unfold fc_on
  rw [he, cpyG (show fc_end R.2.2.1.1 s / 2 < R.1 by omega), (cpyN (mt_lt hl)).2]
theorem mv_pl0 (h : nv R) (hT : pm1 R) (hp : nt_plane R = true) (hj : j < mv_cnt R.1 0) (hB : mv_B 0 j Q R F P = true) : nt_plane (mv_T 0 j Q R F P) = true ∧ pm1 (mv_T 0 j Q R F P) := by
  have hj : j < R.1 := hj
  have hB : mv_bs R.2.2.1.1 (2 * j) (2 * j + 1) = true := hB
  show nt_plane (mv_t0 Q R j) = true ∧ pm1 (mv_t0 Q R j)
  unfold mv_t0
  rw [if_pos hB]
  refine ⟨pl_kink (T := nt_copy Q R) (vn_copy h.1) h.2.1 hj ?_ ((pl_copy h.1 h.2.1).mpr hp), pm1_rm (pm1_copy hT) hj⟩
  rw [(cpyN (show 2 * j < 2 * R.1 by omega)).1, (cpyN (show 2 * j + 1 < 2 * R.1 by omega)).1]
  exact mv_bs_t hB
theorem mv_pl2 (h : nv R) (hT : pm1 R) (hp : nt_plane R = true) (hj : j < mv_cnt R.1 2) (hB : mv_B 2 j Q R F P = true) : nt_plane (mv_T 2 j Q R F P) = true ∧ pm1 (mv_T 2 j Q R F P) := by
  have hj : j < R.1 * R.1 := hj
  have hB : mv_b2 R (j / R.1) (j % R.1) = true := hB
  have hx : j / R.1 < R.1 := Nat.div_lt_of_lt_mul hj
  show nt_plane (mv_t2 Q R (j / R.1) (j % R.1)) = true ∧ pm1 (mv_t2 Q R (j / R.1) (j % R.1))
  unfold mv_t2
  rw [if_pos hB]
  unfold mv_b2 mv_pair at hB
  obtain ⟨b1, b2⟩ := (Bool.and_eq_true _ _).mp hB
  obtain ⟨b3, b4⟩ := (Bool.and_eq_true _ _).mp b2
  obtain ⟨b5, b6⟩ := (Bool.and_eq_true _ _).mp b3
  have hy := of_decide_eq_true b1
  have hs := of_decide_eq_true b5
  generalize j / R.1 = x at *
  generalize j % R.1 = y at *
  have g1 := mv_bs_t b6
  have g2 := mv_bs_t b4
  refine ⟨pl_pair (T := nt_copy Q R) (vn_copy h.1) h.2.1 (pm1_copy hT) hx hy ?_ ?_ ?_ ((pl_copy h.1 h.2.1).mpr hp), pm1_rm (pm1_rm (pm1_copy hT) hx) (show y < R.1 - 1 by omega)⟩
  · rw [cpyG hx, cpyG (show y < R.1 by omega)]
    exact hs
  · rw [(cpyN (show 2 * x < 2 * R.1 by omega)).1, (cpyN (show 2 * y < 2 * R.1 by omega)).1]
    exact g1
  · rw [(cpyN (show 2 * x + 1 < 2 * R.1 by omega)).1, (cpyN (show 2 * y + 1 < 2 * R.1 by omega)).1]
    exact g2
theorem mv_pl4 (h : nv R) (hT : pm1 R) (hp : nt_plane R = true) (hj : j < 4 * R.1) (hB : mv_b4 R j = true) : nt_plane (mv_t4 Q R j) = true ∧ pm1 (mv_t4 Q R j) := by
  unfold mv_t4
  rw [if_pos hB]
  unfold mv_b4 mv_pass at hB
  obtain ⟨-, b2⟩ := (Bool.and_eq_true _ _).mp hB
  obtain ⟨-, b3⟩ := (Bool.and_eq_true _ _).mp b2
  obtain ⟨b4, b5⟩ := (Bool.and_eq_true _ _).mp b3
  obtain ⟨b6, b7⟩ := (Bool.and_eq_true _ _).mp b5
  obtain ⟨b8, b9⟩ := (Bool.and_eq_true _ _).mp b7
  obtain ⟨c1, -⟩ := (Bool.and_eq_true _ _).mp b9
  have e3 := of_decide_eq_true b4
  have d1 := of_decide_eq_true b6
  have d2 := of_decide_eq_true b8
  have d3 := of_decide_eq_true c1
  have hl1 := fc_on_vn h.1 R.2.2.2 hj
  have hl2 := fc_on_vn h.1 R.2.2.2 hl1
  generalize hs1 : fc_on R.2.2.1 R.2.2.2 j = s1 at *
  generalize hs2 : fc_on R.2.2.1 R.2.2.2 s1 = s2 at *
  have v1 := h.1
  obtain ⟨k1, k2⟩ := pl_pass (R := nt_copy Q R) (vn_copy v1) h.2.1 ((pl_copy v1 h.2.1).mpr hp) (s0 := j) (s1 := s1) (s2 := s2) hj (by rw [(cpy_on v1 hj).1, hs1]) (by rw [(cpy_on v1 hl1).1, hs2]) (by rw [(cpy_on v1 hl2).1, e3]) (by rw [(cpy_on v1 hj).2, (cpy_on v1 hl1).2]; exact d1) (by rw [(cpy_on v1 hl1).2, (cpy_on v1 hl2).2]; exact d2) (by rw [(cpy_on v1 hj).2, (cpy_on v1 hl2).2]; exact d3)
  rw [(cpyN (show j / 2 < 2 * R.1 by omega)).1, (cpyN (show s1 / 2 < 2 * R.1 by omega)).1, (cpyN (show s2 / 2 < 2 * R.1 by omega)).1] at k1 k2
  exact ⟨(plane_iff (T := nt_sw R (nt_sw R (nt_sw R (nt_copy Q R) j) s1) s2) k1 h.2.1).mpr k2, pm1_copy hT⟩
theorem comes1 {U : ow_NT} {x : Int32} {af : Option Nat} {u o : Nat} (hv : vn U.1 U.2.2.1) (hc : U.1 ≤ 12) (hT : pm1 U) (hp : nt_plane U = true) (hx : x = 1 ∨ x = -1) (haf : ∀ a, af = some a → a < 2 * U.1) (hk : u = 2 * U.1 ∧ o = 2 * U.1 + 1 ∨ u = 2 * U.1 + 1 ∧ o = 2 * U.1) (hn1 : vn (U.1 + 1) (nt_pair (nt_add U x) af u o).2.2.1) (hn2 : U.1 + 1 ≤ 12) : nt_plane (nt_pair (nt_add U x) af u o) = true ∧ pm1 (nt_pair (nt_add U x) af u o) := by
  have hc1 : (nt_pair (nt_add U x) af u o).1 = U.1 + 1 := nt_pair_c _ _ _ _
  have hG : (nt_pair (nt_add U x) af u o).2.2.2 = su U.2.2.2 U.1 x := by
    cases af <;> rfl
  have hpc := (plane_iff hv hc).mp hp
  have key : pn_pl (U.1 + 1) (nt_pair (nt_add U x) af u o).2.2.1 (stG (su U.2.2.2 U.1 x)) := pl_comes (c := U.1) (S := U.2.2.1) (G := U.2.2.2) (G' := su U.2.2.2 U.1 x) (u := u) (o := o) af haf hv hpc (fun x hx => if_neg (by omega)) hk U.2.1 hn1
  constructor
  · rw [plane_iff (by rw [hc1]; exact hn1) (by rw [hc1]; exact hn2), hc1, hG]
    exact key
  · intro y hy
    rw [hc1] at hy
    rw [hG]
    show (if y = U.1 then x else U.2.2.2 y) = 1 ∨ (if y = U.1 then x else U.2.2.2 y) = -1
    by_cases e : y = U.1
    · rw [if_pos e]
      exact hx
    · rw [if_neg e]
      exact hT y (by omega)
theorem mv_pl1 (h : nv R) (hT : pm1 R) (hp : nt_plane R = true) (hQ : ow_b24 Q.2.2.1) (hj : j < mv_cnt R.1 1) (hB : mv_B 1 j Q R F P = true) : nt_plane (mv_T 1 j Q R F P) = true ∧ pm1 (mv_T 1 j Q R F P) := by
  have hnv : nv (mv_t1 Q R (j / 4) (j % 4)) := (mv_nv1 h F P Q j (fun e => absurd e (by decide)) hQ hj).2 hB
  have hcc : R.1 + 1 ≤ 12 := by
    rcases Nat.lt_or_ge 12 (R.1 + 1) with q | q
    · have h9 : mv_cnt R.1 1 = 0 := if_neg (by omega)
      omega
    · exact q
  have hj : j < (2 * R.1 + 1) * 4 := by rw [show mv_cnt R.1 1 = (2 * R.1 + 1) * 4 from if_pos hcc] at hj; exact hj
  have hB : mv_b1 R (j / 4) = true := hB
  have hk : (2 * R.1 + j % 4 % 2 = 2 * R.1 ∧ mt (2 * R.1 + j % 4 % 2) = 2 * R.1 + 1) ∨ (2 * R.1 + j % 4 % 2 = 2 * R.1 + 1 ∧ mt (2 * R.1 + j % 4 % 2) = 2 * R.1) := by
    unfold mt
    by_cases e2 : (2 * R.1 + j % 4 % 2) % 2 = 0
    · rw [if_pos e2]; omega
    · rw [if_neg e2]; omega
  have et : mv_t1 Q R (j / 4) (j % 4) = nt_pair (nt_add (nt_copy Q R) (mv_sg (j % 4))) (mv_af R (j / 4)) (2 * R.1 + j % 4 % 2) (mt (2 * R.1 + j % 4 % 2)) := by
    unfold mv_t1
    rw [if_pos hB]
  have hc1 : (nt_pair (nt_add (nt_copy Q R) (mv_sg (j % 4))) (mv_af R (j / 4)) (2 * R.1 + j % 4 % 2) (mt (2 * R.1 + j % 4 % 2))).1 = R.1 + 1 := nt_pair_c _ _ _ _
  show nt_plane (mv_t1 Q R (j / 4) (j % 4)) = true ∧ pm1 (mv_t1 Q R (j / 4) (j % 4))
  rw [et] at hnv ⊢
  have hn1 := hnv.1
  rw [hc1] at hn1
  refine comes1 (U := nt_copy Q R) (vn_copy h.1) h.2.1 (pm1_copy hT) ((pl_copy h.1 h.2.1).mpr hp) ?_ (fun a ha => mv_af_lt (R := R) (show j / 4 ≤ 2 * R.1 by omega) ha) hk hn1 hcc
  unfold mv_sg
  split
  · exact Or.inl rfl
  · exact Or.inr rfl
theorem mv_pl3 (hT : pm1 R) (hB : mv_B 3 j Q R F P = true) : nt_plane (mv_T 3 j Q R F P) = true ∧ pm1 (mv_T 3 j Q R F P) := by
  have hB : (mv_b3 R F P (j / 4 / (2 * R.1 + 2)) (j / 4 % (2 * R.1 + 2)) && nt_plane (mv_t3b Q R (j / 4 / (2 * R.1 + 2)) (j / 4 % (2 * R.1 + 2)) (j % 4))) = true := hB
  obtain ⟨b1, b2⟩ := (Bool.and_eq_true _ _).mp hB
  show nt_plane (mv_t3 Q R F P (j / 4 / (2 * R.1 + 2)) (j / 4 % (2 * R.1 + 2)) (j % 4)) = true ∧ pm1 (mv_t3 Q R F P (j / 4 / (2 * R.1 + 2)) (j / 4 % (2 * R.1 + 2)) (j % 4))
  unfold mv_t3
  rw [if_pos b1]
  refine ⟨b2, fun x hx => ?_⟩
  rw [mv_t3b_c] at hx
  have hG : ∀ (U : ow_NT) (af : Option Nat) (u o : Nat), (nt_pair U af u o).2.2.2 = U.2.2.2 := fun U af u o => by cases af <;> rfl
  unfold mv_t3b mv_t3a
  rw [hG, hG]
  show (if x = R.1 + 1 then mv_s2 (j % 4) else if x = R.1 then mv_s1 (j % 4) else (nt_copy Q R).2.2.2 x) = 1 ∨ (if x = R.1 + 1 then mv_s2 (j % 4) else if x = R.1 then mv_s1 (j % 4) else (nt_copy Q R).2.2.2 x) = -1
  by_cases e : x = R.1 + 1
  · rw [if_pos e]
    unfold mv_s2
    split
    · exact Or.inr rfl
    · exact Or.inl rfl
  · rw [if_neg e]
    by_cases e2 : x = R.1
    · rw [if_pos e2]
      unfold mv_s1
      split
      · exact Or.inl rfl
      · exact Or.inr rfl
    · rw [if_neg e2]
      exact pm1_copy hT x (show x < R.1 by omega)
/-- a move of any kind -/
theorem mv_pl (h : nv R) (hT : pm1 R) (hp : nt_plane R = true) {kd : Nat} (hkd : kd < 5) (hQ : ow_b24 Q.2.2.1) (hj : j < mv_cnt R.1 kd) (hB : mv_B kd j Q R F P = true) : nt_plane (mv_T kd j Q R F P) = true ∧ pm1 (mv_T kd j Q R F P) := by
  rcases (show kd = 0 ∨ kd = 1 ∨ kd = 2 ∨ kd = 3 ∨ kd = 4 by omega) with rfl | rfl | rfl | rfl | rfl
  · exact mv_pl0 h hT hp hj hB
  · exact mv_pl1 h hT hp hQ hj hB
  · exact mv_pl2 h hT hp hj hB
  · exact mv_pl3 hT hB
  · have hj : j < 2 * (2 * R.1) := hj
    exact mv_pl4 h hT hp (by omega) hB
end PM3
