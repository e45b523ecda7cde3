/-! the moves of both sides: kind 3, whole -/
section XP3B
variable {A A1 A2 : rn_L} {sg : Nat → Bool} {R Q : ow_NT} {g h i k o u ch : Nat} {f : Nat → Nat} {T : ow_NT}
theorem iso_ro {Z W : List vT} (hi : A[i]? = some []) (h : isoV (A.set i (Z ++ W)) sg f T) : isoV (A.set i (W ++ Z)) sg f T := by
  obtain ⟨Pre, Post, rfl, e⟩ := set_at hi
  rw [e] at h ⊢
  have hn := h.1.1.1
  have nC : (Z ++ W).Nodup := L_nd hn (by simp)
  refine isoV_lists h ?_ ?_ (fun L hL p hp => ?_)
  · rw [List.flatten_append, List.flatten_append, List.flatten_cons, List.flatten_cons]
    exact List.Perm.append_left _ (List.Perm.append_right _ List.perm_append_comm)
  · rw [cirs_app2, cirs_app2, cirs_cons, cirs_cons]
    have : (W ++ Z = []) ↔ (Z ++ W = []) := by
      rw [List.append_eq_nil_iff, List.append_eq_nil_iff]
      exact ⟨fun h => ⟨h.2, h.1⟩, fun h => ⟨h.2, h.1⟩⟩
    by_cases e9 : Z ++ W = []
    · rw [if_pos e9, if_pos (this.mpr e9)]
    · rw [if_neg e9, if_neg (fun h9 => e9 (this.mp h9))]
  · rcases List.mem_append.mp hL with h9 | h9
    · exact ⟨L, List.mem_append_left _ h9, hp, rfl⟩
    · rcases List.mem_cons.mp h9 with h9 | h9
      · rw [h9] at hp ⊢
        have hp' : p ∈ Z ++ W := by
          rcases List.mem_append.mp hp with h8 | h8
          · exact List.mem_append_right _ h8
          · exact List.mem_append_left _ h8
        exact ⟨Z ++ W, by simp, hp', sc_rot nC hp'⟩
      · exact ⟨L, List.mem_append_right _ (List.mem_cons_of_mem _ h9), hp, rfl⟩
theorem t3b_1 : (mv_t3b Q R o u ch).1 = R.1 + 2 := by
  unfold mv_t3b mv_t3a
  cases mv_au R u <;> cases mv_af R o <;> rfl
theorem t3b_G : (mv_t3b Q R o u ch).2.2.2 = su (su (nt_copy Q R).2.2.2 R.1 (mv_s1 ch)) (R.1 + 1) (mv_s2 ch) := by
  unfold mv_t3b mv_t3a
  cases mv_au R u <;> cases mv_af R o <;> rfl
theorem cpy_G {x : Nat} (hx : x < R.1) : (nt_copy Q R).2.2.2 x = R.2.2.2 x := by
  show va_cpy R.2.2.2 Q.2.2.2 0 0 R.1 x = _
  rw [pk_cpy_in (Nat.zero_le x) (by omega), Nat.zero_add, Nat.sub_zero]
theorem t3b_p (hp : pm1 R) : pm1 (mv_t3b Q R o u ch) := by
  intro x hx
  rw [t3b_1] at hx
  rw [t3b_G, su_at]
  by_cases e1 : x = R.1 + 1
  · rw [if_pos e1]
    unfold mv_s2
    split
    · exact Or.inr rfl
    · exact Or.inl rfl
  · rw [if_neg e1, su_at]
    by_cases e2 : x = R.1
    · rw [if_pos e2]
      unfold mv_s1
      split
      · exact Or.inl rfl
      · exact Or.inr rfl
    · rw [if_neg e2, cpy_G (by omega)]
      exact hp x (by omega)
theorem iso_3 (hV : isoV A sg idN R) (hc : R.1 + 2 ≤ 12) (e0 : ch % 2 = k % 2) (e1 : ch / 2 % 2 = if k % 2 = k / 2 % 2 then 0 else 1) (i1 : inQ A A1 (mv_af R o) (gl (f9 R.1 (k % 2))) (R.1 + k % 2, 0) (2 * R.1 + 1 - (R.1 + k % 2), 0)) (i2 : inQ A1 A2 (mv_au R u) (gl (f9 R.1 (k % 2))) (R.1 + k / 2 % 2, 1) (2 * R.1 + 1 - (R.1 + k / 2 % 2), 1)) : isoV A2 (t3S sg R.1) (f9 R.1 (k % 2)) (mv_t3b Q R o u ch) := by
  have ho := isoV_ok hV
  have hn := hV.1.1.1
  have hC : cirs A = R.2.1 := hV.1.2.2.2.2.2.2.2
  have b0 : k % 2 < 2 := by omega
  have b1 : k / 2 % 2 < 2 := by omega
  have ok2 := okB_F ho (two_ok (c := R.1) (a := k % 2) (b := k / 2 % 2) (u := 0) b0 b1 (by omega))
  have pm1' := inQ_pm hn i1
  have nA : (A.flatten ++ [((R.1 + k % 2, 0) : vT), (2 * R.1 + 1 - (R.1 + k % 2), 0)] ++ [((R.1 + k / 2 % 2, 1) : vT), (2 * R.1 + 1 - (R.1 + k / 2 % 2), 1)]).Nodup := by
    have := ok2.1
    rw [List.append_assoc]
    exact this
  have n1 : A1.flatten.Nodup := pm1'.nodup_iff.mpr (List.nodup_append.mp nA).1
  have pm2 := (inQ_pm n1 i2).trans (List.Perm.append_right _ pm1')
  have hok : okF A2.flatten (R.1 + 2) := by
    refine okF_pm pm2 ?_
    rw [List.append_assoc]
    exact ok2
  have gin2 : gin (gl (f9 R.1 (k % 2))) A2.flatten := by
    intro p q hp hq e
    have h1 := (hok.2 p).mp hp
    have h2 := (hok.2 q).mp hq
    have e : 2 * f9 R.1 (k % 2) p.1 + p.2 = 2 * f9 R.1 (k % 2) q.1 + q.2 := e
    exact Prod.ext (f9_inj b0 h1.1 h2.1 (by omega)) (by omega)
  have gin1 : gin (gl (f9 R.1 (k % 2))) A1.flatten := gin_sub gin2 (fun a ha => (inQ_pm n1 i2).mem_iff.mpr (List.mem_append_left _ ha))
  have hcp := isoV_cpy (Q := Q) hV
  have sA : shP (nt_copy Q R).2.2.1 (gl (f9 R.1 (k % 2))) A := shP_gcg hn (fun p hp => by
    show 2 * f9 R.1 (k % 2) p.1 + p.2 = 2 * p.1 + p.2
    rw [f9_id ((ho.2 p).mp hp).1]) hcp.2
  have l1 : gl (f9 R.1 (k % 2)) (R.1 + k % 2, 0) = 2 * R.1 := by
    show 2 * f9 R.1 (k % 2) (R.1 + k % 2) + 0 = _
    unfold f9
    rcases (show k % 2 = 0 ∨ k % 2 = 1 by omega) with e | e <;> rw [e]
    · rw [if_pos (by omega)]
      omega
    · rw [if_neg (by omega), if_pos (by omega)]
      omega
  have l2 : gl (f9 R.1 (k % 2)) (2 * R.1 + 1 - (R.1 + k % 2), 0) = 2 * R.1 + 2 := by
    show 2 * f9 R.1 (k % 2) (2 * R.1 + 1 - (R.1 + k % 2)) + 0 = _
    unfold f9
    rcases (show k % 2 = 0 ∨ k % 2 = 1 by omega) with e | e <;> rw [e]
    · rw [if_neg (by omega), if_pos (by omega)]
      omega
    · rw [if_pos (by omega)]
      omega
  have l34 : gl (f9 R.1 (k % 2)) (R.1 + k / 2 % 2, 1) = (if ch / 2 % 2 = 0 then 2 * R.1 + 1 else 2 * R.1 + 3) ∧ gl (f9 R.1 (k % 2)) (2 * R.1 + 1 - (R.1 + k / 2 % 2), 1) = if ch / 2 % 2 = 0 then 2 * R.1 + 3 else 2 * R.1 + 1 := by
    show 2 * f9 R.1 (k % 2) (R.1 + k / 2 % 2) + 1 = _ ∧ 2 * f9 R.1 (k % 2) (2 * R.1 + 1 - (R.1 + k / 2 % 2)) + 1 = _
    rcases (show k % 2 = 0 ∨ k % 2 = 1 by omega) with e | e <;> rcases (show k / 2 % 2 = 0 ∨ k / 2 % 2 = 1 by omega) with e2 | e2 <;> rw [e, e2] at e1 ⊢ <;> unfold f9
    · have e1 : ch / 2 % 2 = 0 := e1
      rw [e1, if_pos (show R.1 + 0 = R.1 by omega), if_pos rfl, if_neg (show ¬ 2 * R.1 + 1 - (R.1 + 0) = R.1 by omega), if_pos (show 2 * R.1 + 1 - (R.1 + 0) = R.1 + 1 by omega), if_pos rfl]
      omega
    · have e1 : ch / 2 % 2 = 1 := e1
      rw [e1, if_neg (show ¬ R.1 + 1 = R.1 by omega), if_pos rfl, if_neg (show ¬ 1 = 0 by omega), if_pos (show 2 * R.1 + 1 - (R.1 + 1) = R.1 by omega), if_neg (show ¬ 1 = 0 by omega)]
      omega
    · have e1 : ch / 2 % 2 = 1 := e1
      rw [e1, if_pos (show R.1 + 0 = R.1 by omega), if_neg (show ¬ 1 = 0 by omega), if_neg (show ¬ 2 * R.1 + 1 - (R.1 + 0) = R.1 by omega), if_pos (show 2 * R.1 + 1 - (R.1 + 0) = R.1 + 1 by omega), if_neg (show ¬ 1 = 0 by omega)]
      omega
    · have e1 : ch / 2 % 2 = 0 := e1
      rw [e1, if_neg (show ¬ R.1 + 1 = R.1 by omega), if_pos rfl, if_pos rfl, if_pos (show 2 * R.1 + 1 - (R.1 + 1) = R.1 by omega), if_pos rfl]
      omega
  obtain ⟨l3, l4⟩ := l34
  obtain ⟨s1, s2⟩ := inQ_sh (T := nt_add (nt_add (nt_copy Q R) (mv_s1 ch)) (mv_s2 ch)) hn i1 n1 gin1 sA hC
  rw [l1, l2] at s1 s2
  obtain ⟨s3, s4⟩ := inQ_sh (T := mv_t3a Q R o ch) n1 i2 hok.1 gin2 s1 s2
  rw [l3, l4] at s3 s4
  refine iso_mk hok hc t3b_1 (fun x hx => f9_lt b0 hx) (fun x y hx hy e => f9_inj b0 hx hy e) s3 (fun x hx => ?_) s4
  rw [t3b_G, su_at]
  unfold t3S f9 mv_s1 mv_s2
  rw [e0]
  rcases (show k % 2 = 0 ∨ k % 2 = 1 by omega) with e | e <;> rw [e]
  · by_cases x1 : x = R.1
    · rw [if_pos x1, if_pos x1, if_neg (by omega), su_at, if_pos (by omega)]
      decide
    · by_cases x2 : x = R.1 + 1
      · rw [if_neg x1, if_pos x2, if_neg x1, if_pos x2, if_pos (by omega)]
        decide
      · rw [if_neg x1, if_neg x2, if_neg x1, if_neg x2, if_neg x2, su_at, if_neg x1]
        exact hcp.1.2.2.2.2.2.2.1 (x, 0) ((ho.2 _).mpr ⟨show x < R.1 by omega, show 0 < 2 by omega⟩)
  · by_cases x1 : x = R.1
    · rw [if_pos x1, if_pos x1, if_pos (by omega)]
      decide
    · by_cases x2 : x = R.1 + 1
      · rw [if_neg x1, if_pos x2, if_neg x1, if_pos x2, if_neg (by omega), su_at, if_pos (by omega)]
        decide
      · rw [if_neg x1, if_neg x2, if_neg x1, if_neg x2, if_neg x2, su_at, if_neg x1]
        exact hcp.1.2.2.2.2.2.2.1 (x, 0) ((ho.2 _).mpr ⟨show x < R.1 by omega, show 0 < 2 by omega⟩)
theorem iso_3t (hV : isoV A sg idN R) (hc : R.1 + 2 ≤ 12) (hk : k < 8) (e0 : ch % 2 = k % 2) (e1 : ch / 2 % 2 = if k % 2 = k / 2 % 2 then 0 else 1) (hpl : plcR A R.1 g h k o u) : isoV (t3A A R.1 g h k) (t3S sg R.1) (f9 R.1 (k % 2)) (mv_t3b Q R o u ch) := by
  obtain ⟨A1, A2, i1, i2, i3⟩ := pl_in hV hk hpl
  have := iso_3 (Q := Q) hV hc e0 e1 i1 i2
  rcases i3 with i3 | ⟨i, Z, W, h1, h2, h3⟩
  · rw [i3]
    exact this
  · rw [h3]
    rw [h2] at this
    exact iso_ro h1 this
/-- pushed arcs that stay plane meet -/
def mM3 (R : ow_NT) : Prop := ∀ (F P : Nat → Int32) (Q : ow_NT) (o u ch : Nat), mv_mk 3 R F P → ow_b24 Q.2.2.1 → R.1 + 2 ≤ 12 → ch < 4 → o < 2 * R.1 → u < 2 * R.1 → nt_plane (mv_t3b Q R o u ch) = true → mv_meet F P o u = true
theorem mb_3 (hV : isoV A sg idN R) (hp : pm1 R) (hM : mM3 R) : mBi 3 A sg R := by
  constructor
  · rintro j hj ⟨F, P, Q, hmk, hQ, hB⟩
    have hj : j < if R.1 + 2 ≤ 12 then (2 * R.1 + 1) * (2 * R.1 + 2) * 4 else 0 := hj
    by_cases hc : R.1 + 2 ≤ 12
    · rw [if_pos hc] at hj
      have hB : (mv_b3 R F P (j / 4 / (2 * R.1 + 2)) (j / 4 % (2 * R.1 + 2)) && nt_plane (mv_t3b Q R (j / 4 / (2 * R.1 + 2)) (j / 4 % (2 * R.1 + 2)) (j % 4))) = true := hB
      obtain ⟨o, eo⟩ : ∃ o, o = j / 4 / (2 * R.1 + 2) := ⟨_, rfl⟩
      obtain ⟨u, eu⟩ : ∃ u, u = j / 4 % (2 * R.1 + 2) := ⟨_, rfl⟩
      have hol : o < 2 * R.1 + 1 := by
        rw [eo]
        refine Nat.div_lt_of_lt_mul ?_
        rw [Nat.mul_comm]
        omega
      have hul : u < 2 * R.1 + 2 := by
        rw [eu]
        exact Nat.mod_lt _ (by omega)
      rw [← eo, ← eu] at hB
      obtain ⟨hb3, hpl⟩ := Bool.and_eq_true_iff.mp hB
      have hnd : mv_nd R o u ≤ R.2.1 := by
        unfold mv_b3 at hb3
        exact of_decide_eq_true (Bool.and_eq_true_iff.mp hb3).1
      have hb39 : ∀ (F' P' : Nat → Int32) (Q' : ow_NT), mv_mk 3 R F' P' → ow_b24 Q'.2.2.1 → nt_plane (mv_t3b Q' R o u (j % 4)) = true → mv_b3 R F' P' o u = true := by
        intro F' P' Q' hmk' hQ' hpl'
        unfold mv_b3
        rw [decide_eq_true hnd, Bool.true_and]
        by_cases h1 : o < 2 * R.1
        · by_cases h2 : u < 2 * R.1
          · rw [hM F' P' Q' o u (j % 4) hmk' hQ' hc (by omega) h1 h2 hpl']
            rw [Bool.not_true, Bool.and_false, Bool.and_false]
            rfl
          · rw [decide_eq_false h2, Bool.false_and, Bool.and_false]
            rfl
        · rw [decide_eq_false h1, Bool.false_and]
          rfl
      have eT : ∀ (F' P' : Nat → Int32) (Q' : ow_NT), mv_mk 3 R F' P' → ow_b24 Q'.2.2.1 → nt_plane (mv_t3b Q' R o u (j % 4)) = true → mv_B 3 j Q' R F' P' = true ∧ mv_T 3 j Q' R F' P' = mv_t3b Q' R o u (j % 4) := by
        intro F' P' Q' hmk' hQ' hpl'
        have hb := hb39 F' P' Q' hmk' hQ' hpl'
        constructor
        · show (mv_b3 R F' P' (j / 4 / (2 * R.1 + 2)) (j / 4 % (2 * R.1 + 2)) && nt_plane (mv_t3b Q' R (j / 4 / (2 * R.1 + 2)) (j / 4 % (2 * R.1 + 2)) (j % 4))) = true
          rw [← eo, ← eu, hb, hpl']
          rfl
        · show mv_t3 Q' R F' P' (j / 4 / (2 * R.1 + 2)) (j / 4 % (2 * R.1 + 2)) (j % 4) = _
          rw [← eo, ← eu]
          exact if_pos hb
      clear hB eo eu
      obtain ⟨g, h, hg, hh, hpc⟩ := pl_to hV (by omega) (by omega) hnd
      have key : ∀ k, k < 8 → (k < 4 ∨ g = h) → (j % 4) % 2 = k % 2 → (j % 4) / 2 % 2 = (if k % 2 = k / 2 % 2 then 0 else 1) → plcR A R.1 g h k o u → ∃ A' sg', OM A sg R.1 3 A' sg' ∧ ∀ (F P : Nat → Int32) (Q : ow_NT), mv_mk 3 R F P → ow_b24 Q.2.2.1 → mv_B 3 j Q R F P = true ∧ ∃ f, isoV A' sg' f (mv_T 3 j Q R F P) := by
        intro k hk8 hk e0 e1 hpc
        have hi : ∀ Q : ow_NT, isoV _ _ _ (mv_t3b Q R o u (j % 4)) := fun Q => iso_3t (Q := Q) hV hc hk8 e0 e1 hpc
        have hpn := plnA_of (hi Q) (t3b_p hp) hpl
        refine ⟨_, _, ⟨hc, g, h, k, hg, hh, ?_, rfl, rfl, hpn⟩, fun F' P' Q' hmk' hQ' => by
          obtain ⟨t1, t2⟩ := eT F' P' Q' hmk' hQ' (hpn _ _ (hi Q') (t3b_p hp))
          rw [t2]
          exact ⟨t1, _, hi Q'⟩⟩
        rcases hk with h9 | h9
        · exact Or.inl h9
        · exact Or.inr ⟨h9, hk8⟩
      have c4 : j % 4 = 0 ∨ j % 4 = 1 ∨ j % 4 = 2 ∨ j % 4 = 3 := by omega
      rcases hpc with hpc | ⟨hgh, hpc⟩
      · rcases c4 with e | e | e | e <;> rw [e] at key
        · exact key 0 (by decide) (Or.inl (by decide)) rfl rfl (pl_k hpc (by decide))
        · exact key 3 (by decide) (Or.inl (by decide)) rfl rfl (pl_k hpc (by decide))
        · exact key 2 (by decide) (Or.inl (by decide)) rfl rfl (pl_k hpc (by decide))
        · exact key 1 (by decide) (Or.inl (by decide)) rfl rfl (pl_k hpc (by decide))
      · rcases c4 with e | e | e | e <;> rw [e] at key
        · exact key 4 (by decide) (Or.inr hgh) rfl rfl (pl_k hpc (by decide))
        · exact key 7 (by decide) (Or.inr hgh) rfl rfl (pl_k hpc (by decide))
        · exact key 6 (by decide) (Or.inr hgh) rfl rfl (pl_k hpc (by decide))
        · exact key 5 (by decide) (Or.inr hgh) rfl rfl (pl_k hpc (by decide))
    · rw [if_neg hc] at hj
      omega
  · rintro A' sg' ⟨hc, g, h, k, hg, hh, hk, rfl, rfl, hpln⟩
    obtain ⟨o, u, hpc, hol, hul, hnd⟩ := pl_of hV hg hh hk
    have hk8 : k < 8 := by omega
    obtain ⟨ch, hch, e0, e1⟩ : ∃ ch, ch < 4 ∧ ch % 2 = k % 2 ∧ ch / 2 % 2 = if k % 2 = k / 2 % 2 then 0 else 1 := by
      rcases (show k % 2 = 0 ∨ k % 2 = 1 by omega) with e | e <;> rcases (show k / 2 % 2 = 0 ∨ k / 2 % 2 = 1 by omega) with e2 | e2 <;> rw [e, e2]
      · exact ⟨0, by decide, rfl, rfl⟩
      · exact ⟨2, by decide, rfl, rfl⟩
      · exact ⟨3, by decide, rfl, rfl⟩
      · exact ⟨1, by decide, rfl, rfl⟩
    have hcn : mv_cnt R.1 3 = (2 * R.1 + 1) * (2 * R.1 + 2) * 4 := if_pos hc
    refine ⟨(o * (2 * R.1 + 2) + u) * 4 + ch, ?_, fun F P Q hmk hQ => ?_⟩
    · rw [hcn]
      have m1 := Nat.mul_le_mul_right (2 * R.1 + 2) hol
      have m2 : (2 * R.1 + 1) * (2 * R.1 + 2) = 2 * R.1 * (2 * R.1 + 2) + (2 * R.1 + 2) := Nat.succ_mul _ _
      generalize (2 * R.1 + 1) * (2 * R.1 + 2) = m3 at m2 ⊢
      generalize 2 * R.1 * (2 * R.1 + 2) = m4 at m1 m2
      generalize o * (2 * R.1 + 2) = m5 at m1 ⊢
      omega
    · have d1 : ((o * (2 * R.1 + 2) + u) * 4 + ch) / 4 = o * (2 * R.1 + 2) + u := by omega
      have d2 : ((o * (2 * R.1 + 2) + u) * 4 + ch) % 4 = ch := by omega
      have d3 : (o * (2 * R.1 + 2) + u) / (2 * R.1 + 2) = o := by
        rw [Nat.mul_comm, Nat.mul_add_div (by omega), Nat.div_eq_of_lt (by omega), Nat.add_zero]
      have d4 : (o * (2 * R.1 + 2) + u) % (2 * R.1 + 2) = u := by
        rw [Nat.mul_comm, Nat.mul_add_mod, Nat.mod_eq_of_lt (by omega)]
      have hi := iso_3t (Q := Q) hV hc hk8 e0 e1 hpc
      have hpl : nt_plane (mv_t3b Q R o u ch) = true := hpln _ _ hi (t3b_p hp)
      have hb3 : mv_b3 R F P o u = true := by
        unfold mv_b3
        rw [decide_eq_true hnd, Bool.true_and]
        by_cases h1 : o < 2 * R.1
        · by_cases h2 : u < 2 * R.1
          · rw [hM F P Q o u ch hmk hQ hc hch h1 h2 hpl]
            rw [Bool.not_true, Bool.and_false, Bool.and_false]
            rfl
          · rw [decide_eq_false h2, Bool.false_and, Bool.and_false]
            rfl
        · rw [decide_eq_false h1, Bool.false_and]
          rfl
      show (mv_b3 R F P (((o * (2 * R.1 + 2) + u) * 4 + ch) / 4 / (2 * R.1 + 2)) (((o * (2 * R.1 + 2) + u) * 4 + ch) / 4 % (2 * R.1 + 2)) && nt_plane (mv_t3b Q R (((o * (2 * R.1 + 2) + u) * 4 + ch) / 4 / (2 * R.1 + 2)) (((o * (2 * R.1 + 2) + u) * 4 + ch) / 4 % (2 * R.1 + 2)) (((o * (2 * R.1 + 2) + u) * 4 + ch) % 4))) = true ∧ ∃ f, isoV _ _ f (mv_t3 Q R F P (((o * (2 * R.1 + 2) + u) * 4 + ch) / 4 / (2 * R.1 + 2)) (((o * (2 * R.1 + 2) + u) * 4 + ch) / 4 % (2 * R.1 + 2)) (((o * (2 * R.1 + 2) + u) * 4 + ch) % 4))
      rw [d1, d2, d3, d4, hb3, hpl]
      refine ⟨rfl, f9 R.1 (k % 2), ?_⟩
      unfold mv_t3
      rw [if_pos hb3]
      exact hi
end XP3B
