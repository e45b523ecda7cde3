/-! the filter of moves of kind 3 takes nothing away -/
section ME
variable {c v w a r r' b1 b2 : Nat} {S St : ow_NP} {R Q : ow_NT} {o u ch : Nat}
theorem dd1 (k : Nat) : (np_putBehind (np_putBehind S a r) r r').1 k = if k = r' then S.1 a else if k = r then r' else if k = a then r else S.1 k := by
  unfold np_putBehind
  rw [nl_1, nl_1, nl_1, if_pos rfl]
  by_cases e1 : k = r'
  · rw [if_pos e1, if_pos e1]
  · rw [if_neg e1, if_neg e1]
    by_cases e2 : k = r
    · rw [nl_1, if_pos e2, if_pos e2]
    · rw [nl_1, if_neg e2, if_neg e2, nl_1, if_neg e2, nl_1]
theorem dd2 (k : Nat) : (np_putBehind (np_putBehind S a r) r r').2 k = if k = S.1 a then r' else if k = r' then r else if k = r then a else S.2 k := by
  unfold np_putBehind
  rw [nl_2, nl_2, nl_1, if_pos rfl]
  by_cases e1 : k = S.1 a
  · rw [if_pos e1, if_pos e1]
  · rw [if_neg e1, if_neg e1]
    by_cases e2 : k = r'
    · rw [if_pos e2, if_pos e2]
    · rw [if_neg e2, if_neg e2, nl_2, if_neg e1, nl_2]
theorem pu_of (hv : vn c S) (hvw : v ≠ w) (h1 : v < 2 * c) (h2 : w < 2 * c) (hbb : b1 = 2 * c + 1 ∧ b2 = 2 * c + 3 ∨ b1 = 2 * c + 3 ∧ b2 = 2 * c + 1) {S' : ow_NP} (hS : ∀ k, k < 2 * c → S'.1 k = S.1 k ∧ S'.2 k = S.2 k) : puN c v w b1 b2 S (np_putBehind (np_putBehind (np_putBehind (np_putBehind S' v (2 * c)) (2 * c) (2 * c + 2)) w b1) b1 b2) := by
  obtain ⟨v1, -, -, -⟩ := hv v h1
  obtain ⟨w1, -, -, -⟩ := hv w h2
  have hne : S.1 v ≠ S.1 w := fun e => hvw (vn_inj hv h1 h2 e)
  have cv := (hS v h1).1
  have cw := (hS w h2).1
  have eD : (np_putBehind (np_putBehind S' v (2 * c)) (2 * c) (2 * c + 2)).1 w = S.1 w := by
    rw [dd1]
    repeat' split
    all_goals omega
  have f1 : ∀ k, (np_putBehind (np_putBehind (np_putBehind (np_putBehind S' v (2 * c)) (2 * c) (2 * c + 2)) w b1) b1 b2).1 k = if k = b2 then S.1 w else if k = b1 then b2 else if k = w then b1 else if k = 2 * c + 2 then S.1 v else if k = 2 * c then 2 * c + 2 else if k = v then 2 * c else S'.1 k := by
    intro k
    rw [dd1, eD, dd1, cv]
  have f2 : ∀ k, (np_putBehind (np_putBehind (np_putBehind (np_putBehind S' v (2 * c)) (2 * c) (2 * c + 2)) w b1) b1 b2).2 k = if k = S.1 w then b2 else if k = b2 then b1 else if k = b1 then w else if k = S.1 v then 2 * c + 2 else if k = 2 * c + 2 then 2 * c else if k = 2 * c then v else S'.2 k := by
    intro k
    rw [dd2, eD, dd2, cv]
  refine ⟨?_, ?_, ?_, ?_, ?_, ?_, fun x hx n1 n2 => ?_, ?_, ?_, ?_, ?_, ?_, ?_, fun x hx n1 n2 => ?_⟩
  · rw [f1]; repeat' split
    all_goals omega
  · rw [f1]; repeat' split
    all_goals omega
  · rw [f1]; repeat' split
    all_goals omega
  · rw [f1]; repeat' split
    all_goals omega
  · rw [f1]; repeat' split
    all_goals omega
  · rw [f1]; repeat' split
    all_goals omega
  · have := (hS x hx).1
    rw [f1]; repeat' split
    all_goals omega
  · rw [f2]; repeat' split
    all_goals omega
  · rw [f2]; repeat' split
    all_goals omega
  · rw [f2]; repeat' split
    all_goals omega
  · rw [f2]; repeat' split
    all_goals omega
  · rw [f2]; repeat' split
    all_goals omega
  · rw [f2]; repeat' split
    all_goals omega
  · have := (hS x hx).2
    rw [f2]; repeat' split
    all_goals omega
theorem pu_vn (hv : vn c S) (hvw : v ≠ w) (h1 : v < 2 * c) (h2 : w < 2 * c) (hbb : b1 = 2 * c + 1 ∧ b2 = 2 * c + 3 ∨ b1 = 2 * c + 3 ∧ b2 = 2 * c + 1) (hN : puN c v w b1 b2 S St) : vn (c + 2) St := by
  obtain ⟨n1, n2, n3, n4, n5, n6, n7, p1, p2, p3, p4, p5, p6, p7⟩ := hN
  obtain ⟨v1, v2, v3, v4⟩ := hv v h1
  obtain ⟨w1, w2, w3, w4⟩ := hv w h2
  have hne : S.1 v ≠ S.1 w := fun e => hvw (vn_inj hv h1 h2 e)
  intro k hk
  by_cases ho : k < 2 * c
  · obtain ⟨k1, k2, k3, k4⟩ := hv k ho
    have A : St.1 k < 2 * (c + 2) ∧ St.2 (St.1 k) = k := by
      by_cases e1 : k = v
      · rw [e1, n1, p1]
        omega
      · by_cases e2 : k = w
        · rw [e2, n4, p4]
          omega
        · rw [n7 k ho e1 e2, p7 _ k1 (fun e => e1 (vn_inj hv ho h1 e)) (fun e => e2 (vn_inj hv ho h2 e)), k3]
          omega
    have B : St.2 k < 2 * (c + 2) ∧ St.1 (St.2 k) = k := by
      by_cases e1 : k = S.1 v
      · rw [e1, p3, n3]
        omega
      · by_cases e2 : k = S.1 w
        · rw [e2, p6, n6]
          omega
        · rw [p7 k ho e1 e2, n7 _ k2 (fun e => e1 (by rw [← e, k4])) (fun e => e2 (by rw [← e, k4])), k4]
          omega
    exact ⟨A.1, B.1, A.2, B.2⟩
  · have hb4 : k = 2 * c ∨ k = 2 * c + 2 ∨ k = b1 ∨ k = b2 := by omega
    rcases hb4 with e | e | e | e
    · rw [e, n2, p1, p2, n1]
      omega
    · rw [e, n3, p2, p3, n2]
      omega
    · rw [e, n5, p4, p5, n4]
      omega
    · rw [e, n6, p5, p6, n5]
      omega
theorem pu_rch (hv : vn c S) (h1 : v < 2 * c) (h2 : w < 2 * c) (hvw : rch c S v w) (hbb : b1 = 2 * c + 1 ∧ b2 = 2 * c + 3 ∨ b1 = 2 * c + 3 ∧ b2 = 2 * c + 1) (hN : puN c v w b1 b2 S St) {x : Nat} (hr : r < 2 * (c + 2)) (h : rch (c + 2) St r x) : x < 2 * (c + 2) ∧ rch c S (if r < 2 * c then r else v) (if x < 2 * c then x else v) := by
  obtain ⟨n1, n2, n3, n4, n5, n6, n7, -⟩ := hN
  have hwv := rch_sy hv h1 hvw
  refine h (fun x => x < 2 * (c + 2) ∧ rch c S (if r < 2 * c then r else v) (if x < 2 * c then x else v)) ⟨hr, rch_rf _ _ _⟩ ?_ ?_
  · rintro j hj ⟨-, hD⟩
    by_cases ho : j < 2 * c
    · rw [if_pos ho] at hD
      by_cases e1 : j = v
      · rw [e1, n1]
        refine ⟨by omega, ?_⟩
        rw [if_neg (show ¬ 2 * c < 2 * c by omega)]
        rw [e1] at hD
        exact hD
      · by_cases e2 : j = w
        · rw [e2, n4]
          refine ⟨by omega, ?_⟩
          rw [if_neg (show ¬ b1 < 2 * c by omega)]
          rw [e2] at hD
          exact rch_tr hD hwv
        · rw [n7 j ho e1 e2]
          have := (hv j ho).1
          refine ⟨by omega, ?_⟩
          rw [if_pos this]
          exact rch_n hD ho
    · rw [if_neg ho] at hD
      have hv1 := (hv v h1).1
      have hw1 := (hv w h2).1
      have hb4 : j = 2 * c ∨ j = 2 * c + 2 ∨ j = b1 ∨ j = b2 := by omega
      rcases hb4 with e | e | e | e
      · rw [e, n2]
        refine ⟨by omega, ?_⟩
        rw [if_neg (show ¬ 2 * c + 2 < 2 * c by omega)]
        exact hD
      · rw [e, n3]
        refine ⟨by omega, ?_⟩
        rw [if_pos hv1]
        exact rch_n hD h1
      · rw [e, n5]
        refine ⟨by omega, ?_⟩
        rw [if_neg (show ¬ b2 < 2 * c by omega)]
        exact hD
      · rw [e, n6]
        refine ⟨by omega, ?_⟩
        rw [if_pos hw1]
        exact rch_n (rch_tr hD hvw) h2
  · rintro j hj ⟨-, hD⟩
    have hm : mt j < 2 * (c + 2) ∧ (mt j < 2 * c ↔ j < 2 * c) := by
      unfold mt
      split <;> omega
    refine ⟨hm.1, ?_⟩
    by_cases ho : j < 2 * c
    · rw [if_pos ho] at hD
      rw [if_pos (hm.2.mpr ho)]
      exact rch_m hD ho
    · rw [if_neg ho] at hD
      rw [if_neg (fun h9 => ho (hm.2.mp h9))]
      exact hD
theorem m3_meet (hv : vn R.1 R.2.2.1) (hc12 : R.1 ≤ 12) (hpl : nt_plane R = true) : mM3 R := by
  intro F P Q o u ch hmk hQ hc hch ho hu hT
  obtain ⟨mP, mF⟩ := hmk rfl
  unfold mv_meet
  by_cases eP : P o = P u
  · rw [decide_eq_false (fun h => h eP), Bool.false_or]
    by_cases eou : o = u
    · rw [eou, decide_eq_true rfl, Bool.true_or]
    · have hr : rch R.1 R.2.2.1 o u := (parts_iff hv hc12 ho hu).mp (by rw [← mP o ho, ← mP u hu]; exact eP)
      obtain ⟨b1, hb1⟩ : ∃ b1, b1 = if ch / 2 % 2 = 0 then 2 * R.1 + 1 else 2 * R.1 + 3 := ⟨_, rfl⟩
      obtain ⟨b2, hb2⟩ : ∃ b2, b2 = if ch / 2 % 2 = 0 then 2 * R.1 + 3 else 2 * R.1 + 1 := ⟨_, rfl⟩
      have hbb : b1 = 2 * R.1 + 1 ∧ b2 = 2 * R.1 + 3 ∨ b1 = 2 * R.1 + 3 ∧ b2 = 2 * R.1 + 1 := by
        by_cases e : ch / 2 % 2 = 0
        · rw [if_pos e] at hb1 hb2
          exact Or.inl ⟨hb1, hb2⟩
        · rw [if_neg e] at hb1 hb2
          exact Or.inr ⟨hb1, hb2⟩
      have key : ∀ {β : Type} (f g : Nat → β) (n k : Nat), k < n → va_cpy f g 0 0 n k = f k := fun f g n k hk => by
        rw [pk_cpy_in (Nat.zero_le k) (by omega), Nat.zero_add, Nat.sub_zero]
      have eS : (mv_t3b Q R o u ch).2.2.1 = np_putBehind (np_putBehind (np_putBehind (np_putBehind (nt_copy Q R).2.2.1 o (2 * R.1)) (2 * R.1) (2 * R.1 + 2)) u b1) b1 b2 := by
        have e1 : mv_af R o = some o := if_neg (by omega)
        have e2 : mv_au R u = some u := if_pos hu
        unfold mv_t3b mv_t3a
        rw [e1, e2, ← hb1, ← hb2]
        rfl
      have hN := pu_of hv eou ho hu hbb (S' := (nt_copy Q R).2.2.1) (fun k hk => ⟨key _ _ _ _ hk, key _ _ _ _ hk⟩)
      rw [← eS] at hN
      have hvT : vn (mv_t3b Q R o u ch).1 (mv_t3b Q R o u ch).2.2.1 := by
        rw [t3b_1]
        exact pu_vn hv eou ho hu hbb hN
      have hp := (plane_iff hvT (by rw [t3b_1]; exact hc)).mp hT
      rw [t3b_1] at hp
      obtain ⟨Rr, pP, f, X, f1, f2, f3, f4⟩ := hp
      have hG : ∀ x, x < R.1 → (mv_t3b Q R o u ch).2.2.2 x = R.2.2.2 x := by
        intro x hx
        rw [t3b_G, su_at, if_neg (by omega), su_at, if_neg (by omega), cpy_G hx]
      have hGc : (mv_t3b Q R o u ch).2.2.2 R.1 = mv_s1 ch := by
        rw [t3b_G, su_at, if_neg (by omega), su_at, if_pos rfl]
      have hGd : (mv_t3b Q R o u ch).2.2.2 (R.1 + 1) = mv_s2 ch := by
        rw [t3b_G, su_at, if_pos rfl]
      have hbt : ∀ x, x < 2 * R.1 → stG (mv_t3b Q R o u ch).2.2.2 x = stG R.2.2.2 x := by
        intro x hx
        unfold stG
        rw [hG (x / 2) (by omega)]
      have s12 : decide (0 < mv_s2 ch) = !decide (0 < mv_s1 ch) := by
        unfold mv_s1 mv_s2
        split <;> decide
      have hB : stG (mv_t3b Q R o u ch).2.2.2 (2 * R.1 + 1) = (!stG (mv_t3b Q R o u ch).2.2.2 (2 * R.1)) ∧ stG (mv_t3b Q R o u ch).2.2.2 (2 * R.1 + 2) = (!stG (mv_t3b Q R o u ch).2.2.2 (2 * R.1)) ∧ stG (mv_t3b Q R o u ch).2.2.2 (2 * R.1 + 3) = stG (mv_t3b Q R o u ch).2.2.2 (2 * R.1) := by
        unfold stG
        rw [show (2 * R.1 + 1) / 2 = R.1 by omega, show 2 * R.1 / 2 = R.1 by omega, show (2 * R.1 + 2) / 2 = R.1 + 1 by omega, show (2 * R.1 + 3) / 2 = R.1 + 1 by omega, hGc, hGd, s12, decide_eq_false (show ¬ (2 * R.1 + 1) % 2 = 0 by omega), decide_eq_true (show 2 * R.1 % 2 = 0 by omega), decide_eq_true (show (2 * R.1 + 2) % 2 = 0 by omega), decide_eq_false (show ¬ (2 * R.1 + 3) % 2 = 0 by omega)]
        cases decide (0 < mv_s1 ch) <;> exact ⟨rfl, rfl, rfl⟩
      obtain ⟨sx, sy, e1, hx, hy, k1, k2⟩ := pu_main hv eou ho hu hbt hB hbb hN (fun d hd => f1 d (by omega))
      have sxl : sx < 4 * R.1 := by omega
      have syl : sy < 4 * R.1 := by omega
      -- the faces of the two arcs
      have meet : F sx = F sy := by
        rcases Classical.em (F sx = F sy) with h9 | h9
        · exact h9
        · exfalso
          obtain ⟨M, hM⟩ : ∃ M, M = (np_faces R.1 R.2.2.1 R.2.2.2).1 := ⟨_, rfl⟩
          rw [mF sx sxl, mF sy syl, ← hM] at h9
          have hMC : ∀ k, k < 4 * R.1 → M (fc_on R.2.2.1 R.2.2.2 k) = M k := by
            have := mr_out_C (N := fc_on R.2.2.1 R.2.2.2) (vs := 4 * R.1) (fun a ha => fc_on_vn hv R.2.2.2 ha) (fun a b ha hb e => fc_on_inj hv ha hb e) (by omega) (F := fun _ => -1) (fun _ _ => rfl) (4 * R.1) (Nat.le_refl _)
            rw [hM]
            exact this
          obtain ⟨g, Y, g1, g2, g3, g4⟩ := pu_abs (k := R.1 + 2 * Rr.length) (P := fun d => decide (M (dSd R.2.2.1 d) = M sx)) (fun d hd => by have := f2 d hd; omega) f3 (by omega) (sdD_lt hv sxl) (sdD_lt hv syl) k2 (fun d hd => pn_ph_lt hv hd) k1 (fun d hd => by
            have hs := dSd_lt hv hd
            have e2 : pn_ph R.2.2.1 (stG R.2.2.2) d = sdD R.2.2.1 (fc_on R.2.2.1 R.2.2.2 (dSd R.2.2.1 d)) := by rw [sd_on hv hs, sd_ds hv hd]
            show decide (M (dSd R.2.2.1 (pn_ph R.2.2.1 (stG R.2.2.2) d)) = M sx) = decide (M (dSd R.2.2.1 d) = M sx)
            rw [e2, ds_sd hv (fc_on_vn hv _ hs), hMC _ hs]) (by
              show decide (M (dSd R.2.2.1 (sdD R.2.2.1 sx)) = M sx) = true
              rw [ds_sd hv sxl]
              exact decide_eq_true rfl) (by
              show decide (M (dSd R.2.2.1 (sdD R.2.2.1 sy)) = M sx) = false
              rw [ds_sd hv syl]
              exact decide_eq_false (fun e => h9 e.symm))
          have c1 := faces_le (G := R.2.2.2) hv hc12 (k := R.1 + 2 * Rr.length + 1) ⟨g, Y, g1, g2, g3, g4⟩
          unfold nt_plane at hpl
          have c2 := of_decide_eq_true hpl
          have c3 : (np_parts R.1 R.2.2.1.1).2 ≤ (Rr.map (fun r => if r < 2 * R.1 then r else o)).length := parts_ub hv hc12 (fun x hx9 => by
            obtain ⟨r, r1, r2, r3⟩ := pP x (by omega)
            have := (pu_rch hv ho hu hr hbb hN r2 r3).2
            rw [if_pos hx9] at this
            refine ⟨_, List.mem_map.mpr ⟨r, r1, rfl⟩, ?_, this⟩
            split <;> omega)
          rw [List.length_map] at c3
          omega
      have fin : (decide (F (2 * o) = F (2 * u)) || (decide (F (2 * o) = F (2 * u + 1)) || (decide (F (2 * o + 1) = F (2 * u)) || decide (F (2 * o + 1) = F (2 * u + 1))))) = true := by
        rw [Bool.or_eq_true, Bool.or_eq_true, Bool.or_eq_true, decide_eq_true_iff, decide_eq_true_iff, decide_eq_true_iff, decide_eq_true_iff]
        rcases hx with e | e <;> rcases hy with e2 | e2 <;> rw [e, e2] at meet
        · exact Or.inl meet
        · exact Or.inr (Or.inl meet)
        · exact Or.inr (Or.inr (Or.inl meet))
        · exact Or.inr (Or.inr (Or.inr meet))
      exact fin
  · rw [decide_eq_true eP, Bool.true_or]
end ME
theorem mb_all {A : rn_L} {sg : Nat → Bool} {R : ow_NT} {kd : Nat} (hV : isoV A sg idN R) (hp : pm1 R) (hA : A.length ≤ 6) (hpl : nt_plane R = true) (hk : kd < 5) : mBi kd A sg R := by
  match kd, hk with
  | 0, _ => exact mb_0 hV
  | 1, _ => exact mb_1 hV hA
  | 2, _ => exact mb_2 hV hp
  | 3, _ => exact mb_3 hV hp (m3_meet (isoV_vn hV) hV.1.2.2.1 hpl)
  | 4, _ => exact mb_4 hV hp
