/-! two: lists of visits that show a closed braid -/
def trz (ov : Nat → Bool) (p : tk9) : Nat × Nat := (p.1, if decide (p.2 = 1) = ov p.1 then 0 else 1)
def pjz (ov : Nat → Bool) (e : List tk9) : List (Nat × Nat) := (e.filter (fun p => decide (p.2 ≠ 2))).map (trz ov)
def bdz (n : Nat) (W : wd9) (ov : Nat → Bool) (A : rn_L) (sg : Nat → Bool) : Prop := okw n W ∧ (∃ L, orz n W L ∧ A = L.map (pjz ov)) ∧ ∀ x, x ∈ nmz W → sg x = !ov x
section XTWH
variable {n : Nat} {W : wd9} {ov sg : Nat → Bool} {A : rn_L} {L : List (List tk9)}
theorem pjz_a (a b : List tk9) : pjz ov (a ++ b) = pjz ov a ++ pjz ov b := by
  unfold pjz
  rw [List.filter_append, List.map_append]
theorem pjz_m {p : tk9} {r : List tk9} (h : p.2 = 2) : pjz ov (p :: r) = pjz ov r := by
  unfold pjz
  rw [List.filter_cons_of_neg (by simp [h])]
theorem pjz_v {p : tk9} {r : List tk9} (h : p.2 ≠ 2) : pjz ov (p :: r) = trz ov p :: pjz ov r := by
  unfold pjz
  rw [List.filter_cons_of_pos (by simp [h]), List.map_cons]
theorem pjz_sp {p : Nat × Nat} {Y : List (Nat × Nat)} : ∀ {e : List tk9} {X : List (Nat × Nat)}, pjz ov e = X ++ p :: Y → ∃ a u b, e = a ++ u :: b ∧ u.2 ≠ 2 ∧ pjz ov a = X ∧ trz ov u = p ∧ pjz ov b = Y
  | [], X, h => by
    have h9 := congrArg List.length h
    rw [List.length_append] at h9
    simp [pjz] at h9
  | u :: e, X, h => by
    by_cases c : u.2 = 2
    · rw [pjz_m c] at h
      obtain ⟨a, t, b, h1, h2, h3, h4, h5⟩ := pjz_sp h
      exact ⟨u :: a, t, b, by rw [h1]; rfl, h2, by rw [pjz_m c]; exact h3, h4, h5⟩
    · rw [pjz_v c] at h
      cases X with
      | nil =>
        obtain ⟨e1, e2⟩ := List.cons.inj h
        exact ⟨[], u, e, rfl, c, rfl, e1, e2⟩
      | cons x X =>
        obtain ⟨e1, e2⟩ := List.cons.inj h
        obtain ⟨a, t, b, h1, h2, h3, h4, h5⟩ := pjz_sp e2
        exact ⟨u :: a, t, b, by rw [h1]; rfl, h2, by rw [pjz_v c, e1, h3], h4, h5⟩
theorem mp_sp {c : List (Nat × Nat)} {Q : rn_L} {f : List tk9 → List (Nat × Nat)} : ∀ {L : List (List tk9)} {P : rn_L}, P ++ c :: Q = L.map f → ∃ L1 e L2, L = L1 ++ e :: L2 ∧ L1.map f = P ∧ f e = c ∧ L2.map f = Q
  | [], P, h => by
    have h9 := congrArg List.length h
    rw [List.length_append] at h9
    simp at h9
  | e :: L, P, h => by
    cases P with
    | nil =>
      obtain ⟨e1, e2⟩ := List.cons.inj h
      exact ⟨[], e, L, rfl, rfl, e1.symm, e2.symm⟩
    | cons x P =>
      obtain ⟨e1, e2⟩ := List.cons.inj h
      obtain ⟨L1, e', L2, h1, h2, h3, h4⟩ := mp_sp e2
      exact ⟨e :: L1, e', L2, by rw [h1]; rfl, by rw [List.map_cons, h2, e1], h3, h4⟩
theorem pj_fl : ∀ (L : List (List tk9)), (L.map (pjz ov)).flatten = pjz ov L.flatten
  | [] => rfl
  | c :: L => by
    rw [List.map_cons, List.flatten_cons, List.flatten_cons, pjz_a, pj_fl L]
theorem trz_1 (p : tk9) : (trz ov p).1 = p.1 := rfl
theorem pj_mem {e : List tk9} {q : Nat × Nat} : q ∈ pjz ov e ↔ ∃ p, p ∈ e ∧ p.2 ≠ 2 ∧ trz ov p = q := by
  unfold pjz
  rw [List.mem_map]
  constructor
  · rintro ⟨p, h1, h2⟩
    obtain ⟨h3, h4⟩ := List.mem_filter.mp h1
    exact ⟨p, h3, of_decide_eq_true h4, h2⟩
  · rintro ⟨p, h1, h2, h3⟩
    exact ⟨p, List.mem_filter.mpr ⟨h1, decide_eq_true h2⟩, h3⟩
/-- two ends of one crossing -/
theorem trz_2 {u t : tk9} {x : Nat} (hu : u.2 < 2) (ht : t.2 < 2) (h : trz ov u = (x, 0) ∧ trz ov t = (x, 1) ∨ trz ov u = (x, 1) ∧ trz ov t = (x, 0)) : ∃ i, i < 2 ∧ u = (x, i) ∧ t = (x, 1 - i) := by
  obtain ⟨a, i⟩ := u
  obtain ⟨b, j⟩ := t
  have hu : i < 2 := hu
  have ht : j < 2 := ht
  have ha : a = x := by
    rcases h with ⟨h1, -⟩ | ⟨h1, -⟩
    · exact (Prod.mk.inj h1).1
    · exact (Prod.mk.inj h1).1
  have hb : b = x := by
    rcases h with ⟨-, h1⟩ | ⟨-, h1⟩
    · exact (Prod.mk.inj h1).1
    · exact (Prod.mk.inj h1).1
  subst ha
  subst hb
  refine ⟨i, hu, rfl, ?_⟩
  have hne : i ≠ j := fun h9 => by
    rw [h9] at h
    rcases h with ⟨h1, h2⟩ | ⟨h1, h2⟩
    · rw [h1] at h2
      exact absurd (Prod.mk.inj h2).2 (by decide)
    · rw [h1] at h2
      exact absurd (Prod.mk.inj h2).2 (by decide)
  rw [show j = 1 - i by omega]
theorem or_2 (hL : orz n W L) {u : tk9} (hu : u ∈ L.flatten) (h2 : u.2 ≠ 2) : u.2 < 2 ∧ u.1 ∈ nmz W := by
  rcases (hL.2.2 _).mp hu with ⟨h3, -⟩ | h3
  · exact absurd h3 h2
  · exact h3
theorem smV_cs {v w : Nat} (hvw : v < w) (hw : w < A.flatten.length) : (∃ P X Y Z Po, A = P ++ (X ++ vAt A v :: (Y ++ vAt A w :: Z)) :: Po ∧ smV A v w = P ++ (X ++ Z) :: Po ++ [Y]) ∨ ∃ P X X' Mi V V' Po, A = P ++ (X ++ vAt A v :: X') :: (Mi ++ (V ++ vAt A w :: V') :: Po) ∧ smV A v w = P ++ (((X ++ V') ++ V) ++ X') :: (Mi ++ Po) := by
  obtain ⟨c1, c2, c3⟩ := rn_c_in A v (by omega)
  obtain ⟨j1, j2, j3⟩ := rn_c_in A w hw
  unfold smV
  generalize rn_c A v = c at c1 c2 c3
  generalize rn_c A w = J at j1 j2 j3
  have eA : A = ((cps A 0 c).map (List.map (vAt A))) ++ ((seg (rn_b A c) (rn_b A (c + 1))).map (vAt A)) :: ((cps A (c + 1) A.length).map (List.map (vAt A))) := by
    conv => lhs; rw [← cps_all (A := A)]
    rw [cps_app (Nat.zero_le c) (show c ≤ A.length by omega), cps_cons c1, List.map_append, List.map_cons]
  have eL : seg (rn_b A c) (rn_b A (c + 1)) = seg (rn_b A c) v ++ v :: seg (v + 1) (rn_b A (c + 1)) := by
    rw [seg_app c2 (Nat.le_of_lt c3), seg_cons c3]
  unfold smC
  by_cases hone : w < rn_b A (c + 1)
  · rw [if_pos hone]
    have eL2 : seg (v + 1) (rn_b A (c + 1)) = seg (v + 1) w ++ w :: seg (w + 1) (rn_b A (c + 1)) := by
      rw [seg_app (show v + 1 ≤ w by omega) (Nat.le_of_lt hone), seg_cons hone]
    rw [eL, eL2, List.map_append, List.map_cons, List.map_append, List.map_cons] at eA
    refine Or.inl ⟨_, _, _, _, _, eA, ?_⟩
    rw [List.map_append, List.map_append, List.map_append, List.map_cons, List.map_cons, List.map_nil, List.map_append]
    rw [show ∀ (a : rn_L) (b : List vT) (d e : rn_L), a ++ [b] ++ d ++ e = a ++ b :: d ++ e from fun a b d e => by simp]
  · rw [if_neg hone]
    have hcJ : c < J := by
      rcases Nat.lt_or_ge c J with h9 | h9
      · exact h9
      · have := rn_b_mono2 (A := A) (show J + 1 ≤ c + 1 by omega)
        omega
    have eP : cps A (c + 1) A.length = cps A (c + 1) J ++ seg (rn_b A J) (rn_b A (J + 1)) :: cps A (J + 1) A.length := by
      rw [cps_app (show c + 1 ≤ J by omega) (show J ≤ A.length by omega), cps_cons j1]
    have eM : seg (rn_b A J) (rn_b A (J + 1)) = seg (rn_b A J) w ++ w :: seg (w + 1) (rn_b A (J + 1)) := by
      rw [seg_app j2 (Nat.le_of_lt j3), seg_cons j3]
    rw [eL, eP, eM, List.map_append, List.map_cons, List.map_append, List.map_cons, List.map_append, List.map_cons] at eA
    refine Or.inr ⟨_, _, _, _, _, _, _, eA, ?_⟩
    rw [List.map_append, List.map_append, List.map_append, List.map_cons, List.map_nil, List.map_append, List.map_append, List.map_append]
    rw [show ∀ (a : rn_L) (b : List vT) (d e : rn_L), a ++ [b] ++ d ++ e = a ++ b :: (d ++ e) from fun a b d e => by simp]
theorem bd_sm {v w x : Nat} (h : bdz n W ov A sg) (hvw : v < w) (hw : w < A.flatten.length) (hx : vAt A v = (x, 0) ∧ vAt A w = (x, 1) ∨ vAt A v = (x, 1) ∧ vAt A w = (x, 0)) : bdz n (dlz x W) ov (smV A v w) sg := by
  obtain ⟨ho, ⟨L, hL, eA⟩, hs⟩ := h
  refine ⟨ok_dl ho, ?_, fun y hy => hs y (nm_dl.mp hy).1⟩
  rcases smV_cs hvw hw with ⟨P, X, Y, Z, Po, e1, e2⟩ | ⟨P, X, X', Mi, V, V', Po, e1, e2⟩
  · obtain ⟨L1, e, L2, rfl, q1, q2, q3⟩ := mp_sp (e1.symm.trans eA)
    obtain ⟨a, u, r, rfl, u2, p1, p2, p3⟩ := pjz_sp q2
    obtain ⟨b, t, c, rfl, t2, p4, p5, p6⟩ := pjz_sp p3
    have mu : u ∈ (L1 ++ (a ++ u :: (b ++ t :: c)) :: L2).flatten := List.mem_flatten.mpr ⟨_, List.mem_append_right _ List.mem_cons_self, List.mem_append_right _ List.mem_cons_self⟩
    have mt : t ∈ (L1 ++ (a ++ u :: (b ++ t :: c)) :: L2).flatten := List.mem_flatten.mpr ⟨_, List.mem_append_right _ List.mem_cons_self, List.mem_append_right _ (List.mem_cons_of_mem _ (List.mem_append_right _ List.mem_cons_self))⟩
    obtain ⟨u3, u4⟩ := or_2 hL mu u2
    obtain ⟨t3, -⟩ := or_2 hL mt t2
    rw [← p2, ← p5] at hx
    obtain ⟨i, hi, rfl, rfl⟩ := trz_2 u3 t3 hx
    obtain ⟨A9, B9, g, eW⟩ := nm_ex (show x ∈ nmz W from u4)
    rw [eW] at ho hL
    obtain ⟨hxA, hxB, -⟩ := okw_d ho
    have k := orz_s1 ho hi hL
    refine ⟨L1 ++ (a ++ c) :: L2 ++ [b], ?_, ?_⟩
    · rw [eW, dlz_e hxA hxB]
      refine orz_p ?_ k
      rw [List.append_assoc]
      refine List.Perm.append_left _ ?_
      rw [List.cons_append]
      refine List.Perm.cons _ ?_
      exact List.perm_append_comm
    · rw [e2, List.map_append, List.map_append, List.map_cons, pjz_a, q1, q3, p1, p6]
      show _ = P ++ (X ++ Z) :: Po ++ [pjz ov b]
      rw [p4]
  · obtain ⟨L1, e, L2, rfl, q1, q2, q3⟩ := mp_sp (e1.symm.trans eA)
    obtain ⟨M2, e', L3, rfl, r1, r2, r3⟩ := mp_sp q3.symm
    obtain ⟨a1, u, a2, rfl, u2, p1, p2, p3⟩ := pjz_sp q2
    obtain ⟨b1, t, b2, rfl, t2, p4, p5, p6⟩ := pjz_sp r2
    have mu : u ∈ (L1 ++ (a1 ++ u :: a2) :: (M2 ++ (b1 ++ t :: b2) :: L3)).flatten := List.mem_flatten.mpr ⟨_, List.mem_append_right _ List.mem_cons_self, List.mem_append_right _ List.mem_cons_self⟩
    have mt : t ∈ (L1 ++ (a1 ++ u :: a2) :: (M2 ++ (b1 ++ t :: b2) :: L3)).flatten := List.mem_flatten.mpr ⟨_, List.mem_append_right _ (List.mem_cons_of_mem _ (List.mem_append_right _ List.mem_cons_self)), List.mem_append_right _ List.mem_cons_self⟩
    obtain ⟨u3, u4⟩ := or_2 hL mu u2
    obtain ⟨t3, -⟩ := or_2 hL mt t2
    rw [← p2, ← p5] at hx
    obtain ⟨i, hi, rfl, rfl⟩ := trz_2 u3 t3 hx
    obtain ⟨A9, B9, g, eW⟩ := nm_ex (show x ∈ nmz W from u4)
    rw [eW] at ho hL
    obtain ⟨hxA, hxB, -⟩ := okw_d ho
    have k := orz_s2 ho hi hL
    refine ⟨L1 ++ (a1 ++ (b2 ++ (b1 ++ a2))) :: (M2 ++ L3), ?_, ?_⟩
    · rw [eW, dlz_e hxA hxB]
      exact k
    · rw [e2, List.map_append, List.map_cons, List.map_append, pjz_a, pjz_a, pjz_a, q1, r1, r3, p1, p3, p4, p6, List.append_assoc, List.append_assoc]
theorem trz_fl (x : Nat) (p : tk9) : trz (flz ov x) p = flp (fun y => decide (y = x)) (trz ov p) := by
  unfold flp
  by_cases c : p.1 = x
  · rw [if_pos (show decide ((trz ov p).1 = x) = true from decide_eq_true c)]
    unfold trz
    show (p.1, if decide (p.2 = 1) = flz ov x p.1 then 0 else 1) = (p.1, 1 - if decide (p.2 = 1) = ov p.1 then 0 else 1)
    rw [c, flz_at]
    cases decide (p.2 = 1) <;> cases ov x <;> rfl
  · rw [if_neg (show ¬ decide ((trz ov p).1 = x) = true from fun h9 => c (of_decide_eq_true h9))]
    unfold trz
    rw [flz_ot c]
theorem pjz_fl (x : Nat) (e : List tk9) : pjz (flz ov x) e = (pjz ov e).map (flp (fun y => decide (y = x))) := by
  unfold pjz
  rw [List.map_map]
  exact List.map_congr_left (fun p _ => trz_fl x p)
theorem bd_ch (x : Nat) (h : bdz n W ov A sg) : bdz n W (flz ov x) (chA A x) (chS sg x) := by
  obtain ⟨ho, ⟨L, hL, eA⟩, hs⟩ := h
  refine ⟨ho, ⟨L, hL, ?_⟩, fun y hy => ?_⟩
  · unfold chA
    rw [eA, List.map_map]
    exact List.map_congr_left (fun e _ => (pjz_fl x e).symm)
  · show (if y = x then !sg y else sg y) = !(if y = x then !ov y else ov y)
    rw [hs y hy]
    split
    · rfl
    · rfl
theorem bd_nm (h : bdz n W ov A sg) {p : Nat × Nat} (hp : p ∈ A.flatten) : p.1 ∈ nmz W := by
  obtain ⟨ho, ⟨L, hL, eA⟩, hs⟩ := h
  rw [eA, pj_fl] at hp
  obtain ⟨u, h1, h2, h3⟩ := pj_mem.mp hp
  rw [← h3]
  exact (or_2 hL h1 h2).2
/-- met over first everywhere: circles apart -/
theorem bd_lf (h : bdz n W ov A sg) (hg : gPre A A.flatten.length) : Fz n W ov = lfz (A.length - 1) := by
  obtain ⟨ho, ⟨L, hL, eA⟩, hs⟩ := h
  have g9 : gdz L ov := fun x i hx => by
    obtain ⟨a, c, e, h2, h3⟩ := hx
    have e1 : A.flatten = pjz ov a ++ trz ov (x, i) :: pjz ov c := by
      rw [eA, pj_fl, e, pjz_a, pjz_v (p := (x, i)) h2]
    have at0 : vAt A (pjz ov a).length = trz ov (x, i) := by
      unfold vAt
      rw [e1, List.getElem?_append_right (Nat.le_refl _), Nat.sub_self]
      rfl
    have lt : (pjz ov a).length < A.flatten.length := by
      rw [e1, List.length_append, List.length_cons]
      omega
    have h4 := hg _ lt lt (fun w hw h9 => by
      unfold crs at h9
      rw [at0] at h9
      have hm : vAt A w ∈ pjz ov a := by
        unfold vAt
        rw [e1, List.getElem?_append_left hw, List.getElem?_eq_getElem hw]
        exact List.getElem_mem hw
      obtain ⟨u, k1, k2, k3⟩ := pj_mem.mp hm
      rcases h3 u k1 with k4 | k4
      · exact k2 k4
      · rw [← k3] at h9
        exact k4 h9)
    unfold uns at h4
    rw [at0] at h4
    have h4 : (if decide (i = 1) = ov x then 0 else 1) = 0 := h4
    by_cases c9 : decide (i = 1) = ov x
    · exact c9.symm
    · rw [if_neg c9] at h4
      exact absurd h4 (by decide)
  rw [← ph_all n W ho L ov hL, vlz_g g9, eA, List.length_map]
theorem bd_sk (h : bdz n W ov A sg) {x : Nat} (hx : x ∈ nmz W) : Fz n W ov = skz (ov x) (Fz n W (flz ov x)) (Fz n (dlz x W) ov) := by
  obtain ⟨ho, ⟨L, hL, -⟩, -⟩ := h
  exact sk_F ho hL ov x hx
end XTWH
