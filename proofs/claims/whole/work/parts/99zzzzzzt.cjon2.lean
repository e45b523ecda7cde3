/-! the class: loops of a state are the reference's; jones has an answer -/
section CK3
variable {vl : Nat → Nat} {y : ow_MS} {h g p s : Nat} {A : rn_L} {sg : Nat → Bool} {c : Nat} {T : ow_NT}
/-- a code loaded: the net shows the components, and its signs are 1 and -1 -/
theorem tc_load3 (hh : nH h) (hg : tH g p) (hd : h + 12 ≤ g ∨ g + 6 ≤ h) (hs : s < p) (hA : okL A c) (hC : slC y g s (clC sg A)) (hy : cAt y h T) (hb : ow_b24 T.2.2.1) : Te (fun K => ce_X7_load vl K h g (nI s) y) (fun y1 => (∃ T1, shA y1 h A sg T1 ∧ T1.1 = c ∧ T1.2.1 = cirs A ∧ ∀ x, x < c → T1.2.2.2 x = if sg x then -1 else 1) ∧ fr (cL h) y y1) := by
  obtain ⟨ec, oC⟩ := okL_c (sg := sg) hA
  obtain ⟨o1, o2, o3, o4, o5⟩ := id hA
  have hv : vOK A.flatten := ⟨o1.1, fun p hp => ((o1.2 p).mp hp).2⟩
  have hl := okF_len o1
  have hinit : ldS sg [] [] 0 (ld_init T.2.2.1 T.2.2.2 (y.2.1 (h + 4)) (y.2.1 (h + 5))) := by
    refine ⟨rfl, rfl, fun h => absurd rfl h, fun v hv => absurd hv (Nat.not_lt_zero _), fun i p q e => ?_, fun p hp => (by cases hp), fun i p e => ?_, fun v hv => absurd hv (Nat.not_lt_zero _), fun p hp => (by cases hp)⟩
    · rw [List.getElem?_nil] at e
      cases e
    · have e : ([] : List (Nat × Nat))[i]? = some p := e
      rw [List.getElem?_nil] at e
      cases e
  obtain ⟨t, b1, h1, h2⟩ := ldS_all (sg := sg) A [] 0 (ld_init T.2.2.1 T.2.2.2 (y.2.1 (h + 4)) (y.2.1 (h + 5))) hv o2 (fun p hp => by have := ((o1.2 p).mp hp).1; omega) (by rw [List.nil_append]; omega) o3 hinit
  rw [List.nil_append] at h2
  refine w_monoE (tc_load hh hg hd hs hC oC hy (fun _ => rfl) (fun _ => rfl) h1) ?_
  rintro y1 ⟨l1, l2⟩
  obtain ⟨n1, n2⟩ := ldS_net hA h2
  have hb1 := ld_b24 _ _ _ h1 hb (fun a e => by cases e) (fun a e => by cases e)
  have hr := iso_rg n1
  obtain ⟨g1, g2, g3, g4⟩ := l1
  rw [ec] at g1
  have hci : t.2.1.1 = cirs A := by rw [h2.1]
  have hco : t.2.1.2.1 = A.length := by rw [h2.1]
  refine ⟨⟨(c, t.2.1.1, t.1.1, t.1.2.1), ⟨g1, n1, ⟨n2, o4, hb1, by omega⟩, fun i q e => ?_, fun v hv1 => ?_, ?_⟩, rfl, hci, fun x hx => ?_⟩, l2⟩
  · rw [g2 i]
    exact h2.2.2.2.2.2.2.1 i q (by rw [List.append_nil]; exact e)
  · rw [g3]
    exact h2.2.2.2.2.2.2.2.1 v hv1
  · rw [g4, hco]
  · exact h2.2.2.2.2.2.1 (x, 0) (by rw [List.append_nil]; exact (o1.2 (x, 0)).mpr ⟨hx, Nat.zero_lt_two⟩)
end CK3
/-! numbers out of bits -/
def bnN (b : Nat → Bool) : Nat → Nat
  | 0 => 0
  | c + 1 => bnN b c + if b c then 2 ^ c else 0
theorem bnN_lt (b : Nat → Bool) : ∀ c, bnN b c < 2 ^ c
  | 0 => Nat.one_pos
  | c + 1 => by
    have := bnN_lt b c
    show bnN b c + _ < _
    rw [Nat.pow_succ]
    split <;> omega
theorem bnN_bit (b : Nat → Bool) : ∀ c x, x < c → bnN b c / 2 ^ x % 2 = if b x then 1 else 0
  | 0, x, h => absurd h (by omega)
  | c + 1, x, h => by
    have h1 := bnN_lt b c
    show (bnN b c + _) / 2 ^ x % 2 = _
    by_cases e : x = c
    · subst e
      by_cases hb : b x
      · rw [if_pos hb, if_pos hb, Nat.add_div_right _ (Nat.two_pow_pos x), Nat.div_eq_of_lt h1]
      · rw [if_neg hb, if_neg hb, Nat.add_zero, Nat.div_eq_of_lt h1]
    · have ih := bnN_bit b c x (by omega)
      by_cases hb : b c
      · rw [if_pos hb]
        have e2 : 2 ^ c = 2 ^ x * (2 * 2 ^ (c - x - 1)) := by
          rw [← Nat.pow_succ', ← Nat.pow_add]
          congr 1
          omega
        rw [e2, Nat.add_mul_div_left _ _ (Nat.two_pow_pos x), Nat.add_mul_mod_self_left]
        exact ih
      · rw [if_neg hb, Nat.add_zero]
        exact ih
/-! classes of gaps -/
theorem un_min {p M : Nat → Nat} {D : Nat → Prop} {g h : Nat} (hp : dn p) (H : ∀ x y, D x → D y → rt p x = rt p y → M x = M y) (hg : D g) (hh : D h) (e : M g = M h) : ∀ x y, D x → D y → rt (un p g h) x = rt (un p g h) y → M x = M y := by
  intro x y hx hy h9
  rcases (un_iff hp).mp h9 with h1 | ⟨h1, h2⟩ | ⟨h1, h2⟩
  · exact H x y hx hy h1
  · rw [H x g hx hg h1, H y h hy hh h2, e]
  · rw [H x h hx hh h1, H y g hy hg h2, e]
theorem rtsN_le {p1 p2 f : Nat → Nat} {V1 V2 : Nat} (h2 : dn p2) (hf : ∀ x, x < V1 → f x < V2) (H : ∀ x y, x < V1 → y < V1 → rt p2 (f x) = rt p2 (f y) → rt p1 x = rt p1 y) : rtsN p1 V1 ≤ rtsN p2 V2 := by
  unfold rtsN
  have e : (((List.range V1).filter (fun g => decide (p1 g = g))).map (fun g => rt p2 (f g))).length = ((List.range V1).filter (fun g => decide (p1 g = g))).length := List.length_map _
  rw [← e]
  refine nodup_le _ _ ?_ ?_
  · refine List.pairwise_map.mpr ((List.nodup_range.filter _).imp_of_mem ?_)
    intro a b ha hb hab h9
    have ha := List.mem_filter.mp ha
    have hb := List.mem_filter.mp hb
    have := H a b (List.mem_range.mp ha.1) (List.mem_range.mp hb.1) h9
    rw [rt_root (of_decide_eq_true ha.2), rt_root (of_decide_eq_true hb.2)] at this
    exact hab this
  · intro r hr
    obtain ⟨g, hg, rfl⟩ := List.mem_map.mp hr
    have hg := List.mem_filter.mp hg
    have h3 := rt_in h2 (f g)
    have := hf g (List.mem_range.mp hg.1)
    exact List.mem_filter.mpr ⟨List.mem_range.mpr (by omega), decide_eq_true h3.1⟩
section LPE
variable {A : rn_L} {sg : Nat → Bool} {st : Int32} {S : ow_NP} {G : Nat → Int32} {b : Nat → Bool} {M : Nat → Nat}
def ljM (A : rn_L) (al : Bool) (M : Nat → Nat) (v : Nat) : Prop := if al then M (rn_pv A v) = M (mtf A v) ∧ M (rn_pv A (mtf A v)) = M v else M (rn_pv A v) = M (rn_pv A (mtf A v)) ∧ M v = M (mtf A v)
theorem lpA_jS : ∀ (V v : Nat), v < V → uns A v = 0 → ljM A (alS sg st (crs A v)) (rt (lpA A sg st V)) v
  | 0, v, h, _ => by omega
  | V + 1, v, h, hu => by
    show ljM A (alS sg st (crs A v)) (rt (lpS A sg st V (lpA A sg st V))) v
    by_cases hv : v = V
    · rw [hv]
      rw [hv] at hu
      unfold ljM lpS
      rw [if_pos hu]
      have hp := lpA_dn (A := A) (sg := sg) (st := st) V
      by_cases h2 : alS sg st (crs A V) = true
      · rw [if_pos h2, if_pos h2]
        exact ⟨un_k (un_dn hp) (un_j hp), un_j (un_dn hp)⟩
      · rw [if_neg h2, if_neg h2]
        exact ⟨un_k (un_dn hp) (un_j hp), un_j (un_dn hp)⟩
    · have := lpA_jS V v (by omega) hu
      unfold ljM at this ⊢
      split
      · rename_i h2
        rw [if_pos h2] at this
        exact ⟨lpS_k (lpA_dn V) this.1, lpS_k (lpA_dn V) this.2⟩
      · rename_i h2
        rw [if_neg h2] at this
        exact ⟨lpS_k (lpA_dn V) this.1, lpS_k (lpA_dn V) this.2⟩
theorem lpA_min (hd : rn_ok A.flatten) (hM : ∀ v, v < A.flatten.length → uns A v = 0 → ljM A (alS sg st (crs A v)) M v) : ∀ k, k ≤ A.flatten.length → ∀ x y, x < A.flatten.length → y < A.flatten.length → rt (lpA A sg st k) x = rt (lpA A sg st k) y → M x = M y
  | 0, _, x, y, _, _, h => by
    rw [rt_root (p := lpA A sg st 0) rfl, rt_root (p := lpA A sg st 0) rfl] at h
    rw [h]
  | k + 1, hk, x, y, hx, hy, h => by
    have ih := lpA_min hd hM k (by omega)
    have hp := lpA_dn (A := A) (sg := sg) (st := st) k
    have hml := mtf_lt hd (show k < A.flatten.length by omega)
    have h : rt (lpS A sg st k (lpA A sg st k)) x = rt (lpS A sg st k (lpA A sg st k)) y := h
    unfold lpS at h
    by_cases hu : uns A k = 0
    · have hm := hM k (by omega) hu
      have p1 := pv_lt (show k < A.flatten.length by omega)
      have p2 := pv_lt hml
      unfold ljM at hm
      rw [if_pos hu] at h
      by_cases h2 : alS sg st (crs A k) = true
      · rw [if_pos h2] at h hm
        exact un_min (D := fun x => x < A.flatten.length) (un_dn hp) (un_min (D := fun x => x < A.flatten.length) hp ih p1 hml hm.1) p2 (by omega) hm.2 x y hx hy h
      · rw [if_neg h2] at h hm
        exact un_min (D := fun x => x < A.flatten.length) (un_dn hp) (un_min (D := fun x => x < A.flatten.length) hp ih p1 p2 hm.1) (by omega) hml hm.2 x y hx hy h
    · rw [if_neg hu] at h
      exact ih x y hx hy h
theorem uPx_j : ∀ (k x : Nat), x < k → rt (uPx S G b k) (egp S (4 * x + 1)) = rt (uPx S G b k) (egp S (toI G b x)) ∧ rt (uPx S G b k) (egp S (4 * x)) = rt (uPx S G b k) (egp S (toO G b x))
  | 0, x, h => by omega
  | k + 1, x, h => by
    have hp := uPx_dn (S := S) (G := G) (b := b) k
    by_cases e : x = k
    · subst e
      exact ⟨un_k (un_dn hp) (un_j hp), un_j (un_dn hp)⟩
    · obtain ⟨h1, h2⟩ := uPx_j k x (by omega)
      exact ⟨un_k (un_dn hp) (un_k hp h1), un_k (un_dn hp) (un_k hp h2)⟩
theorem uPx_min {c : Nat} (hv : vn c S) (hM : ∀ x, x < c → M (egp S (4 * x + 1)) = M (egp S (toI G b x)) ∧ M (egp S (4 * x)) = M (egp S (toO G b x))) : ∀ k, k ≤ c → ∀ x y, x < 2 * c → y < 2 * c → rt (uPx S G b k) x = rt (uPx S G b k) y → M x = M y
  | 0, _, x, y, _, _, h => by
    rw [rt_root (p := uPx S G b 0) rfl, rt_root (p := uPx S G b 0) rfl] at h
    rw [h]
  | k + 1, hk, x, y, hx, hy, h => by
    have ih := uPx_min hv hM k (by omega)
    have hp := uPx_dn (S := S) (G := G) (b := b) k
    have hm := hM k (by omega)
    have t1 : toI G b k < 4 * c := by unfold toI; split <;> omega
    have t2 : toO G b k < 4 * c := by unfold toO; split <;> omega
    exact un_min (D := fun x => x < 2 * c) (un_dn hp) (un_min (D := fun x => x < 2 * c) hp ih (egp_lt hv (by omega)) (egp_lt hv t1) hm.1) (egp_lt hv (by omega)) (egp_lt hv t2) hm.2 x y hx hy h
/-- both sides have as many loops -/
theorem loops_eq {f : Nat → Nat} {c ci : Nat} (hi : isoN A sg f (c, ci, S, G)) (hv : vn c S) (hal : ∀ v, v < A.flatten.length → uns A v = 0 → alS sg st (crs A v) = alB G b (f (crs A v))) : rtsN (uPx S G b c) (2 * c) = rtsN (lpA A sg st A.flatten.length) A.flatten.length := by
  have hd := wkF_ok hi.1
  have hl : A.flatten.length = 2 * c := hi.2.1
  have hS2 : ∀ v, v < A.flatten.length → S.2 (lbv A f v) = lbv A f (rn_pv A v) := by
    intro v hv1
    have h1 := hi.2.2.2.2.2.1 (rn_pv A v) (pv_lt hv1)
    rw [nx_pv hv1] at h1
    have h2 : S.1 (lbv A f (rn_pv A v)) = lbv A f v := h1
    rw [← h2]
    exact (hv _ (lbv_lt hi (pv_lt hv1))).2.2.1
  have cr : ∀ v, v < A.flatten.length → uns A v = 0 → egp S (4 * f (crs A v)) = lbv A f v ∧ egp S (4 * f (crs A v) + 1) = lbv A f (rn_pv A v) ∧ egp S (4 * f (crs A v) + 2) = lbv A f (mtf A v) ∧ egp S (4 * f (crs A v) + 3) = lbv A f (rn_pv A (mtf A v)) := by
    intro v hv1 hu
    obtain ⟨m1, m2, m3, m4⟩ := lbv_mt hi hv1
    have e0 : lbv A f v = 2 * f (crs A v) := by unfold lbv; rw [hu]; rfl
    have e1 : lbv A f (mtf A v) = 2 * f (crs A v) + 1 := by
      rw [m3, e0]
      unfold mt
      rw [if_pos (by omega)]
    refine ⟨?_, ?_, ?_, ?_⟩
    · unfold egp
      rw [if_pos (by omega), e0]
      omega
    · unfold egp
      rw [if_neg (by omega), show (4 * f (crs A v) + 1) / 2 = 2 * f (crs A v) by omega, ← e0]
      exact hS2 v hv1
    · unfold egp
      rw [if_pos (by omega), e1]
      omega
    · unfold egp
      rw [if_neg (by omega), show (4 * f (crs A v) + 3) / 2 = 2 * f (crs A v) + 1 by omega, ← e1]
      exact hS2 _ m1
  -- every crossing has its over visit
  have ov : ∀ x, x < c → ∃ v, v < A.flatten.length ∧ uns A v = 0 ∧ f (crs A v) = x := by
    intro x hx
    obtain ⟨v, v1, v2⟩ := lbv_sur hi (k := 2 * x) (show 2 * x < 2 * c by omega)
    have := uns_lt hi.1 v1
    refine ⟨v, v1, ?_, ?_⟩ <;> (unfold lbv at v2; omega)
  have d1 : ∀ x y, x < A.flatten.length → y < A.flatten.length → rt (lpA A sg st A.flatten.length) x = rt (lpA A sg st A.flatten.length) y → rt (uPx S G b c) (lbv A f x) = rt (uPx S G b c) (lbv A f y) := by
    refine lpA_min (M := fun v => rt (uPx S G b c) (lbv A f v)) hd ?_ _ (Nat.le_refl _)
    intro v hv1 hu
    obtain ⟨k0, k1, k2, k3⟩ := cr v hv1 hu
    obtain ⟨j1, j2⟩ := uPx_j (S := S) (G := G) (b := b) c (f (crs A v)) (hi.2.2.2.1 v hv1)
    have ha := hal v hv1 hu
    unfold ljM
    unfold toI at j1
    unfold toO at j2
    dsimp only
    rw [ha]
    by_cases h2 : alB G b (f (crs A v)) = true
    · rw [if_pos h2] at j1 j2 ⊢
      rw [k1, k2] at j1
      rw [k0, k3] at j2
      exact ⟨j1, j2.symm⟩
    · rw [if_neg h2] at j1 j2 ⊢
      rw [k1, k3] at j1
      rw [k0, k2] at j2
      exact ⟨j1, j2⟩
  obtain ⟨F, hF⟩ : ∃ F : Nat → Nat, ∀ a, a < 2 * c → F a < A.flatten.length ∧ lbv A f (F a) = a := by
    refine ⟨fun a => if ha : a < 2 * c then Classical.choose (lbv_sur hi ha) else 0, fun a ha => ?_⟩
    dsimp only
    rw [dif_pos ha]
    exact Classical.choose_spec (lbv_sur hi ha)
  have hFi : ∀ v, v < A.flatten.length → F (lbv A f v) = v := fun v hv1 => by
    obtain ⟨q1, q2⟩ := hF _ (lbv_lt hi hv1)
    exact lbv_inj hi q1 hv1 q2
  have d2 : ∀ x y, x < 2 * c → y < 2 * c → rt (uPx S G b c) x = rt (uPx S G b c) y → rt (lpA A sg st A.flatten.length) (F x) = rt (lpA A sg st A.flatten.length) (F y) := by
    refine uPx_min (M := fun a => rt (lpA A sg st A.flatten.length) (F a)) hv ?_ c (Nat.le_refl _)
    intro x hx
    obtain ⟨v, v1, hu, rfl⟩ := ov x hx
    obtain ⟨k0, k1, k2, k3⟩ := cr v v1 hu
    have hml := mtf_lt hd v1
    have jj := lpA_jS (A := A) (sg := sg) (st := st) _ v v1 hu
    rw [hal v v1 hu] at jj
    unfold ljM at jj
    unfold toI toO
    by_cases h2 : alB G b (f (crs A v)) = true
    · rw [if_pos h2] at jj
      rw [if_pos h2, if_pos h2, k0, k1, k2, k3, hFi _ v1, hFi _ hml, hFi _ (pv_lt v1), hFi _ (pv_lt hml)]
      exact ⟨jj.1, jj.2.symm⟩
    · rw [if_neg h2] at jj
      rw [if_neg h2, if_neg h2, k0, k1, k2, k3, hFi _ v1, hFi _ hml, hFi _ (pv_lt v1), hFi _ (pv_lt hml)]
      exact ⟨jj.1, jj.2⟩
  refine Nat.le_antisymm ?_ ?_
  · refine rtsN_le (f := F) (lpA_dn _) (fun x hx => (hF x hx).1) (fun x y hx hy h9 => ?_)
    have := d1 _ _ (hF x hx).1 (hF y hy).1 h9
    rw [(hF x hx).2, (hF y hy).2] at this
    exact this
  · refine rtsN_le (f := lbv A f) (uPx_dn _) (fun x hx => lbv_lt hi hx) (fun x y hx hy h9 => ?_)
    have := d2 _ _ (lbv_lt hi hx) (lbv_lt hi hy) h9
    rw [hFi x hx, hFi y hy] at this
    exact this
end LPE
