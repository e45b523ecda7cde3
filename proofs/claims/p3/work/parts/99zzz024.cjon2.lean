section
/-! 99zzzzzzt.cjon2 -/
/-! the class: loops of a state are the reference's; jones has an answer -/
section CK3
variable {vl : Nat → Nat} {y : ow_MS} {h g p s : Nat} {A : rn_L} {sg : Nat → Bool} {c : Nat} {T : ow_NT}
/-- a code loaded: the net shows the components, and its signs are 1 and -1 -/
theorem tc_load3 (hh : nH h) (hg : tH g p) (hd : h + 12 ≤ g ∨ g + 6 ≤ h) (hs : s < p) (hA : okL A c) (hC : slC y g s (clC sg A)) (hy : cAt y h T) (hb : ow_b24 T.2.2.1) : Te (fun K => ce_X7_load vl K h g (nI s) y) (fun y1 => (∃ T1, shA y1 h A sg T1 ∧ T1.1 = c ∧ T1.2.1 = cirs A ∧ ∀ x, x < c → T1.2.2.2 x = if sg x then -1 else 1) ∧ fr (cL h) y y1) := by
  obtain ⟨ec, oC⟩ := okL_c (sg := sg) hA
  obtain ⟨o1, o2, o3, o4, o5⟩ := id hA
  have hv : vOK A.flatten := ⟨o1.1, fun p hp => ((o1.2 p).mp hp).2⟩
  have hl := okF_len o1
  have hinit : ldS sg [] [] 0 (ld_init T.2.2.1 T.2.2.2 (y.2.1 (h + 4)) (y.2.1 (h + 5))) := by
    refine ⟨rfl, rfl, fun h => absurd rfl h, fun v hv => absurd hv (Nat.not_lt_zero _), fun i p q e => ?_, fun p hp => (by cases hp), fun i p e => ?_, fun v hv => absurd hv (Nat.not_lt_zero _), fun p hp => (by cases hp)⟩
    · rw [List.getElem?_nil] at e
      cases e
    · have e : ([] : List (Nat × Nat))[i]? = some p := e
      rw [List.getElem?_nil] at e
      cases e
  obtain ⟨t, b1, h1, h2⟩ := ldS_all (sg := sg) A [] 0 (ld_init T.2.2.1 T.2.2.2 (y.2.1 (h + 4)) (y.2.1 (h + 5))) hv o2 (fun p hp => by have := ((o1.2 p).mp hp).1; omega) (by rw [List.nil_append]; omega) o3 hinit
  rw [List.nil_append] at h2
  refine w_monoE (tc_load hh hg hd hs hC oC hy (fun _ => rfl) (fun _ => rfl) h1) ?_
  rintro y1 ⟨l1, l2⟩
  obtain ⟨n1, n2⟩ := ldS_net hA h2
  have hb1 := ld_b24 _ _ _ h1 hb (fun a e => by cases e) (fun a e => by cases e)
  have hr := iso_rg n1
  obtain ⟨g1, g2, g3, g4⟩ := l1
  rw [ec] at g1
  have hci : t.2.1.1 = cirs A := by rw [h2.1]
  have hco : t.2.1.2.1 = A.length := by rw [h2.1]
  refine ⟨⟨(c, t.2.1.1, t.1.1, t.1.2.1), ⟨g1, n1, ⟨n2, o4, hb1, by omega⟩, fun i q e => ?_, fun v hv1 => ?_, ?_⟩, rfl, hci, fun x hx => ?_⟩, l2⟩
  · rw [g2 i]
    exact h2.2.2.2.2.2.2.1 i q (by rw [List.append_nil]; exact e)
  · rw [g3]
    exact h2.2.2.2.2.2.2.2.1 v hv1
  · rw [g4, hco]
  · exact h2.2.2.2.2.2.1 (x, 0) (by rw [List.append_nil]; exact (o1.2 (x, 0)).mpr ⟨hx, Nat.zero_lt_two⟩)
end CK3
/-! numbers out of bits -/
def bnN (b : Nat → Bool) : Nat → Nat
  | 0 => 0
  | c + 1 => bnN b c + if b c then 2 ^ c else 0
theorem bnN_lt (b : Nat → Bool) : ∀ c, bnN b c < 2 ^ c
  | 0 => Nat.one_pos
  | c + 1 => by
    have := bnN_lt b c
    show bnN b c + _ < _
    rw [Nat.pow_succ]
    split <;> omega
theorem bnN_bit (b : Nat → Bool) : ∀ c x, x < c → bnN b c / 2 ^ x % 2 = if b x then 1 else 0
  | 0, x, h => absurd h (by omega)
  | c + 1, x, h => by
    have h1 := bnN_lt b c
    show (bnN b c + _) / 2 ^ x % 2 = _
    by_cases e : x = c
    · subst e
      by_cases hb : b x
      · rw [if_pos hb, if_pos hb, Nat.add_div_right _ (Nat.two_pow_pos x), Nat.div_eq_of_lt h1]
      · rw [if_neg hb, if_neg hb, Nat.add_zero, Nat.div_eq_of_lt h1]
    · have ih := bnN_bit b c x (by omega)
      by_cases hb : b c
      · rw [if_pos hb]
        have e2 : 2 ^ c = 2 ^ x * (2 * 2 ^ (c - x - 1)) := by
          rw [← Nat.pow_succ', ← Nat.pow_add]
          congr 1
          omega
        rw [e2, Nat.add_mul_div_left _ _ (Nat.two_pow_pos x), Nat.add_mul_mod_self_left]
        exact ih
      · rw [if_neg hb, Nat.add_zero]
        exact ih
/-! classes of gaps -/
theorem un_min {p M : Nat → Nat} {D : Nat → Prop} {g h : Nat} (hp : dn p) (H : ∀ x y, D x → D y → rt p x = rt p y → M x = M y) (hg : D g) (hh : D h) (e : M g = M h) : ∀ x y, D x → D y → rt (un p g h) x = rt (un p g h) y → M x = M y := by
  intro x y hx hy h9
  rcases (un_iff hp).mp h9 with h1 | ⟨h1, h2⟩ | ⟨h1, h2⟩
  · exact H x y hx hy h1
  · rw [H x g hx hg h1, H y h hy hh h2, e]
  · rw [H x h hx hh h1, H y g hy hg h2, e]
theorem rtsN_le {p1 p2 f : Nat → Nat} {V1 V2 : Nat} (h2 : dn p2) (hf : ∀ x, x < V1 → f x < V2) (H : ∀ x y, x < V1 → y < V1 → rt p2 (f x) = rt p2 (f y) → rt p1 x = rt p1 y) : rtsN p1 V1 ≤ rtsN p2 V2 := by
  unfold rtsN
  have e : (((List.range V1).filter (fun g => decide (p1 g = g))).map (fun g => rt p2 (f g))).length = ((List.range V1).filter (fun g => decide (p1 g = g))).length := List.length_map _
  rw [← e]
  refine nodup_le _ _ ?_ ?_
  · refine List.pairwise_map.mpr ((List.nodup_range.filter _).imp_of_mem ?_)
    intro a b ha hb hab h9
    have ha := List.mem_filter.mp ha
    have hb := List.mem_filter.mp hb
    have := H a b (List.mem_range.mp ha.1) (List.mem_range.mp hb.1) h9
    rw [rt_root (of_decide_eq_true ha.2), rt_root (of_decide_eq_true hb.2)] at this
    exact hab this
  · intro r hr
    obtain ⟨g, hg, rfl⟩ := List.mem_map.mp hr
    have hg := List.mem_filter.mp hg
    have h3 := rt_in h2 (f g)
    have := hf g (List.mem_range.mp hg.1)
    exact List.mem_filter.mpr ⟨List.mem_range.mpr (by omega), decide_eq_true h3.1⟩
section LPE
variable {A : rn_L} {sg : Nat → Bool} {st : Int32} {S : ow_NP} {G : Nat → Int32} {b : Nat → Bool} {M : Nat → Nat}
def ljM (A : rn_L) (al : Bool) (M : Nat → Nat) (v : Nat) : Prop := if al then M (rn_pv A v) = M (mtf A v) ∧ M (rn_pv A (mtf A v)) = M v else M (rn_pv A v) = M (rn_pv A (mtf A v)) ∧ M v = M (mtf A v)
theorem lpA_jS : ∀ (V v : Nat), v < V → uns A v = 0 → ljM A (alS sg st (crs A v)) (rt (lpA A sg st V)) v
  | 0, v, h, _ => by omega
  | V + 1, v, h, hu => by
    show ljM A (alS sg st (crs A v)) (rt (lpS A sg st V (lpA A sg st V))) v
    by_cases hv : v = V
    · rw [hv]
      rw [hv] at hu
      unfold ljM lpS
      rw [if_pos hu]
      have hp := lpA_dn (A := A) (sg := sg) (st := st) V
      by_cases h2 : alS sg st (crs A V) = true
      · rw [if_pos h2, if_pos h2]
        exact ⟨un_k (un_dn hp) (un_j hp), un_j (un_dn hp)⟩
      · rw [if_neg h2, if_neg h2]
        exact ⟨un_k (un_dn hp) (un_j hp), un_j (un_dn hp)⟩
    · have := lpA_jS V v (by omega) hu
      unfold ljM at this ⊢
      split
      · rename_i h2
        rw [if_pos h2] at this
        exact ⟨lpS_k (lpA_dn V) this.1, lpS_k (lpA_dn V) this.2⟩
      · rename_i h2
        rw [if_neg h2] at this
        exact ⟨lpS_k (lpA_dn V) this.1, lpS_k (lpA_dn V) this.2⟩
theorem lpA_min (hd : rn_ok A.flatten) (hM : ∀ v, v < A.flatten.length → uns A v = 0 → ljM A (alS sg st (crs A v)) M v) : ∀ k, k ≤ A.flatten.length → ∀ x y, x < A.flatten.length → y < A.flatten.length → rt (lpA A sg st k) x = rt (lpA A sg st k) y → M x = M y
  | 0, _, x, y, _, _, h => by
    rw [rt_root (p := lpA A sg st 0) rfl, rt_root (p := lpA A sg st 0) rfl] at h
    rw [h]
  | k + 1, hk, x, y, hx, hy, h => by
    have ih := lpA_min hd hM k (by omega)
    have hp := lpA_dn (A := A) (sg := sg) (st := st) k
    have hml := mtf_lt hd (show k < A.flatten.length by omega)
    have h : rt (lpS A sg st k (lpA A sg st k)) x = rt (lpS A sg st k (lpA A sg st k)) y := h
    unfold lpS at h
    by_cases hu : uns A k = 0
    · have hm := hM k (by omega) hu
      have p1 := pv_lt (show k < A.flatten.length by omega)
      have p2 := pv_lt hml
      unfold ljM at hm
      rw [if_pos hu] at h
      by_cases h2 : alS sg st (crs A k) = true
      · rw [if_pos h2] at h hm
        exact un_min (D := fun x => x < A.flatten.length) (un_dn hp) (un_min (D := fun x => x < A.flatten.length) hp ih p1 hml hm.1) p2 (by omega) hm.2 x y hx hy h
      · rw [if_neg h2] at h hm
        exact un_min (D := fun x => x < A.flatten.length) (un_dn hp) (un_min (D := fun x => x < A.flatten.length) hp ih p1 p2 hm.1) (by omega) hml hm.2 x y hx hy h
    · rw [if_neg hu] at h
      exact ih x y hx hy h
theorem uPx_j : ∀ (k x : Nat), x < k → rt (uPx S G b k) (egp S (4 * x + 1)) = rt (uPx S G b k) (egp S (toI G b x)) ∧ rt (uPx S G b k) (egp S (4 * x)) = rt (uPx S G b k) (egp S (toO G b x))
  | 0, x, h => by omega
  | k + 1, x, h => by
    have hp := uPx_dn (S := S) (G := G) (b := b) k
    by_cases e : x = k
    · subst e
      exact ⟨un_k (un_dn hp) (un_j hp), un_j (un_dn hp)⟩
    · obtain ⟨h1, h2⟩ := uPx_j k x (by omega)
      exact ⟨un_k (un_dn hp) (un_k hp h1), un_k (un_dn hp) (un_k hp h2)⟩
theorem uPx_min {c : Nat} (hv : vn c S) (hM : ∀ x, x < c → M (egp S (4 * x + 1)) = M (egp S (toI G b x)) ∧ M (egp S (4 * x)) = M (egp S (toO G b x))) : ∀ k, k ≤ c → ∀ x y, x < 2 * c → y < 2 * c → rt (uPx S G b k) x = rt (uPx S G b k) y → M x = M y
  | 0, _, x, y, _, _, h => by
    rw [rt_root (p := uPx S G b 0) rfl, rt_root (p := uPx S G b 0) rfl] at h
    rw [h]
  | k + 1, hk, x, y, hx, hy, h => by
    have ih := uPx_min hv hM k (by omega)
    have hp := uPx_dn (S := S) (G := G) (b := b) k
    have hm := hM k (by omega)
    have t1 : toI G b k < 4 * c := by unfold toI; split <;> omega
    have t2 : toO G b k < 4 * c := by unfold toO; split <;> omega
    exact un_min (D := fun x => x < 2 * c) (un_dn hp) (un_min (D := fun x => x < 2 * c) hp ih (egp_lt hv (by omega)) (egp_lt hv t1) hm.1) (egp_lt hv (by omega)) (egp_lt hv t2) hm.2 x y hx hy h
/-- both sides have as many loops -/
theorem loops_eq {f : Nat → Nat} {c ci : Nat} (hi : isoN A sg f (c, ci, S, G)) (hv : vn c S) (hal : ∀ v, v < A.flatten.length → uns A v = 0 → alS sg st (crs A v) = alB G b (f (crs A v))) : rtsN (uPx S G b c) (2 * c) = rtsN (lpA A sg st A.flatten.length) A.flatten.length := by
  have hd := wkF_ok hi.1
  have hl : A.flatten.length = 2 * c := hi.2.1
  have hS2 : ∀ v, v < A.flatten.length → S.2 (lbv A f v) = lbv A f (rn_pv A v) := by
    intro v hv1
    have h1 := hi.2.2.2.2.2.1 (rn_pv A v) (pv_lt hv1)
    rw [nx_pv hv1] at h1
    have h2 : S.1 (lbv A f (rn_pv A v)) = lbv A f v := h1
    rw [← h2]
    exact (hv _ (lbv_lt hi (pv_lt hv1))).2.2.1
  have cr : ∀ v, v < A.flatten.length → uns A v = 0 → egp S (4 * f (crs A v)) = lbv A f v ∧ egp S (4 * f (crs A v) + 1) = lbv A f (rn_pv A v) ∧ egp S (4 * f (crs A v) + 2) = lbv A f (mtf A v) ∧ egp S (4 * f (crs A v) + 3) = lbv A f (rn_pv A (mtf A v)) := by
    intro v hv1 hu
    obtain ⟨m1, m2, m3, m4⟩ := lbv_mt hi hv1
    have e0 : lbv A f v = 2 * f (crs A v) := by unfold lbv; rw [hu]; rfl
    have e1 : lbv A f (mtf A v) = 2 * f (crs A v) + 1 := by
      rw [m3, e0]
      unfold mt
      rw [if_pos (by omega)]
    refine ⟨?_, ?_, ?_, ?_⟩
    · unfold egp
      rw [if_pos (by omega), e0]
      omega
    · unfold egp
      rw [if_neg (by omega), show (4 * f (crs A v) + 1) / 2 = 2 * f (crs A v) by omega, ← e0]
      exact hS2 v hv1
    · unfold egp
      rw [if_pos (by omega), e1]
      omega
    · unfold egp
      rw [if_neg (by omega), show (4 * f (crs A v) + 3) / 2 = 2 * f (crs A v) + 1 by omega, ← e1]
      exact hS2 _ m1
  -- every crossing has its over visit
  have ov : ∀ x, x < c → ∃ v, v < A.flatten.length ∧ uns A v = 0 ∧ f (crs A v) = x := by
    intro x hx
    obtain ⟨v, v1, v2⟩ := lbv_sur hi (k := 2 * x) (show 2 * x < 2 * c by omega)
    have := uns_lt hi.1 v1
    refine ⟨v, v1, ?_, ?_⟩ <;> (unfold lbv at v2; omega)
  have d1 : ∀ x y, x < A.flatten.length → y < A.flatten.length → rt (lpA A sg st A.flatten.length) x = rt (lpA A sg st A.flatten.length) y → rt (uPx S G b c) (lbv A f x) = rt (uPx S G b c) (lbv A f y) := by
    refine lpA_min (M := fun v => rt (uPx S G b c) (lbv A f v)) hd ?_ _ (Nat.le_refl _)
    intro v hv1 hu
    obtain ⟨k0, k1, k2, k3⟩ := cr v hv1 hu
    obtain ⟨j1, j2⟩ := uPx_j (S := S) (G := G) (b := b) c (f (crs A v)) (hi.2.2.2.1 v hv1)
    have ha := hal v hv1 hu
    unfold ljM
    unfold toI at j1
    unfold toO at j2
    dsimp only
    rw [ha]
    by_cases h2 : alB G b (f (crs A v)) = true
    · rw [if_pos h2] at j1 j2 ⊢
      rw [k1, k2] at j1
      rw [k0, k3] at j2
      exact ⟨j1, j2.symm⟩
    · rw [if_neg h2] at j1 j2 ⊢
      rw [k1, k3] at j1
      rw [k0, k2] at j2
      exact ⟨j1, j2⟩
  obtain ⟨F, hF⟩ : ∃ F : Nat → Nat, ∀ a, a < 2 * c → F a < A.flatten.length ∧ lbv A f (F a) = a := by
    refine ⟨fun a => if ha : a < 2 * c then Classical.choose (lbv_sur hi ha) else 0, fun a ha => ?_⟩
    dsimp only
    rw [dif_pos ha]
    exact Classical.choose_spec (lbv_sur hi ha)
  have hFi : ∀ v, v < A.flatten.length → F (lbv A f v) = v := fun v hv1 => by
    obtain ⟨q1, q2⟩ := hF _ (lbv_lt hi hv1)
    exact lbv_inj hi q1 hv1 q2
  have d2 : ∀ x y, x < 2 * c → y < 2 * c → rt (uPx S G b c) x = rt (uPx S G b c) y → rt (lpA A sg st A.flatten.length) (F x) = rt (lpA A sg st A.flatten.length) (F y) := by
    refine uPx_min (M := fun a => rt (lpA A sg st A.flatten.length) (F a)) hv ?_ c (Nat.le_refl _)
    intro x hx
    obtain ⟨v, v1, hu, rfl⟩ := ov x hx
    obtain ⟨k0, k1, k2, k3⟩ := cr v v1 hu
    have hml := mtf_lt hd v1
    have jj := lpA_jS (A := A) (sg := sg) (st := st) _ v v1 hu
    rw [hal v v1 hu] at jj
    unfold ljM at jj
    unfold toI toO
    by_cases h2 : alB G b (f (crs A v)) = true
    · rw [if_pos h2] at jj
      rw [if_pos h2, if_pos h2, k0, k1, k2, k3, hFi _ v1, hFi _ hml, hFi _ (pv_lt v1), hFi _ (pv_lt hml)]
      exact ⟨jj.1, jj.2.symm⟩
    · rw [if_neg h2] at jj
      rw [if_neg h2, if_neg h2, k0, k1, k2, k3, hFi _ v1, hFi _ hml, hFi _ (pv_lt v1), hFi _ (pv_lt hml)]
      exact ⟨jj.1, jj.2⟩
  refine Nat.le_antisymm ?_ ?_
  · refine rtsN_le (f := F) (lpA_dn _) (fun x hx => (hF x hx).1) (fun x y hx hy h9 => ?_)
    have := d1 _ _ (hF x hx).1 (hF y hy).1 h9
    rw [(hF x hx).2, (hF y hy).2] at this
    exact this
  · refine rtsN_le (f := lbv A f) (uPx_dn _) (fun x hx => lbv_lt hi hx) (fun x y hx hy h9 => ?_)
    have := d2 _ _ (lbv_lt hi hx) (lbv_lt hi hy) h9
    rw [hFi x hx, hFi y hy] at this
    exact this
end LPE
end
section
/-! 99zzzzzzu.cjon3 -/
/-! the class: jones has an answer -/
theorem bmp_cnt : ∀ (l : List Nat) (R : Nat → Int32) (k : Nat), bmp R l k = R k + nI (l.count k)
  | [], R, k => by
    show R k = R k + nI 0
    rw [show nI 0 = 0 from rfl, Int32.add_zero]
  | a :: l, R, k => by
    show bmp (upd R a (R a + 1)) l k = _
    rw [bmp_cnt l, upd_v]
    by_cases e : k = a
    · subst e
      rw [if_pos rfl, List.count_cons_self, ← nI_1, Int32.add_assoc, Int32.add_comm 1]
    · rw [if_neg e, List.count_cons_of_ne (fun h => e h.symm)]
/-- the net of a diagram, as it is loaded -/
def jnN (A : rn_L) (sg : Nat → Bool) (c : Nat) (S : ow_NP) (G : Nat → Int32) : Prop := okL A c ∧ isoN A sg (fun x => x) (c, cirs A, S, G) ∧ vn c S ∧ ∀ x, x < c → G x = if sg x then -1 else 1
theorem neC_cirs (A : rn_L) : neC A + cirs A ≤ A.length := by
  have h1 := filt_sum (neB A) (List.range A.length)
  rw [List.length_range, ← cirs_f] at h1
  have h2 : neC A ≤ ((List.range A.length).filter (neB A)).length := by
    refine nodup_le _ _ (List.nodup_range.filter _) (fun c hc => ?_)
    have hc := List.mem_filter.mp hc
    have h3 := of_decide_eq_true hc.2
    have h4 := rn_b_le A (c + 1)
    have h5 := neB_in (A := A) (v := rn_b A c) (by omega)
    rw [rn_c_of A c (rn_b A c) (Nat.le_refl _) h3] at h5
    exact List.mem_filter.mpr ⟨hc.1, h5⟩
  omega
theorem al_bit {sg : Nat → Bool} {b : Nat → Bool} {c x : Nat} (hc : c ≤ 12) (hx : x < c) : alS sg (nI (bnN b c)) x = !(sg x == !b x) := by
  have h1 := bnN_lt b c
  have h2 : 2 ^ c ≤ 2 ^ 12 := two_mono hc
  unfold alS
  rw [gbit (by omega) (by omega), bnN_bit b c x hx]
  cases b x <;> rfl
theorem lps_23 {A : rn_L} {sg : Nat → Bool} {c : Nat} {S : ow_NP} {G : Nat → Int32} (h : jnN A sg c S G) (b : Nat → Bool) : cirs A + rtsN (uPx S G b c) (2 * c) ≤ 23 := by
  obtain ⟨h1, h2, h3, h4⟩ := h
  have hc := h1.2.2.2.1
  have h6 := h1.2.2.2.2
  have e := loops_eq (st := nI (bnN (fun x => !(sg x == !alB G b x)) c)) (b := b) h2 h3 (fun v hv _ => by
    rw [al_bit hc (h2.2.2.2.1 v hv)]
    cases sg (crs A v) <;> cases alB G b (crs A v) <;> rfl)
  have l := loops_le (sg := sg) (st := nI (bnN (fun x => !(sg x == !alB G b x)) c)) h1.1 (by omega)
  have := neC_cirs A
  rw [e]
  omega
/-- the partners at first -/
def p0E (S : ow_NP) (e : Nat) : Nat := if e % 2 = 0 then 2 * S.1 (e / 2) + 1 else 2 * S.2 (e / 2)
theorem p0E_ti {S : ow_NP} {G : Nat → Int32} {b : Nat → Bool} {c : Nat} (hv : vn c S) : tiI S (p0E S) (opA c 0) (uPx S G b 0) := by
  refine ⟨uPx_dn 0, fun a ha => ?_⟩
  have ha := ha.2
  obtain ⟨a1, a2, a3, a4⟩ := hv (a / 2) (by omega)
  have r0 : ∀ g, rt (uPx S G b 0) g = g := fun g => rt_root rfl
  by_cases e : a % 2 = 0
  · have q : p0E S a = 2 * S.1 (a / 2) + 1 := if_pos e
    rw [q]
    refine ⟨⟨by omega, by omega⟩, by omega, ?_, fun b' hb => ?_⟩
    · unfold p0E
      rw [if_neg (by omega), show (2 * S.1 (a / 2) + 1) / 2 = S.1 (a / 2) by omega, a3]
      omega
    · have hb := hb.2
      obtain ⟨b1, b2, b3, b4⟩ := hv (b' / 2) (by omega)
      rw [r0, r0]
      unfold egp
      rw [if_pos e]
      by_cases e' : b' % 2 = 0
      · rw [if_pos e']
        omega
      · rw [if_neg e']
        constructor
        · intro h9
          rw [h9, b4]
          omega
        · rintro (h9 | h9)
          · omega
          · rw [h9, show (2 * S.1 (a / 2) + 1) / 2 = S.1 (a / 2) by omega, a3]
  · have q : p0E S a = 2 * S.2 (a / 2) := if_neg e
    rw [q]
    refine ⟨⟨by omega, by omega⟩, by omega, ?_, fun b' hb => ?_⟩
    · unfold p0E
      rw [if_pos (by omega), show (2 * S.2 (a / 2)) / 2 = S.2 (a / 2) by omega, a4]
      omega
    · have hb := hb.2
      obtain ⟨b1, b2, b3, b4⟩ := hv (b' / 2) (by omega)
      rw [r0, r0]
      unfold egp
      rw [if_neg e]
      by_cases e' : b' % 2 = 0
      · rw [if_pos e']
        omega
      · rw [if_neg e']
        constructor
        · intro h9
          have := vn_inj2 hv (show a / 2 < 2 * c by omega) (show b' / 2 < 2 * c by omega) h9
          omega
        · rintro (h9 | h9)
          · rw [h9]
          · omega
theorem rtsN_id {S : ow_NP} {G : Nat → Int32} {b : Nat → Bool} : ∀ V, rtsN (uPx S G b 0) V = V
  | 0 => rfl
  | V + 1 => by
    rw [rtsN_s, rtsN_id V, if_pos (show uPx S G b 0 V = V from rfl)]
def jnP (g : Nat) : Prop := 24006 ≤ g ∧ g ≤ 24007 ∨ g = 24009 ∨ 25001 ≤ g ∧ g ≤ 25003 ∨ 40001 ≤ g ∧ g ≤ 40011
/-- what stands of the latest states -/
def jnT (y : ow_MS) (A : rn_L) (sg : Nat → Bool) (c : Nat) : Prop := ∃ S G, jnN A sg c S G ∧ y.1 40008 = nI c ∧ y.1 24009 = np_sum G c ∧ ∀ k, k < 312 → y.2.1 24006 k = nI ((tbL S G (cirs A) c 0 (fun _ => false)).count k)
def jnC (y : ow_MS) : Prop := ∃ C, slC y 25000 1 C ∧ cOK C ∧ (C.2 = [] ∨ ∃ A sg c, C = clC sg A ∧ jnT y A sg c)
/-- a code says of which components it is written -/
theorem spl0 : ∀ (l l' x x' : List Nat), (∀ a, a ∈ l → a ≠ 0) → (∀ a, a ∈ l' → a ≠ 0) → l ++ 0 :: x = l' ++ 0 :: x' → l = l' ∧ x = x'
  | [], [], x, x', _, _, e => ⟨rfl, (List.cons.inj e).2⟩
  | [], a :: l', x, x', _, h', e => absurd (List.cons.inj e).1.symm (h' a List.mem_cons_self)
  | a :: l, [], x, x', h, _, e => absurd (List.cons.inj e).1 (h a List.mem_cons_self)
  | a :: l, a' :: l', x, x', h, h', e => by
    obtain ⟨e1, e2⟩ := List.cons.inj e
    obtain ⟨h1, h2⟩ := spl0 l l' x x' (fun b hb => h b (List.mem_cons_of_mem _ hb)) (fun b hb => h' b (List.mem_cons_of_mem _ hb)) e2
    exact ⟨by rw [e1, h1], h2⟩
theorem clc_inj {sg sg' : Nat → Bool} {b : Nat} : ∀ (L L' : List (Nat × Nat)), (∀ p, p ∈ L → b ≤ p.1 ∧ p.2 < 2) → (∀ p, p ∈ L' → b ≤ p.1 ∧ p.2 < 2) → L.map (clc sg b) = L'.map (clc sg' b) → L = L' ∧ ∀ p, p ∈ L → sg p.1 = sg' p.1
  | [], [], _, _, _ => ⟨rfl, fun p hp => by cases hp⟩
  | [], q :: L', _, _, e => by cases e
  | p :: L, [], _, _, e => by cases e
  | p :: L, q :: L', h, h', e => by
    obtain ⟨e1, e2⟩ := List.cons.inj e
    obtain ⟨i1, i2⟩ := clc_inj L L' (fun r hr => h r (List.mem_cons_of_mem _ hr)) (fun r hr => h' r (List.mem_cons_of_mem _ hr)) e2
    have hp := h p List.mem_cons_self
    have hq := h' q List.mem_cons_self
    unfold clc at e1
    have k : p.1 = q.1 ∧ p.2 = q.2 ∧ (sg p.1 = sg' q.1) := by
      cases h1 : sg p.1 <;> cases h2 : sg' q.1 <;> simp only [h1, h2] at e1 <;> simp at e1 ⊢ <;> omega
    have pq : p = q := Prod.ext k.1 k.2.1
    refine ⟨by rw [pq, i1], fun r hr => ?_⟩
    rcases List.mem_cons.mp hr with rfl | hr
    · rw [k.2.2, k.1]
    · exact i2 r hr
theorem ucd_inj {sg sg' : Nat → Bool} : ∀ (R R' : rn_L) (b : Nat) (D : rn_L), bsO b D R → bsO b D R' → (∀ p, p ∈ R.flatten → p.2 < 2) → (∀ p, p ∈ R'.flatten → p.2 < 2) → ucd sg b D R = ucd sg' b D R' → R = R' ∧ ∀ p, p ∈ R.flatten → sg p.1 = sg' p.1
  | [], [], _, _, _, _, _, _, _ => ⟨rfl, fun p hp => by cases hp⟩
  | [], L' :: R', b, D, _, _, _, _, e => by
    have := congrArg List.length e
    unfold ucd at this
    rw [List.length_append, List.length_cons, List.length_nil] at this
    omega
  | L :: R, [], b, D, _, _, _, _, e => by
    have := congrArg List.length e
    unfold ucd at this
    rw [List.length_append, List.length_cons, List.length_nil] at this
    omega
  | L :: R, L' :: R', b, D, h, h', hu, hu', e => by
    have e : L.map (clc sg b) ++ 0 :: ucd sg (nxb b (D ++ [L])) (D ++ [L]) R = L'.map (clc sg' b) ++ 0 :: ucd sg' (nxb b (D ++ [L'])) (D ++ [L']) R' := e
    have nz : ∀ (s : Nat → Bool) (M : List (Nat × Nat)) a, a ∈ M.map (clc s b) → a ≠ 0 := by
      intro s M a ha
      obtain ⟨p, -, rfl⟩ := List.mem_map.mp ha
      unfold clc
      omega
    obtain ⟨e1, e2⟩ := spl0 _ _ _ _ (nz sg L) (nz sg' L') e
    have m1 : ∀ p, p ∈ L → p ∈ (L :: R).flatten := fun p hp => by rw [List.flatten_cons]; exact List.mem_append_left _ hp
    have m2 : ∀ p, p ∈ L' → p ∈ (L' :: R').flatten := fun p hp => by rw [List.flatten_cons]; exact List.mem_append_left _ hp
    obtain ⟨i1, i2⟩ := clc_inj L L' (fun p hp => ⟨h.1 p hp, hu p (m1 p hp)⟩) (fun p hp => ⟨h'.1 p hp, hu' p (m2 p hp)⟩) e1
    subst i1
    obtain ⟨j1, j2⟩ := ucd_inj R R' _ _ h.2 h'.2 (fun p hp => hu p (by rw [List.flatten_cons]; exact List.mem_append_right _ hp)) (fun p hp => hu' p (by rw [List.flatten_cons]; exact List.mem_append_right _ hp)) e2
    refine ⟨by rw [j1], fun p hp => ?_⟩
    rw [List.flatten_cons] at hp
    rcases List.mem_append.mp hp with hp | hp
    · exact i2 p hp
    · exact j2 p hp
theorem clC_inj {sg sg' : Nat → Bool} {A A' : rn_L} {c c' : Nat} (h : okL A c) (h' : okL A' c') (e : clC sg A = clC sg' A') : A = A' ∧ c = c' ∧ ∀ x, x < c → sg x = sg' x := by
  obtain ⟨i1, i2⟩ := ucd_inj A A' 0 [] h.2.2.1 h'.2.2.1 (fun p hp => ((h.1.2 p).mp hp).2) (fun p hp => ((h'.1.2 p).mp hp).2) (congrArg Prod.snd e)
  subst i1
  have l1 := okF_len h.1
  have l2 := okF_len h'.1
  refine ⟨rfl, by omega, fun x hx => ?_⟩
  exact i2 (x, 0) ((h.1.2 (x, 0)).mpr ⟨hx, Nat.zero_lt_two⟩)
theorem jnT_sg {y : ow_MS} {sg sg' : Nat → Bool} {A : rn_L} {c : Nat} (h : jnT y A sg' c) (hs : ∀ x, x < c → sg x = sg' x) : jnT y A sg c := by
  obtain ⟨S, G, ⟨h1, h2, h3, h4⟩, h5⟩ := h
  refine ⟨S, G, ⟨h1, ⟨h2.1, h2.2.1, h2.2.2.1, h2.2.2.2.1, h2.2.2.2.2.1, h2.2.2.2.2.2.1, fun v hv => ?_, h2.2.2.2.2.2.2.2⟩, h3, fun x hx => ?_⟩, h5⟩
  · rw [hs _ (h2.2.2.2.1 v hv)]
    exact h2.2.2.2.2.2.2.1 v hv
  · rw [hs x hx]
    exact h4 x hx
section CCS
variable {vl : Nat → Nat} {y : ow_MS}
/-- as it is: the code in the slot is asked for, or comes there -/
theorem tc_isKnown2 {g' p' s s' : Nat} {B C : cdT} (hs : s < 2) (hg' : tH g' p') (hd : g' + 6 ≤ 25000) (hs' : s' < p') (hb : slC y g' s' B) (ob : cOK B) (hby : byR y (g' + 1)) (c1 : slC y 25000 s C) (c2 : cOK C) : Te (fun K => ce_X8_isKnown vl K 24000 (nI s) g' (nI s') y) (fun r => (r.1 = 1 ∧ r.2 = y ∧ C = B ∧ 0 < C.2.length ∨ r.1 = 0 ∧ slC r.2 25000 s B) ∧ (∀ t D, t ≠ s → cOK D → slC y 25000 t D → slC r.2 25000 t D) ∧ (byR y 25001 → byR r.2 25001) ∧ fr (cW 25000) y r.2) := by
  let Q : Int32 × ow_MS → Prop := fun r => (r.1 = 1 ∧ r.2 = y ∧ C = B ∧ 0 < C.2.length ∨ r.1 = 0 ∧ slC r.2 25000 s B) ∧ (∀ t D, t ≠ s → cOK D → slC y 25000 t D → slC r.2 25000 t D) ∧ (byR y 25001 → byR r.2 25001) ∧ fr (cW 25000) y r.2
  have go1 : Tt (fun K t => c_X8_isKnown vl K t 1 (nI s) (nI s') 24000 g' y) Q := by
    refine u_X8_isKnown_1 ?_; unfold cm_X8_isKnown_1
    refine w_cs0 (tc_write tH25 hg' (Or.inr hd) hs hs' hb ob hby) ?_
    rintro y1 ⟨w1, w2, w3, w4⟩
    exact w_okZ (Or.inl rfl) (w_some ⟨Or.inr ⟨rfl, w1⟩, w2, w3, w4⟩)
  have hl := c2.2.1
  refine e_X8_isKnown ?_
  refine u_X8_isKnown_0 ?_; unfold cm_X8_isKnown_0
  refine w_crI (tH_2 tH25) rfl hs c1.2.1 (w_if (fun _ => go1) (fun h0 => w_cs1 (tc_compare tH25 hg' hs hs' c1 hb c2 ob) ?_))
  rintro v z ⟨e1, e2⟩
  dsimp only at e1 e2
  rw [e1, e2]
  refine w_if (fun h9 => w_okZ (Or.inr rfl) (w_some ⟨Or.inl ⟨rfl, rfl, ?_, ?_⟩, fun t D _ _ h => h, fun h => h, fr_rf⟩)) (fun _ => go1)
  · have b := cmpC_b c2 ob
    refine cmpC_0 ?_
    have h8 : (iI (cmpC C B)).toInt = (iI 0).toInt := congrArg Int32.toInt h9
    rw [iI_toInt (by omega) (by omega), iI_toInt (by omega) (by omega)] at h8
    exact h8
  · exact Nat.pos_of_ne_zero (fun h9 => h0 (by rw [h9]; decide))
theorem e_X8_countStates {vl : Nat → Nat} {r0 : Nat} {r1 : Nat} {x2 : Int32} {z : ow_MS} {Q : ow_MS → Prop} (H : Tt (fun K k => c_X8_countStates vl K k 0 x2 0 r0 r1 z) Q) : Te (fun K => ce_X8_countStates vl K r0 r1 x2 z) Q := w_te H
theorem u_X8_countStates_0 {vl : Nat → Nat} {x2 : Int32} {x3 : Int32} {r0 : Nat} {r1 : Nat} {z : ow_MS} {Q : ow_MS → Prop} (H : Tt (fun K k => cm_X8_countStates_0 vl K (c_X8_countStates vl K k) x2 x3 r0 r1 z) Q) : Tt (fun K k => c_X8_countStates vl K k 0 x2 x3 r0 r1 z) Q := w_un (fun _ _ => rfl) H
theorem u_X8_countStates_1 {vl : Nat → Nat} {x2 : Int32} {x3 : Int32} {r0 : Nat} {r1 : Nat} {z : ow_MS} {Q : ow_MS → Prop} (H : Tt (fun K k => cm_X8_countStates_1 vl K (c_X8_countStates vl K k) x2 x3 r0 r1 z) Q) : Tt (fun K k => c_X8_countStates vl K k 1 x2 x3 r0 r1 z) Q := w_un (fun _ _ => rfl) H
theorem tc_countStates {g' p' s' c : Nat} {A : rn_L} {sg : Nat → Bool} {T : ow_NT} (hg' : tH g' p') (hd : g' + 6 ≤ 24000) (hs' : s' < p') (hb : slC y g' s' (clC sg A)) (hA : okL A c) (hby : byR y (g' + 1)) (hk : jnC y) (hT : cAt y 40000 T) (hT2 : ow_b24 T.2.2.1) : Te (fun K => ce_X8_countStates vl K 24000 g' (nI s') y) (fun y1 => slC y1 25000 1 (clC sg A) ∧ jnT y1 A sg c ∧ (∃ T, cAt y1 40000 T ∧ ow_b24 T.2.2.1) ∧ (∀ D, cOK D → slC y 25000 0 D → slC y1 25000 0 D) ∧ (byR y 25001 → byR y1 25001) ∧ fr jnP y y1) := by
  let Q : ow_MS → Prop := fun y1 => slC y1 25000 1 (clC sg A) ∧ jnT y1 A sg c ∧ (∃ T, cAt y1 40000 T ∧ ow_b24 T.2.2.1) ∧ (∀ D, cOK D → slC y 25000 0 D → slC y1 25000 0 D) ∧ (byR y 25001 → byR y1 25001) ∧ fr jnP y y1
  obtain ⟨C, k1, k2, k3⟩ := hk
  have hc12 := hA.2.2.2.1
  refine e_X8_countStates ?_
  refine u_X8_countStates_0 ?_; unfold cm_X8_countStates_0
  refine w_cs1 (tc_isKnown2 (s := 1) (by omega) hg' (by omega) hs' hb (okL_c hA).2 hby k1 k2) ?_
  rintro v y1 ⟨h1, h2, h3, f1⟩
  dsimp only at h1 h2 h3 f1
  rcases h1 with ⟨rfl, rfl, rfl, hpos⟩ | ⟨rfl, h1⟩
  · refine w_ifF (by decide) (w_some ⟨k1, ?_, ⟨T, hT, hT2⟩, fun D _ h => h, fun h => h, fr_rf⟩)
    rcases k3 with k3 | ⟨A', sg', c', k4, k5⟩
    · rw [k3] at hpos
      exact absurd hpos (Nat.lt_irrefl _)
    · obtain ⟨S', G', k6, -⟩ := id k5
      obtain ⟨i1, i2, i3⟩ := clC_inj hA k6.1 k4
      subst i1
      subst i2
      exact jnT_sg k5 i3
  · have f1j : fr jnP y y1 := fr_mono (fun g hg => by unfold cW at hg; unfold jnP; omega) f1
    refine w_ifT rfl ?_
    have hT1 : cAt y1 40000 T := cAt_fr f1 (fun g hg h9 => by unfold cP at hg; unfold cW at h9; omega) hT
    have s1 : slC y1 g' s' (clC sg A) := slC_fr f1 (fun q hq h9 => by unfold cW at hq h9; omega) hb
    refine w_cs0 (tc_load3 nH40 hg' (Or.inr (by omega)) hs' hA s1 hT1 hT2) ?_
    rintro y2 ⟨⟨T2, q1, q2, q3, q4⟩, f2⟩
    obtain ⟨c2, ci2, S, G⟩ := T2
    dsimp only at q2 q3 q4
    subst q2
    subst q3
    have hJ : jnN A sg c2 S G := ⟨hA, q1.2.1, q1.2.2.1.1, q4⟩
    have f2j : fr jnP y1 y2 := fr_mono (fun g hg => by unfold cL at hg; unfold jnP; omega) f2
    refine w_cs1 (tc_writhe nH40 q1.1 hc12) ?_
    rintro w y3 ⟨e3, e4⟩
    dsimp only at e3 e4
    rw [e4, e3]
    refine w_wrF (w_cs0 (tc_fillA ch_24006 (by omega)) ?_)
    rintro y5 ⟨z5, f5⟩
    have f25 : fr (fun g => g = 24009 ∨ g = 24006) y2 y5 := fr_tr (fr_F (Or.inl rfl)) (fr_mono (fun g hg => Or.inr hg) f5)
    have hy5 : cAt y5 40000 (c2, cirs A, S, G) := cAt_fr f25 (fun g hg h9 => by unfold cP at hg; omega) q1.1
    have hv : vn c2 S := hJ.2.2.1
    have w5 : y5.1 24009 = np_sum G c2 := (f5 24009 (by decide)).1.trans po_usF_at
    -- the partners are laid
    have c1 : ∀ (d v : Nat) (z : ow_MS), v + d = 2 * c2 → fr (fun g => g = 24007) y5 z → (∀ e, e < 2 * v → z.2.1 24007 e = nI (p0E S e)) → Tt (fun K t => c_X8_countStates vl K t 1 (nI s') (nI v) 24000 g' z) Q := by
      intro d
      induction d with
      | zero =>
        intro v z hv1 hf hp
        have hz : cAt z 40000 (c2, cirs A, S, G) := cAt_fr hf (fun g hg h9 => by unfold cP at hg; omega) hy5
        refine u_X8_countStates_1 ?_; unfold cm_X8_countStates_1
        refine w_rdF hz.1 ?_
        rw [rn_mul2]
        refine w_leT (by omega) (by omega) (w_rdF hz.2.1 (w_cs0 (tc_takeB (ci := cirs A) (G := G) hc12 hv (lps_23 hJ) c2 0 (cirs A) 13 (fun _ => false) (p0E S) z (by omega) (by omega) ?_ (p0E_ti hv) hz (fun e he => hp e (by omega))) ?_))
        · rw [rtsN_id]
          omega
        · rintro z1 ⟨g1, g2, g3⟩
          have hf2 : fr (fun g => g = 24006 ∨ g = 24007 ∨ g = 24009) y2 z1 := fr_tr (fr_tr (fr_mono (fun g hg => by omega) f25) (fr_mono (fun g hg => by omega) hf)) (fr_mono (fun g hg => by omega) g3)
          have f12 : fr jnP y1 z1 := fr_tr f2j (fr_mono (fun g hg => by unfold jnP; omega) hf2)
          have hz1 : cAt z1 40000 (c2, cirs A, S, G) := cAt_fr hf2 (fun g hg h9 => by unfold cP at hg; omega) q1.1
          have sl : ∀ t D, slC y1 25000 t D → slC z1 25000 t D := fun t D h => slC_fr hf2 (fun q hq h9 => by unfold cW at hq; omega) (slC_fr f2 (fun q hq h9 => by unfold cW at hq; unfold cL at h9; omega) h)
          refine w_some ⟨sl _ _ h1, ⟨S, G, hJ, hz1.1, ?_, fun k hk => ?_⟩, ⟨_, hz1, q1.2.2.1.2.2.1⟩, fun D oD hD => sl _ _ (h2 0 D (by omega) oD hD), fun h => byR_fr hf2 (by omega) (byR_fr f2 (by unfold cL; omega) (h3 h)), fr_tr f1j f12⟩
          · rw [(g3 24009 (by omega)).1, (hf 24009 (by decide)).1]
            exact w5
          · rw [g1, bmp_cnt, (hf 24006 (by decide)).2.1, z5 k hk, Int32.zero_add]
      | succ d ih =>
        intro v z hv1 hf hp
        have hz : cAt z 40000 (c2, cirs A, S, G) := cAt_fr hf (fun g hg h9 => by unfold cP at hg; omega) hy5
        obtain ⟨v1, v2, -, -⟩ := hv v (by omega)
        have n1 : (2 : Int32) * nI (S.1 v) + 1 = nI (2 * S.1 v + 1) := by rw [rn_mul2, nI_1]
        refine u_X8_countStates_1 ?_; unfold cm_X8_countStates_1
        refine w_rdF hz.1 ?_
        rw [rn_mul2]
        refine w_leF (by omega) (by omega) (w_crI (nH_1 nH40) rfl (show v < 24 by omega) (hz.2.2.1 v) ?_)
        rw [n1, rn_mul2, nI_1]
        refine w_ctI ch_24007 rfl (by omega) (w_crI (nH_2 nH40) rfl (show v < 24 by omega) (rd_ot (by omega) (hz.2.2.2.1 v)) ?_)
        rw [rn_mul2]
        refine w_ctI ch_24007 rfl (by omega) ?_
        rw [nI_1]
        refine ih (v + 1) _ (by omega) (fr_I2 (fr_I2 hf rfl) rfl) (fun e he => ?_)
        by_cases e1 : e = 2 * v + 1
        · rw [e1, po_usI_at]
          unfold p0E
          rw [if_neg (by omega), show (2 * v + 1) / 2 = v by omega]
        · refine rd_ne e1 ?_
          by_cases e2 : e = 2 * v
          · rw [e2, po_usI_at]
            unfold p0E
            rw [if_pos (by omega), show 2 * v / 2 = v by omega]
          · exact rd_ne e2 (hp e (by omega))
    exact c1 (2 * c2) 0 y5 (by omega) fr_rf (fun e he => absurd he (by omega))
end CCS
end
section
/-! 99zzzzzzv.cjon4 -/
/-! the class: the number of J at a power -/
def smI (f : Nat → Int32) : Nat → Int32
  | 0 => 0
  | n + 1 => smI f n + f n
def jFt (c : Nat) (w2 : Int64) (o m : Nat) : Int64 := (((nI c - (2 * nI o)) + (2 * (nI (m + 1) - 1))).toInt64) - w2
/-- what the states with so many ones and m + 1 loops give -/
def jTm (c : Nat) (w2 : Int64) (R : Nat → Int32) (C : Nat → Nat → Int32) (o m : Nat) : Int32 :=
  if lg_cmp (jFt c w2 o m - jFt c w2 o m / 4 * 4) 0 = 0 ∧ ¬ lg_cmp (jFt c w2 o m) 0 < 0 ∧ ¬ 0 < lg_cmp (jFt c w2 o m) ((4 * (nI (m + 1) - 1)).toInt64) then (if ((nI (m + 1) - 1) &&& 1) = 0 then R (24 * o + (m + 1)) * C m ((jFt c w2 o m / 4).toInt32.toNatClampNeg) else -(R (24 * o + (m + 1)) * C m ((jFt c w2 o m / 4).toInt32.toNatClampNeg))) else 0
theorem q4_c : ∀ a : Fin 93, (lN a.val / 4).toInt32 = nI (a.val / 4) := by decide +kernel
theorem jFt_ix {c m : Nat} {ft : Int64} (hm : m < 23) (h1 : ¬ lg_cmp ft 0 < 0) (h2 : ¬ 0 < lg_cmp ft ((4 * (nI (m + 1) - 1)).toInt64)) : ∃ i, i < 24 ∧ (ft / 4).toInt32 = nI i := by
  obtain ⟨a, ha, rfl⟩ := pk_lOf (fun h => h1 ((lg_cmp_lt _ _).mpr h))
  have e : (4 * (nI (m + 1) - 1)).toInt64 = lN (4 * m) := by
    rw [show nI (m + 1) - 1 = nI m from pk_sub (a := m + 1) (b := 1) (by omega), show (4 : Int32) * nI m = nI (4 * m) from pk_mul 4 m, nI_l (by omega)]
  rw [e] at h2
  have h6 : a ≤ 4 * m := by
    rcases Nat.lt_or_ge (4 * m) a with q | q
    · exact absurd ((lg_cmp_gt _ _).mpr ((pk_lLT (by omega) ha).mpr q)) h2
    · exact q
  have := q4_c ⟨a, by omega⟩
  exact ⟨a / 4, by omega, this⟩
section CJA
variable {vl : Nat → Nat} {y : ow_MS}
def jAt (y : ow_MS) (c : Nat) (x : Int32) : Int32 := smI (fun o => smI (jTm c (x.toInt64 + ((3 * y.1 24009).toInt64)) (y.2.1 24006) (fun m i => y.2.1 (39001 + m) i) o) 23) (c + 1)
theorem u_X8_jonesAt_1 {vl : Nat → Nat} {x1 : Int32} {x4 : Int32} {x5 : Int32} {x6 : Int32} {x7 : Int32} {x10 : Int32} {w2 : Int64} {w8 : Int64} {r0 : Nat} {t0 : Int32} {t1 : Int32} {z : ow_MS} {Q : (Int32 × ow_MS) → Prop} (H : Tt (fun K k => cm_X8_jonesAt_1 vl K (c_X8_jonesAt vl K k) x1 x4 x5 x6 x7 x10 w2 w8 r0 t0 t1 z) Q) : Tt (fun K k => c_X8_jonesAt vl K k 1 x1 x4 x5 x6 x7 x10 w2 w8 r0 t0 t1 z) Q := w_un (fun _ _ => rfl) H
theorem u_X8_jonesAt_2 {vl : Nat → Nat} {x1 : Int32} {x4 : Int32} {x5 : Int32} {x6 : Int32} {x7 : Int32} {x10 : Int32} {w2 : Int64} {w8 : Int64} {r0 : Nat} {t0 : Int32} {t1 : Int32} {z : ow_MS} {Q : (Int32 × ow_MS) → Prop} (H : Tt (fun K k => cm_X8_jonesAt_2 vl K (c_X8_jonesAt vl K k) x1 x4 x5 x6 x7 x10 w2 w8 r0 t0 t1 z) Q) : Tt (fun K k => c_X8_jonesAt vl K k 2 x1 x4 x5 x6 x7 x10 w2 w8 r0 t0 t1 z) Q := w_un (fun _ _ => rfl) H
theorem u_X8_jonesAt_4 {vl : Nat → Nat} {x1 : Int32} {x4 : Int32} {x5 : Int32} {x6 : Int32} {x7 : Int32} {x10 : Int32} {w2 : Int64} {w8 : Int64} {r0 : Nat} {t0 : Int32} {t1 : Int32} {z : ow_MS} {Q : (Int32 × ow_MS) → Prop} (H : Tt (fun K k => cm_X8_jonesAt_4 vl K (c_X8_jonesAt vl K k) x1 x4 x5 x6 x7 x10 w2 w8 r0 t0 t1 z) Q) : Tt (fun K k => c_X8_jonesAt vl K k 4 x1 x4 x5 x6 x7 x10 w2 w8 r0 t0 t1 z) Q := w_un (fun _ _ => rfl) H
theorem u_X8_jonesAt_3 {vl : Nat → Nat} {x1 : Int32} {x4 : Int32} {x5 : Int32} {x6 : Int32} {x7 : Int32} {x10 : Int32} {w2 : Int64} {w8 : Int64} {r0 : Nat} {t0 : Int32} {t1 : Int32} {z : ow_MS} {Q : (Int32 × ow_MS) → Prop} (H : Tt (fun K k => cm_X8_jonesAt_3 vl K (c_X8_jonesAt vl K k) x1 x4 x5 x6 x7 x10 w2 w8 r0 t0 t1 z) Q) : Tt (fun K k => c_X8_jonesAt vl K k 3 x1 x4 x5 x6 x7 x10 w2 w8 r0 t0 t1 z) Q := w_un (fun _ _ => rfl) H
theorem e_X8_jonesAt {vl : Nat → Nat} {r0 : Nat} {x1 : Int32} {z : ow_MS} {Q : (Int32 × ow_MS) → Prop} (H : Tt (fun K k => c_X8_jonesAt vl K k 0 x1 0 0 0 0 0 0 0 r0 0 0 z) Q) : Te (fun K => ce_X8_jonesAt vl K r0 x1 z) Q := w_te H
theorem u_X8_jonesAt_0 {vl : Nat → Nat} {x1 : Int32} {x4 : Int32} {x5 : Int32} {x6 : Int32} {x7 : Int32} {x10 : Int32} {w2 : Int64} {w8 : Int64} {r0 : Nat} {t0 : Int32} {t1 : Int32} {z : ow_MS} {Q : (Int32 × ow_MS) → Prop} (H : Tt (fun K k => cm_X8_jonesAt_0 vl K (c_X8_jonesAt vl K k) x1 x4 x5 x6 x7 x10 w2 w8 r0 t0 t1 z) Q) : Tt (fun K k => c_X8_jonesAt vl K k 0 x1 x4 x5 x6 x7 x10 w2 w8 r0 t0 t1 z) Q := w_un (fun _ _ => rfl) H
theorem tc_jonesAt {c : Nat} {x : Int32} (hc : c ≤ 12) (h8 : y.1 40008 = nI c) : Te (fun K => ce_X8_jonesAt vl K 24000 x y) (fun r => r.1 = (if (y.1 24009 &&& 1) = 0 then jAt y c x else - jAt y c x) ∧ r.2 = y) := by
  let Q : Int32 × ow_MS → Prop := fun r => r.1 = (if (y.1 24009 &&& 1) = 0 then jAt y c x else - jAt y c x) ∧ r.2 = y
  let w2 : Int64 := x.toInt64 + ((3 * y.1 24009).toInt64)
  let C : Nat → Nat → Int32 := fun m i => y.2.1 (39001 + m) i
  let tm : Nat → Nat → Int32 := jTm c w2 (y.2.1 24006) C
  let ou : Nat → Int32 := smI (fun o => smI (tm o) 23)
  have c1 : ∀ (d o : Nat), o + d = c + 1 → Tt (fun K t => c_X8_jonesAt vl K t 1 x (ou o) (nI o) 0 0 0 w2 0 24000 0 0 y) Q := by
    intro d
    induction d with
    | zero =>
      intro o ho
      have ho : o = c + 1 := by omega
      subst ho
      refine u_X8_jonesAt_1 ?_; unfold cm_X8_jonesAt_1
      refine w_rdF h8 (w_ltT (by omega) (by omega) (w_rdF rfl (w_if (fun h9 => w_some ⟨?_, rfl⟩) (fun h9 => w_some ⟨?_, rfl⟩))))
      · rw [if_pos h9]
        rfl
      · rw [if_neg h9]
        rfl
    | succ d ih =>
      intro o ho
      have c2 : ∀ (e m : Nat), m + e = 23 → Tt (fun K t => c_X8_jonesAt vl K t 2 x (ou o + smI (tm o) m) (nI o) (nI (m + 1)) 0 0 w2 0 24000 0 0 y) Q := by
        intro e
        induction e with
        | zero =>
          intro m hm
          have hm : m = 23 := by omega
          subst hm
          refine u_X8_jonesAt_2 ?_; unfold cm_X8_jonesAt_2
          rw [nI_1]
          exact w_leT (a := 24) (by omega) (by omega) (ih (o + 1) (by omega))
        | succ e ihe =>
          intro m hm
          have c4 : ∀ (z : Int32) (x7 x10 t0 t1 : Int32) (w8 : Int64), z = smI (tm o) (m + 1) → Tt (fun K t => c_X8_jonesAt vl K t 4 x (ou o + z) (nI o) (nI (m + 1)) x7 x10 w2 w8 24000 t0 t1 y) Q := by
            intro z x7 x10 t0 t1 w8 hz
            refine u_X8_jonesAt_4 ?_; unfold cm_X8_jonesAt_4
            rw [nI_1, hz]
            exact ihe (m + 1) (by omega)
          have c0 : ∀ (x7 x10 t0 t1 : Int32) (w8 : Int64), tm o m = 0 → Tt (fun K t => c_X8_jonesAt vl K t 4 x (ou o + smI (tm o) m) (nI o) (nI (m + 1)) x7 x10 w2 w8 24000 t0 t1 y) Q := by
            intro x7 x10 t0 t1 w8 hz
            refine c4 _ _ _ _ _ _ ?_
            show smI (tm o) m = smI (tm o) m + tm o m
            rw [hz, Int32.add_zero]
          have c3 : ∀ (t0 : Int32) (x7 x10 : Int32) (w8 : Int64), t0 = tm o m → Tt (fun K t => c_X8_jonesAt vl K t 3 x (ou o + smI (tm o) m) (nI o) (nI (m + 1)) x7 x10 w2 w8 24000 t0 (ou o + smI (tm o) m) y) Q := by
            intro t0 x7 x10 w8 hz
            refine u_X8_jonesAt_3 ?_; unfold cm_X8_jonesAt_3
            rw [Int32.add_assoc]
            refine c4 _ _ _ _ _ _ ?_
            rw [hz]
            rfl
          have m1 : nI (m + 1) - 1 = nI m := pk_sub (a := m + 1) (b := 1) (by omega)
          refine u_X8_jonesAt_2 ?_; unfold cm_X8_jonesAt_2
          refine w_leF (a := 24) (by omega) (by omega) (w_rdF h8 (w_nzJ (by decide) (w_if (fun h1 => w_if (fun h2 => c0 _ _ _ _ _ ?_) (fun h2 => w_if (fun h3 => c0 _ _ _ _ _ ?_) (fun h3 => ?_))) (fun h1 => c0 _ _ _ _ _ ?_))))
          · exact if_neg (fun h => h.2.1 h2)
          · exact if_neg (fun h => h.2.2 h3)
          · obtain ⟨i, i24, ei⟩ := jFt_ix (c := c) (ft := jFt c w2 o m) (by omega) h2 h3
            have tv : tm o m = if ((nI (m + 1) - 1) &&& 1) = 0 then y.2.1 24006 (24 * o + (m + 1)) * y.2.1 (39001 + m) i else -(y.2.1 24006 (24 * o + (m + 1)) * y.2.1 (39001 + m) i) := by
              show (if _ then _ else _) = _
              rw [if_pos ⟨h1, h2, h3⟩, ei, nI_clamp (by omega)]
            refine w_crI ch_24006 (i := 24 * o + (m + 1)) ?_ (by omega) rfl (w_crX m1 (show m < 24 by omega) (w_nzJ (by decide) (w_crI (ch_choose (show m < 24 by omega)) ei i24 rfl (w_if (fun h4 => c3 _ _ _ _ ?_) (fun h4 => c3 _ _ _ _ ?_)))))
            · rw [show nI o * (24 : Int32) = nI (o * 24) from pk_mul _ 24, nI_add]
              congr 1
              omega
            · rw [tv, if_pos h4]
            · rw [tv, if_neg h4]
          · exact if_neg (fun h => h1 h.1)
      refine u_X8_jonesAt_1 ?_; unfold cm_X8_jonesAt_1
      refine w_rdF h8 (w_ltF (by omega) (by omega) ?_)
      have := c2 23 0 (by omega)
      rw [show smI (tm o) 0 = 0 from rfl, Int32.add_zero] at this
      exact this
  refine e_X8_jonesAt ?_
  refine u_X8_jonesAt_0 ?_; unfold cm_X8_jonesAt_0
  exact w_rdF rfl (c1 (c + 1) 0 (by omega))
theorem gM_jn {y1 : ow_MS} (hf : fr jnP y y1) (hl : ∃ T, cAt y1 40000 T ∧ ow_b24 T.2.2.1) (h : gM y) : gM y1 := by
  refine ⟨⟨dgC_fr hf (fun g g1 g2 h9 => by unfold jnP at h9; omega) h.1.1, nsC_put nH40 hf (fun h' hh' hne g hg h9 => ?_) hl h.1.2.1, kdC_fr hf (fun g hg => by unfold jnP at hg; omega) h.1.2.2⟩, tbs_fr hf (fun g hg => by unfold jnP at hg; omega) h.2⟩
  have h8 := nH_far hh' nH40 hne
  have key : ∀ a, a ∈ nHL → a ≤ 17000 ∨ 26000 ≤ a := by decide
  have := key h' hh'
  unfold cP at hg
  unfold jnP at h9
  omega
/-- the answer of jones on a diagram -/
def jnV (y : ow_MS) (A : rn_L) (sg : Nat → Bool) (c : Nat) (x : Int32) (v : Int32) : Prop := jnT y A sg c ∧ v = (if (y.1 24009 &&& 1) = 0 then jAt y c x else - jAt y c x)
theorem e_X11_jones {vl : Nat → Nat} {r0 : Nat} {x1 : Int32} {x2 : Int32} {z : ow_MS} {Q : (Nat × Int32 × ow_MS) → Prop} (H : Tt (fun K _ => cm_X11_jones_0 vl K x1 x2 r0 z) Q) : Te (fun K => ce_X11_jones vl K r0 x1 x2 z) Q := w_te0 H
theorem tc_jones {x x' : Int32} (hM : gM y) (hk : jnC y) : Te (fun K => ce_X11_jones vl K 0 x x' y) (fun r => gM r.2.2 ∧ jnC r.2.2 ∧ (∀ D, cOK D → slC y 25000 0 D → slC r.2.2 25000 0 D) ∧ (byR y 25001 → byR r.2.2 25001) ∧ fr jnP y r.2.2 ∧ ((r.1 = 0 ∧ ∃ d A sg c, d < 40 ∧ x = nI d ∧ slC y 1000 d (clC sg A) ∧ okL A c ∧ A ≠ [] ∧ jnV r.2.2 A sg c x' r.2.1) ∨ r.1 = 1 ∧ ∀ d, d < 40 → x = nI d → y.2.1 1002 d = 0)) := by
  refine e_X11_jones ?_; unfold cm_X11_jones_0
  refine w_tc0 (tc_need hM.1.1) ?_ ?_
  · rintro y1 ⟨h1, rfl⟩
    rcases h1 with ⟨-, d, A, sg, c, hd, rfl, hs, hA, hne⟩ | h1
    · obtain ⟨T, hT, hT2⟩ := hM.1.2.1 40000 nH40
      refine w_cs0 (tc_countStates ch_1000 (by omega) hd hs hA hM.1.1.1 hk hT hT2) ?_
      rintro y2 ⟨g1, g2, g3, g4, g5, g6⟩
      obtain ⟨S, G, q1, q2, q3⟩ := id g2
      refine w_cs1 (tc_jonesAt hA.2.2.2.1 q2) ?_
      rintro v z ⟨e1, e2⟩
      dsimp only at e1 e2
      rw [e2]
      exact w_some ⟨gM_jn g6 g3 hM, ⟨_, g1, (okL_c hA).2, Or.inr ⟨A, sg, c, rfl, g2⟩⟩, g4, g5, g6, Or.inl ⟨rfl, d, A, sg, c, hd, rfl, hs, hA, hne, g2, e1⟩⟩
    · exact absurd (show (0 : Nat) = 1 from h1.1) (by decide)
  · rintro a y1 ha ⟨h1, rfl⟩
    rcases h1 with ⟨h1, -⟩ | ⟨h1, h2⟩
    · exact absurd h1 ha
    · exact w_some ⟨hM, hk, fun D _ h => h, fun h => h, fr_rf, Or.inr ⟨h1, h2⟩⟩
end CJA
end
section
/-! 99zzzzzzw.ccov -/
/-! the class: cover and colours have an answer -/
def acR (g : Nat) : Prop := 42001 ≤ g ∧ g ≤ 42012
theorem ch_mat {vl : Nat → Nat} {j : Nat} (hj : j < 12) : ((cX vl).2 (41000 + 1001 + j)).2.1 = 18 := by
  have key : ∀ j, j < 12 → dynL.contains (41000 + 1001 + j) = false ∧ (cX_f (41000 + 1001 + j)).2.1 = 18 := by decide +kernel
  obtain ⟨k1, k2⟩ := key j hj
  show (if dynL.contains (41000 + 1001 + j) = true then (0, vl (41000 + 1001 + j), []) else cX_f (41000 + 1001 + j)).2.1 = 18
  rw [if_neg (by rw [k1]; decide)]
  exact k2
theorem ch_41001 {vl : Nat → Nat} : ((cX vl).2 41001).2.1 = 24 := rfl
theorem ch_41004 {vl : Nat → Nat} : ((cX vl).2 41004).2.1 = 18 := rfl
section CCV
variable {vl : Nat → Nat} {y : ow_MS} {a c : Nat}
theorem acR_a {z : ow_MS} (h : y.1 41002 = nI a) (hf : fr acR y z) : z.1 41002 = nI a := (hf 41002 (by unfold acR; omega)).1.trans h
theorem u_X0_bringLeast_6 {vl : Nat → Nat} {x1 : Int32} {x2 : Int32} {x3 : Int32} {x4 : Int32} {x7 : Int32} {x8 : Int32} {w5 : Int64} {w9 : Int64} {r0 : Nat} {z : ow_MS} {Q : (Int32 × ow_MS) → Prop} (H : Tt (fun K k => cm_X0_bringLeast_6 vl K (c_X0_bringLeast vl K k) x1 x2 x3 x4 x7 x8 w5 w9 r0 z) Q) : Tt (fun K k => c_X0_bringLeast vl K k 6 x1 x2 x3 x4 x7 x8 w5 w9 r0 z) Q := w_un (fun _ _ => rfl) H
theorem u_X0_bringLeast_5 {vl : Nat → Nat} {x1 : Int32} {x2 : Int32} {x3 : Int32} {x4 : Int32} {x7 : Int32} {x8 : Int32} {w5 : Int64} {w9 : Int64} {r0 : Nat} {z : ow_MS} {Q : (Int32 × ow_MS) → Prop} (H : Tt (fun K k => cm_X0_bringLeast_5 vl K (c_X0_bringLeast vl K k) x1 x2 x3 x4 x7 x8 w5 w9 r0 z) Q) : Tt (fun K k => c_X0_bringLeast vl K k 5 x1 x2 x3 x4 x7 x8 w5 w9 r0 z) Q := w_un (fun _ _ => rfl) H
theorem u_X0_bringLeast_1 {vl : Nat → Nat} {x1 : Int32} {x2 : Int32} {x3 : Int32} {x4 : Int32} {x7 : Int32} {x8 : Int32} {w5 : Int64} {w9 : Int64} {r0 : Nat} {z : ow_MS} {Q : (Int32 × ow_MS) → Prop} (H : Tt (fun K k => cm_X0_bringLeast_1 vl K (c_X0_bringLeast vl K k) x1 x2 x3 x4 x7 x8 w5 w9 r0 z) Q) : Tt (fun K k => c_X0_bringLeast vl K k 1 x1 x2 x3 x4 x7 x8 w5 w9 r0 z) Q := w_un (fun _ _ => rfl) H
theorem u_X0_bringLeast_2 {vl : Nat → Nat} {x1 : Int32} {x2 : Int32} {x3 : Int32} {x4 : Int32} {x7 : Int32} {x8 : Int32} {w5 : Int64} {w9 : Int64} {r0 : Nat} {z : ow_MS} {Q : (Int32 × ow_MS) → Prop} (H : Tt (fun K k => cm_X0_bringLeast_2 vl K (c_X0_bringLeast vl K k) x1 x2 x3 x4 x7 x8 w5 w9 r0 z) Q) : Tt (fun K k => c_X0_bringLeast vl K k 2 x1 x2 x3 x4 x7 x8 w5 w9 r0 z) Q := w_un (fun _ _ => rfl) H
theorem u_X0_bringLeast_4 {vl : Nat → Nat} {x1 : Int32} {x2 : Int32} {x3 : Int32} {x4 : Int32} {x7 : Int32} {x8 : Int32} {w5 : Int64} {w9 : Int64} {r0 : Nat} {z : ow_MS} {Q : (Int32 × ow_MS) → Prop} (H : Tt (fun K k => cm_X0_bringLeast_4 vl K (c_X0_bringLeast vl K k) x1 x2 x3 x4 x7 x8 w5 w9 r0 z) Q) : Tt (fun K k => c_X0_bringLeast vl K k 4 x1 x2 x3 x4 x7 x8 w5 w9 r0 z) Q := w_un (fun _ _ => rfl) H
theorem u_X0_bringLeast_3 {vl : Nat → Nat} {x1 : Int32} {x2 : Int32} {x3 : Int32} {x4 : Int32} {x7 : Int32} {x8 : Int32} {w5 : Int64} {w9 : Int64} {r0 : Nat} {z : ow_MS} {Q : (Int32 × ow_MS) → Prop} (H : Tt (fun K k => cm_X0_bringLeast_3 vl K (c_X0_bringLeast vl K k) x1 x2 x3 x4 x7 x8 w5 w9 r0 z) Q) : Tt (fun K k => c_X0_bringLeast vl K k 3 x1 x2 x3 x4 x7 x8 w5 w9 r0 z) Q := w_un (fun _ _ => rfl) H
theorem e_X0_bringLeast {vl : Nat → Nat} {r0 : Nat} {x1 : Int32} {x2 : Int32} {z : ow_MS} {Q : (Int32 × ow_MS) → Prop} (H : Tt (fun K k => c_X0_bringLeast vl K k 0 x1 x2 0 0 0 0 0 0 r0 z) Q) : Te (fun K => ce_X0_bringLeast vl K r0 x1 x2 z) Q := w_te H
theorem u_X0_bringLeast_0 {vl : Nat → Nat} {x1 : Int32} {x2 : Int32} {x3 : Int32} {x4 : Int32} {x7 : Int32} {x8 : Int32} {w5 : Int64} {w9 : Int64} {r0 : Nat} {z : ow_MS} {Q : (Int32 × ow_MS) → Prop} (H : Tt (fun K k => cm_X0_bringLeast_0 vl K (c_X0_bringLeast vl K k) x1 x2 x3 x4 x7 x8 w5 w9 r0 z) Q) : Tt (fun K k => c_X0_bringLeast vl K k 0 x1 x2 x3 x4 x7 x8 w5 w9 r0 z) Q := w_un (fun _ _ => rfl) H
theorem tc_bring {t : Nat} (hc : c ≤ 12) (ha : y.1 41002 = nI a) (a18 : a ≤ 18) (htc : t < c) (hta : t < a) : Te (fun K => ce_X0_bringLeast vl K 41000 (nI t) (nI c) y) (fun r => (r.1 = 0 ∨ r.1 = 1) ∧ fr acR y r.2) := by
  let Q : Int32 × ow_MS → Prop := fun r => (r.1 = 0 ∨ r.1 = 1) ∧ fr acR y r.2
  have c6 : ∀ (i : Nat) (d x : Nat) (x3 : Int32) (w5 : Int64) (z : ow_MS), x + d = c → i < a → fr acR y z → Tt (fun K k => c_X0_bringLeast vl K k 6 (nI t) (nI c) x3 (nI i) (nI x) 0 w5 0 41000 z) Q := by
    intro i d
    induction d with
    | zero =>
      intro x x3 w5 z hx hi hf
      refine u_X0_bringLeast_6 ?_; unfold cm_X0_bringLeast_6
      exact w_leT (by omega) (by omega) (w_okZ (Or.inr rfl) (w_some ⟨Or.inr rfl, hf⟩))
    | succ d ih =>
      intro x x3 w5 z hx hi hf
      refine u_X0_bringLeast_6 ?_; unfold cm_X0_bringLeast_6
      refine w_leF (by omega) (by omega) (w_crX rfl (show x < 12 by omega) (w_crJ (ch_mat (show x < 12 by omega)) rfl (show t < 18 by omega) rfl (w_crX rfl (show x < 12 by omega) (w_crX rfl (show x < 12 by omega) (w_crJ (ch_mat (show x < 12 by omega)) rfl (show i < 18 by omega) rfl (w_ctJ (ch_mat (show x < 12 by omega)) rfl (show t < 18 by omega) (w_crX rfl (show x < 12 by omega) (w_ctJ (ch_mat (show x < 12 by omega)) rfl (show i < 18 by omega) ?_))))))))
      rw [nI_1]
      exact ih (x + 1) x3 w5 _ (by omega) hi (fr_J2 (fr_J2 hf (by unfold acR; omega)) (by unfold acR; omega))
  have c5 : ∀ (r i : Nat) (d x : Nat) (w5 : Int64) (z : ow_MS), x + d = a → r < c → i < a → fr acR y z → Tt (fun K k => c_X0_bringLeast vl K k 5 (nI t) (nI c) (nI r) (nI i) (nI x) 0 w5 0 41000 z) Q := by
    intro r i d
    induction d with
    | zero =>
      intro x w5 z hx hr hi hf
      refine u_X0_bringLeast_5 ?_; unfold cm_X0_bringLeast_5
      exact w_rdF (acR_a ha hf) (w_leT (by omega) (by omega) (c6 i c 0 _ w5 z (by omega) hi hf))
    | succ d ih =>
      intro x w5 z hx hr hi hf
      refine u_X0_bringLeast_5 ?_; unfold cm_X0_bringLeast_5
      refine w_rdF (acR_a ha hf) (w_leF (by omega) (by omega) (w_crX rfl (show t < 12 by omega) (w_crJ (ch_mat (show t < 12 by omega)) rfl (show x < 18 by omega) rfl (w_crX rfl (show t < 12 by omega) (w_crX rfl (show r < 12 by omega) (w_crJ (ch_mat (show r < 12 by omega)) rfl (show x < 18 by omega) rfl (w_ctJ (ch_mat (show t < 12 by omega)) rfl (show x < 18 by omega) (w_crX rfl (show r < 12 by omega) (w_ctJ (ch_mat (show r < 12 by omega)) rfl (show x < 18 by omega) ?_)))))))))
      rw [nI_1]
      exact ih (x + 1) w5 _ (by omega) hr hi (fr_J2 (fr_J2 hf (by unfold acR; omega)) (by unfold acR; omega))
  have c1 : ∀ (d r : Nat) (x3 x4 : Int32) (w5 : Int64), r + d = c → t ≤ r → (x3 = -1 ∨ ∃ r' i', r' < c ∧ i' < a ∧ x3 = nI r' ∧ x4 = nI i') → Tt (fun K k => c_X0_bringLeast vl K k 1 (nI t) (nI c) x3 x4 (nI r) 0 w5 0 41000 y) Q := by
    intro d
    induction d with
    | zero =>
      intro r x3 x4 w5 hr htr h3
      refine u_X0_bringLeast_1 ?_; unfold cm_X0_bringLeast_1
      refine w_leT (by omega) (by omega) ?_
      rcases h3 with rfl | ⟨r', i', h1, h2, rfl, rfl⟩
      · exact w_ifT rfl (w_okZ (Or.inl rfl) (w_some ⟨Or.inl rfl, fr_rf⟩))
      · exact w_if (fun _ => w_okZ (Or.inl rfl) (w_some ⟨Or.inl rfl, fr_rf⟩)) (fun _ => c5 r' i' a 0 w5 y (by omega) h1 h2 fr_rf)
    | succ d ih =>
      intro r x3 x4 w5 hr htr h3
      have c2 : ∀ (e i : Nat) (x3 x4 : Int32) (w5 : Int64), i + e = a → (x3 = -1 ∨ ∃ r' i', r' < c ∧ i' < a ∧ x3 = nI r' ∧ x4 = nI i') → Tt (fun K k => c_X0_bringLeast vl K k 2 (nI t) (nI c) x3 x4 (nI r) (nI i) w5 0 41000 y) Q := by
        intro e
        induction e with
        | zero =>
          intro i x3 x4 w5 hi h3
          refine u_X0_bringLeast_2 ?_; unfold cm_X0_bringLeast_2
          rw [nI_1]
          exact w_rdF ha (w_leT (by omega) (by omega) (ih (r + 1) x3 x4 w5 (by omega) (by omega) h3))
        | succ e ihe =>
          intro i x3 x4 w5 hi h3
          have c4 : ∀ (x3 x4 : Int32) (w5 w9 : Int64), (x3 = -1 ∨ ∃ r' i', r' < c ∧ i' < a ∧ x3 = nI r' ∧ x4 = nI i') → Tt (fun K k => c_X0_bringLeast vl K k 4 (nI t) (nI c) x3 x4 (nI r) (nI i) w5 w9 41000 y) Q := by
            intro x3 x4 w5 w9 h3
            refine u_X0_bringLeast_4 ?_; unfold cm_X0_bringLeast_4
            rw [nI_1]
            exact ihe (i + 1) x3 x4 w5 (by omega) h3
          have c3 : ∀ (x3 x4 : Int32) (w5 w9 : Int64), Tt (fun K k => c_X0_bringLeast vl K k 3 (nI t) (nI c) x3 x4 (nI r) (nI i) w5 w9 41000 y) Q := by
            intro x3 x4 w5 w9
            refine u_X0_bringLeast_3 ?_; unfold cm_X0_bringLeast_3
            exact c4 _ _ _ _ (Or.inr ⟨r, i, by omega, by omega, rfl, rfl⟩)
          refine u_X0_bringLeast_2 ?_; unfold cm_X0_bringLeast_2
          exact w_rdF ha (w_leF (by omega) (by omega) (w_crX rfl (show r < 12 by omega) (w_crJ (ch_mat (show r < 12 by omega)) rfl (show i < 18 by omega) rfl (w_if (fun _ => c4 _ _ _ _ h3) (fun _ => w_if (fun _ => c3 _ _ _ _) (fun _ => w_if (fun _ => c4 _ _ _ _ h3) (fun _ => c3 _ _ _ _)))))))
      refine u_X0_bringLeast_1 ?_; unfold cm_X0_bringLeast_1
      exact w_leF (by omega) (by omega) (c2 (a - t) t x3 x4 w5 (by omega) h3)
  refine e_X0_bringLeast ?_
  refine u_X0_bringLeast_0 ?_; unfold cm_X0_bringLeast_0
  exact c1 (c - t) t (-1) (-1) 0 (by omega) (by omega) (Or.inl rfl)
theorem and01 {a b : Int32} (ha : a = 0 ∨ a = 1) (hb : b = 0 ∨ b = 1) : (a &&& b) = 0 ∨ (a &&& b) = 1 := by
  rcases ha with rfl | rfl <;> rcases hb with rfl | rfl <;> decide
theorem lgc0 {x : Int64} (h : ¬ lg_cmp x 0 = 0) : x ≠ 0 := fun e => h (by rw [e]; decide)
theorem u_X0_clearCross_5 {vl : Nat → Nat} {x1 : Int32} {x2 : Int32} {x5 : Int32} {x6 : Int32} {x9 : Int32} {w3 : Int64} {w7 : Int64} {r0 : Nat} {t0 : Int32} {t1 : Int32} {z : ow_MS} {Q : (Int32 × ow_MS) → Prop} (H : Tt (fun K k => cm_X0_clearCross_5 vl K (c_X0_clearCross vl K k) x1 x2 x5 x6 x9 w3 w7 r0 t0 t1 z) Q) : Tt (fun K k => c_X0_clearCross vl K k 5 x1 x2 x5 x6 x9 w3 w7 r0 t0 t1 z) Q := w_un (fun _ _ => rfl) H
theorem u_X0_clearCross_8 {vl : Nat → Nat} {x1 : Int32} {x2 : Int32} {x5 : Int32} {x6 : Int32} {x9 : Int32} {w3 : Int64} {w7 : Int64} {r0 : Nat} {t0 : Int32} {t1 : Int32} {z : ow_MS} {Q : (Int32 × ow_MS) → Prop} (H : Tt (fun K k => cm_X0_clearCross_8 vl K (c_X0_clearCross vl K k) x1 x2 x5 x6 x9 w3 w7 r0 t0 t1 z) Q) : Tt (fun K k => c_X0_clearCross vl K k 8 x1 x2 x5 x6 x9 w3 w7 r0 t0 t1 z) Q := w_un (fun _ _ => rfl) H
theorem u_X0_clearCross_7 {vl : Nat → Nat} {x1 : Int32} {x2 : Int32} {x5 : Int32} {x6 : Int32} {x9 : Int32} {w3 : Int64} {w7 : Int64} {r0 : Nat} {t0 : Int32} {t1 : Int32} {z : ow_MS} {Q : (Int32 × ow_MS) → Prop} (H : Tt (fun K k => cm_X0_clearCross_7 vl K (c_X0_clearCross vl K k) x1 x2 x5 x6 x9 w3 w7 r0 t0 t1 z) Q) : Tt (fun K k => c_X0_clearCross vl K k 7 x1 x2 x5 x6 x9 w3 w7 r0 t0 t1 z) Q := w_un (fun _ _ => rfl) H
theorem u_X0_clearCross_6 {vl : Nat → Nat} {x1 : Int32} {x2 : Int32} {x5 : Int32} {x6 : Int32} {x9 : Int32} {w3 : Int64} {w7 : Int64} {r0 : Nat} {t0 : Int32} {t1 : Int32} {z : ow_MS} {Q : (Int32 × ow_MS) → Prop} (H : Tt (fun K k => cm_X0_clearCross_6 vl K (c_X0_clearCross vl K k) x1 x2 x5 x6 x9 w3 w7 r0 t0 t1 z) Q) : Tt (fun K k => c_X0_clearCross vl K k 6 x1 x2 x5 x6 x9 w3 w7 r0 t0 t1 z) Q := w_un (fun _ _ => rfl) H
theorem u_X0_clearCross_1 {vl : Nat → Nat} {x1 : Int32} {x2 : Int32} {x5 : Int32} {x6 : Int32} {x9 : Int32} {w3 : Int64} {w7 : Int64} {r0 : Nat} {t0 : Int32} {t1 : Int32} {z : ow_MS} {Q : (Int32 × ow_MS) → Prop} (H : Tt (fun K k => cm_X0_clearCross_1 vl K (c_X0_clearCross vl K k) x1 x2 x5 x6 x9 w3 w7 r0 t0 t1 z) Q) : Tt (fun K k => c_X0_clearCross vl K k 1 x1 x2 x5 x6 x9 w3 w7 r0 t0 t1 z) Q := w_un (fun _ _ => rfl) H
theorem u_X0_clearCross_4 {vl : Nat → Nat} {x1 : Int32} {x2 : Int32} {x5 : Int32} {x6 : Int32} {x9 : Int32} {w3 : Int64} {w7 : Int64} {r0 : Nat} {t0 : Int32} {t1 : Int32} {z : ow_MS} {Q : (Int32 × ow_MS) → Prop} (H : Tt (fun K k => cm_X0_clearCross_4 vl K (c_X0_clearCross vl K k) x1 x2 x5 x6 x9 w3 w7 r0 t0 t1 z) Q) : Tt (fun K k => c_X0_clearCross vl K k 4 x1 x2 x5 x6 x9 w3 w7 r0 t0 t1 z) Q := w_un (fun _ _ => rfl) H
theorem u_X0_clearCross_3 {vl : Nat → Nat} {x1 : Int32} {x2 : Int32} {x5 : Int32} {x6 : Int32} {x9 : Int32} {w3 : Int64} {w7 : Int64} {r0 : Nat} {t0 : Int32} {t1 : Int32} {z : ow_MS} {Q : (Int32 × ow_MS) → Prop} (H : Tt (fun K k => cm_X0_clearCross_3 vl K (c_X0_clearCross vl K k) x1 x2 x5 x6 x9 w3 w7 r0 t0 t1 z) Q) : Tt (fun K k => c_X0_clearCross vl K k 3 x1 x2 x5 x6 x9 w3 w7 r0 t0 t1 z) Q := w_un (fun _ _ => rfl) H
theorem u_X0_clearCross_2 {vl : Nat → Nat} {x1 : Int32} {x2 : Int32} {x5 : Int32} {x6 : Int32} {x9 : Int32} {w3 : Int64} {w7 : Int64} {r0 : Nat} {t0 : Int32} {t1 : Int32} {z : ow_MS} {Q : (Int32 × ow_MS) → Prop} (H : Tt (fun K k => cm_X0_clearCross_2 vl K (c_X0_clearCross vl K k) x1 x2 x5 x6 x9 w3 w7 r0 t0 t1 z) Q) : Tt (fun K k => c_X0_clearCross vl K k 2 x1 x2 x5 x6 x9 w3 w7 r0 t0 t1 z) Q := w_un (fun _ _ => rfl) H
theorem e_X0_clearCross {vl : Nat → Nat} {r0 : Nat} {x1 : Int32} {x2 : Int32} {z : ow_MS} {Q : (Int32 × ow_MS) → Prop} (H : Tt (fun K k => c_X0_clearCross vl K k 0 x1 x2 0 0 0 0 0 r0 0 0 z) Q) : Te (fun K => ce_X0_clearCross vl K r0 x1 x2 z) Q := w_te H
theorem u_X0_clearCross_0 {vl : Nat → Nat} {x1 : Int32} {x2 : Int32} {x5 : Int32} {x6 : Int32} {x9 : Int32} {w3 : Int64} {w7 : Int64} {r0 : Nat} {t0 : Int32} {t1 : Int32} {z : ow_MS} {Q : (Int32 × ow_MS) → Prop} (H : Tt (fun K k => cm_X0_clearCross_0 vl K (c_X0_clearCross vl K k) x1 x2 x5 x6 x9 w3 w7 r0 t0 t1 z) Q) : Tt (fun K k => c_X0_clearCross vl K k 0 x1 x2 x5 x6 x9 w3 w7 r0 t0 t1 z) Q := w_un (fun _ _ => rfl) H
theorem tc_clear {t : Nat} (hc : c ≤ 12) (ha : y.1 41002 = nI a) (a18 : a ≤ 18) (htc : t < c) (hta : t < a) : Te (fun K => ce_X0_clearCross vl K 41000 (nI t) (nI c) y) (fun r => (r.1 = 0 ∨ r.1 = 1) ∧ fr acR y r.2) := by
  let Q : Int32 × ow_MS → Prop := fun r => (r.1 = 0 ∨ r.1 = 1) ∧ fr acR y r.2
  have c5 : ∀ (w3 : Int64), w3 ≠ 0 → ∀ (d i : Nat) (x5 : Int32) (z : ow_MS), i + d = a → t < i → (x5 = 0 ∨ x5 = 1) → fr acR y z → Tt (fun K k => c_X0_clearCross vl K k 5 (nI t) (nI c) x5 (nI i) 0 w3 0 41000 0 0 z) Q := by
    intro w3 hw d
    induction d with
    | zero =>
      intro i x5 z hi hti h5 hf
      refine u_X0_clearCross_5 ?_; unfold cm_X0_clearCross_5
      exact w_rdF (acR_a ha hf) (w_leT (by omega) (by omega) (w_okZ h5 (w_some ⟨h5, hf⟩)))
    | succ d ih =>
      intro i x5 z hi hti h5 hf
      have c8 : ∀ (t0 : Int32) (x9 : Int32) (w7 : Int64) (z : ow_MS), (t0 = 0 ∨ t0 = 1) → fr acR y z → Tt (fun K k => c_X0_clearCross vl K k 8 (nI t) (nI c) x5 (nI i) x9 w3 w7 41000 t0 x5 z) Q := by
        intro t0 x9 w7 z h0 hf
        refine u_X0_clearCross_8 ?_; unfold cm_X0_clearCross_8
        rw [nI_1]
        exact ih (i + 1) _ z (by omega) (by omega) (and01 h5 h0) hf
      have c7 : ∀ (x9 : Int32) (w7 : Int64) (z : ow_MS), fr acR y z → Tt (fun K k => c_X0_clearCross vl K k 7 (nI t) (nI c) x5 (nI i) x9 w3 w7 41000 0 0 z) Q := by
        intro x9 w7 z hf
        refine u_X0_clearCross_7 ?_; unfold cm_X0_clearCross_7
        exact w_crX rfl (show t < 12 by omega) (w_crJ (ch_mat (show t < 12 by omega)) rfl (show i < 18 by omega) rfl (w_if (fun _ => c8 1 _ _ z (Or.inr rfl) hf) (fun _ => c8 0 _ _ z (Or.inl rfl) hf)))
      have c6 : ∀ (w7 : Int64) (e r : Nat) (z : ow_MS), r + e = c → fr acR y z → Tt (fun K k => c_X0_clearCross vl K k 6 (nI t) (nI c) x5 (nI i) (nI r) w3 w7 41000 0 0 z) Q := by
        intro w7 e
        induction e with
        | zero =>
          intro r z hr hf
          refine u_X0_clearCross_6 ?_; unfold cm_X0_clearCross_6
          exact w_leT (by omega) (by omega) (c7 _ _ z hf)
        | succ e ihe =>
          intro r z hr hf
          refine u_X0_clearCross_6 ?_; unfold cm_X0_clearCross_6
          refine w_leF (by omega) (by omega) (w_if (fun _ => c7 _ _ z hf) (fun _ => w_crX rfl (show r < 12 by omega) (w_crJ (ch_mat (show r < 12 by omega)) rfl (show i < 18 by omega) rfl (w_crX rfl (show r < 12 by omega) (w_crJ (ch_mat (show r < 12 by omega)) rfl (show t < 18 by omega) rfl (w_ctJ (ch_mat (show r < 12 by omega)) rfl (show i < 18 by omega) ?_))))))
          rw [nI_1]
          exact ihe (r + 1) _ (by omega) (fr_J2 hf (by unfold acR; omega))
      refine u_X0_clearCross_5 ?_; unfold cm_X0_clearCross_5
      exact w_rdF (acR_a ha hf) (w_leF (by omega) (by omega) (w_crX rfl (show t < 12 by omega) (w_crJ (ch_mat (show t < 12 by omega)) rfl (show i < 18 by omega) rfl (w_nzJ hw (c6 _ (c - t) t z (by omega) hf)))))
  have c1 : ∀ (w3 : Int64), w3 ≠ 0 → ∀ (d r : Nat) (x5 : Int32) (z : ow_MS), r + d = c → t < r → (x5 = 0 ∨ x5 = 1) → fr acR y z → Tt (fun K k => c_X0_clearCross vl K k 1 (nI t) (nI c) x5 (nI r) 0 w3 0 41000 0 0 z) Q := by
    intro w3 hw d
    induction d with
    | zero =>
      intro r x5 z hr htr h5 hf
      refine u_X0_clearCross_1 ?_; unfold cm_X0_clearCross_1
      rw [nI_1]
      exact w_leT (by omega) (by omega) (c5 w3 hw (a - (t + 1)) (t + 1) x5 z (by omega) (by omega) h5 hf)
    | succ d ih =>
      intro r x5 z hr htr h5 hf
      have c4 : ∀ (t0 : Int32) (x9 : Int32) (w7 : Int64) (z : ow_MS), (t0 = 0 ∨ t0 = 1) → fr acR y z → Tt (fun K k => c_X0_clearCross vl K k 4 (nI t) (nI c) x5 (nI r) x9 w3 w7 41000 t0 x5 z) Q := by
        intro t0 x9 w7 z h0 hf
        refine u_X0_clearCross_4 ?_; unfold cm_X0_clearCross_4
        rw [nI_1]
        exact ih (r + 1) _ z (by omega) (by omega) (and01 h5 h0) hf
      have c3 : ∀ (x9 : Int32) (w7 : Int64) (z : ow_MS), fr acR y z → Tt (fun K k => c_X0_clearCross vl K k 3 (nI t) (nI c) x5 (nI r) x9 w3 w7 41000 0 0 z) Q := by
        intro x9 w7 z hf
        refine u_X0_clearCross_3 ?_; unfold cm_X0_clearCross_3
        exact w_crX rfl (show r < 12 by omega) (w_crJ (ch_mat (show r < 12 by omega)) rfl (show t < 18 by omega) rfl (w_if (fun _ => c4 1 _ _ z (Or.inr rfl) hf) (fun _ => c4 0 _ _ z (Or.inl rfl) hf)))
      have c2 : ∀ (w7 : Int64) (e i : Nat) (z : ow_MS), i + e = a → fr acR y z → Tt (fun K k => c_X0_clearCross vl K k 2 (nI t) (nI c) x5 (nI r) (nI i) w3 w7 41000 0 0 z) Q := by
        intro w7 e
        induction e with
        | zero =>
          intro i z hi hf
          refine u_X0_clearCross_2 ?_; unfold cm_X0_clearCross_2
          exact w_rdF (acR_a ha hf) (w_leT (by omega) (by omega) (c3 _ _ z hf))
        | succ e ihe =>
          intro i z hi hf
          refine u_X0_clearCross_2 ?_; unfold cm_X0_clearCross_2
          refine w_rdF (acR_a ha hf) (w_leF (by omega) (by omega) (w_if (fun _ => c3 _ _ z hf) (fun _ => w_crX rfl (show r < 12 by omega) (w_crJ (ch_mat (show r < 12 by omega)) rfl (show i < 18 by omega) rfl (w_crX rfl (show t < 12 by omega) (w_crJ (ch_mat (show t < 12 by omega)) rfl (show i < 18 by omega) rfl (w_ctJ (ch_mat (show r < 12 by omega)) rfl (show i < 18 by omega) ?_)))))))
          rw [nI_1]
          exact ihe (i + 1) _ (by omega) (fr_J2 hf (by unfold acR; omega))
      refine u_X0_clearCross_1 ?_; unfold cm_X0_clearCross_1
      exact w_leF (by omega) (by omega) (w_crX rfl (show r < 12 by omega) (w_crJ (ch_mat (show r < 12 by omega)) rfl (show t < 18 by omega) rfl (w_nzJ hw (c2 _ (a - t) t z (by omega) hf))))
  refine e_X0_clearCross ?_
  refine u_X0_clearCross_0 ?_; unfold cm_X0_clearCross_0
  refine w_crX rfl (show t < 12 by omega) (w_crJ (ch_mat (show t < 12 by omega)) rfl (show t < 18 by omega) rfl (w_if (fun _ => w_okZ (Or.inl rfl) (w_some ⟨Or.inl rfl, fr_rf⟩)) (fun h0 => ?_)))
  rw [nI_1]
  exact c1 _ (lgc0 h0) (c - (t + 1)) (t + 1) 1 y (by omega) (by omega) (Or.inr rfl) fr_rf
theorem u_X0_undivided_1 {vl : Nat → Nat} {x1 : Int32} {x2 : Int32} {x5 : Int32} {x6 : Int32} {w3 : Int64} {r0 : Nat} {z : ow_MS} {Q : (Int32 × ow_MS) → Prop} (H : Tt (fun K k => cm_X0_undivided_1 vl K (c_X0_undivided vl K k) x1 x2 x5 x6 w3 r0 z) Q) : Tt (fun K k => c_X0_undivided vl K k 1 x1 x2 x5 x6 w3 r0 z) Q := w_un (fun _ _ => rfl) H
theorem u_X0_undivided_2 {vl : Nat → Nat} {x1 : Int32} {x2 : Int32} {x5 : Int32} {x6 : Int32} {w3 : Int64} {r0 : Nat} {z : ow_MS} {Q : (Int32 × ow_MS) → Prop} (H : Tt (fun K k => cm_X0_undivided_2 vl K (c_X0_undivided vl K k) x1 x2 x5 x6 w3 r0 z) Q) : Tt (fun K k => c_X0_undivided vl K k 2 x1 x2 x5 x6 w3 r0 z) Q := w_un (fun _ _ => rfl) H
theorem e_X0_undivided {vl : Nat → Nat} {r0 : Nat} {x1 : Int32} {x2 : Int32} {z : ow_MS} {Q : (Int32 × ow_MS) → Prop} (H : Tt (fun K k => c_X0_undivided vl K k 0 x1 x2 0 0 0 r0 z) Q) : Te (fun K => ce_X0_undivided vl K r0 x1 x2 z) Q := w_te H
theorem u_X0_undivided_0 {vl : Nat → Nat} {x1 : Int32} {x2 : Int32} {x5 : Int32} {x6 : Int32} {w3 : Int64} {r0 : Nat} {z : ow_MS} {Q : (Int32 × ow_MS) → Prop} (H : Tt (fun K k => cm_X0_undivided_0 vl K (c_X0_undivided vl K k) x1 x2 x5 x6 w3 r0 z) Q) : Tt (fun K k => c_X0_undivided vl K k 0 x1 x2 x5 x6 w3 r0 z) Q := w_un (fun _ _ => rfl) H
theorem tc_undiv {t : Nat} (hc : c ≤ 12) (ha : y.1 41002 = nI a) (a18 : a ≤ 18) (htc : t < c) (hta : t < a) : Te (fun K => ce_X0_undivided vl K 41000 (nI t) (nI c) y) (fun r => (r.1 = -1 ∨ ∃ i, i < c ∧ r.1 = nI i) ∧ r.2 = y) := by
  let Q : Int32 × ow_MS → Prop := fun r => (r.1 = -1 ∨ ∃ i, i < c ∧ r.1 = nI i) ∧ r.2 = y
  have c1 : ∀ (w3 : Int64) (d r : Nat), r + d = c → Tt (fun K k => c_X0_undivided vl K k 1 (nI t) (nI c) (nI r) 0 w3 41000 y) Q := by
    intro w3 d
    induction d with
    | zero =>
      intro r hr
      refine u_X0_undivided_1 ?_; unfold cm_X0_undivided_1
      exact w_leT (by omega) (by omega) (w_some ⟨Or.inl rfl, rfl⟩)
    | succ d ih =>
      intro r hr
      have c2 : w3 ≠ 0 → ∀ (e i : Nat), i + e = a → Tt (fun K k => c_X0_undivided vl K k 2 (nI t) (nI c) (nI r) (nI i) w3 41000 y) Q := by
        intro hw e
        induction e with
        | zero =>
          intro i hi
          refine u_X0_undivided_2 ?_; unfold cm_X0_undivided_2
          rw [nI_1]
          exact w_rdF ha (w_leT (by omega) (by omega) (ih (r + 1) (by omega)))
        | succ e ihe =>
          intro i hi
          refine u_X0_undivided_2 ?_; unfold cm_X0_undivided_2
          rw [nI_1, nI_1]
          exact w_rdF ha (w_leF (by omega) (by omega) (w_crX rfl (show r < 12 by omega) (w_crJ (ch_mat (show r < 12 by omega)) rfl (show i < 18 by omega) rfl (w_nzJ hw (w_if (fun _ => ihe (i + 1) (by omega)) (fun _ => w_some ⟨Or.inr ⟨r, by omega, rfl⟩, rfl⟩))))))
      refine u_X0_undivided_1 ?_; unfold cm_X0_undivided_1
      rw [nI_1]
      exact w_leF (by omega) (by omega) (w_if (fun _ => w_some ⟨Or.inl rfl, rfl⟩) (fun h0 => c2 (lgc0 h0) (a - (t + 1)) (t + 1) (by omega)))
  refine e_X0_undivided ?_
  refine u_X0_undivided_0 ?_; unfold cm_X0_undivided_0
  rw [nI_1]
  exact w_crX rfl (show t < 12 by omega) (w_crJ (ch_mat (show t < 12 by omega)) rfl (show t < 18 by omega) rfl (c1 _ (c - (t + 1)) (t + 1) (by omega)))
theorem u_X0_isolate_1 {vl : Nat → Nat} {x1 : Int32} {x2 : Int32} {x3 : Int32} {x4 : Int32} {x5 : Int32} {r0 : Nat} {z : ow_MS} {Q : (Int32 × ow_MS) → Prop} (H : Tt (fun K k => cm_X0_isolate_1 vl K (c_X0_isolate vl K k) x1 x2 x3 x4 x5 r0 z) Q) : Tt (fun K k => c_X0_isolate vl K k 1 x1 x2 x3 x4 x5 r0 z) Q := w_un (fun _ _ => rfl) H
theorem u_X0_isolate_3 {vl : Nat → Nat} {x1 : Int32} {x2 : Int32} {x3 : Int32} {x4 : Int32} {x5 : Int32} {r0 : Nat} {z : ow_MS} {Q : (Int32 × ow_MS) → Prop} (H : Tt (fun K k => cm_X0_isolate_3 vl K (c_X0_isolate vl K k) x1 x2 x3 x4 x5 r0 z) Q) : Tt (fun K k => c_X0_isolate vl K k 3 x1 x2 x3 x4 x5 r0 z) Q := w_un (fun _ _ => rfl) H
theorem u_X0_isolate_2 {vl : Nat → Nat} {x1 : Int32} {x2 : Int32} {x3 : Int32} {x4 : Int32} {x5 : Int32} {r0 : Nat} {z : ow_MS} {Q : (Int32 × ow_MS) → Prop} (H : Tt (fun K k => cm_X0_isolate_2 vl K (c_X0_isolate vl K k) x1 x2 x3 x4 x5 r0 z) Q) : Tt (fun K k => c_X0_isolate vl K k 2 x1 x2 x3 x4 x5 r0 z) Q := w_un (fun _ _ => rfl) H
theorem e_X0_isolate {vl : Nat → Nat} {r0 : Nat} {x1 : Int32} {x2 : Int32} {z : ow_MS} {Q : (Int32 × ow_MS) → Prop} (H : Tt (fun K k => c_X0_isolate vl K k 0 x1 x2 0 0 0 r0 z) Q) : Te (fun K => ce_X0_isolate vl K r0 x1 x2 z) Q := w_te H
theorem u_X0_isolate_0 {vl : Nat → Nat} {x1 : Int32} {x2 : Int32} {x3 : Int32} {x4 : Int32} {x5 : Int32} {r0 : Nat} {z : ow_MS} {Q : (Int32 × ow_MS) → Prop} (H : Tt (fun K k => cm_X0_isolate_0 vl K (c_X0_isolate vl K k) x1 x2 x3 x4 x5 r0 z) Q) : Tt (fun K k => c_X0_isolate vl K k 0 x1 x2 x3 x4 x5 r0 z) Q := w_un (fun _ _ => rfl) H
theorem tc_isol {t : Nat} (hc : c ≤ 12) (ha : y.1 41002 = nI a) (a18 : a ≤ 18) (htc : t < c) (hta : t < a) : Te (fun K => ce_X0_isolate vl K 41000 (nI t) (nI c) y) (fun r => (r.1 = 0 ∨ r.1 = 1) ∧ fr acR y r.2) := by
  let Q : Int32 × ow_MS → Prop := fun r => (r.1 = 0 ∨ r.1 = 1) ∧ fr acR y r.2
  have c1 : ∀ (d i : Nat) (z : ow_MS), i + d = 1000 → fr acR y z → Tt (fun K k => c_X0_isolate vl K k 1 (nI t) (nI c) (nI i) 0 0 41000 z) Q := by
    intro d
    induction d with
    | zero =>
      intro i z hi hf
      refine u_X0_isolate_1 ?_; unfold cm_X0_isolate_1
      exact w_leT (a := 1000) (by omega) (by omega) (w_okZ (Or.inr rfl) (w_some ⟨Or.inr rfl, hf⟩))
    | succ d ih =>
      intro i z hi hf
      have c3 : ∀ (z : ow_MS), fr acR y z → Tt (fun K k => c_X0_isolate vl K k 3 (nI t) (nI c) (nI i) 0 0 41000 z) Q := by
        intro z hf
        refine u_X0_isolate_3 ?_; unfold cm_X0_isolate_3
        rw [nI_1]
        exact ih (i + 1) z (by omega) hf
      have c2 : ∀ (r : Nat), r < c → ∀ (e j : Nat) (z : ow_MS), j + e = a → fr acR y z → Tt (fun K k => c_X0_isolate vl K k 2 (nI t) (nI c) (nI i) (nI r) (nI j) 41000 z) Q := by
        intro r hr e
        induction e with
        | zero =>
          intro j z hj hf
          refine u_X0_isolate_2 ?_; unfold cm_X0_isolate_2
          refine w_rdF (acR_a ha hf) (w_leT (by omega) (by omega) (w_cs1 (tc_clear hc (acR_a ha hf) a18 htc hta) ?_))
          rintro v z1 ⟨-, f1⟩
          exact c3 z1 (fr_tr hf f1)
        | succ e ihe =>
          intro j z hj hf
          refine u_X0_isolate_2 ?_; unfold cm_X0_isolate_2
          refine w_rdF (acR_a ha hf) (w_leF (by omega) (by omega) (w_crX rfl (show t < 12 by omega) (w_crJ (ch_mat (show t < 12 by omega)) rfl (show j < 18 by omega) rfl (w_crX rfl (show r < 12 by omega) (w_crJ (ch_mat (show r < 12 by omega)) rfl (show j < 18 by omega) rfl (w_ctJ (ch_mat (show t < 12 by omega)) rfl (show j < 18 by omega) ?_))))))
          rw [nI_1]
          exact ihe (j + 1) _ (by omega) (fr_J2 hf (by unfold acR; omega))
      refine u_X0_isolate_1 ?_; unfold cm_X0_isolate_1
      refine w_leF (a := 1000) (by omega) (by omega) (w_cs1 (tc_bring hc (acR_a ha hf) a18 htc hta) ?_)
      rintro v z1 ⟨-, f1⟩
      have f01 := fr_tr hf f1
      dsimp only at f01
      refine w_if (fun _ => w_okZ (Or.inl rfl) (w_some ⟨Or.inl rfl, f01⟩)) (fun _ => w_cs1 (tc_clear hc (acR_a ha f01) a18 htc hta) ?_)
      rintro v z2 ⟨-, f2⟩
      have f02 := fr_tr f01 f2
      dsimp only at f02
      refine w_if (fun _ => c3 z2 f02) (fun _ => w_cs1 (tc_undiv hc (acR_a ha f02) a18 htc hta) ?_)
      rintro v z3 ⟨h3, e3⟩
      dsimp only at h3 e3
      rw [e3]
      rcases h3 with rfl | ⟨r, hr, rfl⟩
      · exact w_ifT rfl (w_okZ (Or.inr rfl) (w_some ⟨Or.inr rfl, f02⟩))
      · exact w_if (fun _ => w_okZ (Or.inr rfl) (w_some ⟨Or.inr rfl, f02⟩)) (fun _ => c2 r hr (a - t) t z2 (by omega) f02)
  refine e_X0_isolate ?_
  refine u_X0_isolate_0 ?_; unfold cm_X0_isolate_0
  exact c1 1000 0 y (by omega) fr_rf
end CCV
end
section
/-! 99zzzzzzx.carc -/
/-! the class: the arcs -/
def oM (o : Option Nat) : Int32 := match o with
  | none => -1
  | some l => nI l
def stO (f : Nat → Option Nat) (v l : Nat) : Nat → Option Nat := fun x => if x = v then some l else f x
theorem stO_at {f : Nat → Option Nat} {v l : Nat} : stO f v l v = some l := if_pos rfl
theorem stO_ne {f : Nat → Option Nat} {v l x : Nat} (h : x ≠ v) : stO f v l x = f x := if_neg h
def ucn (f : Nat → Option Nat) : Nat → Nat
  | 0 => 0
  | n + 1 => ucn f n + if f n = none then 1 else 0
theorem ucn_le (f : Nat → Option Nat) : ∀ n, ucn f n ≤ n
  | 0 => Nat.le_refl _
  | n + 1 => by
    have := ucn_le f n
    show ucn f n + _ ≤ n + 1
    split <;> omega
theorem ucn_ge {f : Nat → Option Nat} {v l : Nat} : ∀ n, n ≤ v → ucn (stO f v l) n = ucn f n
  | 0, _ => rfl
  | n + 1, h => by
    show ucn (stO f v l) n + _ = ucn f n + _
    rw [ucn_ge n (by omega), stO_ne (show n ≠ v by omega)]
theorem ucn_st {f : Nat → Option Nat} {v l : Nat} (hv : f v = none) : ∀ n, v < n → ucn (stO f v l) n + 1 = ucn f n
  | 0, h => absurd h (by omega)
  | n + 1, h => by
    show ucn (stO f v l) n + _ + 1 = ucn f n + _
    by_cases e : n = v
    · subst e
      rw [ucn_ge n (Nat.le_refl _), stO_at, hv, if_neg (by simp), if_pos rfl]
    · have := ucn_st (l := l) hv n (by omega)
      rw [stO_ne e]
      omega
theorem ucn_0 {f : Nat → Option Nat} : ∀ n, ucn f n = 0 → ∀ v, v < n → f v ≠ none
  | 0, _, v, h => absurd h (by omega)
  | n + 1, e, v, h => by
    have e : ucn f n + (if f n = none then 1 else 0) = 0 := e
    by_cases h1 : v = n
    · subst h1
      intro h9
      rw [if_pos h9] at e
      omega
    · exact ucn_0 n (by omega) v (by omega)
section ARC
variable {S : ow_NP} {c : Nat} {f : Nat → Option Nat} {q : Nat → Nat}
def ar1 (S : ow_NP) (c k : Nat) (f : Nat → Option Nat) : Prop := (∀ x, x < k → f (2 * x + 1) = some x) ∧ (∀ x, k ≤ x → f (2 * x + 1) = none) ∧ (∀ v l, v < 2 * c → f v = some l → l < k ∧ (S.1 v % 2 = 0 → f (S.1 v) = some l)) ∧ ∀ v l, v < 2 * c → v % 2 = 0 → f v = some l → f (S.2 v) = some l
def ax1 (S : ow_NP) (c k : Nat) (f : Nat → Option Nat) (v : Nat) : Prop := (∀ x, x < k + 1 → f (2 * x + 1) = some x) ∧ (∀ x, k + 1 ≤ x → f (2 * x + 1) = none) ∧ (∀ u l, u < 2 * c → f u = some l → l < k + 1 ∧ (S.1 u % 2 = 0 → f (S.1 u) = some l ∨ (S.1 u = v ∧ l = k))) ∧ (∀ v l, v < 2 * c → v % 2 = 0 → f v = some l → f (S.2 v) = some l) ∧ f (S.2 v) = some k
theorem ax1_0 {k : Nat} (hv : vn c S) (hk : k < c) (h : ar1 S c k f) : ax1 S c k (stO f (2 * k + 1) k) (S.1 (2 * k + 1)) := by
  obtain ⟨a1, a2, a3, a4⟩ := h
  obtain ⟨v1, v2, v3, v4⟩ := hv (2 * k + 1) (by omega)
  have n0 := a2 k (Nat.le_refl _)
  refine ⟨fun x hx => ?_, fun x hx => ?_, fun u l hu hl => ?_, fun u l hu he hl => ?_, ?_⟩
  · by_cases e : x = k
    · rw [e, stO_at]
    · rw [stO_ne (by omega), a1 x (by omega)]
  · rw [stO_ne (by omega), a2 x (by omega)]
  · by_cases e : u = 2 * k + 1
    · rw [e, stO_at] at hl
      injection hl with hl
      subst hl
      exact ⟨by omega, fun _ => Or.inr ⟨by rw [e], rfl⟩⟩
    · rw [stO_ne e] at hl
      obtain ⟨b1, b2⟩ := a3 u l hu hl
      refine ⟨by omega, fun h9 => Or.inl ?_⟩
      rw [stO_ne (by omega)]
      exact b2 h9
  · rw [stO_ne (by omega)] at hl
    have := a4 u l hu he hl
    rw [stO_ne (fun h9 => by rw [h9, n0] at this; cases this)]
    exact this
  · rw [v3, stO_at]
theorem ax1_s {k v : Nat} (hv : vn c S) (hk : v < 2 * c) (he : v % 2 = 0) (hn : f v = none) (h : ax1 S c k f v) : ax1 S c k (stO f v k) (S.1 v) := by
  obtain ⟨a1, a2, a3, a4, a5⟩ := h
  obtain ⟨v1, v2, v3, v4⟩ := hv v hk
  refine ⟨fun x hx => ?_, fun x hx => ?_, fun u l hu hl => ?_, fun u l hu he2 hl => ?_, ?_⟩
  · rw [stO_ne (by omega), a1 x hx]
  · rw [stO_ne (by omega), a2 x hx]
  · by_cases e : u = v
    · rw [e, stO_at] at hl
      injection hl with hl
      subst hl
      exact ⟨by omega, fun _ => Or.inr ⟨by rw [e], rfl⟩⟩
    · rw [stO_ne e] at hl
      obtain ⟨b1, b2⟩ := a3 u l hu hl
      refine ⟨b1, fun h9 => Or.inl ?_⟩
      by_cases e2 : S.1 u = v
      · rw [e2, stO_at]
        rcases b2 h9 with h8 | h8
        · rw [e2, hn] at h8
          cases h8
        · rw [h8.2]
      · rw [stO_ne e2]
        rcases b2 h9 with h8 | h8
        · exact h8
        · exact absurd h8.1 e2
  · by_cases e : u = v
    · rw [e, stO_at] at hl
      injection hl with hl
      subst hl
      rw [e]
      by_cases e2 : S.2 v = v
      · rw [e2, stO_at]
      · rw [stO_ne e2]
        exact a5
    · rw [stO_ne e] at hl
      have := a4 u l hu he2 hl
      rw [stO_ne (fun h9 => by rw [h9, hn] at this; cases this)]
      exact this
  · rw [v3, stO_at]
theorem ax1_e {k v : Nat} (hv : vn c S) (hk : v < 2 * c) (hx : v % 2 = 1 ∨ f v ≠ none) (h : ax1 S c k f v) : ar1 S c (k + 1) f := by
  obtain ⟨a1, a2, a3, a4, a5⟩ := h
  refine ⟨a1, a2, fun u l hu hl => ?_, a4⟩
  obtain ⟨b1, b2⟩ := a3 u l hu hl
  refine ⟨b1, fun h9 => ?_⟩
  rcases b2 h9 with h8 | ⟨h8, h7⟩
  · exact h8
  · rw [h8] at h9 ⊢
    rcases hx with hx | hx
    · omega
    · cases hf : f v with
      | none => exact absurd hf hx
      | some l' =>
        have := a4 v l' hk h9 hf
        rw [a5] at this
        rw [h7]
        exact this.symm
/-- both ways closed; the rings without visits under have labels of their own -/
def ar2 (S : ow_NP) (c : Nat) (q : Nat → Nat) (s : Nat) (U : List Nat) (f : Nat → Option Nat) : Prop := (∀ x, x < c → f (2 * x + 1) = some x) ∧ (∀ v l, v < 2 * c → f v = some l → l < c + U.length ∧ (∃ l', f (S.1 v) = some l') ∧ (S.1 v % 2 = 0 → f (S.1 v) = some l)) ∧ (∀ v l, v < 2 * c → v % 2 = 0 → f v = some l → f (S.2 v) = some l) ∧ (∀ v, v < 2 * c → f v ≠ none → f (S.2 v) ≠ none) ∧ (U.Nodup ∧ (∀ r, r ∈ U → ∃ v, v < 2 * c ∧ q v = r) ∧ (∀ v l, v < 2 * c → f v = some l → c ≤ l → U[l - c]? = some (q v)) ∧ ∀ v, v < 2 * c → q v ∈ U → f v ≠ none) ∧ ∀ v, v < 2 * c → v < s → v % 2 = 0 → f v ≠ none
theorem clo_it (hv : vn c S) (h : ∀ v, v < 2 * c → f v ≠ none → f (S.1 v) ≠ none) {v : Nat} (hv2 : v < 2 * c) (h0 : f v ≠ none) : ∀ i, f (it S.1 i v) ≠ none
  | 0 => h0
  | i + 1 => by
    have := clo_it hv h hv2 h0 i
    have e : it S.1 (i + 1) v = S.1 (it S.1 i v) := by
      rw [Nat.add_comm, it_add]
      rfl
    rw [e]
    exact h _ (it_lt hv hv2 i) this
theorem clo_pv (hv : vn c S) (h : ∀ v, v < 2 * c → f v ≠ none → f (S.1 v) ≠ none) {v : Nat} (hv2 : v < 2 * c) (h0 : f v ≠ none) : f (S.2 v) ≠ none := by
  obtain ⟨m, hm, hr⟩ := ring_ex hv hv2
  obtain ⟨m1, rfl⟩ : ∃ m1, m = m1 + 1 := ⟨m - 1, by have := hr.1; omega⟩
  have e : it S.1 (m1 + 1) v = S.1 (it S.1 m1 v) := by
    rw [Nat.add_comm, it_add]
    rfl
  have e2 : S.1 (it S.1 m1 v) = v := by
    rw [← e]
    exact hr.2.1
  have e3 : S.2 v = it S.1 m1 v := by
    rw [← (hv _ (it_lt hv hv2 m1)).2.2.1, e2]
  rw [e3]
  exact clo_it hv h hv2 h0 m1
theorem ar2_0 (hv : vn c S) (h : ar1 S c c f) : ar2 S c q 0 [] f := by
  obtain ⟨a1, a2, a3, a4⟩ := h
  have nx : ∀ v l, v < 2 * c → f v = some l → ∃ l', f (S.1 v) = some l' := by
    intro v l hv2 hl
    obtain ⟨v1, -, -, -⟩ := hv v hv2
    by_cases e : S.1 v % 2 = 0
    · exact ⟨l, (a3 v l hv2 hl).2 e⟩
    · refine ⟨S.1 v / 2, ?_⟩
      have := a1 (S.1 v / 2) (by omega)
      rw [show 2 * (S.1 v / 2) + 1 = S.1 v by omega] at this
      exact this
  refine ⟨a1, fun v l hv2 hl => ⟨by have := (a3 v l hv2 hl).1; rw [List.length_nil]; omega, nx v l hv2 hl, (a3 v l hv2 hl).2⟩, a4, fun v hv2 h0 => clo_pv hv (fun u hu h9 => ?_) hv2 h0, ⟨List.nodup_nil, fun r hr => (by cases hr), fun v l hv2 hl h9 => ?_, fun v _ h9 => (by cases h9)⟩, fun v _ h9 => absurd h9 (by omega)⟩
  · cases hf : f u with
    | none => exact absurd hf h9
    | some l =>
      obtain ⟨l', e⟩ := nx u l hu hf
      rw [e]
      simp
  · have := (a3 v l hv2 hl).1
    omega
def ax2 (S : ow_NP) (c : Nat) (q : Nat → Nat) (s : Nat) (U : List Nat) (f : Nat → Option Nat) (v : Nat) : Prop := (∀ x, x < c → f (2 * x + 1) = some x) ∧ (∀ u l, u < 2 * c → f u = some l → l < c + U.length + 1 ∧ ((∃ l', f (S.1 u) = some l') ∧ (S.1 u % 2 = 0 → f (S.1 u) = some l) ∨ S.1 u = v ∧ l = c + U.length)) ∧ (∀ x l, x < 2 * c → x % 2 = 0 → f x = some l → f (S.2 x) = some l ∨ x = s) ∧ (∀ x, x < 2 * c → f x ≠ none → f (S.2 x) ≠ none ∨ x = s) ∧ (U.Nodup ∧ (∀ r, r ∈ U → ∃ v, v < 2 * c ∧ q v = r) ∧ (∀ v l, v < 2 * c → f v = some l → c ≤ l → l < c + U.length → U[l - c]? = some (q v)) ∧ (∀ v, v < 2 * c → f v = some (c + U.length) → q v = q s) ∧ (∀ v, v < 2 * c → q v ∈ U → f v ≠ none) ∧ q s ∉ U) ∧ (∀ v, v < 2 * c → v < s → v % 2 = 0 → f v ≠ none) ∧ (f (S.2 v) = some (c + U.length) ∧ f s = some (c + U.length) ∧ (f v = none ∨ v = s) ∧ q v = q s)
theorem ax2_0 {s : Nat} {U : List Nat} (hv : vn c S) (hq : ∀ v, v < 2 * c → q (S.1 v) = q v) (hs : s < 2 * c) (he : s % 2 = 0) (hn : f s = none) (h : ar2 S c q s U f) : ax2 S c q s U (stO f s (c + U.length)) (S.1 s) := by
  obtain ⟨a1, a2, a3, a4, ⟨u1, u2, u3, u4⟩, a6⟩ := h
  obtain ⟨v1, v2, v3, v4⟩ := hv s hs
  have ss : ∀ x, x < 2 * c → x ≠ s → f x ≠ none → S.2 x ≠ s := by
    intro x hx _ h0 e
    have := a4 x hx h0
    rw [e] at this
    exact this hn
  refine ⟨fun x hx => ?_, fun u l hu hl => ?_, fun x l hx hx2 hl => ?_, fun x hx h0 => ?_, ⟨u1, u2, fun v l hv2 hl h1 h2 => ?_, fun v hv2 hl => ?_, fun v hv2 hm => ?_, fun hm => u4 s hs hm hn⟩, fun v hv2 h1 h2 => ?_, ?_, stO_at, ?_, hq s hs⟩
  · rw [stO_ne (by omega), a1 x hx]
  · by_cases e : u = s
    · rw [e, stO_at] at hl
      injection hl with hl
      exact ⟨by omega, Or.inr ⟨by rw [e], hl.symm⟩⟩
    · rw [stO_ne e] at hl
      obtain ⟨b1, ⟨l', b2⟩, b3⟩ := a2 u l hu hl
      have hne : S.1 u ≠ s := fun h9 => by
        rw [h9, hn] at b2
        cases b2
      refine ⟨by omega, Or.inl ⟨⟨l', by rw [stO_ne hne]; exact b2⟩, fun h9 => by rw [stO_ne hne]; exact b3 h9⟩⟩
  · by_cases e : x = s
    · exact Or.inr e
    · rw [stO_ne e] at hl
      refine Or.inl ?_
      rw [stO_ne (ss x hx e (by rw [hl]; simp))]
      exact a3 x l hx hx2 hl
  · by_cases e : x = s
    · exact Or.inr e
    · rw [stO_ne e] at h0
      refine Or.inl ?_
      rw [stO_ne (ss x hx e h0)]
      exact a4 x hx h0
  · by_cases e : v = s
    · rw [e, stO_at] at hl
      injection hl with hl
      omega
    · rw [stO_ne e] at hl
      exact u3 v l hv2 hl h1
  · by_cases e : v = s
    · rw [e]
    · rw [stO_ne e] at hl
      have := (a2 v _ hv2 hl).1
      omega
  · by_cases e : v = s
    · rw [e, stO_at]
      simp
    · rw [stO_ne e]
      exact u4 v hv2 hm
  · rw [stO_ne (by omega)]
    exact a6 v hv2 h1 h2
  · rw [v3, stO_at]
  · by_cases e : S.1 s = s
    · exact Or.inr e
    · refine Or.inl ?_
      rw [stO_ne e]
      cases hf : f (S.1 s) with
      | none => rfl
      | some l =>
        have := a4 (S.1 s) v1 (by rw [hf]; simp)
        rw [v3] at this
        exact absurd hn this
theorem ax2_s {s v : Nat} {U : List Nat} (hv : vn c S) (hq : ∀ v, v < 2 * c → q (S.1 v) = q v) (hs : s < 2 * c) (hvc : v < 2 * c) (hn : f v = none) (h : ax2 S c q s U f v) : ax2 S c q s U (stO f v (c + U.length)) (S.1 v) := by
  obtain ⟨a1, a2, a3, a4, ⟨u1, u2, u3, u4, u5, u6⟩, a6, a7, a8, a9, a10⟩ := h
  obtain ⟨v1, v2, v3, v4⟩ := hv v hvc
  have hvs : v ≠ s := fun e => by rw [e, a8] at hn; cases hn
  have hodd : v % 2 = 0 := by
    rcases Nat.mod_two_eq_zero_or_one v with h9 | h9
    · exact h9
    · have := a1 (v / 2) (by omega)
      rw [show 2 * (v / 2) + 1 = v by omega, hn] at this
      cases this
  have h2v : S.2 v ≠ v := fun e => by rw [e, hn] at a7; cases a7
  refine ⟨fun x hx => ?_, fun u l hu hl => ?_, fun x l hx hx2 hl => ?_, fun x hx h0 => ?_, ⟨u1, u2, fun w l hw hl h1 h2 => ?_, fun w hw hl => ?_, fun w hw hm => ?_, u6⟩, fun w hw h1 h2 => ?_, ?_, ?_, ?_, ?_⟩
  · rw [stO_ne (by omega), a1 x hx]
  · by_cases e : u = v
    · rw [e, stO_at] at hl
      injection hl with hl
      exact ⟨by omega, Or.inr ⟨by rw [e], hl.symm⟩⟩
    · rw [stO_ne e] at hl
      obtain ⟨b1, b2⟩ := a2 u l hu hl
      refine ⟨b1, Or.inl ?_⟩
      by_cases e2 : S.1 u = v
      · rw [e2, stO_at]
        rcases b2 with ⟨⟨l', b3⟩, -⟩ | ⟨-, b3⟩
        · rw [e2, hn] at b3
          cases b3
        · exact ⟨⟨_, rfl⟩, fun _ => by rw [b3]⟩
      · rw [stO_ne e2]
        rcases b2 with b2 | b2
        · exact b2
        · exact absurd b2.1 e2
  · by_cases e : x = v
    · rw [e, stO_at] at hl
      rw [e, stO_ne h2v, a7]
      exact Or.inl hl
    · rw [stO_ne e] at hl
      rcases a3 x l hx hx2 hl with h9 | h9
      · refine Or.inl ?_
        rw [stO_ne (fun e9 => by rw [e9, hn] at h9; cases h9)]
        exact h9
      · exact Or.inr h9
  · by_cases e : x = v
    · rw [e, stO_ne h2v, a7]
      exact Or.inl (by simp)
    · rw [stO_ne e] at h0
      rcases a4 x hx h0 with h9 | h9
      · refine Or.inl ?_
        rw [stO_ne (fun e9 => by rw [e9] at h9; exact h9 hn)]
        exact h9
      · exact Or.inr h9
  · by_cases e : w = v
    · rw [e, stO_at] at hl
      injection hl with hl
      omega
    · rw [stO_ne e] at hl
      exact u3 w l hw hl h1 h2
  · by_cases e : w = v
    · rw [e]
      exact a10
    · rw [stO_ne e] at hl
      exact u4 w hw hl
  · by_cases e : w = v
    · rw [e, stO_at]
      simp
    · rw [stO_ne e]
      exact u5 w hw hm
  · by_cases e : w = v
    · rw [e, stO_at]
      simp
    · rw [stO_ne e]
      exact a6 w hw h1 h2
  · rw [v3, stO_at]
  · rw [stO_ne (fun e => hvs e.symm)]
    exact a8
  · by_cases e : S.1 v = s
    · exact Or.inr e
    · refine Or.inl ?_
      have hne : S.1 v ≠ v := fun e9 => h2v (by rw [← e9, v3, e9])
      rw [stO_ne hne]
      cases hf : f (S.1 v) with
      | none => rfl
      | some l =>
        rcases a4 (S.1 v) v1 (by rw [hf]; simp) with h9 | h9
        · rw [v3] at h9
          exact absurd hn h9
        · exact absurd h9 e
  · rw [hq v hvc]
    exact a10
theorem ax2_e {s v : Nat} {U : List Nat} (hv : vn c S) (hr : ∀ v w, v < 2 * c → w < 2 * c → q v = q w → ∃ i, it S.1 i v = w) (hs : s < 2 * c) (he : s % 2 = 0) (hn : f v ≠ none) (h : ax2 S c q s U f v) : ar2 S c q (s + 2) (U ++ [q s]) f := by
  obtain ⟨a1, a2, a3, a4, ⟨u1, u2, u3, u4, u5, u6⟩, a6, a7, a8, a9, a10⟩ := h
  have hvs : v = s := a9.resolve_left hn
  subst hvs
  obtain ⟨v1, v2, v3, v4⟩ := hv v hs
  have nx : ∀ u l, u < 2 * c → f u = some l → (∃ l', f (S.1 u) = some l') ∧ (S.1 u % 2 = 0 → f (S.1 u) = some l) := by
    intro u l hu hl
    rcases (a2 u l hu hl).2 with b2 | ⟨b2, b3⟩
    · exact b2
    · rw [b2, a8, b3]
      exact ⟨⟨_, rfl⟩, fun _ => rfl⟩
  have nz : ∀ u, u < 2 * c → f u ≠ none → f (S.1 u) ≠ none := by
    intro u hu h9
    cases hf : f u with
    | none => exact absurd hf h9
    | some l =>
      obtain ⟨⟨l', e⟩, -⟩ := nx u l hu hf
      rw [e]
      simp
  refine ⟨a1, fun u l hu hl => ⟨by have := (a2 u l hu hl).1; rw [List.length_append, List.length_singleton]; omega, nx u l hu hl⟩, fun x l hx hx2 hl => ?_, fun x hx h0 => ?_, ⟨?_, fun r hr2 => ?_, fun w l hw hl h1 => ?_, fun w hw hm => ?_⟩, fun w hw h1 h2 => ?_⟩
  · rcases a3 x l hx hx2 hl with h9 | h9
    · exact h9
    · rw [h9, a8] at hl
      rw [h9, a7]
      exact hl
  · rcases a4 x hx h0 with h9 | h9
    · exact h9
    · rw [h9, a7]
      simp
  · rw [List.nodup_append]
    refine ⟨u1, List.pairwise_singleton _ _, fun a ha b hb e => ?_⟩
    rw [List.mem_singleton] at hb
    rw [e, hb] at ha
    exact u6 ha
  · rcases List.mem_append.mp hr2 with h9 | h9
    · exact u2 r h9
    · rw [List.mem_singleton] at h9
      exact ⟨v, hs, h9.symm⟩
  · rcases Nat.lt_or_ge l (c + U.length) with h2 | h2
    · rw [List.getElem?_append_left (by omega)]
      exact u3 w l hw hl h1 h2
    · have : l = c + U.length := by
        have := (a2 w l hw hl).1
        omega
      subst this
      rw [List.getElem?_append_right (by omega), u4 w hw hl, show c + U.length - c - U.length = 0 by omega]
      rfl
  · rcases List.mem_append.mp hm with h9 | h9
    · exact u5 w hw h9
    · rw [List.mem_singleton] at h9
      obtain ⟨i, hi⟩ := hr v w hs hw h9.symm
      rw [← hi]
      exact clo_it hv nz hs hn i
  · by_cases e : w = v
    · rw [e]
      exact hn
    · exact a6 w hw (by omega) h2
theorem ar2_k {s : Nat} {U : List Nat} (hn : s < 2 * c → f s ≠ none) (h : ar2 S c q s U f) (he : s % 2 = 0) : ar2 S c q (s + 2) U f := by
  obtain ⟨a1, a2, a3, a4, a5, a6⟩ := h
  refine ⟨a1, a2, a3, a4, a5, fun w hw h1 h2 => ?_⟩
  by_cases e : w = s
  · rw [e]
    exact hn (by omega)
  · exact a6 w hw (by omega) h2
end ARC
end
