section
/-! 99zzzzzzt.cjon2 -/
/-! the class: loops of a state are the reference's; jones has an answer -/
section CK3
variable {vl : Nat → Nat} {y : ow_MS} {h g p s : Nat} {A : rn_L} {sg : Nat → Bool} {c : Nat} {T : ow_NT}
/-- a code loaded: the net shows the components, and its signs are 1 and -1 -/
theorem tc_load3 (hh : nH h) (hg : tH g p) (hd : h + 12 ≤ g ∨ g + 6 ≤ h) (hs : s < p) (hA : okL A c) (hC : slC y g s (clC sg A)) (hy : cAt y h T) (hb : ow_b24 T.2.2.1) : Te (fun K => ce_X7_load vl K h g (nI s) y) (fun y1 => (∃ T1, shA y1 h A sg T1 ∧ T1.1 = c ∧ T1.2.1 = cirs A ∧ ∀ x, x < c → T1.2.2.2 x = if sg x then -1 else 1) ∧ fr (cL h) y y1) := by
  obtain ⟨ec, oC⟩ := okL_c (sg := sg) hA
  obtain ⟨o1, o2, o3, o4, o5⟩ := id hA
  have hv : vOK A.flatten := ⟨o1.1, fun p hp => ((o1.2 p).mp hp).2⟩
  have hl := okF_len o1
  have hinit : ldS sg [] [] 0 (ld_init T.2.2.1 T.2.2.2 (y.2.1 (h + 4)) (y.2.1 (h + 5))) := by
    refine ⟨rfl, rfl, fun h => absurd rfl h, fun v hv => absurd hv (Nat.not_lt_zero _), fun i p q e => ?_, fun p hp => (by cases hp), fun i p e => ?_, fun v hv => absurd hv (Nat.not_lt_zero _), fun p hp => (by cases hp)⟩
    · rw [List.getElem?_nil] at e
      cases e
    · have e : ([] : List (Nat × Nat))[i]? = some p := e
      rw [List.getElem?_nil] at e
      cases e
  obtain ⟨t, b1, h1, h2⟩ := ldS_all (sg := sg) A [] 0 (ld_init T.2.2.1 T.2.2.2 (y.2.1 (h + 4)) (y.2.1 (h + 5))) hv o2 (fun p hp => by have := ((o1.2 p).mp hp).1; omega) (by rw [List.nil_append]; omega) o3 hinit
  rw [List.nil_append] at h2
  refine w_monoE (tc_load hh hg hd hs hC oC hy (fun _ => rfl) (fun _ => rfl) h1) ?_
  rintro y1 ⟨l1, l2⟩
  obtain ⟨n1, n2⟩ := ldS_net hA h2
  have hb1 := ld_b24 _ _ _ h1 hb (fun a e => by cases e) (fun a e => by cases e)
  have hr := iso_rg n1
  obtain ⟨g1, g2, g3, g4⟩ := l1
  rw [ec] at g1
  have hci : t.2.1.1 = cirs A := by rw [h2.1]
  have hco : t.2.1.2.1 = A.length := by rw [h2.1]
  refine ⟨⟨(c, t.2.1.1, t.1.1, t.1.2.1), ⟨g1, n1, ⟨n2, o4, hb1, by omega⟩, fun i q e => ?_, fun v hv1 => ?_, ?_⟩, rfl, hci, fun x hx => ?_⟩, l2⟩
  · rw [g2 i]
    exact h2.2.2.2.2.2.2.1 i q (by rw [List.append_nil]; exact e)
  · rw [g3]
    exact h2.2.2.2.2.2.2.2.1 v hv1
  · rw [g4, hco]
  · exact h2.2.2.2.2.2.1 (x, 0) (by rw [List.append_nil]; exact (o1.2 (x, 0)).mpr ⟨hx, Nat.zero_lt_two⟩)
end CK3
/-! numbers out of bits -/
def bnN (b : Nat → Bool) : Nat → Nat
  | 0 => 0
  | c + 1 => bnN b c + if b c then 2 ^ c else 0
theorem bnN_lt (b : Nat → Bool) : ∀ c, bnN b c < 2 ^ c
  | 0 => Nat.one_pos
  | c + 1 => by
    have := bnN_lt b c
    show bnN b c + _ < _
    rw [Nat.pow_succ]
    split <;> omega
theorem bnN_bit (b : Nat → Bool) : ∀ c x, x < c → bnN b c / 2 ^ x % 2 = if b x then 1 else 0
  | 0, x, h => absurd h (by omega)
  | c + 1, x, h => by
    have h1 := bnN_lt b c
    show (bnN b c + _) / 2 ^ x % 2 = _
    by_cases e : x = c
    · subst e
      by_cases hb : b x
      · rw [if_pos hb, if_pos hb, Nat.add_div_right _ (Nat.two_pow_pos x), Nat.div_eq_of_lt h1]
      · rw [if_neg hb, if_neg hb, Nat.add_zero, Nat.div_eq_of_lt h1]
    · have ih := bnN_bit b c x (by omega)
      by_cases hb : b c
      · rw [if_pos hb]
        have e2 : 2 ^ c = 2 ^ x * (2 * 2 ^ (c - x - 1)) := by
          rw [← Nat.pow_succ', ← Nat.pow_add]
          congr 1
          omega
        rw [e2, Nat.add_mul_div_left _ _ (Nat.two_pow_pos x), Nat.add_mul_mod_self_left]
        exact ih
      · rw [if_neg hb, Nat.add_zero]
        exact ih
/-! classes of gaps -/
theorem un_min {p M : Nat → Nat} {D : Nat → Prop} {g h : Nat} (hp : dn p) (H : ∀ x y, D x → D y → rt p x = rt p y → M x = M y) (hg : D g) (hh : D h) (e : M g = M h) : ∀ x y, D x → D y → rt (un p g h) x = rt (un p g h) y → M x = M y := by
  intro x y hx hy h9
  rcases (un_iff hp).mp h9 with h1 | ⟨h1, h2⟩ | ⟨h1, h2⟩
  · exact H x y hx hy h1
  · rw [H x g hx hg h1, H y h hy hh h2, e]
  · rw [H x h hx hh h1, H y g hy hg h2, e]
theorem rtsN_le {p1 p2 f : Nat → Nat} {V1 V2 : Nat} (h2 : dn p2) (hf : ∀ x, x < V1 → f x < V2) (H : ∀ x y, x < V1 → y < V1 → rt p2 (f x) = rt p2 (f y) → rt p1 x = rt p1 y) : rtsN p1 V1 ≤ rtsN p2 V2 := by
  unfold rtsN
  have e : (((List.range V1).filter (fun g => decide (p1 g = g))).map (fun g => rt p2 (f g))).length = ((List.range V1).filter (fun g => decide (p1 g = g))).length := List.length_map _
  rw [← e]
  refine nodup_le _ _ ?_ ?_
  · refine List.pairwise_map.mpr ((List.nodup_range.filter _).imp_of_mem ?_)
    intro a b ha hb hab h9
    have ha := List.mem_filter.mp ha
    have hb := List.mem_filter.mp hb
    have := H a b (List.mem_range.mp ha.1) (List.mem_range.mp hb.1) h9
    rw [rt_root (of_decide_eq_true ha.2), rt_root (of_decide_eq_true hb.2)] at this
    exact hab this
  · intro r hr
    obtain ⟨g, hg, rfl⟩ := List.mem_map.mp hr
    have hg := List.mem_filter.mp hg
    have h3 := rt_in h2 (f g)
    have := hf g (List.mem_range.mp hg.1)
    exact List.mem_filter.mpr ⟨List.mem_range.mpr (by omega), decide_eq_true h3.1⟩
section LPE
variable {A : rn_L} {sg : Nat → Bool} {st : Int32} {S : ow_NP} {G : Nat → Int32} {b : Nat → Bool} {M : Nat → Nat}
def ljM (A : rn_L) (al : Bool) (M : Nat → Nat) (v : Nat) : Prop := if al then M (rn_pv A v) = M (mtf A v) ∧ M (rn_pv A (mtf A v)) = M v else M (rn_pv A v) = M (rn_pv A (mtf A v)) ∧ M v = M (mtf A v)
theorem lpA_jS : ∀ (V v : Nat), v < V → uns A v = 0 → ljM A (alS sg st (crs A v)) (rt (lpA A sg st V)) v
  | 0, v, h, _ => by omega
  | V + 1, v, h, hu => by
    show ljM A (alS sg st (crs A v)) (rt (lpS A sg st V (lpA A sg st V))) v
    by_cases hv : v = V
    · rw [hv]
      rw [hv] at hu
      unfold ljM lpS
      rw [if_pos hu]
      have hp := lpA_dn (A := A) (sg := sg) (st := st) V
      by_cases h2 : alS sg st (crs A V) = true
      · rw [if_pos h2, if_pos h2]
        exact ⟨un_k (un_dn hp) (un_j hp), un_j (un_dn hp)⟩
      · rw [if_neg h2, if_neg h2]
        exact ⟨un_k (un_dn hp) (un_j hp), un_j (un_dn hp)⟩
    · have := lpA_jS V v (by omega) hu
      unfold ljM at this ⊢
      split
      · rename_i h2
        rw [if_pos h2] at this
        exact ⟨lpS_k (lpA_dn V) this.1, lpS_k (lpA_dn V) this.2⟩
      · rename_i h2
        rw [if_neg h2] at this
        exact ⟨lpS_k (lpA_dn V) this.1, lpS_k (lpA_dn V) this.2⟩
theorem lpA_min (hd : rn_ok A.flatten) (hM : ∀ v, v < A.flatten.length → uns A v = 0 → ljM A (alS sg st (crs A v)) M v) : ∀ k, k ≤ A.flatten.length → ∀ x y, x < A.flatten.length → y < A.flatten.length → rt (lpA A sg st k) x = rt (lpA A sg st k) y → M x = M y
  | 0, _, x, y, _, _, h => by
    rw [rt_root (p := lpA A sg st 0) rfl, rt_root (p := lpA A sg st 0) rfl] at h
    rw [h]
  | k + 1, hk, x, y, hx, hy, h => by
    have ih := lpA_min hd hM k (by omega)
    have hp := lpA_dn (A := A) (sg := sg) (st := st) k
    have hml := mtf_lt hd (show k < A.flatten.length by omega)
    have h : rt (lpS A sg st k (lpA A sg st k)) x = rt (lpS A sg st k (lpA A sg st k)) y := h
    unfold lpS at h
    by_cases hu : uns A k = 0
    · have hm := hM k (by omega) hu
      have p1 := pv_lt (show k < A.flatten.length by omega)
      have p2 := pv_lt hml
      unfold ljM at hm
      rw [if_pos hu] at h
      by_cases h2 : alS sg st (crs A k) = true
      · rw [if_pos h2] at h hm
        exact un_min (D := fun x => x < A.flatten.length) (un_dn hp) (un_min (D := fun x => x < A.flatten.length) hp ih p1 hml hm.1) p2 (by omega) hm.2 x y hx hy h
      · rw [if_neg h2] at h hm
        exact un_min (D := fun x => x < A.flatten.length) (un_dn hp) (un_min (D := fun x => x < A.flatten.length) hp ih p1 p2 hm.1) (by omega) hml hm.2 x y hx hy h
    · rw [if_neg hu] at h
      exact ih x y hx hy h
theorem uPx_j : ∀ (k x : Nat), x < k → rt (uPx S G b k) (egp S (4 * x + 1)) = rt (uPx S G b k) (egp S (toI G b x)) ∧ rt (uPx S G b k) (egp S (4 * x)) = rt (uPx S G b k) (egp S (toO G b x))
  | 0, x, h => by omega
  | k + 1, x, h => by
    have hp := uPx_dn (S := S) (G := G) (b := b) k
    by_cases e : x = k
    · subst e
      exact ⟨un_k (un_dn hp) (un_j hp), un_j (un_dn hp)⟩
    · obtain ⟨h1, h2⟩ := uPx_j k x (by omega)
      exact ⟨un_k (un_dn hp) (un_k hp h1), un_k (un_dn hp) (un_k hp h2)⟩
theorem uPx_min {c : Nat} (hv : vn c S) (hM : ∀ x, x < c → M (egp S (4 * x + 1)) = M (egp S (toI G b x)) ∧ M (egp S (4 * x)) = M (egp S (toO G b x))) : ∀ k, k ≤ c → ∀ x y, x < 2 * c → y < 2 * c → rt (uPx S G b k) x = rt (uPx S G b k) y → M x = M y
  | 0, _, x, y, _, _, h => by
    rw [rt_root (p := uPx S G b 0) rfl, rt_root (p := uPx S G b 0) rfl] at h
    rw [h]
  | k + 1, hk, x, y, hx, hy, h => by
    have ih := uPx_min hv hM k (by omega)
    have hp := uPx_dn (S := S) (G := G) (b := b) k
    have hm := hM k (by omega)
    have t1 : toI G b k < 4 * c := by unfold toI; split <;> omega
    have t2 : toO G b k < 4 * c := by unfold toO; split <;> omega
    exact un_min (D := fun x => x < 2 * c) (un_dn hp) (un_min (D := fun x => x < 2 * c) hp ih (egp_lt hv (by omega)) (egp_lt hv t1) hm.1) (egp_lt hv (by omega)) (egp_lt hv t2) hm.2 x y hx hy h
/-- both sides have as many loops -/
theorem loops_eq {f : Nat → Nat} {c ci : Nat} (hi : isoN A sg f (c, ci, S, G)) (hv : vn c S) (hal : ∀ v, v < A.flatten.length → uns A v = 0 → alS sg st (crs A v) = alB G b (f (crs A v))) : rtsN (uPx S G b c) (2 * c) = rtsN (lpA A sg st A.flatten.length) A.flatten.length := by
  have hd := wkF_ok hi.1
  have hl : A.flatten.length = 2 * c := hi.2.1
  have hS2 : ∀ v, v < A.flatten.length → S.2 (lbv A f v) = lbv A f (rn_pv A v) := by
    intro v hv1
    have h1 := hi.2.2.2.2.2.1 (rn_pv A v) (pv_lt hv1)
    rw [nx_pv hv1] at h1
    have h2 : S.1 (lbv A f (rn_pv A v)) = lbv A f v := h1
    rw [← h2]
    exact (hv _ (lbv_lt hi (pv_lt hv1))).2.2.1
  have cr : ∀ v, v < A.flatten.length → uns A v = 0 → egp S (4 * f (crs A v)) = lbv A f v ∧ egp S (4 * f (crs A v) + 1) = lbv A f (rn_pv A v) ∧ egp S (4 * f (crs A v) + 2) = lbv A f (mtf A v) ∧ egp S (4 * f (crs A v) + 3) = lbv A f (rn_pv A (mtf A v)) := by
    intro v hv1 hu
    obtain ⟨m1, m2, m3, m4⟩ := lbv_mt hi hv1
    have e0 : lbv A f v = 2 * f (crs A v) := by unfold lbv; rw [hu]; rfl
    have e1 : lbv A f (mtf A v) = 2 * f (crs A v) + 1 := by
      rw [m3, e0]
      unfold mt
      rw [if_pos (by omega)]
    refine ⟨?_, ?_, ?_, ?_⟩
    · unfold egp
      rw [if_pos (by omega), e0]
      omega
    · unfold egp
      rw [if_neg (by omega), show (4 * f (crs A v) + 1) / 2 = 2 * f (crs A v) by omega, ← e0]
      exact hS2 v hv1
    · unfold egp
      rw [if_pos (by omega), e1]
      omega
    · unfold egp
      rw [if_neg (by omega), show (4 * f (crs A v) + 3) / 2 = 2 * f (crs A v) + 1 by omega, ← e1]
      exact hS2 _ m1
  -- every crossing has its over visit
  have ov : ∀ x, x < c → ∃ v, v < A.flatten.length ∧ uns A v = 0 ∧ f (crs A v) = x := by
    intro x hx
    obtain ⟨v, v1, v2⟩ := lbv_sur hi (k := 2 * x) (show 2 * x < 2 * c by omega)
    have := uns_lt hi.1 v1
    refine ⟨v, v1, ?_, ?_⟩ <;> (unfold lbv at v2; omega)
  have d1 : ∀ x y, x < A.flatten.length → y < A.flatten.length → rt (lpA A sg st A.flatten.length) x = rt (lpA A sg st A.flatten.length) y → rt (uPx S G b c) (lbv A f x) = rt (uPx S G b c) (lbv A f y) := by
    refine lpA_min (M := fun v => rt (uPx S G b c) (lbv A f v)) hd ?_ _ (Nat.le_refl _)
    intro v hv1 hu
    obtain ⟨k0, k1, k2, k3⟩ := cr v hv1 hu
    obtain ⟨j1, j2⟩ := uPx_j (S := S) (G := G) (b := b) c (f (crs A v)) (hi.2.2.2.1 v hv1)
    have ha := hal v hv1 hu
    unfold ljM
    unfold toI at j1
    unfold toO at j2
    dsimp only
    rw [ha]
    by_cases h2 : alB G b (f (crs A v)) = true
    · rw [if_pos h2] at j1 j2 ⊢
      rw [k1, k2] at j1
      rw [k0, k3] at j2
      exact ⟨j1, j2.symm⟩
    · rw [if_neg h2] at j1 j2 ⊢
      rw [k1, k3] at j1
      rw [k0, k2] at j2
      exact ⟨j1, j2⟩
  obtain ⟨F, hF⟩ : ∃ F : Nat → Nat, ∀ a, a < 2 * c → F a < A.flatten.length ∧ lbv A f (F a) = a := by
    refine ⟨fun a => if ha : a < 2 * c then Classical.choose (lbv_sur hi ha) else 0, fun a ha => ?_⟩
    dsimp only
    rw [dif_pos ha]
    exact Classical.choose_spec (lbv_sur hi ha)
  have hFi : ∀ v, v < A.flatten.length → F (lbv A f v) = v := fun v hv1 => by
    obtain ⟨q1, q2⟩ := hF _ (lbv_lt hi hv1)
    exact lbv_inj hi q1 hv1 q2
  have d2 : ∀ x y, x < 2 * c → y < 2 * c → rt (uPx S G b c) x = rt (uPx S G b c) y → rt (lpA A sg st A.flatten.length) (F x) = rt (lpA A sg st A.flatten.length) (F y) := by
    refine uPx_min (M := fun a => rt (lpA A sg st A.flatten.length) (F a)) hv ?_ c (Nat.le_refl _)
    intro x hx
    obtain ⟨v, v1, hu, rfl⟩ := ov x hx
    obtain ⟨k0, k1, k2, k3⟩ := cr v v1 hu
    have hml := mtf_lt hd v1
    have jj := lpA_jS (A := A) (sg := sg) (st := st) _ v v1 hu
    rw [hal v v1 hu] at jj
    unfold ljM at jj
    unfold toI toO
    by_cases h2 : alB G b (f (crs A v)) = true
    · rw [if_pos h2] at jj
      rw [if_pos h2, if_pos h2, k0, k1, k2, k3, hFi _ v1, hFi _ hml, hFi _ (pv_lt v1), hFi _ (pv_lt hml)]
      exact ⟨jj.1, jj.2.symm⟩
    · rw [if_neg h2] at jj
      rw [if_neg h2, if_neg h2, k0, k1, k2, k3, hFi _ v1, hFi _ hml, hFi _ (pv_lt v1), hFi _ (pv_lt hml)]
      exact ⟨jj.1, jj.2⟩
  refine Nat.le_antisymm ?_ ?_
  · refine rtsN_le (f := F) (lpA_dn _) (fun x hx => (hF x hx).1) (fun x y hx hy h9 => ?_)
    have := d1 _ _ (hF x hx).1 (hF y hy).1 h9
    rw [(hF x hx).2, (hF y hy).2] at this
    exact this
  · refine rtsN_le (f := lbv A f) (uPx_dn _) (fun x hx => lbv_lt hi hx) (fun x y hx hy h9 => ?_)
    have := d2 _ _ (lbv_lt hi hx) (lbv_lt hi hy) h9
    rw [hFi x hx, hFi y hy] at this
    exact this
end LPE
end
section
/-! 99zzzzzzu.cjon3 -/
/-! the class: jones has an answer -/
theorem bmp_cnt : ∀ (l : List Nat) (R : Nat → Int32) (k : Nat), bmp R l k = R k + nI (l.count k)
  | [], R, k => by
    show R k = R k + nI 0
    rw [show nI 0 = 0 from rfl, Int32.add_zero]
  | a :: l, R, k => by
    show bmp (upd R a (R a + 1)) l k = _
    rw [bmp_cnt l, upd_v]
    by_cases e : k = a
    · subst e
      rw [if_pos rfl, List.count_cons_self, ← nI_1, Int32.add_assoc, Int32.add_comm 1]
    · rw [if_neg e, List.count_cons_of_ne (fun h => e h.symm)]
/-- the net of a diagram, as it is loaded -/
def jnN (A : rn_L) (sg : Nat → Bool) (c : Nat) (S : ow_NP) (G : Nat → Int32) : Prop := okL A c ∧ isoN A sg (fun x => x) (c, cirs A, S, G) ∧ vn c S ∧ ∀ x, x < c → G x = if sg x then -1 else 1
theorem neC_cirs (A : rn_L) : neC A + cirs A ≤ A.length := by
  have h1 := filt_sum (neB A) (List.range A.length)
  rw [List.length_range, ← cirs_f] at h1
  have h2 : neC A ≤ ((List.range A.length).filter (neB A)).length := by
    refine nodup_le _ _ (List.nodup_range.filter _) (fun c hc => ?_)
    have hc := List.mem_filter.mp hc
    have h3 := of_decide_eq_true hc.2
    have h4 := rn_b_le A (c + 1)
    have h5 := neB_in (A := A) (v := rn_b A c) (by omega)
    rw [rn_c_of A c (rn_b A c) (Nat.le_refl _) h3] at h5
    exact List.mem_filter.mpr ⟨hc.1, h5⟩
  omega
theorem al_bit {sg : Nat → Bool} {b : Nat → Bool} {c x : Nat} (hc : c ≤ 12) (hx : x < c) : alS sg (nI (bnN b c)) x = !(sg x == !b x) := by
  have h1 := bnN_lt b c
  have h2 : 2 ^ c ≤ 2 ^ 12 := two_mono hc
  unfold alS
  rw [gbit (by omega) (by omega), bnN_bit b c x hx]
  cases b x <;> rfl
theorem lps_23 {A : rn_L} {sg : Nat → Bool} {c : Nat} {S : ow_NP} {G : Nat → Int32} (h : jnN A sg c S G) (b : Nat → Bool) : cirs A + rtsN (uPx S G b c) (2 * c) ≤ 23 := by
  obtain ⟨h1, h2, h3, h4⟩ := h
  have hc := h1.2.2.2.1
  have h6 := h1.2.2.2.2
  have e := loops_eq (st := nI (bnN (fun x => !(sg x == !alB G b x)) c)) (b := b) h2 h3 (fun v hv _ => by
    rw [al_bit hc (h2.2.2.2.1 v hv)]
    cases sg (crs A v) <;> cases alB G b (crs A v) <;> rfl)
  have l := loops_le (sg := sg) (st := nI (bnN (fun x => !(sg x == !alB G b x)) c)) h1.1 (by omega)
  have := neC_cirs A
  rw [e]
  omega
/-- the partners at first -/
def p0E (S : ow_NP) (e : Nat) : Nat := if e % 2 = 0 then 2 * S.1 (e / 2) + 1 else 2 * S.2 (e / 2)
theorem p0E_ti {S : ow_NP} {G : Nat → Int32} {b : Nat → Bool} {c : Nat} (hv : vn c S) : tiI S (p0E S) (opA c 0) (uPx S G b 0) := by
  refine ⟨uPx_dn 0, fun a ha => ?_⟩
  have ha := ha.2
  obtain ⟨a1, a2, a3, a4⟩ := hv (a / 2) (by omega)
  have r0 : ∀ g, rt (uPx S G b 0) g = g := fun g => rt_root rfl
  by_cases e : a % 2 = 0
  · have q : p0E S a = 2 * S.1 (a / 2) + 1 := if_pos e
    rw [q]
    refine ⟨⟨by omega, by omega⟩, by omega, ?_, fun b' hb => ?_⟩
    · unfold p0E
      rw [if_neg (by omega), show (2 * S.1 (a / 2) + 1) / 2 = S.1 (a / 2) by omega, a3]
      omega
    · have hb := hb.2
      obtain ⟨b1, b2, b3, b4⟩ := hv (b' / 2) (by omega)
      rw [r0, r0]
      unfold egp
      rw [if_pos e]
      by_cases e' : b' % 2 = 0
      · rw [if_pos e']
        omega
      · rw [if_neg e']
        constructor
        · intro h9
          rw [h9, b4]
          omega
        · rintro (h9 | h9)
          · omega
          · rw [h9, show (2 * S.1 (a / 2) + 1) / 2 = S.1 (a / 2) by omega, a3]
  · have q : p0E S a = 2 * S.2 (a / 2) := if_neg e
    rw [q]
    refine ⟨⟨by omega, by omega⟩, by omega, ?_, fun b' hb => ?_⟩
    · unfold p0E
      rw [if_pos (by omega), show (2 * S.2 (a / 2)) / 2 = S.2 (a / 2) by omega, a4]
      omega
    · have hb := hb.2
      obtain ⟨b1, b2, b3, b4⟩ := hv (b' / 2) (by omega)
      rw [r0, r0]
      unfold egp
      rw [if_neg e]
      by_cases e' : b' % 2 = 0
      · rw [if_pos e']
        omega
      · rw [if_neg e']
        constructor
        · intro h9
          have := vn_inj2 hv (show a / 2 < 2 * c by omega) (show b' / 2 < 2 * c by omega) h9
          omega
        · rintro (h9 | h9)
          · rw [h9]
          · omega
theorem rtsN_id {S : ow_NP} {G : Nat → Int32} {b : Nat → Bool} : ∀ V, rtsN (uPx S G b 0) V = V
  | 0 => rfl
  | V + 1 => by
    rw [rtsN_s, rtsN_id V, if_pos (show uPx S G b 0 V = V from rfl)]
def jnP (g : Nat) : Prop := 24006 ≤ g ∧ g ≤ 24007 ∨ g = 24009 ∨ 25001 ≤ g ∧ g ≤ 25003 ∨ 40001 ≤ g ∧ g ≤ 40011
/-- what stands of the latest states -/
def jnT (y : ow_MS) (A : rn_L) (sg : Nat → Bool) (c : Nat) : Prop := ∃ S G, jnN A sg c S G ∧ y.1 40008 = nI c ∧ y.1 24009 = np_sum G c ∧ ∀ k, k < 312 → y.2.1 24006 k = nI ((tbL S G (cirs A) c 0 (fun _ => false)).count k)
def jnC (y : ow_MS) : Prop := ∃ C, slC y 25000 1 C ∧ cOK C ∧ (C.2 = [] ∨ ∃ A sg c, C = clC sg A ∧ jnT y A sg c)
/-- a code says of which components it is written -/
theorem spl0 : ∀ (l l' x x' : List Nat), (∀ a, a ∈ l → a ≠ 0) → (∀ a, a ∈ l' → a ≠ 0) → l ++ 0 :: x = l' ++ 0 :: x' → l = l' ∧ x = x'
  | [], [], x, x', _, _, e => ⟨rfl, (List.cons.inj e).2⟩
  | [], a :: l', x, x', _, h', e => absurd (List.cons.inj e).1.symm (h' a List.mem_cons_self)
  | a :: l, [], x, x', h, _, e => absurd (List.cons.inj e).1 (h a List.mem_cons_self)
  | a :: l, a' :: l', x, x', h, h', e => by
    obtain ⟨e1, e2⟩ := List.cons.inj e
    obtain ⟨h1, h2⟩ := spl0 l l' x x' (fun b hb => h b (List.mem_cons_of_mem _ hb)) (fun b hb => h' b (List.mem_cons_of_mem _ hb)) e2
    exact ⟨by rw [e1, h1], h2⟩
theorem clc_inj {sg sg' : Nat → Bool} {b : Nat} : ∀ (L L' : List (Nat × Nat)), (∀ p, p ∈ L → b ≤ p.1 ∧ p.2 < 2) → (∀ p, p ∈ L' → b ≤ p.1 ∧ p.2 < 2) → L.map (clc sg b) = L'.map (clc sg' b) → L = L' ∧ ∀ p, p ∈ L → sg p.1 = sg' p.1
  | [], [], _, _, _ => ⟨rfl, fun p hp => by cases hp⟩
  | [], q :: L', _, _, e => by cases e
  | p :: L, [], _, _, e => by cases e
  | p :: L, q :: L', h, h', e => by
    obtain ⟨e1, e2⟩ := List.cons.inj e
    obtain ⟨i1, i2⟩ := clc_inj L L' (fun r hr => h r (List.mem_cons_of_mem _ hr)) (fun r hr => h' r (List.mem_cons_of_mem _ hr)) e2
    have hp := h p List.mem_cons_self
    have hq := h' q List.mem_cons_self
    unfold clc at e1
    have k : p.1 = q.1 ∧ p.2 = q.2 ∧ (sg p.1 = sg' q.1) := by
      cases h1 : sg p.1 <;> cases h2 : sg' q.1 <;> simp only [h1, h2] at e1 <;> simp at e1 ⊢ <;> omega
    have pq : p = q := Prod.ext k.1 k.2.1
    refine ⟨by rw [pq, i1], fun r hr => ?_⟩
    rcases List.mem_cons.mp hr with rfl | hr
    · rw [k.2.2, k.1]
    · exact i2 r hr
theorem ucd_inj {sg sg' : Nat → Bool} : ∀ (R R' : rn_L) (b : Nat) (D : rn_L), bsO b D R → bsO b D R' → (∀ p, p ∈ R.flatten → p.2 < 2) → (∀ p, p ∈ R'.flatten → p.2 < 2) → ucd sg b D R = ucd sg' b D R' → R = R' ∧ ∀ p, p ∈ R.flatten → sg p.1 = sg' p.1
  | [], [], _, _, _, _, _, _, _ => ⟨rfl, fun p hp => by cases hp⟩
  | [], L' :: R', b, D, _, _, _, _, e => by
    have := congrArg List.length e
    unfold ucd at this
    rw [List.length_append, List.length_cons, List.length_nil] at this
    omega
  | L :: R, [], b, D, _, _, _, _, e => by
    have := congrArg List.length e
    unfold ucd at this
    rw [List.length_append, List.length_cons, List.length_nil] at this
    omega
  | L :: R, L' :: R', b, D, h, h', hu, hu', e => by
    have e : L.map (clc sg b) ++ 0 :: ucd sg (nxb b (D ++ [L])) (D ++ [L]) R = L'.map (clc sg' b) ++ 0 :: ucd sg' (nxb b (D ++ [L'])) (D ++ [L']) R' := e
    have nz : ∀ (s : Nat → Bool) (M : List (Nat × Nat)) a, a ∈ M.map (clc s b) → a ≠ 0 := by
      intro s M a ha
      obtain ⟨p, -, rfl⟩ := List.mem_map.mp ha
      unfold clc
      omega
    obtain ⟨e1, e2⟩ := spl0 _ _ _ _ (nz sg L) (nz sg' L') e
    have m1 : ∀ p, p ∈ L → p ∈ (L :: R).flatten := fun p hp => by rw [List.flatten_cons]; exact List.mem_append_left _ hp
    have m2 : ∀ p, p ∈ L' → p ∈ (L' :: R').flatten := fun p hp => by rw [List.flatten_cons]; exact List.mem_append_left _ hp
    obtain ⟨i1, i2⟩ := clc_inj L L' (fun p hp => ⟨h.1 p hp, hu p (m1 p hp)⟩) (fun p hp => ⟨h'.1 p hp, hu' p (m2 p hp)⟩) e1
    subst i1
    obtain ⟨j1, j2⟩ := ucd_inj R R' _ _ h.2 h'.2 (fun p hp => hu p (by rw [List.flatten_cons]; exact List.mem_append_right _ hp)) (fun p hp => hu' p (by rw [List.flatten_cons]; exact List.mem_append_right _ hp)) e2
    refine ⟨by rw [j1], fun p hp => ?_⟩
    rw [List.flatten_cons] at hp
    rcases List.mem_append.mp hp with hp | hp
    · exact i2 p hp
    · exact j2 p hp
theorem clC_inj {sg sg' : Nat → Bool} {A A' : rn_L} {c c' : Nat} (h : okL A c) (h' : okL A' c') (e : clC sg A = clC sg' A') : A = A' ∧ c = c' ∧ ∀ x, x < c → sg x = sg' x := by
  obtain ⟨i1, i2⟩ := ucd_inj A A' 0 [] h.2.2.1 h'.2.2.1 (fun p hp => ((h.1.2 p).mp hp).2) (fun p hp => ((h'.1.2 p).mp hp).2) (congrArg Prod.snd e)
  subst i1
  have l1 := okF_len h.1
  have l2 := okF_len h'.1
  refine ⟨rfl, by omega, fun x hx => ?_⟩
  exact i2 (x, 0) ((h.1.2 (x, 0)).mpr ⟨hx, Nat.zero_lt_two⟩)
theorem jnT_sg {y : ow_MS} {sg sg' : Nat → Bool} {A : rn_L} {c : Nat} (h : jnT y A sg' c) (hs : ∀ x, x < c → sg x = sg' x) : jnT y A sg c := by
  obtain ⟨S, G, ⟨h1, h2, h3, h4⟩, h5⟩ := h
  refine ⟨S, G, ⟨h1, ⟨h2.1, h2.2.1, h2.2.2.1, h2.2.2.2.1, h2.2.2.2.2.1, h2.2.2.2.2.2.1, fun v hv => ?_, h2.2.2.2.2.2.2.2⟩, h3, fun x hx => ?_⟩, h5⟩
  · rw [hs _ (h2.2.2.2.1 v hv)]
    exact h2.2.2.2.2.2.2.1 v hv
  · rw [hs x hx]
    exact h4 x hx
section CCS
variable {vl : Nat → Nat} {y : ow_MS}
/-- as it is: the code in the slot is asked for, or comes there -/
theorem tc_isKnown2 {g' p' s s' : Nat} {B C : cdT} (hs : s < 2) (hg' : tH g' p') (hd : g' + 6 ≤ 25000) (hs' : s' < p') (hb : slC y g' s' B) (ob : cOK B) (hby : byR y (g' + 1)) (c1 : slC y 25000 s C) (c2 : cOK C) : Te (fun K => ce_X8_isKnown vl K 24000 (nI s) g' (nI s') y) (fun r => (r.1 = 1 ∧ r.2 = y ∧ C = B ∧ 0 < C.2.length ∨ r.1 = 0 ∧ slC r.2 25000 s B) ∧ (∀ t D, t ≠ s → cOK D → slC y 25000 t D → slC r.2 25000 t D) ∧ (byR y 25001 → byR r.2 25001) ∧ fr (cW 25000) y r.2) := by
  let Q : Int32 × ow_MS → Prop := fun r => (r.1 = 1 ∧ r.2 = y ∧ C = B ∧ 0 < C.2.length ∨ r.1 = 0 ∧ slC r.2 25000 s B) ∧ (∀ t D, t ≠ s → cOK D → slC y 25000 t D → slC r.2 25000 t D) ∧ (byR y 25001 → byR r.2 25001) ∧ fr (cW 25000) y r.2
  have go1 : Tt (fun K t => c_X8_isKnown vl K t 1 (nI s) (nI s') 24000 g' y) Q := by
    refine u_X8_isKnown_1 ?_; unfold cm_X8_isKnown_1
    refine w_cs0 (tc_write tH25 hg' (Or.inr hd) hs hs' hb ob hby) ?_
    rintro y1 ⟨w1, w2, w3, w4⟩
    exact w_okZ (Or.inl rfl) (w_some ⟨Or.inr ⟨rfl, w1⟩, w2, w3, w4⟩)
  have hl := c2.2.1
  refine e_X8_isKnown ?_
  refine u_X8_isKnown_0 ?_; unfold cm_X8_isKnown_0
  refine w_crI (tH_2 tH25) rfl hs c1.2.1 (w_if (fun _ => go1) (fun h0 => w_cs1 (tc_compare tH25 hg' hs hs' c1 hb c2 ob) ?_))
  rintro v z ⟨e1, e2⟩
  dsimp only at e1 e2
  rw [e1, e2]
  refine w_if (fun h9 => w_okZ (Or.inr rfl) (w_some ⟨Or.inl ⟨rfl, rfl, ?_, ?_⟩, fun t D _ _ h => h, fun h => h, fr_rf⟩)) (fun _ => go1)
  · have b := cmpC_b c2 ob
    refine cmpC_0 ?_
    have h8 : (iI (cmpC C B)).toInt = (iI 0).toInt := congrArg Int32.toInt h9
    rw [iI_toInt (by omega) (by omega), iI_toInt (by omega) (by omega)] at h8
    exact h8
  · exact Nat.pos_of_ne_zero (fun h9 => h0 (by rw [h9]; decide))
theorem e_X8_countStates {vl : Nat → Nat} {r0 : Nat} {r1 : Nat} {x2 : Int32} {z : ow_MS} {Q : ow_MS → Prop} (H : Tt (fun K k => c_X8_countStates vl K k 0 x2 0 r0 r1 z) Q) : Te (fun K => ce_X8_countStates vl K r0 r1 x2 z) Q := w_te H
theorem u_X8_countStates_0 {vl : Nat → Nat} {x2 : Int32} {x3 : Int32} {r0 : Nat} {r1 : Nat} {z : ow_MS} {Q : ow_MS → Prop} (H : Tt (fun K k => cm_X8_countStates_0 vl K (c_X8_countStates vl K k) x2 x3 r0 r1 z) Q) : Tt (fun K k => c_X8_countStates vl K k 0 x2 x3 r0 r1 z) Q := w_un (fun _ _ => rfl) H
theorem u_X8_countStates_1 {vl : Nat → Nat} {x2 : Int32} {x3 : Int32} {r0 : Nat} {r1 : Nat} {z : ow_MS} {Q : ow_MS → Prop} (H : Tt (fun K k => cm_X8_countStates_1 vl K (c_X8_countStates vl K k) x2 x3 r0 r1 z) Q) : Tt (fun K k => c_X8_countStates vl K k 1 x2 x3 r0 r1 z) Q := w_un (fun _ _ => rfl) H
theorem tc_countStates {g' p' s' c : Nat} {A : rn_L} {sg : Nat → Bool} {T : ow_NT} (hg' : tH g' p') (hd : g' + 6 ≤ 24000) (hs' : s' < p') (hb : slC y g' s' (clC sg A)) (hA : okL A c) (hby : byR y (g' + 1)) (hk : jnC y) (hT : cAt y 40000 T) (hT2 : ow_b24 T.2.2.1) : Te (fun K => ce_X8_countStates vl K 24000 g' (nI s') y) (fun y1 => slC y1 25000 1 (clC sg A) ∧ jnT y1 A sg c ∧ (∃ T, cAt y1 40000 T ∧ ow_b24 T.2.2.1) ∧ (∀ D, cOK D → slC y 25000 0 D → slC y1 25000 0 D) ∧ (byR y 25001 → byR y1 25001) ∧ fr jnP y y1) := by
  let Q : ow_MS → Prop := fun y1 => slC y1 25000 1 (clC sg A) ∧ jnT y1 A sg c ∧ (∃ T, cAt y1 40000 T ∧ ow_b24 T.2.2.1) ∧ (∀ D, cOK D → slC y 25000 0 D → slC y1 25000 0 D) ∧ (byR y 25001 → byR y1 25001) ∧ fr jnP y y1
  obtain ⟨C, k1, k2, k3⟩ := hk
  have hc12 := hA.2.2.2.1
  refine e_X8_countStates ?_
  refine u_X8_countStates_0 ?_; unfold cm_X8_countStates_0
  refine w_cs1 (tc_isKnown2 (s := 1) (by omega) hg' (by omega) hs' hb (okL_c hA).2 hby k1 k2) ?_
  rintro v y1 ⟨h1, h2, h3, f1⟩
  dsimp only at h1 h2 h3 f1
  rcases h1 with ⟨rfl, rfl, rfl, hpos⟩ | ⟨rfl, h1⟩
  · refine w_ifF (by decide) (w_some ⟨k1, ?_, ⟨T, hT, hT2⟩, fun D _ h => h, fun h => h, fr_rf⟩)
    rcases k3 with k3 | ⟨A', sg', c', k4, k5⟩
    · rw [k3] at hpos
      exact absurd hpos (Nat.lt_irrefl _)
    · obtain ⟨S', G', k6, -⟩ := id k5
      obtain ⟨i1, i2, i3⟩ := clC_inj hA k6.1 k4
      subst i1
      subst i2
      exact jnT_sg k5 i3
  · have f1j : fr jnP y y1 := fr_mono (fun g hg => by unfold cW at hg; unfold jnP; omega) f1
    refine w_ifT rfl ?_
    have hT1 : cAt y1 40000 T := cAt_fr f1 (fun g hg h9 => by unfold cP at hg; unfold cW at h9; omega) hT
    have s1 : slC y1 g' s' (clC sg A) := slC_fr f1 (fun q hq h9 => by unfold cW at hq h9; omega) hb
    refine w_cs0 (tc_load3 nH40 hg' (Or.inr (by omega)) hs' hA s1 hT1 hT2) ?_
    rintro y2 ⟨⟨T2, q1, q2, q3, q4⟩, f2⟩
    obtain ⟨c2, ci2, S, G⟩ := T2
    dsimp only at q2 q3 q4
    subst q2
    subst q3
    have hJ : jnN A sg c2 S G := ⟨hA, q1.2.1, q1.2.2.1.1, q4⟩
    have f2j : fr jnP y1 y2 := fr_mono (fun g hg => by unfold cL at hg; unfold jnP; omega) f2
    refine w_cs1 (tc_writhe nH40 q1.1 hc12) ?_
    rintro w y3 ⟨e3, e4⟩
    dsimp only at e3 e4
    rw [e4, e3]
    refine w_wrF (w_cs0 (tc_fillA ch_24006 (by omega)) ?_)
    rintro y5 ⟨z5, f5⟩
    have f25 : fr (fun g => g = 24009 ∨ g = 24006) y2 y5 := fr_tr (fr_F (Or.inl rfl)) (fr_mono (fun g hg => Or.inr hg) f5)
    have hy5 : cAt y5 40000 (c2, cirs A, S, G) := cAt_fr f25 (fun g hg h9 => by unfold cP at hg; omega) q1.1
    have hv : vn c2 S := hJ.2.2.1
    have w5 : y5.1 24009 = np_sum G c2 := (f5 24009 (by decide)).1.trans po_usF_at
    -- the partners are laid
    have c1 : ∀ (d v : Nat) (z : ow_MS), v + d = 2 * c2 → fr (fun g => g = 24007) y5 z → (∀ e, e < 2 * v → z.2.1 24007 e = nI (p0E S e)) → Tt (fun K t => c_X8_countStates vl K t 1 (nI s') (nI v) 24000 g' z) Q := by
      intro d
      induction d with
      | zero =>
        intro v z hv1 hf hp
        have hz : cAt z 40000 (c2, cirs A, S, G) := cAt_fr hf (fun g hg h9 => by unfold cP at hg; omega) hy5
        refine u_X8_countStates_1 ?_; unfold cm_X8_countStates_1
        refine w_rdF hz.1 ?_
        rw [rn_mul2]
        refine w_leT (by omega) (by omega) (w_rdF hz.2.1 (w_cs0 (tc_takeB (ci := cirs A) (G := G) hc12 hv (lps_23 hJ) c2 0 (cirs A) 13 (fun _ => false) (p0E S) z (by omega) (by omega) ?_ (p0E_ti hv) hz (fun e he => hp e (by omega))) ?_))
        · rw [rtsN_id]
          omega
        · rintro z1 ⟨g1, g2, g3⟩
          have hf2 : fr (fun g => g = 24006 ∨ g = 24007 ∨ g = 24009) y2 z1 := fr_tr (fr_tr (fr_mono (fun g hg => by omega) f25) (fr_mono (fun g hg => by omega) hf)) (fr_mono (fun g hg => by omega) g3)
          have f12 : fr jnP y1 z1 := fr_tr f2j (fr_mono (fun g hg => by unfold jnP; omega) hf2)
          have hz1 : cAt z1 40000 (c2, cirs A, S, G) := cAt_fr hf2 (fun g hg h9 => by unfold cP at hg; omega) q1.1
          have sl : ∀ t D, slC y1 25000 t D → slC z1 25000 t D := fun t D h => slC_fr hf2 (fun q hq h9 => by unfold cW at hq; omega) (slC_fr f2 (fun q hq h9 => by unfold cW at hq; unfold cL at h9; omega) h)
          refine w_some ⟨sl _ _ h1, ⟨S, G, hJ, hz1.1, ?_, fun k hk => ?_⟩, ⟨_, hz1, q1.2.2.1.2.2.1⟩, fun D oD hD => sl _ _ (h2 0 D (by omega) oD hD), fun h => byR_fr hf2 (by omega) (byR_fr f2 (by unfold cL; omega) (h3 h)), fr_tr f1j f12⟩
          · rw [(g3 24009 (by omega)).1, (hf 24009 (by decide)).1]
            exact w5
          · rw [g1, bmp_cnt, (hf 24006 (by decide)).2.1, z5 k hk, Int32.zero_add]
      | succ d ih =>
        intro v z hv1 hf hp
        have hz : cAt z 40000 (c2, cirs A, S, G) := cAt_fr hf (fun g hg h9 => by unfold cP at hg; omega) hy5
        obtain ⟨v1, v2, -, -⟩ := hv v (by omega)
        have n1 : (2 : Int32) * nI (S.1 v) + 1 = nI (2 * S.1 v + 1) := by rw [rn_mul2, nI_1]
        refine u_X8_countStates_1 ?_; unfold cm_X8_countStates_1
        refine w_rdF hz.1 ?_
        rw [rn_mul2]
        refine w_leF (by omega) (by omega) (w_crI (nH_1 nH40) rfl (show v < 24 by omega) (hz.2.2.1 v) ?_)
        rw [n1, rn_mul2, nI_1]
        refine w_ctI ch_24007 rfl (by omega) (w_crI (nH_2 nH40) rfl (show v < 24 by omega) (rd_ot (by omega) (hz.2.2.2.1 v)) ?_)
        rw [rn_mul2]
        refine w_ctI ch_24007 rfl (by omega) ?_
        rw [nI_1]
        refine ih (v + 1) _ (by omega) (fr_I2 (fr_I2 hf rfl) rfl) (fun e he => ?_)
        by_cases e1 : e = 2 * v + 1
        · rw [e1, po_usI_at]
          unfold p0E
          rw [if_neg (by omega), show (2 * v + 1) / 2 = v by omega]
        · refine rd_ne e1 ?_
          by_cases e2 : e = 2 * v
          · rw [e2, po_usI_at]
            unfold p0E
            rw [if_pos (by omega), show 2 * v / 2 = v by omega]
          · exact rd_ne e2 (hp e (by omega))
    exact c1 (2 * c2) 0 y5 (by omega) fr_rf (fun e he => absurd he (by omega))
end CCS
end
section
/-! 99zzzzzzv.cjon4 -/
/-! the class: the number of J at a power -/
def smI (f : Nat → Int32) : Nat → Int32
  | 0 => 0
  | n + 1 => smI f n + f n
def jFt (c : Nat) (w2 : Int64) (o m : Nat) : Int64 := (((nI c - (2 * nI o)) + (2 * (nI (m + 1) - 1))).toInt64) - w2
/-- what the states with so many ones and m + 1 loops give -/
def jTm (c : Nat) (w2 : Int64) (R : Nat → Int32) (C : Nat → Nat → Int32) (o m : Nat) : Int32 :=
  if lg_cmp (jFt c w2 o m - jFt c w2 o m / 4 * 4) 0 = 0 ∧ ¬ lg_cmp (jFt c w2 o m) 0 < 0 ∧ ¬ 0 < lg_cmp (jFt c w2 o m) ((4 * (nI (m + 1) - 1)).toInt64) then (if ((nI (m + 1) - 1) &&& 1) = 0 then R (24 * o + (m + 1)) * C m ((jFt c w2 o m / 4).toInt32.toNatClampNeg) else -(R (24 * o + (m + 1)) * C m ((jFt c w2 o m / 4).toInt32.toNatClampNeg))) else 0
theorem q4_c : ∀ a : Fin 93, (lN a.val / 4).toInt32 = nI (a.val / 4) := by decide +kernel
theorem jFt_ix {c m : Nat} {ft : Int64} (hm : m < 23) (h1 : ¬ lg_cmp ft 0 < 0) (h2 : ¬ 0 < lg_cmp ft ((4 * (nI (m + 1) - 1)).toInt64)) : ∃ i, i < 24 ∧ (ft / 4).toInt32 = nI i := by
  obtain ⟨a, ha, rfl⟩ := pk_lOf (fun h => h1 ((lg_cmp_lt _ _).mpr h))
  have e : (4 * (nI (m + 1) - 1)).toInt64 = lN (4 * m) := by
    rw [show nI (m + 1) - 1 = nI m from pk_sub (a := m + 1) (b := 1) (by omega), show (4 : Int32) * nI m = nI (4 * m) from pk_mul 4 m, nI_l (by omega)]
  rw [e] at h2
  have h6 : a ≤ 4 * m := by
    rcases Nat.lt_or_ge (4 * m) a with q | q
    · exact absurd ((lg_cmp_gt _ _).mpr ((pk_lLT (by omega) ha).mpr q)) h2
    · exact q
  have := q4_c ⟨a, by omega⟩
  exact ⟨a / 4, by omega, this⟩
section CJA
variable {vl : Nat → Nat} {y : ow_MS}
def jAt (y : ow_MS) (c : Nat) (x : Int32) : Int32 := smI (fun o => smI (jTm c (x.toInt64 + ((3 * y.1 24009).toInt64)) (y.2.1 24006) (fun m i => y.2.1 (39001 + m) i) o) 23) (c + 1)
theorem u_X8_jonesAt_1 {vl : Nat → Nat} {x1 : Int32} {x4 : Int32} {x5 : Int32} {x6 : Int32} {x7 : Int32} {x10 : Int32} {w2 : Int64} {w8 : Int64} {r0 : Nat} {t0 : Int32} {t1 : Int32} {z : ow_MS} {Q : (Int32 × ow_MS) → Prop} (H : Tt (fun K k => cm_X8_jonesAt_1 vl K (c_X8_jonesAt vl K k) x1 x4 x5 x6 x7 x10 w2 w8 r0 t0 t1 z) Q) : Tt (fun K k => c_X8_jonesAt vl K k 1 x1 x4 x5 x6 x7 x10 w2 w8 r0 t0 t1 z) Q := w_un (fun _ _ => rfl) H
theorem u_X8_jonesAt_2 {vl : Nat → Nat} {x1 : Int32} {x4 : Int32} {x5 : Int32} {x6 : Int32} {x7 : Int32} {x10 : Int32} {w2 : Int64} {w8 : Int64} {r0 : Nat} {t0 : Int32} {t1 : Int32} {z : ow_MS} {Q : (Int32 × ow_MS) → Prop} (H : Tt (fun K k => cm_X8_jonesAt_2 vl K (c_X8_jonesAt vl K k) x1 x4 x5 x6 x7 x10 w2 w8 r0 t0 t1 z) Q) : Tt (fun K k => c_X8_jonesAt vl K k 2 x1 x4 x5 x6 x7 x10 w2 w8 r0 t0 t1 z) Q := w_un (fun _ _ => rfl) H
theorem u_X8_jonesAt_4 {vl : Nat → Nat} {x1 : Int32} {x4 : Int32} {x5 : Int32} {x6 : Int32} {x7 : Int32} {x10 : Int32} {w2 : Int64} {w8 : Int64} {r0 : Nat} {t0 : Int32} {t1 : Int32} {z : ow_MS} {Q : (Int32 × ow_MS) → Prop} (H : Tt (fun K k => cm_X8_jonesAt_4 vl K (c_X8_jonesAt vl K k) x1 x4 x5 x6 x7 x10 w2 w8 r0 t0 t1 z) Q) : Tt (fun K k => c_X8_jonesAt vl K k 4 x1 x4 x5 x6 x7 x10 w2 w8 r0 t0 t1 z) Q := w_un (fun _ _ => rfl) H
theorem u_X8_jonesAt_3 {vl : Nat → Nat} {x1 : Int32} {x4 : Int32} {x5 : Int32} {x6 : Int32} {x7 : Int32} {x10 : Int32} {w2 : Int64} {w8 : Int64} {r0 : Nat} {t0 : Int32} {t1 : Int32} {z : ow_MS} {Q : (Int32 × ow_MS) → Prop} (H : Tt (fun K k => cm_X8_jonesAt_3 vl K (c_X8_jonesAt vl K k) x1 x4 x5 x6 x7 x10 w2 w8 r0 t0 t1 z) Q) : Tt (fun K k => c_X8_jonesAt vl K k 3 x1 x4 x5 x6 x7 x10 w2 w8 r0 t0 t1 z) Q := w_un (fun _ _ => rfl) H
theorem e_X8_jonesAt {vl : Nat → Nat} {r0 : Nat} {x1 : Int32} {z : ow_MS} {Q : (Int32 × ow_MS) → Prop} (H : Tt (fun K k => c_X8_jonesAt vl K k 0 x1 0 0 0 0 0 0 0 r0 0 0 z) Q) : Te (fun K => ce_X8_jonesAt vl K r0 x1 z) Q := w_te H
theorem u_X8_jonesAt_0 {vl : Nat → Nat} {x1 : Int32} {x4 : Int32} {x5 : Int32} {x6 : Int32} {x7 : Int32} {x10 : Int32} {w2 : Int64} {w8 : Int64} {r0 : Nat} {t0 : Int32} {t1 : Int32} {z : ow_MS} {Q : (Int32 × ow_MS) → Prop} (H : Tt (fun K k => cm_X8_jonesAt_0 vl K (c_X8_jonesAt vl K k) x1 x4 x5 x6 x7 x10 w2 w8 r0 t0 t1 z) Q) : Tt (fun K k => c_X8_jonesAt vl K k 0 x1 x4 x5 x6 x7 x10 w2 w8 r0 t0 t1 z) Q := w_un (fun _ _ => rfl) H
theorem tc_jonesAt {c : Nat} {x : Int32} (hc : c ≤ 12) (h8 : y.1 40008 = nI c) : Te (fun K => ce_X8_jonesAt vl K 24000 x y) (fun r => r.1 = (if (y.1 24009 &&& 1) = 0 then jAt y c x else - jAt y c x) ∧ r.2 = y) := by
  let Q : Int32 × ow_MS → Prop := fun r => r.1 = (if (y.1 24009 &&& 1) = 0 then jAt y c x else - jAt y c x) ∧ r.2 = y
  let w2 : Int64 := x.toInt64 + ((3 * y.1 24009).toInt64)
  let C : Nat → Nat → Int32 := fun m i => y.2.1 (39001 + m) i
  let tm : Nat → Nat → Int32 := jTm c w2 (y.2.1 24006) C
  let ou : Nat → Int32 := smI (fun o => smI (tm o) 23)
  have c1 : ∀ (d o : Nat), o + d = c + 1 → Tt (fun K t => c_X8_jonesAt vl K t 1 x (ou o) (nI o) 0 0 0 w2 0 24000 0 0 y) Q := by
    intro d
    induction d with
    | zero =>
      intro o ho
      have ho : o = c + 1 := by omega
      subst ho
      refine u_X8_jonesAt_1 ?_; unfold cm_X8_jonesAt_1
      refine w_rdF h8 (w_ltT (by omega) (by omega) (w_rdF rfl (w_if (fun h9 => w_some ⟨?_, rfl⟩) (fun h9 => w_some ⟨?_, rfl⟩))))
      · rw [if_pos h9]
        rfl
      · rw [if_neg h9]
        rfl
    | succ d ih =>
      intro o ho
      have c2 : ∀ (e m : Nat), m + e = 23 → Tt (fun K t => c_X8_jonesAt vl K t 2 x (ou o + smI (tm o) m) (nI o) (nI (m + 1)) 0 0 w2 0 24000 0 0 y) Q := by
        intro e
        induction e with
        | zero =>
          intro m hm
          have hm : m = 23 := by omega
          subst hm
          refine u_X8_jonesAt_2 ?_; unfold cm_X8_jonesAt_2
          rw [nI_1]
          exact w_leT (a := 24) (by omega) (by omega) (ih (o + 1) (by omega))
        | succ e ihe =>
          intro m hm
          have c4 : ∀ (z : Int32) (x7 x10 t0 t1 : Int32) (w8 : Int64), z = smI (tm o) (m + 1) → Tt (fun K t => c_X8_jonesAt vl K t 4 x (ou o + z) (nI o) (nI (m + 1)) x7 x10 w2 w8 24000 t0 t1 y) Q := by
            intro z x7 x10 t0 t1 w8 hz
            refine u_X8_jonesAt_4 ?_; unfold cm_X8_jonesAt_4
            rw [nI_1, hz]
            exact ihe (m + 1) (by omega)
          have c0 : ∀ (x7 x10 t0 t1 : Int32) (w8 : Int64), tm o m = 0 → Tt (fun K t => c_X8_jonesAt vl K t 4 x (ou o + smI (tm o) m) (nI o) (nI (m + 1)) x7 x10 w2 w8 24000 t0 t1 y) Q := by
            intro x7 x10 t0 t1 w8 hz
            refine c4 _ _ _ _ _ _ ?_
            show smI (tm o) m = smI (tm o) m + tm o m
            rw [hz, Int32.add_zero]
          have c3 : ∀ (t0 : Int32) (x7 x10 : Int32) (w8 : Int64), t0 = tm o m → Tt (fun K t => c_X8_jonesAt vl K t 3 x (ou o + smI (tm o) m) (nI o) (nI (m + 1)) x7 x10 w2 w8 24000 t0 (ou o + smI (tm o) m) y) Q := by
            intro t0 x7 x10 w8 hz
            refine u_X8_jonesAt_3 ?_; unfold cm_X8_jonesAt_3
            rw [Int32.add_assoc]
            refine c4 _ _ _ _ _ _ ?_
            rw [hz]
            rfl
          have m1 : nI (m + 1) - 1 = nI m := pk_sub (a := m + 1) (b := 1) (by omega)
          refine u_X8_jonesAt_2 ?_; unfold cm_X8_jonesAt_2
          refine w_leF (a := 24) (by omega) (by omega) (w_rdF h8 (w_nzJ (by decide) (w_if (fun h1 => w_if (fun h2 => c0 _ _ _ _ _ ?_) (fun h2 => w_if (fun h3 => c0 _ _ _ _ _ ?_) (fun h3 => ?_))) (fun h1 => c0 _ _ _ _ _ ?_))))
          · exact if_neg (fun h => h.2.1 h2)
          · exact if_neg (fun h => h.2.2 h3)
          · obtain ⟨i, i24, ei⟩ := jFt_ix (c := c) (ft := jFt c w2 o m) (by omega) h2 h3
            have tv : tm o m = if ((nI (m + 1) - 1) &&& 1) = 0 then y.2.1 24006 (24 * o + (m + 1)) * y.2.1 (39001 + m) i else -(y.2.1 24006 (24 * o + (m + 1)) * y.2.1 (39001 + m) i) := by
              show (if _ then _ else _) = _
              rw [if_pos ⟨h1, h2, h3⟩, ei, nI_clamp (by omega)]
            refine w_crI ch_24006 (i := 24 * o + (m + 1)) ?_ (by omega) rfl (w_crX m1 (show m < 24 by omega) (w_nzJ (by decide) (w_crI (ch_choose (show m < 24 by omega)) ei i24 rfl (w_if (fun h4 => c3 _ _ _ _ ?_) (fun h4 => c3 _ _ _ _ ?_)))))
            · rw [show nI o * (24 : Int32) = nI (o * 24) from pk_mul _ 24, nI_add]
              congr 1
              omega
            · rw [tv, if_pos h4]
            · rw [tv, if_neg h4]
          · exact if_neg (fun h => h1 h.1)
      refine u_X8_jonesAt_1 ?_; unfold cm_X8_jonesAt_1
      refine w_rdF h8 (w_ltF (by omega) (by omega) ?_)
      have := c2 23 0 (by omega)
      rw [show smI (tm o) 0 = 0 from rfl, Int32.add_zero] at this
      exact this
  refine e_X8_jonesAt ?_
  refine u_X8_jonesAt_0 ?_; unfold cm_X8_jonesAt_0
  exact w_rdF rfl (c1 (c + 1) 0 (by omega))
theorem gM_jn {y1 : ow_MS} (hf : fr jnP y y1) (hl : ∃ T, cAt y1 40000 T ∧ ow_b24 T.2.2.1) (h : gM y) : gM y1 := by
  refine ⟨⟨dgC_fr hf (fun g g1 g2 h9 => by unfold jnP at h9; omega) h.1.1, nsC_put nH40 hf (fun h' hh' hne g hg h9 => ?_) hl h.1.2.1, kdC_fr hf (fun g hg => by unfold jnP at hg; omega) h.1.2.2⟩, tbs_fr hf (fun g hg => by unfold jnP at hg; omega) h.2⟩
  have h8 := nH_far hh' nH40 hne
  have key : ∀ a, a ∈ nHL → a ≤ 17000 ∨ 26000 ≤ a := by decide
  have := key h' hh'
  unfold cP at hg
  unfold jnP at h9
  omega
/-- the answer of jones on a diagram -/
def jnV (y : ow_MS) (A : rn_L) (sg : Nat → Bool) (c : Nat) (x : Int32) (v : Int32) : Prop := jnT y A sg c ∧ v = (if (y.1 24009 &&& 1) = 0 then jAt y c x else - jAt y c x)
theorem e_X11_jones {vl : Nat → Nat} {r0 : Nat} {x1 : Int32} {x2 : Int32} {z : ow_MS} {Q : (Nat × Int32 × ow_MS) → Prop} (H : Tt (fun K _ => cm_X11_jones_0 vl K x1 x2 r0 z) Q) : Te (fun K => ce_X11_jones vl K r0 x1 x2 z) Q := w_te0 H
theorem tc_jones {x x' : Int32} (hM : gM y) (hk : jnC y) : Te (fun K => ce_X11_jones vl K 0 x x' y) (fun r => gM r.2.2 ∧ jnC r.2.2 ∧ (∀ D, cOK D → slC y 25000 0 D → slC r.2.2 25000 0 D) ∧ (byR y 25001 → byR r.2.2 25001) ∧ fr jnP y r.2.2 ∧ ((r.1 = 0 ∧ ∃ d A sg c, d < 40 ∧ x = nI d ∧ slC y 1000 d (clC sg A) ∧ okL A c ∧ A ≠ [] ∧ jnV r.2.2 A sg c x' r.2.1) ∨ r.1 = 1 ∧ ∀ d, d < 40 → x = nI d → y.2.1 1002 d = 0)) := by
  refine e_X11_jones ?_; unfold cm_X11_jones_0
  refine w_tc0 (tc_need hM.1.1) ?_ ?_
  · rintro y1 ⟨h1, rfl⟩
    rcases h1 with ⟨-, d, A, sg, c, hd, rfl, hs, hA, hne⟩ | h1
    · obtain ⟨T, hT, hT2⟩ := hM.1.2.1 40000 nH40
      refine w_cs0 (tc_countStates ch_1000 (by omega) hd hs hA hM.1.1.1 hk hT hT2) ?_
      rintro y2 ⟨g1, g2, g3, g4, g5, g6⟩
      obtain ⟨S, G, q1, q2, q3⟩ := id g2
      refine w_cs1 (tc_jonesAt hA.2.2.2.1 q2) ?_
      rintro v z ⟨e1, e2⟩
      dsimp only at e1 e2
      rw [e2]
      exact w_some ⟨gM_jn g6 g3 hM, ⟨_, g1, (okL_c hA).2, Or.inr ⟨A, sg, c, rfl, g2⟩⟩, g4, g5, g6, Or.inl ⟨rfl, d, A, sg, c, hd, rfl, hs, hA, hne, g2, e1⟩⟩
    · exact absurd (show (0 : Nat) = 1 from h1.1) (by decide)
  · rintro a y1 ha ⟨h1, rfl⟩
    rcases h1 with ⟨h1, -⟩ | ⟨h1, h2⟩
    · exact absurd h1 ha
    · exact w_some ⟨hM, hk, fun D _ h => h, fun h => h, fr_rf, Or.inr ⟨h1, h2⟩⟩
end CJA
end
section
/-! 99zzzzzzw.ccov -/
/-! the class: cover and colours have an answer -/
def acR (g : Nat) : Prop := 42001 ≤ g ∧ g ≤ 42012
theorem ch_mat {vl : Nat → Nat} {j : Nat} (hj : j < 12) : ((cX vl).2 (41000 + 1001 + j)).2.1 = 18 := by
  have key : ∀ j, j < 12 → dynL.contains (41000 + 1001 + j) = false ∧ (cX_f (41000 + 1001 + j)).2.1 = 18 := by decide +kernel
  obtain ⟨k1, k2⟩ := key j hj
  show (if dynL.contains (41000 + 1001 + j) = true then (0, vl (41000 + 1001 + j), []) else cX_f (41000 + 1001 + j)).2.1 = 18
  rw [if_neg (by rw [k1]; decide)]
  exact k2
theorem ch_41001 {vl : Nat → Nat} : ((cX vl).2 41001).2.1 = 24 := rfl
theorem ch_41004 {vl : Nat → Nat} : ((cX vl).2 41004).2.1 = 18 := rfl
section CCV
variable {vl : Nat → Nat} {y : ow_MS} {a c : Nat}
theorem acR_a {z : ow_MS} (h : y.1 41002 = nI a) (hf : fr acR y z) : z.1 41002 = nI a := (hf 41002 (by unfold acR; omega)).1.trans h
theorem u_X0_bringLeast_6 {vl : Nat → Nat} {x1 : Int32} {x2 : Int32} {x3 : Int32} {x4 : Int32} {x7 : Int32} {x8 : Int32} {w5 : Int64} {w9 : Int64} {r0 : Nat} {z : ow_MS} {Q : (Int32 × ow_MS) → Prop} (H : Tt (fun K k => cm_X0_bringLeast_6 vl K (c_X0_bringLeast vl K k) x1 x2 x3 x4 x7 x8 w5 w9 r0 z) Q) : Tt (fun K k => c_X0_bringLeast vl K k 6 x1 x2 x3 x4 x7 x8 w5 w9 r0 z) Q := w_un (fun _ _ => rfl) H
theorem u_X0_bringLeast_5 {vl : Nat → Nat} {x1 : Int32} {x2 : Int32} {x3 : Int32} {x4 : Int32} {x7 : Int32} {x8 : Int32} {w5 : Int64} {w9 : Int64} {r0 : Nat} {z : ow_MS} {Q : (Int32 × ow_MS) → Prop} (H : Tt (fun K k => cm_X0_bringLeast_5 vl K (c_X0_bringLeast vl K k) x1 x2 x3 x4 x7 x8 w5 w9 r0 z) Q) : Tt (fun K k => c_X0_bringLeast vl K k 5 x1 x2 x3 x4 x7 x8 w5 w9 r0 z) Q := w_un (fun _ _ => rfl) H
theorem u_X0_bringLeast_1 {vl : Nat → Nat} {x1 : Int32} {x2 : Int32} {x3 : Int32} {x4 : Int32} {x7 : Int32} {x8 : Int32} {w5 : Int64} {w9 : Int64} {r0 : Nat} {z : ow_MS} {Q : (Int32 × ow_MS) → Prop} (H : Tt (fun K k => cm_X0_bringLeast_1 vl K (c_X0_bringLeast vl K k) x1 x2 x3 x4 x7 x8 w5 w9 r0 z) Q) : Tt (fun K k => c_X0_bringLeast vl K k 1 x1 x2 x3 x4 x7 x8 w5 w9 r0 z) Q := w_un (fun _ _ => rfl) H
theorem u_X0_bringLeast_2 {vl : Nat → Nat} {x1 : Int32} {x2 : Int32} {x3 : Int32} {x4 : Int32} {x7 : Int32} {x8 : Int32} {w5 : Int64} {w9 : Int64} {r0 : Nat} {z : ow_MS} {Q : (Int32 × ow_MS) → Prop} (H : Tt (fun K k => cm_X0_bringLeast_2 vl K (c_X0_bringLeast vl K k) x1 x2 x3 x4 x7 x8 w5 w9 r0 z) Q) : Tt (fun K k => c_X0_bringLeast vl K k 2 x1 x2 x3 x4 x7 x8 w5 w9 r0 z) Q := w_un (fun _ _ => rfl) H
theorem u_X0_bringLeast_4 {vl : Nat → Nat} {x1 : Int32} {x2 : Int32} {x3 : Int32} {x4 : Int32} {x7 : Int32} {x8 : Int32} {w5 : Int64} {w9 : Int64} {r0 : Nat} {z : ow_MS} {Q : (Int32 × ow_MS) → Prop} (H : Tt (fun K k => cm_X0_bringLeast_4 vl K (c_X0_bringLeast vl K k) x1 x2 x3 x4 x7 x8 w5 w9 r0 z) Q) : Tt (fun K k => c_X0_bringLeast vl K k 4 x1 x2 x3 x4 x7 x8 w5 w9 r0 z) Q := w_un (fun _ _ => rfl) H
theorem u_X0_bringLeast_3 {vl : Nat → Nat} {x1 : Int32} {x2 : Int32} {x3 : Int32} {x4 : Int32} {x7 : Int32} {x8 : Int32} {w5 : Int64} {w9 : Int64} {r0 : Nat} {z : ow_MS} {Q : (Int32 × ow_MS) → Prop} (H : Tt (fun K k => cm_X0_bringLeast_3 vl K (c_X0_bringLeast vl K k) x1 x2 x3 x4 x7 x8 w5 w9 r0 z) Q) : Tt (fun K k => c_X0_bringLeast vl K k 3 x1 x2 x3 x4 x7 x8 w5 w9 r0 z) Q := w_un (fun _ _ => rfl) H
theorem e_X0_bringLeast {vl : Nat → Nat} {r0 : Nat} {x1 : Int32} {x2 : Int32} {z : ow_MS} {Q : (Int32 × ow_MS) → Prop} (H : Tt (fun K k => c_X0_bringLeast vl K k 0 x1 x2 0 0 0 0 0 0 r0 z) Q) : Te (fun K => ce_X0_bringLeast vl K r0 x1 x2 z) Q := w_te H
theorem u_X0_bringLeast_0 {vl : Nat → Nat} {x1 : Int32} {x2 : Int32} {x3 : Int32} {x4 : Int32} {x7 : Int32} {x8 : Int32} {w5 : Int64} {w9 : Int64} {r0 : Nat} {z : ow_MS} {Q : (Int32 × ow_MS) → Prop} (H : Tt (fun K k => cm_X0_bringLeast_0 vl K (c_X0_bringLeast vl K k) x1 x2 x3 x4 x7 x8 w5 w9 r0 z) Q) : Tt (fun K k => c_X0_bringLeast vl K k 0 x1 x2 x3 x4 x7 x8 w5 w9 r0 z) Q := w_un (fun _ _ => rfl) H
theorem tc_bring {t : Nat} (hc : c ≤ 12) (ha : y.1 41002 = nI a) (a18 : a ≤ 18) (htc : t < c) (hta : t < a) : Te (fun K => ce_X0_bringLeast vl K 41000 (nI t) (nI c) y) (fun r => (r.1 = 0 ∨ r.1 = 1) ∧ fr acR y r.2) := by
  let Q : Int32 × ow_MS → Prop := fun r => (r.1 = 0 ∨ r.1 = 1) ∧ fr acR y r.2
  have c6 : ∀ (i : Nat) (d x : Nat) (x3 : Int32) (w5 : Int64) (z : ow_MS), x + d = c → i < a → fr acR y z → Tt (fun K k => c_X0_bringLeast vl K k 6 (nI t) (nI c) x3 (nI i) (nI x) 0 w5 0 41000 z) Q := by
    intro i d
    induction d with
    | zero =>
      intro x x3 w5 z hx hi hf
      refine u_X0_bringLeast_6 ?_; unfold cm_X0_bringLeast_6
      exact w_leT (by omega) (by omega) (w_okZ (Or.inr rfl) (w_some ⟨Or.inr rfl, hf⟩))
    | succ d ih =>
      intro x x3 w5 z hx hi hf
      refine u_X0_bringLeast_6 ?_; unfold cm_X0_bringLeast_6
      refine w_leF (by omega) (by omega) (w_crX rfl (show x < 12 by omega) (w_crJ (ch_mat (show x < 12 by omega)) rfl (show t < 18 by omega) rfl (w_crX rfl (show x < 12 by omega) (w_crX rfl (show x < 12 by omega) (w_crJ (ch_mat (show x < 12 by omega)) rfl (show i < 18 by omega) rfl (w_ctJ (ch_mat (show x < 12 by omega)) rfl (show t < 18 by omega) (w_crX rfl (show x < 12 by omega) (w_ctJ (ch_mat (show x < 12 by omega)) rfl (show i < 18 by omega) ?_))))))))
      rw [nI_1]
      exact ih (x + 1) x3 w5 _ (by omega) hi (fr_J2 (fr_J2 hf (by unfold acR; omega)) (by unfold acR; omega))
  have c5 : ∀ (r i : Nat) (d x : Nat) (w5 : Int64) (z : ow_MS), x + d = a → r < c → i < a → fr acR y z → Tt (fun K k => c_X0_bringLeast vl K k 5 (nI t) (nI c) (nI r) (nI i) (nI x) 0 w5 0 41000 z) Q := by
    intro r i d
    induction d with
    | zero =>
      intro x w5 z hx hr hi hf
      refine u_X0_bringLeast_5 ?_; unfold cm_X0_bringLeast_5
      exact w_rdF (acR_a ha hf) (w_leT (by omega) (by omega) (c6 i c 0 _ w5 z (by omega) hi hf))
    | succ d ih =>
      intro x w5 z hx hr hi hf
      refine u_X0_bringLeast_5 ?_; unfold cm_X0_bringLeast_5
      refine w_rdF (acR_a ha hf) (w_leF (by omega) (by omega) (w_crX rfl (show t < 12 by omega) (w_crJ (ch_mat (show t < 12 by omega)) rfl (show x < 18 by omega) rfl (w_crX rfl (show t < 12 by omega) (w_crX rfl (show r < 12 by omega) (w_crJ (ch_mat (show r < 12 by omega)) rfl (show x < 18 by omega) rfl (w_ctJ (ch_mat (show t < 12 by omega)) rfl (show x < 18 by omega) (w_crX rfl (show r < 12 by omega) (w_ctJ (ch_mat (show r < 12 by omega)) rfl (show x < 18 by omega) ?_)))))))))
      rw [nI_1]
      exact ih (x + 1) w5 _ (by omega) hr hi (fr_J2 (fr_J2 hf (by unfold acR; omega)) (by unfold acR; omega))
  have c1 : ∀ (d r : Nat) (x3 x4 : Int32) (w5 : Int64), r + d = c → t ≤ r → (x3 = -1 ∨ ∃ r' i', r' < c ∧ i' < a ∧ x3 = nI r' ∧ x4 = nI i') → Tt (fun K k => c_X0_bringLeast vl K k 1 (nI t) (nI c) x3 x4 (nI r) 0 w5 0 41000 y) Q := by
    intro d
    induction d with
    | zero =>
      intro r x3 x4 w5 hr htr h3
      refine u_X0_bringLeast_1 ?_; unfold cm_X0_bringLeast_1
      refine w_leT (by omega) (by omega) ?_
      rcases h3 with rfl | ⟨r', i', h1, h2, rfl, rfl⟩
      · exact w_ifT rfl (w_okZ (Or.inl rfl) (w_some ⟨Or.inl rfl, fr_rf⟩))
      · exact w_if (fun _ => w_okZ (Or.inl rfl) (w_some ⟨Or.inl rfl, fr_rf⟩)) (fun _ => c5 r' i' a 0 w5 y (by omega) h1 h2 fr_rf)
    | succ d ih =>
      intro r x3 x4 w5 hr htr h3
      have c2 : ∀ (e i : Nat) (x3 x4 : Int32) (w5 : Int64), i + e = a → (x3 = -1 ∨ ∃ r' i', r' < c ∧ i' < a ∧ x3 = nI r' ∧ x4 = nI i') → Tt (fun K k => c_X0_bringLeast vl K k 2 (nI t) (nI c) x3 x4 (nI r) (nI i) w5 0 41000 y) Q := by
        intro e
        induction e with
        | zero =>
          intro i x3 x4 w5 hi h3
          refine u_X0_bringLeast_2 ?_; unfold cm_X0_bringLeast_2
          rw [nI_1]
          exact w_rdF ha (w_leT (by omega) (by omega) (ih (r + 1) x3 x4 w5 (by omega) (by omega) h3))
        | succ e ihe =>
          intro i x3 x4 w5 hi h3
          have c4 : ∀ (x3 x4 : Int32) (w5 w9 : Int64), (x3 = -1 ∨ ∃ r' i', r' < c ∧ i' < a ∧ x3 = nI r' ∧ x4 = nI i') → Tt (fun K k => c_X0_bringLeast vl K k 4 (nI t) (nI c) x3 x4 (nI r) (nI i) w5 w9 41000 y) Q := by
            intro x3 x4 w5 w9 h3
            refine u_X0_bringLeast_4 ?_; unfold cm_X0_bringLeast_4
            rw [nI_1]
            exact ihe (i + 1) x3 x4 w5 (by omega) h3
          have c3 : ∀ (x3 x4 : Int32) (w5 w9 : Int64), Tt (fun K k => c_X0_bringLeast vl K k 3 (nI t) (nI c) x3 x4 (nI r) (nI i) w5 w9 41000 y) Q := by
            intro x3 x4 w5 w9
            refine u_X0_bringLeast_3 ?_; unfold cm_X0_bringLeast_3
            exact c4 _ _ _ _ (Or.inr ⟨r, i, by omega, by omega, rfl, rfl⟩)
          refine u_X0_bringLeast_2 ?_; unfold cm_X0_bringLeast_2
          exact w_rdF ha (w_leF (by omega) (by omega) (w_crX rfl (show r < 12 by omega) (w_crJ (ch_mat (show r < 12 by omega)) rfl (show i < 18 by omega) rfl (w_if (fun _ => c4 _ _ _ _ h3) (fun _ => w_if (fun _ => c3 _ _ _ _) (fun _ => w_if (fun _ => c4 _ _ _ _ h3) (fun _ => c3 _ _ _ _)))))))
      refine u_X0_bringLeast_1 ?_; unfold cm_X0_bringLeast_1
      exact w_leF (by omega) (by omega) (c2 (a - t) t x3 x4 w5 (by omega) h3)
  refine e_X0_bringLeast ?_
  refine u_X0_bringLeast_0 ?_; unfold cm_X0_bringLeast_0
  exact c1 (c - t) t (-1) (-1) 0 (by omega) (by omega) (Or.inl rfl)
theorem and01 {a b : Int32} (ha : a = 0 ∨ a = 1) (hb : b = 0 ∨ b = 1) : (a &&& b) = 0 ∨ (a &&& b) = 1 := by
  rcases ha with rfl | rfl <;> rcases hb with rfl | rfl <;> decide
theorem lgc0 {x : Int64} (h : ¬ lg_cmp x 0 = 0) : x ≠ 0 := fun e => h (by rw [e]; decide)
theorem u_X0_clearCross_5 {vl : Nat → Nat} {x1 : Int32} {x2 : Int32} {x5 : Int32} {x6 : Int32} {x9 : Int32} {w3 : Int64} {w7 : Int64} {r0 : Nat} {t0 : Int32} {t1 : Int32} {z : ow_MS} {Q : (Int32 × ow_MS) → Prop} (H : Tt (fun K k => cm_X0_clearCross_5 vl K (c_X0_clearCross vl K k) x1 x2 x5 x6 x9 w3 w7 r0 t0 t1 z) Q) : Tt (fun K k => c_X0_clearCross vl K k 5 x1 x2 x5 x6 x9 w3 w7 r0 t0 t1 z) Q := w_un (fun _ _ => rfl) H
theorem u_X0_clearCross_8 {vl : Nat → Nat} {x1 : Int32} {x2 : Int32} {x5 : Int32} {x6 : Int32} {x9 : Int32} {w3 : Int64} {w7 : Int64} {r0 : Nat} {t0 : Int32} {t1 : Int32} {z : ow_MS} {Q : (Int32 × ow_MS) → Prop} (H : Tt (fun K k => cm_X0_clearCross_8 vl K (c_X0_clearCross vl K k) x1 x2 x5 x6 x9 w3 w7 r0 t0 t1 z) Q) : Tt (fun K k => c_X0_clearCross vl K k 8 x1 x2 x5 x6 x9 w3 w7 r0 t0 t1 z) Q := w_un (fun _ _ => rfl) H
theorem u_X0_clearCross_7 {vl : Nat → Nat} {x1 : Int32} {x2 : Int32} {x5 : Int32} {x6 : Int32} {x9 : Int32} {w3 : Int64} {w7 : Int64} {r0 : Nat} {t0 : Int32} {t1 : Int32} {z : ow_MS} {Q : (Int32 × ow_MS) → Prop} (H : Tt (fun K k => cm_X0_clearCross_7 vl K (c_X0_clearCross vl K k) x1 x2 x5 x6 x9 w3 w7 r0 t0 t1 z) Q) : Tt (fun K k => c_X0_clearCross vl K k 7 x1 x2 x5 x6 x9 w3 w7 r0 t0 t1 z) Q := w_un (fun _ _ => rfl) H
theorem u_X0_clearCross_6 {vl : Nat → Nat} {x1 : Int32} {x2 : Int32} {x5 : Int32} {x6 : Int32} {x9 : Int32} {w3 : Int64} {w7 : Int64} {r0 : Nat} {t0 : Int32} {t1 : Int32} {z : ow_MS} {Q : (Int32 × ow_MS) → Prop} (H : Tt (fun K k => cm_X0_clearCross_6 vl K (c_X0_clearCross vl K k) x1 x2 x5 x6 x9 w3 w7 r0 t0 t1 z) Q) : Tt (fun K k => c_X0_clearCross vl K k 6 x1 x2 x5 x6 x9 w3 w7 r0 t0 t1 z) Q := w_un (fun _ _ => rfl) H
theorem u_X0_clearCross_1 {vl : Nat → Nat} {x1 : Int32} {x2 : Int32} {x5 : Int32} {x6 : Int32} {x9 : Int32} {w3 : Int64} {w7 : Int64} {r0 : Nat} {t0 : Int32} {t1 : Int32} {z : ow_MS} {Q : (Int32 × ow_MS) → Prop} (H : Tt (fun K k => cm_X0_clearCross_1 vl K (c_X0_clearCross vl K k) x1 x2 x5 x6 x9 w3 w7 r0 t0 t1 z) Q) : Tt (fun K k => c_X0_clearCross vl K k 1 x1 x2 x5 x6 x9 w3 w7 r0 t0 t1 z) Q := w_un (fun _ _ => rfl) H
theorem u_X0_clearCross_4 {vl : Nat → Nat} {x1 : Int32} {x2 : Int32} {x5 : Int32} {x6 : Int32} {x9 : Int32} {w3 : Int64} {w7 : Int64} {r0 : Nat} {t0 : Int32} {t1 : Int32} {z : ow_MS} {Q : (Int32 × ow_MS) → Prop} (H : Tt (fun K k => cm_X0_clearCross_4 vl K (c_X0_clearCross vl K k) x1 x2 x5 x6 x9 w3 w7 r0 t0 t1 z) Q) : Tt (fun K k => c_X0_clearCross vl K k 4 x1 x2 x5 x6 x9 w3 w7 r0 t0 t1 z) Q := w_un (fun _ _ => rfl) H
theorem u_X0_clearCross_3 {vl : Nat → Nat} {x1 : Int32} {x2 : Int32} {x5 : Int32} {x6 : Int32} {x9 : Int32} {w3 : Int64} {w7 : Int64} {r0 : Nat} {t0 : Int32} {t1 : Int32} {z : ow_MS} {Q : (Int32 × ow_MS) → Prop} (H : Tt (fun K k => cm_X0_clearCross_3 vl K (c_X0_clearCross vl K k) x1 x2 x5 x6 x9 w3 w7 r0 t0 t1 z) Q) : Tt (fun K k => c_X0_clearCross vl K k 3 x1 x2 x5 x6 x9 w3 w7 r0 t0 t1 z) Q := w_un (fun _ _ => rfl) H
theorem u_X0_clearCross_2 {vl : Nat → Nat} {x1 : Int32} {x2 : Int32} {x5 : Int32} {x6 : Int32} {x9 : Int32} {w3 : Int64} {w7 : Int64} {r0 : Nat} {t0 : Int32} {t1 : Int32} {z : ow_MS} {Q : (Int32 × ow_MS) → Prop} (H : Tt (fun K k => cm_X0_clearCross_2 vl K (c_X0_clearCross vl K k) x1 x2 x5 x6 x9 w3 w7 r0 t0 t1 z) Q) : Tt (fun K k => c_X0_clearCross vl K k 2 x1 x2 x5 x6 x9 w3 w7 r0 t0 t1 z) Q := w_un (fun _ _ => rfl) H
theorem e_X0_clearCross {vl : Nat → Nat} {r0 : Nat} {x1 : Int32} {x2 : Int32} {z : ow_MS} {Q : (Int32 × ow_MS) → Prop} (H : Tt (fun K k => c_X0_clearCross vl K k 0 x1 x2 0 0 0 0 0 r0 0 0 z) Q) : Te (fun K => ce_X0_clearCross vl K r0 x1 x2 z) Q := w_te H
theorem u_X0_clearCross_0 {vl : Nat → Nat} {x1 : Int32} {x2 : Int32} {x5 : Int32} {x6 : Int32} {x9 : Int32} {w3 : Int64} {w7 : Int64} {r0 : Nat} {t0 : Int32} {t1 : Int32} {z : ow_MS} {Q : (Int32 × ow_MS) → Prop} (H : Tt (fun K k => cm_X0_clearCross_0 vl K (c_X0_clearCross vl K k) x1 x2 x5 x6 x9 w3 w7 r0 t0 t1 z) Q) : Tt (fun K k => c_X0_clearCross vl K k 0 x1 x2 x5 x6 x9 w3 w7 r0 t0 t1 z) Q := w_un (fun _ _ => rfl) H
theorem tc_clear {t : Nat} (hc : c ≤ 12) (ha : y.1 41002 = nI a) (a18 : a ≤ 18) (htc : t < c) (hta : t < a) : Te (fun K => ce_X0_clearCross vl K 41000 (nI t) (nI c) y) (fun r => (r.1 = 0 ∨ r.1 = 1) ∧ fr acR y r.2) := by
  let Q : Int32 × ow_MS → Prop := fun r => (r.1 = 0 ∨ r.1 = 1) ∧ fr acR y r.2
  have c5 : ∀ (w3 : Int64), w3 ≠ 0 → ∀ (d i : Nat) (x5 : Int32) (z : ow_MS), i + d = a → t < i → (x5 = 0 ∨ x5 = 1) → fr acR y z → Tt (fun K k => c_X0_clearCross vl K k 5 (nI t) (nI c) x5 (nI i) 0 w3 0 41000 0 0 z) Q := by
    intro w3 hw d
    induction d with
    | zero =>
      intro i x5 z hi hti h5 hf
      refine u_X0_clearCross_5 ?_; unfold cm_X0_clearCross_5
      exact w_rdF (acR_a ha hf) (w_leT (by omega) (by omega) (w_okZ h5 (w_some ⟨h5, hf⟩)))
    | succ d ih =>
      intro i x5 z hi hti h5 hf
      have c8 : ∀ (t0 : Int32) (x9 : Int32) (w7 : Int64) (z : ow_MS), (t0 = 0 ∨ t0 = 1) → fr acR y z → Tt (fun K k => c_X0_clearCross vl K k 8 (nI t) (nI c) x5 (nI i) x9 w3 w7 41000 t0 x5 z) Q := by
        intro t0 x9 w7 z h0 hf
        refine u_X0_clearCross_8 ?_; unfold cm_X0_clearCross_8
        rw [nI_1]
        exact ih (i + 1) _ z (by omega) (by omega) (and01 h5 h0) hf
      have c7 : ∀ (x9 : Int32) (w7 : Int64) (z : ow_MS), fr acR y z → Tt (fun K k => c_X0_clearCross vl K k 7 (nI t) (nI c) x5 (nI i) x9 w3 w7 41000 0 0 z) Q := by
        intro x9 w7 z hf
        refine u_X0_clearCross_7 ?_; unfold cm_X0_clearCross_7
        exact w_crX rfl (show t < 12 by omega) (w_crJ (ch_mat (show t < 12 by omega)) rfl (show i < 18 by omega) rfl (w_if (fun _ => c8 1 _ _ z (Or.inr rfl) hf) (fun _ => c8 0 _ _ z (Or.inl rfl) hf)))
      have c6 : ∀ (w7 : Int64) (e r : Nat) (z : ow_MS), r + e = c → fr acR y z → Tt (fun K k => c_X0_clearCross vl K k 6 (nI t) (nI c) x5 (nI i) (nI r) w3 w7 41000 0 0 z) Q := by
        intro w7 e
        induction e with
        | zero =>
          intro r z hr hf
          refine u_X0_clearCross_6 ?_; unfold cm_X0_clearCross_6
          exact w_leT (by omega) (by omega) (c7 _ _ z hf)
        | succ e ihe =>
          intro r z hr hf
          refine u_X0_clearCross_6 ?_; unfold cm_X0_clearCross_6
          refine w_leF (by omega) (by omega) (w_if (fun _ => c7 _ _ z hf) (fun _ => w_crX rfl (show r < 12 by omega) (w_crJ (ch_mat (show r < 12 by omega)) rfl (show i < 18 by omega) rfl (w_crX rfl (show r < 12 by omega) (w_crJ (ch_mat (show r < 12 by omega)) rfl (show t < 18 by omega) rfl (w_ctJ (ch_mat (show r < 12 by omega)) rfl (show i < 18 by omega) ?_))))))
          rw [nI_1]
          exact ihe (r + 1) _ (by omega) (fr_J2 hf (by unfold acR; omega))
      refine u_X0_clearCross_5 ?_; unfold cm_X0_clearCross_5
      exact w_rdF (acR_a ha hf) (w_leF (by omega) (by omega) (w_crX rfl (show t < 12 by omega) (w_crJ (ch_mat (show t < 12 by omega)) rfl (show i < 18 by omega) rfl (w_nzJ hw (c6 _ (c - t) t z (by omega) hf)))))
  have c1 : ∀ (w3 : Int64), w3 ≠ 0 → ∀ (d r : Nat) (x5 : Int32) (z : ow_MS), r + d = c → t < r → (x5 = 0 ∨ x5 = 1) → fr acR y z → Tt (fun K k => c_X0_clearCross vl K k 1 (nI t) (nI c) x5 (nI r) 0 w3 0 41000 0 0 z) Q := by
    intro w3 hw d
    induction d with
    | zero =>
      intro r x5 z hr htr h5 hf
      refine u_X0_clearCross_1 ?_; unfold cm_X0_clearCross_1
      rw [nI_1]
      exact w_leT (by omega) (by omega) (c5 w3 hw (a - (t + 1)) (t + 1) x5 z (by omega) (by omega) h5 hf)
    | succ d ih =>
      intro r x5 z hr htr h5 hf
      have c4 : ∀ (t0 : Int32) (x9 : Int32) (w7 : Int64) (z : ow_MS), (t0 = 0 ∨ t0 = 1) → fr acR y z → Tt (fun K k => c_X0_clearCross vl K k 4 (nI t) (nI c) x5 (nI r) x9 w3 w7 41000 t0 x5 z) Q := by
        intro t0 x9 w7 z h0 hf
        refine u_X0_clearCross_4 ?_; unfold cm_X0_clearCross_4
        rw [nI_1]
        exact ih (r + 1) _ z (by omega) (by omega) (and01 h5 h0) hf
      have c3 : ∀ (x9 : Int32) (w7 : Int64) (z : ow_MS), fr acR y z → Tt (fun K k => c_X0_clearCross vl K k 3 (nI t) (nI c) x5 (nI r) x9 w3 w7 41000 0 0 z) Q := by
        intro x9 w7 z hf
        refine u_X0_clearCross_3 ?_; unfold cm_X0_clearCross_3
        exact w_crX rfl (show r < 12 by omega) (w_crJ (ch_mat (show r < 12 by omega)) rfl (show t < 18 by omega) rfl (w_if (fun _ => c4 1 _ _ z (Or.inr rfl) hf) (fun _ => c4 0 _ _ z (Or.inl rfl) hf)))
      have c2 : ∀ (w7 : Int64) (e i : Nat) (z : ow_MS), i + e = a → fr acR y z → Tt (fun K k => c_X0_clearCross vl K k 2 (nI t) (nI c) x5 (nI r) (nI i) w3 w7 41000 0 0 z) Q := by
        intro w7 e
        induction e with
        | zero =>
          intro i z hi hf
          refine u_X0_clearCross_2 ?_; unfold cm_X0_clearCross_2
          exact w_rdF (acR_a ha hf) (w_leT (by omega) (by omega) (c3 _ _ z hf))
        | succ e ihe =>
          intro i z hi hf
          refine u_X0_clearCross_2 ?_; unfold cm_X0_clearCross_2
          refine w_rdF (acR_a ha hf) (w_leF (by omega) (by omega) (w_if (fun _ => c3 _ _ z hf) (fun _ => w_crX rfl (show r < 12 by omega) (w_crJ (ch_mat (show r < 12 by omega)) rfl (show i < 18 by omega) rfl (w_crX rfl (show t < 12 by omega) (w_crJ (ch_mat (show t < 12 by omega)) rfl (show i < 18 by omega) rfl (w_ctJ (ch_mat (show r < 12 by omega)) rfl (show i < 18 by omega) ?_)))))))
          rw [nI_1]
          exact ihe (i + 1) _ (by omega) (fr_J2 hf (by unfold acR; omega))
      refine u_X0_clearCross_1 ?_; unfold cm_X0_clearCross_1
      exact w_leF (by omega) (by omega) (w_crX rfl (show r < 12 by omega) (w_crJ (ch_mat (show r < 12 by omega)) rfl (show t < 18 by omega) rfl (w_nzJ hw (c2 _ (a - t) t z (by omega) hf))))
  refine e_X0_clearCross ?_
  refine u_X0_clearCross_0 ?_; unfold cm_X0_clearCross_0
  refine w_crX rfl (show t < 12 by omega) (w_crJ (ch_mat (show t < 12 by omega)) rfl (show t < 18 by omega) rfl (w_if (fun _ => w_okZ (Or.inl rfl) (w_some ⟨Or.inl rfl, fr_rf⟩)) (fun h0 => ?_)))
  rw [nI_1]
  exact c1 _ (lgc0 h0) (c - (t + 1)) (t + 1) 1 y (by omega) (by omega) (Or.inr rfl) fr_rf
theorem u_X0_undivided_1 {vl : Nat → Nat} {x1 : Int32} {x2 : Int32} {x5 : Int32} {x6 : Int32} {w3 : Int64} {r0 : Nat} {z : ow_MS} {Q : (Int32 × ow_MS) → Prop} (H : Tt (fun K k => cm_X0_undivided_1 vl K (c_X0_undivided vl K k) x1 x2 x5 x6 w3 r0 z) Q) : Tt (fun K k => c_X0_undivided vl K k 1 x1 x2 x5 x6 w3 r0 z) Q := w_un (fun _ _ => rfl) H
theorem u_X0_undivided_2 {vl : Nat → Nat} {x1 : Int32} {x2 : Int32} {x5 : Int32} {x6 : Int32} {w3 : Int64} {r0 : Nat} {z : ow_MS} {Q : (Int32 × ow_MS) → Prop} (H : Tt (fun K k => cm_X0_undivided_2 vl K (c_X0_undivided vl K k) x1 x2 x5 x6 w3 r0 z) Q) : Tt (fun K k => c_X0_undivided vl K k 2 x1 x2 x5 x6 w3 r0 z) Q := w_un (fun _ _ => rfl) H
theorem e_X0_undivided {vl : Nat → Nat} {r0 : Nat} {x1 : Int32} {x2 : Int32} {z : ow_MS} {Q : (Int32 × ow_MS) → Prop} (H : Tt (fun K k => c_X0_undivided vl K k 0 x1 x2 0 0 0 r0 z) Q) : Te (fun K => ce_X0_undivided vl K r0 x1 x2 z) Q := w_te H
theorem u_X0_undivided_0 {vl : Nat → Nat} {x1 : Int32} {x2 : Int32} {x5 : Int32} {x6 : Int32} {w3 : Int64} {r0 : Nat} {z : ow_MS} {Q : (Int32 × ow_MS) → Prop} (H : Tt (fun K k => cm_X0_undivided_0 vl K (c_X0_undivided vl K k) x1 x2 x5 x6 w3 r0 z) Q) : Tt (fun K k => c_X0_undivided vl K k 0 x1 x2 x5 x6 w3 r0 z) Q := w_un (fun _ _ => rfl) H
theorem tc_undiv {t : Nat} (hc : c ≤ 12) (ha : y.1 41002 = nI a) (a18 : a ≤ 18) (htc : t < c) (hta : t < a) : Te (fun K => ce_X0_undivided vl K 41000 (nI t) (nI c) y) (fun r => (r.1 = -1 ∨ ∃ i, i < c ∧ r.1 = nI i) ∧ r.2 = y) := by
  let Q : Int32 × ow_MS → Prop := fun r => (r.1 = -1 ∨ ∃ i, i < c ∧ r.1 = nI i) ∧ r.2 = y
  have c1 : ∀ (w3 : Int64) (d r : Nat), r + d = c → Tt (fun K k => c_X0_undivided vl K k 1 (nI t) (nI c) (nI r) 0 w3 41000 y) Q := by
    intro w3 d
    induction d with
    | zero =>
      intro r hr
      refine u_X0_undivided_1 ?_; unfold cm_X0_undivided_1
      exact w_leT (by omega) (by omega) (w_some ⟨Or.inl rfl, rfl⟩)
    | succ d ih =>
      intro r hr
      have c2 : w3 ≠ 0 → ∀ (e i : Nat), i + e = a → Tt (fun K k => c_X0_undivided vl K k 2 (nI t) (nI c) (nI r) (nI i) w3 41000 y) Q := by
        intro hw e
        induction e with
        | zero =>
          intro i hi
          refine u_X0_undivided_2 ?_; unfold cm_X0_undivided_2
          rw [nI_1]
          exact w_rdF ha (w_leT (by omega) (by omega) (ih (r + 1) (by omega)))
        | succ e ihe =>
          intro i hi
          refine u_X0_undivided_2 ?_; unfold cm_X0_undivided_2
          rw [nI_1, nI_1]
          exact w_rdF ha (w_leF (by omega) (by omega) (w_crX rfl (show r < 12 by omega) (w_crJ (ch_mat (show r < 12 by omega)) rfl (show i < 18 by omega) rfl (w_nzJ hw (w_if (fun _ => ihe (i + 1) (by omega)) (fun _ => w_some ⟨Or.inr ⟨r, by omega, rfl⟩, rfl⟩))))))
      refine u_X0_undivided_1 ?_; unfold cm_X0_undivided_1
      rw [nI_1]
      exact w_leF (by omega) (by omega) (w_if (fun _ => w_some ⟨Or.inl rfl, rfl⟩) (fun h0 => c2 (lgc0 h0) (a - (t + 1)) (t + 1) (by omega)))
  refine e_X0_undivided ?_
  refine u_X0_undivided_0 ?_; unfold cm_X0_undivided_0
  rw [nI_1]
  exact w_crX rfl (show t < 12 by omega) (w_crJ (ch_mat (show t < 12 by omega)) rfl (show t < 18 by omega) rfl (c1 _ (c - (t + 1)) (t + 1) (by omega)))
theorem u_X0_isolate_1 {vl : Nat → Nat} {x1 : Int32} {x2 : Int32} {x3 : Int32} {x4 : Int32} {x5 : Int32} {r0 : Nat} {z : ow_MS} {Q : (Int32 × ow_MS) → Prop} (H : Tt (fun K k => cm_X0_isolate_1 vl K (c_X0_isolate vl K k) x1 x2 x3 x4 x5 r0 z) Q) : Tt (fun K k => c_X0_isolate vl K k 1 x1 x2 x3 x4 x5 r0 z) Q := w_un (fun _ _ => rfl) H
theorem u_X0_isolate_3 {vl : Nat → Nat} {x1 : Int32} {x2 : Int32} {x3 : Int32} {x4 : Int32} {x5 : Int32} {r0 : Nat} {z : ow_MS} {Q : (Int32 × ow_MS) → Prop} (H : Tt (fun K k => cm_X0_isolate_3 vl K (c_X0_isolate vl K k) x1 x2 x3 x4 x5 r0 z) Q) : Tt (fun K k => c_X0_isolate vl K k 3 x1 x2 x3 x4 x5 r0 z) Q := w_un (fun _ _ => rfl) H
theorem u_X0_isolate_2 {vl : Nat → Nat} {x1 : Int32} {x2 : Int32} {x3 : Int32} {x4 : Int32} {x5 : Int32} {r0 : Nat} {z : ow_MS} {Q : (Int32 × ow_MS) → Prop} (H : Tt (fun K k => cm_X0_isolate_2 vl K (c_X0_isolate vl K k) x1 x2 x3 x4 x5 r0 z) Q) : Tt (fun K k => c_X0_isolate vl K k 2 x1 x2 x3 x4 x5 r0 z) Q := w_un (fun _ _ => rfl) H
theorem e_X0_isolate {vl : Nat → Nat} {r0 : Nat} {x1 : Int32} {x2 : Int32} {z : ow_MS} {Q : (Int32 × ow_MS) → Prop} (H : Tt (fun K k => c_X0_isolate vl K k 0 x1 x2 0 0 0 r0 z) Q) : Te (fun K => ce_X0_isolate vl K r0 x1 x2 z) Q := w_te H
theorem u_X0_isolate_0 {vl : Nat → Nat} {x1 : Int32} {x2 : Int32} {x3 : Int32} {x4 : Int32} {x5 : Int32} {r0 : Nat} {z : ow_MS} {Q : (Int32 × ow_MS) → Prop} (H : Tt (fun K k => cm_X0_isolate_0 vl K (c_X0_isolate vl K k) x1 x2 x3 x4 x5 r0 z) Q) : Tt (fun K k => c_X0_isolate vl K k 0 x1 x2 x3 x4 x5 r0 z) Q := w_un (fun _ _ => rfl) H
theorem tc_isol {t : Nat} (hc : c ≤ 12) (ha : y.1 41002 = nI a) (a18 : a ≤ 18) (htc : t < c) (hta : t < a) : Te (fun K => ce_X0_isolate vl K 41000 (nI t) (nI c) y) (fun r => (r.1 = 0 ∨ r.1 = 1) ∧ fr acR y r.2) := by
  let Q : Int32 × ow_MS → Prop := fun r => (r.1 = 0 ∨ r.1 = 1) ∧ fr acR y r.2
  have c1 : ∀ (d i : Nat) (z : ow_MS), i + d = 1000 → fr acR y z → Tt (fun K k => c_X0_isolate vl K k 1 (nI t) (nI c) (nI i) 0 0 41000 z) Q := by
    intro d
    induction d with
    | zero =>
      intro i z hi hf
      refine u_X0_isolate_1 ?_; unfold cm_X0_isolate_1
      exact w_leT (a := 1000) (by omega) (by omega) (w_okZ (Or.inr rfl) (w_some ⟨Or.inr rfl, hf⟩))
    | succ d ih =>
      intro i z hi hf
      have c3 : ∀ (z : ow_MS), fr acR y z → Tt (fun K k => c_X0_isolate vl K k 3 (nI t) (nI c) (nI i) 0 0 41000 z) Q := by
        intro z hf
        refine u_X0_isolate_3 ?_; unfold cm_X0_isolate_3
        rw [nI_1]
        exact ih (i + 1) z (by omega) hf
      have c2 : ∀ (r : Nat), r < c → ∀ (e j : Nat) (z : ow_MS), j + e = a → fr acR y z → Tt (fun K k => c_X0_isolate vl K k 2 (nI t) (nI c) (nI i) (nI r) (nI j) 41000 z) Q := by
        intro r hr e
        induction e with
        | zero =>
          intro j z hj hf
          refine u_X0_isolate_2 ?_; unfold cm_X0_isolate_2
          refine w_rdF (acR_a ha hf) (w_leT (by omega) (by omega) (w_cs1 (tc_clear hc (acR_a ha hf) a18 htc hta) ?_))
          rintro v z1 ⟨-, f1⟩
          exact c3 z1 (fr_tr hf f1)
        | succ e ihe =>
          intro j z hj hf
          refine u_X0_isolate_2 ?_; unfold cm_X0_isolate_2
          refine w_rdF (acR_a ha hf) (w_leF (by omega) (by omega) (w_crX rfl (show t < 12 by omega) (w_crJ (ch_mat (show t < 12 by omega)) rfl (show j < 18 by omega) rfl (w_crX rfl (show r < 12 by omega) (w_crJ (ch_mat (show r < 12 by omega)) rfl (show j < 18 by omega) rfl (w_ctJ (ch_mat (show t < 12 by omega)) rfl (show j < 18 by omega) ?_))))))
          rw [nI_1]
          exact ihe (j + 1) _ (by omega) (fr_J2 hf (by unfold acR; omega))
      refine u_X0_isolate_1 ?_; unfold cm_X0_isolate_1
      refine w_leF (a := 1000) (by omega) (by omega) (w_cs1 (tc_bring hc (acR_a ha hf) a18 htc hta) ?_)
      rintro v z1 ⟨-, f1⟩
      have f01 := fr_tr hf f1
      dsimp only at f01
      refine w_if (fun _ => w_okZ (Or.inl rfl) (w_some ⟨Or.inl rfl, f01⟩)) (fun _ => w_cs1 (tc_clear hc (acR_a ha f01) a18 htc hta) ?_)
      rintro v z2 ⟨-, f2⟩
      have f02 := fr_tr f01 f2
      dsimp only at f02
      refine w_if (fun _ => c3 z2 f02) (fun _ => w_cs1 (tc_undiv hc (acR_a ha f02) a18 htc hta) ?_)
      rintro v z3 ⟨h3, e3⟩
      dsimp only at h3 e3
      rw [e3]
      rcases h3 with rfl | ⟨r, hr, rfl⟩
      · exact w_ifT rfl (w_okZ (Or.inr rfl) (w_some ⟨Or.inr rfl, f02⟩))
      · exact w_if (fun _ => w_okZ (Or.inr rfl) (w_some ⟨Or.inr rfl, f02⟩)) (fun _ => c2 r hr (a - t) t z2 (by omega) f02)
  refine e_X0_isolate ?_
  refine u_X0_isolate_0 ?_; unfold cm_X0_isolate_0
  exact c1 1000 0 y (by omega) fr_rf
end CCV
end
section
/-! 99zzzzzzx.carc -/
/-! the class: the arcs -/
def oM (o : Option Nat) : Int32 := match o with
  | none => -1
  | some l => nI l
def stO (f : Nat → Option Nat) (v l : Nat) : Nat → Option Nat := fun x => if x = v then some l else f x
theorem stO_at {f : Nat → Option Nat} {v l : Nat} : stO f v l v = some l := if_pos rfl
theorem stO_ne {f : Nat → Option Nat} {v l x : Nat} (h : x ≠ v) : stO f v l x = f x := if_neg h
def ucn (f : Nat → Option Nat) : Nat → Nat
  | 0 => 0
  | n + 1 => ucn f n + if f n = none then 1 else 0
theorem ucn_le (f : Nat → Option Nat) : ∀ n, ucn f n ≤ n
  | 0 => Nat.le_refl _
  | n + 1 => by
    have := ucn_le f n
    show ucn f n + _ ≤ n + 1
    split <;> omega
theorem ucn_ge {f : Nat → Option Nat} {v l : Nat} : ∀ n, n ≤ v → ucn (stO f v l) n = ucn f n
  | 0, _ => rfl
  | n + 1, h => by
    show ucn (stO f v l) n + _ = ucn f n + _
    rw [ucn_ge n (by omega), stO_ne (show n ≠ v by omega)]
theorem ucn_st {f : Nat → Option Nat} {v l : Nat} (hv : f v = none) : ∀ n, v < n → ucn (stO f v l) n + 1 = ucn f n
  | 0, h => absurd h (by omega)
  | n + 1, h => by
    show ucn (stO f v l) n + _ + 1 = ucn f n + _
    by_cases e : n = v
    · subst e
      rw [ucn_ge n (Nat.le_refl _), stO_at, hv, if_neg (by simp), if_pos rfl]
    · have := ucn_st (l := l) hv n (by omega)
      rw [stO_ne e]
      omega
theorem ucn_0 {f : Nat → Option Nat} : ∀ n, ucn f n = 0 → ∀ v, v < n → f v ≠ none
  | 0, _, v, h => absurd h (by omega)
  | n + 1, e, v, h => by
    have e : ucn f n + (if f n = none then 1 else 0) = 0 := e
    by_cases h1 : v = n
    · subst h1
      intro h9
      rw [if_pos h9] at e
      omega
    · exact ucn_0 n (by omega) v (by omega)
section ARC
variable {S : ow_NP} {c : Nat} {f : Nat → Option Nat} {q : Nat → Nat}
def ar1 (S : ow_NP) (c k : Nat) (f : Nat → Option Nat) : Prop := (∀ x, x < k → f (2 * x + 1) = some x) ∧ (∀ x, k ≤ x → f (2 * x + 1) = none) ∧ (∀ v l, v < 2 * c → f v = some l → l < k ∧ (S.1 v % 2 = 0 → f (S.1 v) = some l)) ∧ ∀ v l, v < 2 * c → v % 2 = 0 → f v = some l → f (S.2 v) = some l
def ax1 (S : ow_NP) (c k : Nat) (f : Nat → Option Nat) (v : Nat) : Prop := (∀ x, x < k + 1 → f (2 * x + 1) = some x) ∧ (∀ x, k + 1 ≤ x → f (2 * x + 1) = none) ∧ (∀ u l, u < 2 * c → f u = some l → l < k + 1 ∧ (S.1 u % 2 = 0 → f (S.1 u) = some l ∨ (S.1 u = v ∧ l = k))) ∧ (∀ v l, v < 2 * c → v % 2 = 0 → f v = some l → f (S.2 v) = some l) ∧ f (S.2 v) = some k
theorem ax1_0 {k : Nat} (hv : vn c S) (hk : k < c) (h : ar1 S c k f) : ax1 S c k (stO f (2 * k + 1) k) (S.1 (2 * k + 1)) := by
  obtain ⟨a1, a2, a3, a4⟩ := h
  obtain ⟨v1, v2, v3, v4⟩ := hv (2 * k + 1) (by omega)
  have n0 := a2 k (Nat.le_refl _)
  refine ⟨fun x hx => ?_, fun x hx => ?_, fun u l hu hl => ?_, fun u l hu he hl => ?_, ?_⟩
  · by_cases e : x = k
    · rw [e, stO_at]
    · rw [stO_ne (by omega), a1 x (by omega)]
  · rw [stO_ne (by omega), a2 x (by omega)]
  · by_cases e : u = 2 * k + 1
    · rw [e, stO_at] at hl
      injection hl with hl
      subst hl
      exact ⟨by omega, fun _ => Or.inr ⟨by rw [e], rfl⟩⟩
    · rw [stO_ne e] at hl
      obtain ⟨b1, b2⟩ := a3 u l hu hl
      refine ⟨by omega, fun h9 => Or.inl ?_⟩
      rw [stO_ne (by omega)]
      exact b2 h9
  · rw [stO_ne (by omega)] at hl
    have := a4 u l hu he hl
    rw [stO_ne (fun h9 => by rw [h9, n0] at this; cases this)]
    exact this
  · rw [v3, stO_at]
theorem ax1_s {k v : Nat} (hv : vn c S) (hk : v < 2 * c) (he : v % 2 = 0) (hn : f v = none) (h : ax1 S c k f v) : ax1 S c k (stO f v k) (S.1 v) := by
  obtain ⟨a1, a2, a3, a4, a5⟩ := h
  obtain ⟨v1, v2, v3, v4⟩ := hv v hk
  refine ⟨fun x hx => ?_, fun x hx => ?_, fun u l hu hl => ?_, fun u l hu he2 hl => ?_, ?_⟩
  · rw [stO_ne (by omega), a1 x hx]
  · rw [stO_ne (by omega), a2 x hx]
  · by_cases e : u = v
    · rw [e, stO_at] at hl
      injection hl with hl
      subst hl
      exact ⟨by omega, fun _ => Or.inr ⟨by rw [e], rfl⟩⟩
    · rw [stO_ne e] at hl
      obtain ⟨b1, b2⟩ := a3 u l hu hl
      refine ⟨b1, fun h9 => Or.inl ?_⟩
      by_cases e2 : S.1 u = v
      · rw [e2, stO_at]
        rcases b2 h9 with h8 | h8
        · rw [e2, hn] at h8
          cases h8
        · rw [h8.2]
      · rw [stO_ne e2]
        rcases b2 h9 with h8 | h8
        · exact h8
        · exact absurd h8.1 e2
  · by_cases e : u = v
    · rw [e, stO_at] at hl
      injection hl with hl
      subst hl
      rw [e]
      by_cases e2 : S.2 v = v
      · rw [e2, stO_at]
      · rw [stO_ne e2]
        exact a5
    · rw [stO_ne e] at hl
      have := a4 u l hu he2 hl
      rw [stO_ne (fun h9 => by rw [h9, hn] at this; cases this)]
      exact this
  · rw [v3, stO_at]
theorem ax1_e {k v : Nat} (hv : vn c S) (hk : v < 2 * c) (hx : v % 2 = 1 ∨ f v ≠ none) (h : ax1 S c k f v) : ar1 S c (k + 1) f := by
  obtain ⟨a1, a2, a3, a4, a5⟩ := h
  refine ⟨a1, a2, fun u l hu hl => ?_, a4⟩
  obtain ⟨b1, b2⟩ := a3 u l hu hl
  refine ⟨b1, fun h9 => ?_⟩
  rcases b2 h9 with h8 | ⟨h8, h7⟩
  · exact h8
  · rw [h8] at h9 ⊢
    rcases hx with hx | hx
    · omega
    · cases hf : f v with
      | none => exact absurd hf hx
      | some l' =>
        have := a4 v l' hk h9 hf
        rw [a5] at this
        rw [h7]
        exact this.symm
/-- both ways closed; the rings without visits under have labels of their own -/
def ar2 (S : ow_NP) (c : Nat) (q : Nat → Nat) (s : Nat) (U : List Nat) (f : Nat → Option Nat) : Prop := (∀ x, x < c → f (2 * x + 1) = some x) ∧ (∀ v l, v < 2 * c → f v = some l → l < c + U.length ∧ (∃ l', f (S.1 v) = some l') ∧ (S.1 v % 2 = 0 → f (S.1 v) = some l)) ∧ (∀ v l, v < 2 * c → v % 2 = 0 → f v = some l → f (S.2 v) = some l) ∧ (∀ v, v < 2 * c → f v ≠ none → f (S.2 v) ≠ none) ∧ (U.Nodup ∧ (∀ r, r ∈ U → ∃ v, v < 2 * c ∧ q v = r) ∧ (∀ v l, v < 2 * c → f v = some l → c ≤ l → U[l - c]? = some (q v)) ∧ ∀ v, v < 2 * c → q v ∈ U → f v ≠ none) ∧ ∀ v, v < 2 * c → v < s → v % 2 = 0 → f v ≠ none
theorem clo_it (hv : vn c S) (h : ∀ v, v < 2 * c → f v ≠ none → f (S.1 v) ≠ none) {v : Nat} (hv2 : v < 2 * c) (h0 : f v ≠ none) : ∀ i, f (it S.1 i v) ≠ none
  | 0 => h0
  | i + 1 => by
    have := clo_it hv h hv2 h0 i
    have e : it S.1 (i + 1) v = S.1 (it S.1 i v) := by
      rw [Nat.add_comm, it_add]
      rfl
    rw [e]
    exact h _ (it_lt hv hv2 i) this
theorem clo_pv (hv : vn c S) (h : ∀ v, v < 2 * c → f v ≠ none → f (S.1 v) ≠ none) {v : Nat} (hv2 : v < 2 * c) (h0 : f v ≠ none) : f (S.2 v) ≠ none := by
  obtain ⟨m, hm, hr⟩ := ring_ex hv hv2
  obtain ⟨m1, rfl⟩ : ∃ m1, m = m1 + 1 := ⟨m - 1, by have := hr.1; omega⟩
  have e : it S.1 (m1 + 1) v = S.1 (it S.1 m1 v) := by
    rw [Nat.add_comm, it_add]
    rfl
  have e2 : S.1 (it S.1 m1 v) = v := by
    rw [← e]
    exact hr.2.1
  have e3 : S.2 v = it S.1 m1 v := by
    rw [← (hv _ (it_lt hv hv2 m1)).2.2.1, e2]
  rw [e3]
  exact clo_it hv h hv2 h0 m1
theorem ar2_0 (hv : vn c S) (h : ar1 S c c f) : ar2 S c q 0 [] f := by
  obtain ⟨a1, a2, a3, a4⟩ := h
  have nx : ∀ v l, v < 2 * c → f v = some l → ∃ l', f (S.1 v) = some l' := by
    intro v l hv2 hl
    obtain ⟨v1, -, -, -⟩ := hv v hv2
    by_cases e : S.1 v % 2 = 0
    · exact ⟨l, (a3 v l hv2 hl).2 e⟩
    · refine ⟨S.1 v / 2, ?_⟩
      have := a1 (S.1 v / 2) (by omega)
      rw [show 2 * (S.1 v / 2) + 1 = S.1 v by omega] at this
      exact this
  refine ⟨a1, fun v l hv2 hl => ⟨by have := (a3 v l hv2 hl).1; rw [List.length_nil]; omega, nx v l hv2 hl, (a3 v l hv2 hl).2⟩, a4, fun v hv2 h0 => clo_pv hv (fun u hu h9 => ?_) hv2 h0, ⟨List.nodup_nil, fun r hr => (by cases hr), fun v l hv2 hl h9 => ?_, fun v _ h9 => (by cases h9)⟩, fun v _ h9 => absurd h9 (by omega)⟩
  · cases hf : f u with
    | none => exact absurd hf h9
    | some l =>
      obtain ⟨l', e⟩ := nx u l hu hf
      rw [e]
      simp
  · have := (a3 v l hv2 hl).1
    omega
def ax2 (S : ow_NP) (c : Nat) (q : Nat → Nat) (s : Nat) (U : List Nat) (f : Nat → Option Nat) (v : Nat) : Prop := (∀ x, x < c → f (2 * x + 1) = some x) ∧ (∀ u l, u < 2 * c → f u = some l → l < c + U.length + 1 ∧ ((∃ l', f (S.1 u) = some l') ∧ (S.1 u % 2 = 0 → f (S.1 u) = some l) ∨ S.1 u = v ∧ l = c + U.length)) ∧ (∀ x l, x < 2 * c → x % 2 = 0 → f x = some l → f (S.2 x) = some l ∨ x = s) ∧ (∀ x, x < 2 * c → f x ≠ none → f (S.2 x) ≠ none ∨ x = s) ∧ (U.Nodup ∧ (∀ r, r ∈ U → ∃ v, v < 2 * c ∧ q v = r) ∧ (∀ v l, v < 2 * c → f v = some l → c ≤ l → l < c + U.length → U[l - c]? = some (q v)) ∧ (∀ v, v < 2 * c → f v = some (c + U.length) → q v = q s) ∧ (∀ v, v < 2 * c → q v ∈ U → f v ≠ none) ∧ q s ∉ U) ∧ (∀ v, v < 2 * c → v < s → v % 2 = 0 → f v ≠ none) ∧ (f (S.2 v) = some (c + U.length) ∧ f s = some (c + U.length) ∧ (f v = none ∨ v = s) ∧ q v = q s)
theorem ax2_0 {s : Nat} {U : List Nat} (hv : vn c S) (hq : ∀ v, v < 2 * c → q (S.1 v) = q v) (hs : s < 2 * c) (he : s % 2 = 0) (hn : f s = none) (h : ar2 S c q s U f) : ax2 S c q s U (stO f s (c + U.length)) (S.1 s) := by
  obtain ⟨a1, a2, a3, a4, ⟨u1, u2, u3, u4⟩, a6⟩ := h
  obtain ⟨v1, v2, v3, v4⟩ := hv s hs
  have ss : ∀ x, x < 2 * c → x ≠ s → f x ≠ none → S.2 x ≠ s := by
    intro x hx _ h0 e
    have := a4 x hx h0
    rw [e] at this
    exact this hn
  refine ⟨fun x hx => ?_, fun u l hu hl => ?_, fun x l hx hx2 hl => ?_, fun x hx h0 => ?_, ⟨u1, u2, fun v l hv2 hl h1 h2 => ?_, fun v hv2 hl => ?_, fun v hv2 hm => ?_, fun hm => u4 s hs hm hn⟩, fun v hv2 h1 h2 => ?_, ?_, stO_at, ?_, hq s hs⟩
  · rw [stO_ne (by omega), a1 x hx]
  · by_cases e : u = s
    · rw [e, stO_at] at hl
      injection hl with hl
      exact ⟨by omega, Or.inr ⟨by rw [e], hl.symm⟩⟩
    · rw [stO_ne e] at hl
      obtain ⟨b1, ⟨l', b2⟩, b3⟩ := a2 u l hu hl
      have hne : S.1 u ≠ s := fun h9 => by
        rw [h9, hn] at b2
        cases b2
      refine ⟨by omega, Or.inl ⟨⟨l', by rw [stO_ne hne]; exact b2⟩, fun h9 => by rw [stO_ne hne]; exact b3 h9⟩⟩
  · by_cases e : x = s
    · exact Or.inr e
    · rw [stO_ne e] at hl
      refine Or.inl ?_
      rw [stO_ne (ss x hx e (by rw [hl]; simp))]
      exact a3 x l hx hx2 hl
  · by_cases e : x = s
    · exact Or.inr e
    · rw [stO_ne e] at h0
      refine Or.inl ?_
      rw [stO_ne (ss x hx e h0)]
      exact a4 x hx h0
  · by_cases e : v = s
    · rw [e, stO_at] at hl
      injection hl with hl
      omega
    · rw [stO_ne e] at hl
      exact u3 v l hv2 hl h1
  · by_cases e : v = s
    · rw [e]
    · rw [stO_ne e] at hl
      have := (a2 v _ hv2 hl).1
      omega
  · by_cases e : v = s
    · rw [e, stO_at]
      simp
    · rw [stO_ne e]
      exact u4 v hv2 hm
  · rw [stO_ne (by omega)]
    exact a6 v hv2 h1 h2
  · rw [v3, stO_at]
  · by_cases e : S.1 s = s
    · exact Or.inr e
    · refine Or.inl ?_
      rw [stO_ne e]
      cases hf : f (S.1 s) with
      | none => rfl
      | some l =>
        have := a4 (S.1 s) v1 (by rw [hf]; simp)
        rw [v3] at this
        exact absurd hn this
theorem ax2_s {s v : Nat} {U : List Nat} (hv : vn c S) (hq : ∀ v, v < 2 * c → q (S.1 v) = q v) (hs : s < 2 * c) (hvc : v < 2 * c) (hn : f v = none) (h : ax2 S c q s U f v) : ax2 S c q s U (stO f v (c + U.length)) (S.1 v) := by
  obtain ⟨a1, a2, a3, a4, ⟨u1, u2, u3, u4, u5, u6⟩, a6, a7, a8, a9, a10⟩ := h
  obtain ⟨v1, v2, v3, v4⟩ := hv v hvc
  have hvs : v ≠ s := fun e => by rw [e, a8] at hn; cases hn
  have hodd : v % 2 = 0 := by
    rcases Nat.mod_two_eq_zero_or_one v with h9 | h9
    · exact h9
    · have := a1 (v / 2) (by omega)
      rw [show 2 * (v / 2) + 1 = v by omega, hn] at this
      cases this
  have h2v : S.2 v ≠ v := fun e => by rw [e, hn] at a7; cases a7
  refine ⟨fun x hx => ?_, fun u l hu hl => ?_, fun x l hx hx2 hl => ?_, fun x hx h0 => ?_, ⟨u1, u2, fun w l hw hl h1 h2 => ?_, fun w hw hl => ?_, fun w hw hm => ?_, u6⟩, fun w hw h1 h2 => ?_, ?_, ?_, ?_, ?_⟩
  · rw [stO_ne (by omega), a1 x hx]
  · by_cases e : u = v
    · rw [e, stO_at] at hl
      injection hl with hl
      exact ⟨by omega, Or.inr ⟨by rw [e], hl.symm⟩⟩
    · rw [stO_ne e] at hl
      obtain ⟨b1, b2⟩ := a2 u l hu hl
      refine ⟨b1, Or.inl ?_⟩
      by_cases e2 : S.1 u = v
      · rw [e2, stO_at]
        rcases b2 with ⟨⟨l', b3⟩, -⟩ | ⟨-, b3⟩
        · rw [e2, hn] at b3
          cases b3
        · exact ⟨⟨_, rfl⟩, fun _ => by rw [b3]⟩
      · rw [stO_ne e2]
        rcases b2 with b2 | b2
        · exact b2
        · exact absurd b2.1 e2
  · by_cases e : x = v
    · rw [e, stO_at] at hl
      rw [e, stO_ne h2v, a7]
      exact Or.inl hl
    · rw [stO_ne e] at hl
      rcases a3 x l hx hx2 hl with h9 | h9
      · refine Or.inl ?_
        rw [stO_ne (fun e9 => by rw [e9, hn] at h9; cases h9)]
        exact h9
      · exact Or.inr h9
  · by_cases e : x = v
    · rw [e, stO_ne h2v, a7]
      exact Or.inl (by simp)
    · rw [stO_ne e] at h0
      rcases a4 x hx h0 with h9 | h9
      · refine Or.inl ?_
        rw [stO_ne (fun e9 => by rw [e9] at h9; exact h9 hn)]
        exact h9
      · exact Or.inr h9
  · by_cases e : w = v
    · rw [e, stO_at] at hl
      injection hl with hl
      omega
    · rw [stO_ne e] at hl
      exact u3 w l hw hl h1 h2
  · by_cases e : w = v
    · rw [e]
      exact a10
    · rw [stO_ne e] at hl
      exact u4 w hw hl
  · by_cases e : w = v
    · rw [e, stO_at]
      simp
    · rw [stO_ne e]
      exact u5 w hw hm
  · by_cases e : w = v
    · rw [e, stO_at]
      simp
    · rw [stO_ne e]
      exact a6 w hw h1 h2
  · rw [v3, stO_at]
  · rw [stO_ne (fun e => hvs e.symm)]
    exact a8
  · by_cases e : S.1 v = s
    · exact Or.inr e
    · refine Or.inl ?_
      have hne : S.1 v ≠ v := fun e9 => h2v (by rw [← e9, v3, e9])
      rw [stO_ne hne]
      cases hf : f (S.1 v) with
      | none => rfl
      | some l =>
        rcases a4 (S.1 v) v1 (by rw [hf]; simp) with h9 | h9
        · rw [v3] at h9
          exact absurd hn h9
        · exact absurd h9 e
  · rw [hq v hvc]
    exact a10
theorem ax2_e {s v : Nat} {U : List Nat} (hv : vn c S) (hr : ∀ v w, v < 2 * c → w < 2 * c → q v = q w → ∃ i, it S.1 i v = w) (hs : s < 2 * c) (he : s % 2 = 0) (hn : f v ≠ none) (h : ax2 S c q s U f v) : ar2 S c q (s + 2) (U ++ [q s]) f := by
  obtain ⟨a1, a2, a3, a4, ⟨u1, u2, u3, u4, u5, u6⟩, a6, a7, a8, a9, a10⟩ := h
  have hvs : v = s := a9.resolve_left hn
  subst hvs
  obtain ⟨v1, v2, v3, v4⟩ := hv v hs
  have nx : ∀ u l, u < 2 * c → f u = some l → (∃ l', f (S.1 u) = some l') ∧ (S.1 u % 2 = 0 → f (S.1 u) = some l) := by
    intro u l hu hl
    rcases (a2 u l hu hl).2 with b2 | ⟨b2, b3⟩
    · exact b2
    · rw [b2, a8, b3]
      exact ⟨⟨_, rfl⟩, fun _ => rfl⟩
  have nz : ∀ u, u < 2 * c → f u ≠ none → f (S.1 u) ≠ none := by
    intro u hu h9
    cases hf : f u with
    | none => exact absurd hf h9
    | some l =>
      obtain ⟨⟨l', e⟩, -⟩ := nx u l hu hf
      rw [e]
      simp
  refine ⟨a1, fun u l hu hl => ⟨by have := (a2 u l hu hl).1; rw [List.length_append, List.length_singleton]; omega, nx u l hu hl⟩, fun x l hx hx2 hl => ?_, fun x hx h0 => ?_, ⟨?_, fun r hr2 => ?_, fun w l hw hl h1 => ?_, fun w hw hm => ?_⟩, fun w hw h1 h2 => ?_⟩
  · rcases a3 x l hx hx2 hl with h9 | h9
    · exact h9
    · rw [h9, a8] at hl
      rw [h9, a7]
      exact hl
  · rcases a4 x hx h0 with h9 | h9
    · exact h9
    · rw [h9, a7]
      simp
  · rw [List.nodup_append]
    refine ⟨u1, List.pairwise_singleton _ _, fun a ha b hb e => ?_⟩
    rw [List.mem_singleton] at hb
    rw [e, hb] at ha
    exact u6 ha
  · rcases List.mem_append.mp hr2 with h9 | h9
    · exact u2 r h9
    · rw [List.mem_singleton] at h9
      exact ⟨v, hs, h9.symm⟩
  · rcases Nat.lt_or_ge l (c + U.length) with h2 | h2
    · rw [List.getElem?_append_left (by omega)]
      exact u3 w l hw hl h1 h2
    · have : l = c + U.length := by
        have := (a2 w l hw hl).1
        omega
      subst this
      rw [List.getElem?_append_right (by omega), u4 w hw hl, show c + U.length - c - U.length = 0 by omega]
      rfl
  · rcases List.mem_append.mp hm with h9 | h9
    · exact u5 w hw h9
    · rw [List.mem_singleton] at h9
      obtain ⟨i, hi⟩ := hr v w hs hw h9.symm
      rw [← hi]
      exact clo_it hv nz hs hn i
  · by_cases e : w = v
    · rw [e]
      exact hn
    · exact a6 w hw (by omega) h2
theorem ar2_k {s : Nat} {U : List Nat} (hn : s < 2 * c → f s ≠ none) (h : ar2 S c q s U f) (he : s % 2 = 0) : ar2 S c q (s + 2) U f := by
  obtain ⟨a1, a2, a3, a4, a5, a6⟩ := h
  refine ⟨a1, a2, a3, a4, a5, fun w hw h1 h2 => ?_⟩
  by_cases e : w = s
  · rw [e]
    exact hn (by omega)
  · exact a6 w hw (by omega) h2
end ARC
end
section
/-! 99zzzzzzy.carc2 -/
/-! the class: markArcs; cover, colours have an answer -/
/-- the arcs of a net: a label for the gap behind each visit -/
def arcS (y : ow_MS) (S : ow_NP) (c ci : Nat) (q : Nat → Nat) (a : Nat → Nat) (n : Nat) : Prop := (∀ v, v < 2 * c → y.2.1 41001 v = nI (a v) ∧ a v < n) ∧ (∀ x, x < c → a (2 * x + 1) = x) ∧ (∀ v, v < 2 * c → S.1 v % 2 = 0 → a (S.1 v) = a v) ∧ (∀ v w, v < 2 * c → w < 2 * c → c ≤ a v → a v = a w → q v = q w) ∧ y.1 41002 = nI (n + ci)
section CMA
variable {vl : Nat → Nat} {y : ow_MS} {S : ow_NP} {G : Nat → Int32} {c ci : Nat} {q : Nat → Nat}
def arP (g : Nat) : Prop := g = 41001 ∨ g = 41002
theorem oM_n {l : Nat} (hl : l < 2 ^ 31) : oM (some l) ≠ -1 := fun e => nI_pos hl (by
  have e : nI l = -1 := e
  rw [e]
  decide)
theorem vm2 : ∀ v : Fin 24, ((nI v.val &&& 1) = 0 ↔ v.val % 2 = 0) := by decide +kernel
theorem u_X0_markArcs_1 {vl : Nat → Nat} {x2 : Int32} {x3 : Int32} {x4 : Int32} {x5 : Int32} {x6 : Int32} {r0 : Nat} {r1 : Nat} {z : ow_MS} {Q : ow_MS → Prop} (H : Tt (fun K k => cm_X0_markArcs_1 vl K (c_X0_markArcs vl K k) x2 x3 x4 x5 x6 r0 r1 z) Q) : Tt (fun K k => c_X0_markArcs vl K k 1 x2 x3 x4 x5 x6 r0 r1 z) Q := w_un (fun _ _ => rfl) H
theorem u_X0_markArcs_2 {vl : Nat → Nat} {x2 : Int32} {x3 : Int32} {x4 : Int32} {x5 : Int32} {x6 : Int32} {r0 : Nat} {r1 : Nat} {z : ow_MS} {Q : ow_MS → Prop} (H : Tt (fun K k => cm_X0_markArcs_2 vl K (c_X0_markArcs vl K k) x2 x3 x4 x5 x6 r0 r1 z) Q) : Tt (fun K k => c_X0_markArcs vl K k 2 x2 x3 x4 x5 x6 r0 r1 z) Q := w_un (fun _ _ => rfl) H
theorem u_X0_markArcs_6 {vl : Nat → Nat} {x2 : Int32} {x3 : Int32} {x4 : Int32} {x5 : Int32} {x6 : Int32} {r0 : Nat} {r1 : Nat} {z : ow_MS} {Q : ow_MS → Prop} (H : Tt (fun K k => cm_X0_markArcs_6 vl K (c_X0_markArcs vl K k) x2 x3 x4 x5 x6 r0 r1 z) Q) : Tt (fun K k => c_X0_markArcs vl K k 6 x2 x3 x4 x5 x6 r0 r1 z) Q := w_un (fun _ _ => rfl) H
theorem u_X0_markArcs_5 {vl : Nat → Nat} {x2 : Int32} {x3 : Int32} {x4 : Int32} {x5 : Int32} {x6 : Int32} {r0 : Nat} {r1 : Nat} {z : ow_MS} {Q : ow_MS → Prop} (H : Tt (fun K k => cm_X0_markArcs_5 vl K (c_X0_markArcs vl K k) x2 x3 x4 x5 x6 r0 r1 z) Q) : Tt (fun K k => c_X0_markArcs vl K k 5 x2 x3 x4 x5 x6 r0 r1 z) Q := w_un (fun _ _ => rfl) H
theorem u_X0_markArcs_3 {vl : Nat → Nat} {x2 : Int32} {x3 : Int32} {x4 : Int32} {x5 : Int32} {x6 : Int32} {r0 : Nat} {r1 : Nat} {z : ow_MS} {Q : ow_MS → Prop} (H : Tt (fun K k => cm_X0_markArcs_3 vl K (c_X0_markArcs vl K k) x2 x3 x4 x5 x6 r0 r1 z) Q) : Tt (fun K k => c_X0_markArcs vl K k 3 x2 x3 x4 x5 x6 r0 r1 z) Q := w_un (fun _ _ => rfl) H
theorem u_X0_markArcs_4 {vl : Nat → Nat} {x2 : Int32} {x3 : Int32} {x4 : Int32} {x5 : Int32} {x6 : Int32} {r0 : Nat} {r1 : Nat} {z : ow_MS} {Q : ow_MS → Prop} (H : Tt (fun K k => cm_X0_markArcs_4 vl K (c_X0_markArcs vl K k) x2 x3 x4 x5 x6 r0 r1 z) Q) : Tt (fun K k => c_X0_markArcs vl K k 4 x2 x3 x4 x5 x6 r0 r1 z) Q := w_un (fun _ _ => rfl) H
theorem e_X0_markArcs {vl : Nat → Nat} {r0 : Nat} {r1 : Nat} {z : ow_MS} {Q : ow_MS → Prop} (H : Tt (fun K k => c_X0_markArcs vl K k 0 0 0 0 0 0 r0 r1 z) Q) : Te (fun K => ce_X0_markArcs vl K r0 r1 z) Q := w_te H
theorem u_X0_markArcs_0 {vl : Nat → Nat} {x2 : Int32} {x3 : Int32} {x4 : Int32} {x5 : Int32} {x6 : Int32} {r0 : Nat} {r1 : Nat} {z : ow_MS} {Q : ow_MS → Prop} (H : Tt (fun K k => cm_X0_markArcs_0 vl K (c_X0_markArcs vl K k) x2 x3 x4 x5 x6 r0 r1 z) Q) : Tt (fun K k => c_X0_markArcs vl K k 0 x2 x3 x4 x5 x6 r0 r1 z) Q := w_un (fun _ _ => rfl) H
theorem tc_markArcs {h m : Nat} {R : List Nat} (hh : nH h) (hy : cAt y h (c, ci, S, G)) (hv : vn c S) (hc : c ≤ 12) (hci : ci ≤ 6) (hq : ∀ v, v < 2 * c → q (S.1 v) = q v) (hr : ∀ v w, v < 2 * c → w < 2 * c → q v = q w → ∃ i, it S.1 i v = w) (hR : R.length ≤ m) (hR2 : ∀ v, v < 2 * c → q v ∈ R) (hm : m ≤ 6) : Te (fun K => ce_X0_markArcs vl K 41000 h y) (fun y1 => (∃ a n, arcS y1 S c ci q a n ∧ n ≤ c + m ∧ c ≤ n) ∧ fr arP y y1) := by
  let Q : ow_MS → Prop := fun y1 => (∃ a n, arcS y1 S c ci q a n ∧ n ≤ c + m ∧ c ≤ n) ∧ fr arP y y1
  have h4 : 4000 ≤ h ∧ h ≤ 44000 := nH_all (P := fun h => 4000 ≤ h ∧ h ≤ 44000) (by decide) hh
  have h41 : ¬ (arP (h + 1) ∨ arP (h + 2) ∨ arP (h + 3) ∨ arP (h + 8) ∨ arP (h + 9)) := by
    have key : ∀ a, a ∈ nHL → a ≠ 41000 ∧ a % 1000 = 0 := by decide
    have := key h hh
    unfold arP
    omega
  have hA : ∀ z, fr arP y z → cAt z h (c, ci, S, G) := fun z hf => cAt_fr hf (fun g hg h9 => by unfold cP at hg; unfold arP at h9 h41; omega) hy
  let J : ow_MS → (Nat → Option Nat) → Nat → Prop := fun z f n => (∀ v, v < 24 → z.2.1 41001 v = oM (f v)) ∧ z.1 41002 = nI n ∧ fr arP y z
  have Jset : ∀ z f n v l, J z f n → l = n → J (usI z 41001 v (nI l)) (stO f v l) n := by
    rintro z f n v l ⟨j1, j2, j3⟩ rfl
    refine ⟨fun w hw => ?_, j2, fr_I2 j3 (Or.inl rfl)⟩
    by_cases e : w = v
    · rw [e, po_usI_at, stO_at]
      rfl
    · rw [stO_ne e]
      exact rd_ne e (j1 w hw)
  -- the last: circles come
  have fin : ∀ z f U s, ar2 S c q s U f → 2 * c ≤ s → J z f (c + U.length) → Tt (fun K k => c_X0_markArcs vl K k 1 (nI (2 * c)) (nI 0 + -1) 0 0 0 41000 h z) Q := by
    rintro z f U s ⟨a1, a2, a3, a4, ⟨u1, u2, u3, u4⟩, a6⟩ hs ⟨j1, j2, j3⟩
    have hU : U.length ≤ m := Nat.le_trans (nodup_le U R u1 (fun r hr2 => by
      obtain ⟨v, v1, v2⟩ := u2 r hr2
      rw [← v2]
      exact hR2 v v1)) hR
    have all : ∀ v, v < 2 * c → ∃ l, f v = some l := by
      intro v hv2
      rcases Nat.mod_two_eq_zero_or_one v with h9 | h9
      · cases hf : f v with
        | none => exact absurd hf (a6 v hv2 (by omega) h9)
        | some l => exact ⟨l, rfl⟩
      · have := a1 (v / 2) (by omega)
        rw [show 2 * (v / 2) + 1 = v by omega] at this
        exact ⟨_, this⟩
    refine u_X0_markArcs_1 ?_; unfold cm_X0_markArcs_1
    refine w_ifT (by decide) (w_rdF j2 (w_rdF (hA z j3).2.1 (w_wrF (w_some ⟨⟨fun v => (f v).getD 0, c + U.length, ⟨fun v hv2 => ?_, fun x hx => ?_, fun v hv2 he => ?_, fun v w hv2 hw hl e => ?_, ?_⟩, by omega, by omega⟩, fr_F2 j3 (Or.inr rfl)⟩))))
    · obtain ⟨l, hl⟩ := all v hv2
      refine ⟨(j1 v (by omega)).trans ?_, ?_⟩
      · dsimp only
        rw [hl]
        rfl
      · dsimp only
        rw [hl]
        exact (a2 v l hv2 hl).1
    · dsimp only
      rw [a1 x hx]
      rfl
    · obtain ⟨l, hl⟩ := all v hv2
      dsimp only
      rw [hl, (a2 v l hv2 hl).2.2 he]
    · obtain ⟨l, e1⟩ := all v hv2
      obtain ⟨l', e2⟩ := all w hw
      dsimp only at hl e
      rw [e1] at hl e
      rw [e2] at e
      have e : l = l' := e
      subst e
      have q1 := u3 v l hv2 e1 hl
      have q2 := u3 w l hw e2 hl
      rw [q1] at q2
      injection q2
    · rw [po_usF_at, nI_add]
  -- the even visits
  have p2 : ∀ (d s : Nat) (U : List Nat) (z : ow_MS) (f : Nat → Option Nat), s + 2 * d = 2 * c + 2 → s % 2 = 0 → ar2 S c q s U f → J z f (c + U.length) → Tt (fun K k => c_X0_markArcs vl K k 2 (nI (2 * c)) (nI 0) (nI s) 0 0 41000 h z) Q := by
    intro d
    induction d with
    | zero =>
      intro s U z f hs he ha hJ
      refine u_X0_markArcs_2 ?_; unfold cm_X0_markArcs_2
      exact w_leT (by omega) (by omega) (fin z f U s ha (by omega) hJ)
    | succ d ih =>
      intro s U z f hs he ha hJ
      have c6 : ∀ (U' : List Nat) (z : ow_MS) (f : Nat → Option Nat), ar2 S c q (s + 2) U' f → J z f (c + U'.length) → Tt (fun K k => c_X0_markArcs vl K k 6 (nI (2 * c)) (nI 0) (nI s) 0 0 41000 h z) Q := by
        intro U' z f ha hJ
        refine u_X0_markArcs_6 ?_; unfold cm_X0_markArcs_6
        rw [show nI s + (2 : Int32) = nI (s + 2) from nI_add s 2]
        exact ih (s + 2) U' z f (by omega) (by omega) ha hJ
      have c5 : ∀ (v i : Int32) (z : ow_MS) (f : Nat → Option Nat), ar2 S c q (s + 2) (U ++ [q s]) f → J z f (c + U.length) → Tt (fun K k => c_X0_markArcs vl K k 5 (nI (2 * c)) (nI 0) (nI s) v i 41000 h z) Q := by
        rintro v i z f ha ⟨j1, j2, j3⟩
        refine u_X0_markArcs_5 ?_; unfold cm_X0_markArcs_5
        refine w_rdF j2 (w_wrF (c6 (U ++ [q s]) _ f ha ⟨j1, ?_, fr_F2 j3 (Or.inr rfl)⟩))
        rw [po_usF_at, nI_1, List.length_append]
        rfl
      by_cases hsc : s < 2 * c
      · have c3 : ∀ (e i v : Nat) (z : ow_MS) (f : Nat → Option Nat), i + e = 2 * c → v < 2 * c → i + ucn f (2 * c) ≤ 2 * c → ax2 S c q s U f v → J z f (c + U.length) → 0 < i → Tt (fun K k => c_X0_markArcs vl K k 3 (nI (2 * c)) (nI 0) (nI s) (nI v) (nI i) 41000 h z) Q := by
          intro e
          induction e with
          | zero =>
            intro i v z f hi hvc hu hx hJ hi0
            refine u_X0_markArcs_3 ?_; unfold cm_X0_markArcs_3
            exact w_leT (by omega) (by omega) (c5 _ _ z f (ax2_e hv hr hsc he (ucn_0 _ (by omega) v hvc) hx) hJ)
          | succ e ihe =>
            intro i v z f hi hvc hu hx hJ hi0
            by_cases hn : f v = none
            · have hv2 : v % 2 = 0 := by
                rcases Nat.mod_two_eq_zero_or_one v with h9 | h9
                · exact h9
                · have := hx.1 (v / 2) (by omega)
                  rw [show 2 * (v / 2) + 1 = v by omega, hn] at this
                  cases this
              have uc := ucn_st (l := c + U.length) hn (2 * c) hvc
              obtain ⟨j1, j2, j3⟩ := id hJ
              refine u_X0_markArcs_3 ?_; unfold cm_X0_markArcs_3
              refine w_leF (by omega) (by omega) (w_ifF (fun h9 => by have := (nI_eq (a := i) (b := 0) (by omega) (by omega)).mp h9; omega) (w_ifT ((vm2 ⟨v, by omega⟩).mpr hv2) ?_))
              refine u_X0_markArcs_4 ?_; unfold cm_X0_markArcs_4
              refine w_crI ch_41001 rfl (by omega) ((j1 v (by omega)).trans (by rw [hn]; rfl)) (w_ifT rfl (w_rdF j2 (w_ctI ch_41001 rfl (by omega) (w_crI (nH_1 hh) rfl (show v < 24 by omega) (rd_ot (by unfold arP at h41; omega) ((hA z j3).2.2.1 v)) ?_))))
              rw [nI_1]
              have hU6 : U.length ≤ 1000 := by
                have := nodup_le U R hx.2.2.2.2.1.1 (fun r hr2 => by
                  obtain ⟨v, v1, v2⟩ := hx.2.2.2.2.1.2.1 r hr2
                  rw [← v2]
                  exact hR2 v v1)
                omega
              exact ihe (i + 1) (S.1 v) _ _ (by omega) (hv v hvc).1 (by omega) (ax2_s hv hq hsc hvc hn hx) (Jset z f _ v _ hJ rfl) (by omega)
            · obtain ⟨j1, j2, j3⟩ := id hJ
              have hU6 : U.length ≤ 1000 := by
                have := nodup_le U R hx.2.2.2.2.1.1 (fun r hr2 => by
                  obtain ⟨v, v1, v2⟩ := hx.2.2.2.2.1.2.1 r hr2
                  rw [← v2]
                  exact hR2 v v1)
                omega
              have e5 := c5 (nI v) (nI i) z f (ax2_e hv hr hsc he hn hx) hJ
              obtain ⟨l, hl⟩ : ∃ l, f v = some l := by
                cases hf : f v with
                | none => exact absurd hf hn
                | some l => exact ⟨l, rfl⟩
              have hl2 := (hx.2.1 v l hvc hl).1
              refine u_X0_markArcs_3 ?_; unfold cm_X0_markArcs_3
              refine w_leF (by omega) (by omega) (w_if (fun _ => ?_) (fun _ => w_if (fun _ => ?_) (fun _ => e5)))
              · refine u_X0_markArcs_4 ?_; unfold cm_X0_markArcs_4
                exact w_crI ch_41001 rfl (by omega) ((j1 v (by omega)).trans (by rw [hl])) (w_ifF (oM_n (by omega)) e5)
              · refine u_X0_markArcs_4 ?_; unfold cm_X0_markArcs_4
                exact w_crI ch_41001 rfl (by omega) ((j1 v (by omega)).trans (by rw [hl])) (w_ifF (oM_n (by omega)) e5)
        obtain ⟨j1, j2, j3⟩ := id hJ
        by_cases hn : f s = none
        · have uc := ucn_st (l := c + U.length) hn (2 * c) hsc
          have ul := ucn_le f (2 * c)
          have x0 := ax2_0 hv hq hsc he hn ha
          refine u_X0_markArcs_2 ?_; unfold cm_X0_markArcs_2
          refine w_leF (by omega) (by omega) (w_crI ch_41001 rfl (by omega) ((j1 s (by omega)).trans (by rw [hn]; rfl)) (w_ifT rfl ?_))
          refine u_X0_markArcs_3 ?_; unfold cm_X0_markArcs_3
          refine w_leF (b := 0) (by omega) (by omega) (w_ifT rfl ?_)
          refine u_X0_markArcs_4 ?_; unfold cm_X0_markArcs_4
          refine w_crI ch_41001 rfl (by omega) ((j1 s (by omega)).trans (by rw [hn]; rfl)) (w_ifT rfl (w_rdF j2 (w_ctI ch_41001 rfl (by omega) (w_crI (nH_1 hh) rfl (show s < 24 by omega) (rd_ot (by unfold arP at h41; omega) ((hA z j3).2.2.1 s)) ?_))))
          exact c3 (2 * c - 1) 1 (S.1 s) _ _ (by omega) (hv s hsc).1 (by omega) x0 (Jset z f _ s _ hJ rfl) (by omega)
        · obtain ⟨l, hl⟩ : ∃ l, f s = some l := by
            cases hf : f s with
            | none => exact absurd hf hn
            | some l => exact ⟨l, rfl⟩
          have hl2 := (ha.2.1 s l hsc hl).1
          have hU6 : U.length ≤ 1000 := by
            have := nodup_le U R ha.2.2.2.2.1.1 (fun r hr2 => by
              obtain ⟨v, v1, v2⟩ := ha.2.2.2.2.1.2.1 r hr2
              rw [← v2]
              exact hR2 v v1)
            omega
          refine u_X0_markArcs_2 ?_; unfold cm_X0_markArcs_2
          exact w_leF (by omega) (by omega) (w_crI ch_41001 rfl (by omega) ((j1 s (by omega)).trans (by rw [hl])) (w_ifF (oM_n (by omega)) (c6 U z f (ar2_k (fun _ => hn) ha he) hJ)))
      · refine u_X0_markArcs_2 ?_; unfold cm_X0_markArcs_2
        exact w_leT (by omega) (by omega) (fin z f U s ha (by omega) hJ)
  -- the odd visits
  have p1 : ∀ (d k : Nat) (z : ow_MS) (f : Nat → Option Nat), k + d = c → ar1 S c k f → J z f k → Tt (fun K t => c_X0_markArcs vl K t 2 (nI (2 * c)) (nI 1) (nI (2 * k + 1)) 0 0 41000 h z) Q := by
    intro d
    induction d with
    | zero =>
      intro k z f hk ha hJ
      have hk : k = c := by omega
      subst hk
      refine u_X0_markArcs_2 ?_; unfold cm_X0_markArcs_2
      refine w_leT (by omega) (by omega) ?_
      rw [show nI 1 + (-1 : Int32) = nI 0 from by decide]
      refine u_X0_markArcs_1 ?_; unfold cm_X0_markArcs_1
      refine w_ifF (by decide) ?_
      exact p2 (k + 1) 0 [] z f (by omega) (by omega) (ar2_0 hv ha) hJ
    | succ d ih =>
      intro k z f hk ha hJ
      have c5 : ∀ (v i : Int32) (z : ow_MS) (f : Nat → Option Nat), ar1 S c (k + 1) f → J z f k → Tt (fun K t => c_X0_markArcs vl K t 5 (nI (2 * c)) (nI 1) (nI (2 * k + 1)) v i 41000 h z) Q := by
        rintro v i z f ha ⟨j1, j2, j3⟩
        refine u_X0_markArcs_5 ?_; unfold cm_X0_markArcs_5
        refine w_rdF j2 (w_wrF ?_)
        refine u_X0_markArcs_6 ?_; unfold cm_X0_markArcs_6
        rw [show nI (2 * k + 1) + (2 : Int32) = nI (2 * (k + 1) + 1) from nI_add _ 2]
        refine ih (k + 1) _ f (by omega) ha ⟨j1, ?_, fr_F2 j3 (Or.inr rfl)⟩
        rw [po_usF_at, nI_1]
      have c3 : ∀ (e i v : Nat) (z : ow_MS) (f : Nat → Option Nat), i + e = 2 * c → v < 2 * c → i + ucn f (2 * c) ≤ 2 * c → ax1 S c k f v → J z f k → 0 < i → Tt (fun K t => c_X0_markArcs vl K t 3 (nI (2 * c)) (nI 1) (nI (2 * k + 1)) (nI v) (nI i) 41000 h z) Q := by
        intro e
        induction e with
        | zero =>
          intro i v z f hi hvc hu hx hJ hi0
          refine u_X0_markArcs_3 ?_; unfold cm_X0_markArcs_3
          exact w_leT (by omega) (by omega) (c5 _ _ z f (ax1_e hv hvc (Or.inr (ucn_0 _ (by omega) v hvc)) hx) hJ)
        | succ e ihe =>
          intro i v z f hi hvc hu hx hJ hi0
          obtain ⟨j1, j2, j3⟩ := id hJ
          have hi9 : ¬ nI i = 0 := fun h9 => by have := (nI_eq (a := i) (b := 0) (by omega) (by omega)).mp h9; omega
          rcases Nat.mod_two_eq_zero_or_one v with hv2 | hv2
          · by_cases hn : f v = none
            · have uc := ucn_st (l := k) hn (2 * c) hvc
              refine u_X0_markArcs_3 ?_; unfold cm_X0_markArcs_3
              refine w_leF (by omega) (by omega) (w_ifF hi9 (w_ifT ((vm2 ⟨v, by omega⟩).mpr hv2) ?_))
              refine u_X0_markArcs_4 ?_; unfold cm_X0_markArcs_4
              refine w_crI ch_41001 rfl (by omega) ((j1 v (by omega)).trans (by rw [hn]; rfl)) (w_ifT rfl (w_rdF j2 (w_ctI ch_41001 rfl (by omega) (w_crI (nH_1 hh) rfl (show v < 24 by omega) (rd_ot (by unfold arP at h41; omega) ((hA z j3).2.2.1 v)) ?_))))
              rw [nI_1]
              exact ihe (i + 1) (S.1 v) _ _ (by omega) (hv v hvc).1 (by omega) (ax1_s hv hvc hv2 hn hx) (Jset z f _ v _ hJ rfl) (by omega)
            · obtain ⟨l, hl⟩ : ∃ l, f v = some l := by
                cases hf : f v with
                | none => exact absurd hf hn
                | some l => exact ⟨l, rfl⟩
              have hl2 := (hx.2.2.1 v l hvc hl).1
              refine u_X0_markArcs_3 ?_; unfold cm_X0_markArcs_3
              refine w_leF (by omega) (by omega) (w_ifF hi9 (w_ifT ((vm2 ⟨v, by omega⟩).mpr hv2) ?_))
              refine u_X0_markArcs_4 ?_; unfold cm_X0_markArcs_4
              exact w_crI ch_41001 rfl (by omega) ((j1 v (by omega)).trans (by rw [hl])) (w_ifF (oM_n (by omega)) (c5 (nI v) (nI i) z f (ax1_e hv hvc (Or.inr hn) hx) hJ))
          · refine u_X0_markArcs_3 ?_; unfold cm_X0_markArcs_3
            exact w_leF (by omega) (by omega) (w_ifF hi9 (w_ifF (fun h9 => by have := (vm2 ⟨v, by omega⟩).mp h9; dsimp only at this; omega) (c5 (nI v) (nI i) z f (ax1_e hv hvc (Or.inl hv2) hx) hJ)))
      obtain ⟨j1, j2, j3⟩ := id hJ
      have hn := ha.2.1 k (Nat.le_refl _)
      have uc := ucn_st (l := k) hn (2 * c) (by omega)
      have ul := ucn_le f (2 * c)
      refine u_X0_markArcs_2 ?_; unfold cm_X0_markArcs_2
      refine w_leF (by omega) (by omega) (w_crI ch_41001 rfl (by omega) ((j1 _ (by omega)).trans (by rw [hn]; rfl)) (w_ifT rfl ?_))
      refine u_X0_markArcs_3 ?_; unfold cm_X0_markArcs_3
      refine w_leF (b := 0) (by omega) (by omega) (w_ifT rfl ?_)
      refine u_X0_markArcs_4 ?_; unfold cm_X0_markArcs_4
      refine w_crI ch_41001 rfl (by omega) ((j1 _ (by omega)).trans (by rw [hn]; rfl)) (w_ifT rfl (w_rdF j2 (w_ctI ch_41001 rfl (by omega) (w_crI (nH_1 hh) rfl (show 2 * k + 1 < 24 by omega) (rd_ot (by unfold arP at h41; omega) ((hA z j3).2.2.1 _)) ?_))))
      exact c3 (2 * c - 1) 1 (S.1 (2 * k + 1)) _ _ (by omega) (hv _ (by omega)).1 (by omega) (ax1_0 hv (by omega) ha) (Jset z f _ _ _ hJ rfl) (by omega)
  refine e_X0_markArcs ?_
  refine u_X0_markArcs_0 ?_; unfold cm_X0_markArcs_0
  refine w_rdF hy.1 (w_cs0 (tc_fillA ch_41001 (by omega)) ?_)
  rintro y2 ⟨g1, g2⟩
  refine w_wrF ?_
  rw [rn_mul2]
  refine u_X0_markArcs_1 ?_; unfold cm_X0_markArcs_1
  refine w_ifF (by decide) ?_
  refine p1 c 0 _ (fun _ => none) (by omega) ⟨fun x hx => absurd hx (by omega), fun x _ => rfl, fun v l _ h9 => (by cases h9), fun v l _ _ h9 => (by cases h9)⟩ ⟨fun v hv2 => ?_, po_usF_at, fr_F2 (fr_mono (fun g hg => Or.inl hg) g2) (Or.inr rfl)⟩
  exact g1 v hv2
end CMA
/-- the ring of a visit, out of the list that a net shows -/
theorem iso_q {A : rn_L} {sg : Nat → Bool} {c ci : Nat} {S : ow_NP} {G : Nat → Int32} (hi : isoN A sg (fun x => x) (c, ci, S, G)) (hv : vn c S) : ∃ q : Nat → Nat, (∀ v, v < A.flatten.length → q (lbv A (fun x => x) v) = rn_c A v) ∧ (∀ v, v < 2 * c → q (S.1 v) = q v) ∧ (∀ v w, v < 2 * c → w < 2 * c → q v = q w → ∃ i, it S.1 i v = w) ∧ ∃ R : List Nat, R.length ≤ neC A ∧ ∀ v, v < 2 * c → q v ∈ R := by
  have hl : A.flatten.length = 2 * c := hi.2.1
  obtain ⟨F, hF⟩ : ∃ F : Nat → Nat, ∀ a, a < 2 * c → F a < A.flatten.length ∧ lbv A (fun x => x) (F a) = a := by
    refine ⟨fun a => if ha : a < 2 * c then Classical.choose (lbv_sur hi ha) else 0, fun a ha => ?_⟩
    dsimp only
    rw [dif_pos ha]
    exact Classical.choose_spec (lbv_sur hi ha)
  have hFi : ∀ v, v < A.flatten.length → F (lbv A (fun x => x) v) = v := fun v hv1 => by
    obtain ⟨q1, q2⟩ := hF _ (lbv_lt hi hv1)
    exact lbv_inj hi q1 hv1 q2
  refine ⟨fun a => rn_c A (F a), fun v hv1 => (by dsimp only; rw [hFi v hv1]), fun v hv1 => ?_, fun v w hv1 hw e => ?_, ((List.range A.length).filter (fun c => decide (rn_b A c < rn_b A (c + 1)))), Nat.le_refl _, fun v hv1 => ?_⟩
  · obtain ⟨f1, f2⟩ := hF v hv1
    have h1 : S.1 (lbv A (fun x => x) (F v)) = lbv A (fun x => x) (rn_nx A (F v)) := hi.2.2.2.2.2.1 (F v) f1
    rw [f2] at h1
    dsimp only
    rw [h1, hFi _ (rn_nx_lt f1), c_nx f1]
  · obtain ⟨f1, f2⟩ := hF v hv1
    obtain ⟨g1, g2⟩ := hF w hw
    obtain ⟨i, -, hi2⟩ := iso_same hi f1 g1 e.symm
    rw [f2, g2] at hi2
    exact ⟨i, hi2⟩
  · obtain ⟨f1, f2⟩ := hF v hv1
    obtain ⟨h1, h2, h3⟩ := rn_c_in A (F v) f1
    exact List.mem_filter.mpr ⟨List.mem_range.mpr h1, decide_eq_true (Nat.lt_of_le_of_lt h2 h3)⟩
section CFC
variable {vl : Nat → Nat} {y : ow_MS}
def cvP (g : Nat) : Prop := 41001 ≤ g ∧ g ≤ 41005 ∨ 42001 ≤ g ∧ g ≤ 42012
/-- how many divisors are there -/
def dvC (y : ow_MS) : Prop := ∃ n, n ≤ 18 ∧ y.1 41005 = nI n
theorem u_J7_fill_d0a16_1 {vl : Nat → Nat} {x3 : Int32} {x4 : Int32} {w1 : Int64} {r0 : Nat} {z : ow_MS} {Q : ow_MS → Prop} (H : Tt (fun K k => cm_J7_fill_d0a16_1 vl K (c_J7_fill_d0a16 vl K k) x3 x4 w1 r0 z) Q) : Tt (fun K k => c_J7_fill_d0a16 vl K k 1 x3 x4 w1 r0 z) Q := w_un (fun _ _ => rfl) H
theorem e_J7_fill_d0a16 {vl : Nat → Nat} {r0 : Nat} {w1 : Int64} {z : ow_MS} {Q : ow_MS → Prop} (H : Tt (fun K k => c_J7_fill_d0a16 vl K k 0 0 0 w1 r0 z) Q) : Te (fun K => ce_J7_fill_d0a16 vl K r0 w1 z) Q := w_te H
theorem u_J7_fill_d0a16_0 {vl : Nat → Nat} {x3 : Int32} {x4 : Int32} {w1 : Int64} {r0 : Nat} {z : ow_MS} {Q : ow_MS → Prop} (H : Tt (fun K k => cm_J7_fill_d0a16_0 vl K (c_J7_fill_d0a16 vl K k) x3 x4 w1 r0 z) Q) : Tt (fun K k => c_J7_fill_d0a16 vl K k 0 x3 x4 w1 r0 z) Q := w_un (fun _ _ => rfl) H
theorem tc_fillJ {g l : Nat} {w : Int64} (hL : ((cX vl).2 g).2.1 = l) (hl : l < 2 ^ 31) : Te (fun K => ce_J7_fill_d0a16 vl K g w y) (fun y1 => (∀ j, j < l → y1.2.2 g j = w) ∧ fr (fun q => q = g) y y1) := by
  have key : ∀ (d i : Nat) (z : ow_MS), i + d = l → fr (fun q => q = g) y z → (∀ j, j < i → z.2.2 g j = w) → Tt (fun K k => c_J7_fill_d0a16 vl K k 1 (nI i) (nI l) w g z) (fun y1 => (∀ j, j < l → y1.2.2 g j = w) ∧ fr (fun q => q = g) y y1) := by
    intro d
    induction d with
    | zero =>
      intro i z hi hf hz
      refine u_J7_fill_d0a16_1 ?_; unfold cm_J7_fill_d0a16_1
      exact w_leT (by omega) (by omega) (w_some ⟨fun j hj => hz j (by omega), hf⟩)
    | succ d ih =>
      intro i z hi hf hz
      refine u_J7_fill_d0a16_1 ?_; unfold cm_J7_fill_d0a16_1
      refine w_leF (by omega) (by omega) (w_ctJ hL rfl (by omega) ?_)
      rw [nI_1]
      refine ih (i + 1) _ (by omega) (fr_J2 hf rfl) (fun j hj => ?_)
      by_cases e : j = i
      · rw [e, usJ_at]
      · rw [usJ_ne e]
        exact hz j (by omega)
  refine e_J7_fill_d0a16 ?_
  refine u_J7_fill_d0a16_0 ?_; unfold cm_J7_fill_d0a16_0
  rw [show (Int32.ofNat (uw_len (cX vl) y g)) = nI l from by unfold uw_len; rw [hL]; rfl]
  exact key l 0 y (by omega) fr_rf (fun j hj => absurd hj (by omega))
theorem e_X0_findCover {vl : Nat → Nat} {r0 : Nat} {r1 : Nat} {z : ow_MS} {Q : ow_MS → Prop} (H : Tt (fun K k => c_X0_findCover vl K k 0 0 0 r0 r1 z) Q) : Te (fun K => ce_X0_findCover vl K r0 r1 z) Q := w_te H
theorem u_X0_findCover_0 {vl : Nat → Nat} {x2 : Int32} {x3 : Int32} {r0 : Nat} {r1 : Nat} {z : ow_MS} {Q : ow_MS → Prop} (H : Tt (fun K k => cm_X0_findCover_0 vl K (c_X0_findCover vl K k) x2 x3 r0 r1 z) Q) : Tt (fun K k => c_X0_findCover vl K k 0 x2 x3 r0 r1 z) Q := w_un (fun _ _ => rfl) H
theorem u_X0_findCover_5 {vl : Nat → Nat} {x2 : Int32} {x3 : Int32} {r0 : Nat} {r1 : Nat} {z : ow_MS} {Q : ow_MS → Prop} (H : Tt (fun K k => cm_X0_findCover_5 vl K (c_X0_findCover vl K k) x2 x3 r0 r1 z) Q) : Tt (fun K k => c_X0_findCover vl K k 5 x2 x3 r0 r1 z) Q := w_un (fun _ _ => rfl) H
theorem u_X0_findCover_4 {vl : Nat → Nat} {x2 : Int32} {x3 : Int32} {r0 : Nat} {r1 : Nat} {z : ow_MS} {Q : ow_MS → Prop} (H : Tt (fun K k => cm_X0_findCover_4 vl K (c_X0_findCover vl K k) x2 x3 r0 r1 z) Q) : Tt (fun K k => c_X0_findCover vl K k 4 x2 x3 r0 r1 z) Q := w_un (fun _ _ => rfl) H
theorem u_X0_findCover_2 {vl : Nat → Nat} {x2 : Int32} {x3 : Int32} {r0 : Nat} {r1 : Nat} {z : ow_MS} {Q : ow_MS → Prop} (H : Tt (fun K k => cm_X0_findCover_2 vl K (c_X0_findCover vl K k) x2 x3 r0 r1 z) Q) : Tt (fun K k => c_X0_findCover vl K k 2 x2 x3 r0 r1 z) Q := w_un (fun _ _ => rfl) H
theorem u_X0_findCover_3 {vl : Nat → Nat} {x2 : Int32} {x3 : Int32} {r0 : Nat} {r1 : Nat} {z : ow_MS} {Q : ow_MS → Prop} (H : Tt (fun K k => cm_X0_findCover_3 vl K (c_X0_findCover vl K k) x2 x3 r0 r1 z) Q) : Tt (fun K k => c_X0_findCover vl K k 3 x2 x3 r0 r1 z) Q := w_un (fun _ _ => rfl) H
theorem u_X0_findCover_1 {vl : Nat → Nat} {x2 : Int32} {x3 : Int32} {r0 : Nat} {r1 : Nat} {z : ow_MS} {Q : ow_MS → Prop} (H : Tt (fun K k => cm_X0_findCover_1 vl K (c_X0_findCover vl K k) x2 x3 r0 r1 z) Q) : Tt (fun K k => c_X0_findCover vl K k 1 x2 x3 r0 r1 z) Q := w_un (fun _ _ => rfl) H
theorem tc_findCover {A : rn_L} {sg : Nat → Bool} {c h : Nat} {S : ow_NP} {G : Nat → Int32} (hh : nH h) (hJ : jnN A sg c S G) (hy : cAt y h (c, cirs A, S, G)) : Te (fun K => ce_X0_findCover vl K 41000 h y) (fun y1 => dvC y1 ∧ fr cvP y y1) := by
  let Q : ow_MS → Prop := fun y1 => dvC y1 ∧ fr cvP y y1
  obtain ⟨hA, hi, hv, hG⟩ := hJ
  have hc := hA.2.2.2.1
  have h6 := hA.2.2.2.2
  have nc := neC_cirs A
  obtain ⟨q, q1, q2, q3, R, q4, q5⟩ := iso_q hi hv
  have hk : h % 1000 = 0 ∧ h ≠ 41000 ∧ h ≠ 42000 := by
    have key : ∀ a, a ∈ nHL → a % 1000 = 0 ∧ a ≠ 41000 ∧ a ≠ 42000 := by decide
    exact key h hh
  refine e_X0_findCover ?_
  refine u_X0_findCover_0 ?_; unfold cm_X0_findCover_0
  refine w_cs0 (tc_markArcs (m := neC A) hh hy hv hc (by omega) q2 q3 q4 q5 (by omega)) ?_
  rintro y1 ⟨⟨a, n, ⟨s1, s2, s3, s4, s5⟩, n1, n2⟩, f1⟩
  have hy1 : ∀ z, fr (fun g => 41004 ≤ g ∧ g ≤ 41005 ∨ 42001 ≤ g ∧ g ≤ 42012) y1 z → cAt z h (c, cirs A, S, G) := fun z hf => cAt_fr hf (fun g hg h9 => by unfold cP at hg; omega) (cAt_fr f1 (fun g hg h9 => by unfold cP at hg; unfold arP at h9; omega) hy)
  have f1c : fr cvP y y1 := fr_mono (fun g hg => by unfold arP at hg; unfold cvP; omega) f1
  have a18 : n + cirs A ≤ 18 := by omega
  have fC : ∀ z, fr (fun g => 41004 ≤ g ∧ g ≤ 41005 ∨ 42001 ≤ g ∧ g ≤ 42012) y1 z → fr cvP y z := fun z hf => fr_tr f1c (fr_mono (fun g hg => by unfold cvP; omega) hf)
  have a2 : ∀ z, fr (fun g => 41004 ≤ g ∧ g ≤ 41005 ∨ 42001 ≤ g ∧ g ≤ 42012) y1 z → z.1 41002 = nI (n + cirs A) := fun z hf => (hf 41002 (by omega)).1.trans s5
  have ar : ∀ z v, fr (fun g => 41004 ≤ g ∧ g ≤ 41005 ∨ 42001 ≤ g ∧ g ≤ 42012) y1 z → v < 2 * c → z.2.1 41001 v = nI (a v) := fun z v hf hv2 => (congrFun (hf 41001 (by omega)).2.1 v).trans (s1 v hv2).1
  have c5 : ∀ (d x rk k : Nat) (z : ow_MS), x + d = n + cirs A + 1 → 1 ≤ x → k + (n + cirs A) ≤ 18 + x → k ≤ 18 → z.1 41005 = nI k → fr (fun g => 41004 ≤ g ∧ g ≤ 41005 ∨ 42001 ≤ g ∧ g ≤ 42012) y1 z → Tt (fun K t => c_X0_findCover vl K t 5 (nI rk) (nI x) 41000 h z) Q := by
    intro d
    induction d with
    | zero =>
      intro x rk k z hx hx1 hk1 hk2 hz hf
      refine u_X0_findCover_5 ?_; unfold cm_X0_findCover_5
      exact w_rdF (a2 z hf) (w_leT (by omega) (by omega) (w_some ⟨⟨k, hk2, hz⟩, fC z hf⟩))
    | succ d ih =>
      intro x rk k z hx hx1 hk1 hk2 hz hf
      refine u_X0_findCover_5 ?_; unfold cm_X0_findCover_5
      refine w_rdF (a2 z hf) (w_le (by omega) (by omega) (fun _ => w_some ⟨⟨k, hk2, hz⟩, fC z hf⟩) (fun h9 => w_rdF hz (w_ctJ ch_41004 rfl (show k < 18 by omega) (w_rdF (x := nI k) hz (w_wrF ?_)))))
      rw [nI_1, nI_1]
      exact ih (x + 1) rk (k + 1) _ (by omega) (by omega) (by omega) (by omega) po_usF_at (fr_F2 (fr_J2 hf (Or.inl (by omega))) (Or.inl (by omega)))
  have c4 : ∀ (rk k t : Nat) (z : ow_MS), k ≤ rk → rk ≤ n + cirs A → z.1 41005 = nI k → fr (fun g => 41004 ≤ g ∧ g ≤ 41005 ∨ 42001 ≤ g ∧ g ≤ 42012) y1 z → Tt (fun K i => c_X0_findCover vl K i 4 (nI rk) (nI t) 41000 h z) Q := by
    intro rk k t z h1 h2 hz hf
    refine u_X0_findCover_4 ?_; unfold cm_X0_findCover_4
    rw [nI_1]
    exact c5 (n + cirs A - rk) (rk + 1) rk k z (by omega) (by omega) (by omega) (by omega) hz hf
  have c2 : ∀ (d t k : Nat) (z : ow_MS), t + d = c → k ≤ t → t ≤ n + cirs A → z.1 41005 = nI k → fr (fun g => 41004 ≤ g ∧ g ≤ 41005 ∨ 42001 ≤ g ∧ g ≤ 42012) y1 z → Tt (fun K i => c_X0_findCover vl K i 2 (nI t) (nI t) 41000 h z) Q := by
    intro d
    induction d with
    | zero =>
      intro t k z ht hk1 htn hz hf
      refine u_X0_findCover_2 ?_; unfold cm_X0_findCover_2
      exact w_rdF (hy1 z hf).1 (w_leT (by omega) (by omega) (c4 t k t z hk1 htn hz hf))
    | succ d ih =>
      intro t k z ht hk1 htn hz hf
      have c3 : ∀ (k : Nat) (z : ow_MS), k ≤ t + 1 → t < n + cirs A → z.1 41005 = nI k → fr (fun g => 41004 ≤ g ∧ g ≤ 41005 ∨ 42001 ≤ g ∧ g ≤ 42012) y1 z → Tt (fun K i => c_X0_findCover vl K i 3 (nI (t + 1)) (nI t) 41000 h z) Q := by
        intro k z h1 h2 hz hf
        refine u_X0_findCover_3 ?_; unfold cm_X0_findCover_3
        rw [nI_1]
        exact ih (t + 1) k z (by omega) h1 (by omega) hz hf
      refine u_X0_findCover_2 ?_; unfold cm_X0_findCover_2
      refine w_rdF (hy1 z hf).1 (w_leF (by omega) (by omega) (w_rdF (a2 z hf) (w_le (by omega) (by omega) (fun _ => c4 t k t z hk1 htn hz hf) (fun h9 => w_rdF (hy1 z hf).1 (w_cs1 (tc_isol hc (a2 z hf) a18 (show t < c by omega) h9) ?_)))))
      rintro v z1 ⟨-, g1⟩
      have f2 := fr_tr hf (fr_mono (fun g hg => by unfold acR at hg; omega) g1)
      dsimp only at f2
      have hz1 : z1.1 41005 = nI k := (g1 41005 (by unfold acR; omega)).1.trans hz
      refine w_if (fun _ => c4 t k t z1 hk1 htn hz1 f2) (fun _ => w_crX rfl (show t < 12 by omega) (w_crJ (ch_mat (show t < 12 by omega)) rfl (show t < 18 by omega) rfl ?_))
      rw [nI_1]
      refine w_if (fun _ => c3 k z1 (by omega) h9 hz1 f2) (fun _ => w_rdF hz1 (w_crX rfl (show t < 12 by omega) (w_crJ (ch_mat (show t < 12 by omega)) rfl (show t < 18 by omega) rfl (w_ctJ ch_41004 rfl (show k < 18 by omega) (w_rdF (x := nI k) hz1 (w_wrF ?_))))))
      rw [nI_1]
      exact c3 (k + 1) _ (by omega) h9 po_usF_at (fr_F2 (fr_J2 f2 (Or.inl (by omega))) (Or.inl (by omega)))
  have c1 : ∀ (d x : Nat) (z : ow_MS), x + d = c → fr (fun g => 41004 ≤ g ∧ g ≤ 41005 ∨ 42001 ≤ g ∧ g ≤ 42012) y1 z → Tt (fun K i => c_X0_findCover vl K i 1 (nI x) 0 41000 h z) Q := by
    intro d
    induction d with
    | zero =>
      intro x z hx hf
      refine u_X0_findCover_1 ?_; unfold cm_X0_findCover_1
      exact w_rdF (hy1 z hf).1 (w_leT (by omega) (by omega) (w_wrF (c2 c 0 0 _ (by omega) (by omega) (by omega) po_usF_at (fr_F2 hf (Or.inl (by omega))))))
    | succ d ih =>
      intro x z hx hf
      have b1 := (s1 (2 * x) (by omega)).2
      have b2 := (s1 (2 * x + 1) (by omega)).2
      obtain ⟨-, v2, -, -⟩ := hv (2 * x + 1) (by omega)
      have b3 := (s1 _ v2).2
      have cx := ch_mat (vl := vl) (show x < 12 by omega)
      refine u_X0_findCover_1 ?_; unfold cm_X0_findCover_1
      refine w_rdF (hy1 z hf).1 (w_leF (by omega) (by omega) (w_crX rfl (show x < 12 by omega) (w_cs0 (tc_fillJ cx (by omega)) ?_)))
      rintro z1 ⟨-, g1⟩
      have f2 : fr (fun g => 41004 ≤ g ∧ g ≤ 41005 ∨ 42001 ≤ g ∧ g ≤ 42012) y1 z1 := fr_tr hf (fr_mono (fun g hg => by omega) g1)
      rw [rn_mul2, nI_1, nI_1]
      refine w_crX rfl (show x < 12 by omega) (w_crI ch_41001 rfl (show 2 * x < 24 by omega) (ar z1 _ f2 (by omega)) (w_crJ cx rfl (show a (2 * x) < 18 by omega) rfl (w_ctJ cx rfl (show a (2 * x) < 18 by omega) (w_crX rfl (show x < 12 by omega) (w_crI ch_41001 rfl (show 2 * x + 1 < 24 by omega) (ar _ _ (fr_J2 f2 (by omega)) (by omega)) (w_crJ cx rfl (show a (2 * x + 1) < 18 by omega) rfl (w_ctJ cx rfl (show a (2 * x + 1) < 18 by omega) (w_crX rfl (show x < 12 by omega) (w_crI (nH_2 hh) rfl (show 2 * x + 1 < 24 by omega) ((hy1 _ (fr_J2 (fr_J2 f2 (by omega)) (by omega))).2.2.2.1 (2 * x + 1)) (w_crI ch_41001 rfl (show S.2 (2 * x + 1) < 24 by omega) (ar _ _ (fr_J2 (fr_J2 f2 (by omega)) (by omega)) v2) (w_crJ cx rfl (show a (S.2 (2 * x + 1)) < 18 by omega) rfl (w_ctJ cx rfl (show a (S.2 (2 * x + 1)) < 18 by omega) ?_))))))))))))
      exact ih (x + 1) _ (by omega) (fr_J2 (fr_J2 (fr_J2 f2 (by omega)) (by omega)) (by omega))
  exact c1 c 0 y1 (by omega) fr_rf
end CFC
end
section
/-! 99zzzzzzz.ccov2 -/
/-! the class: cover, colours -/
section CC2
variable {vl : Nat → Nat} {y : ow_MS} {x x' : Int32}
theorem u_X0_coverAt_1 {vl : Nat → Nat} {x1 : Int32} {r0 : Nat} {z : ow_MS} {Q : (Int32 × ow_MS) → Prop} (H : Tt (fun K k => cm_X0_coverAt_1 vl K (c_X0_coverAt vl K k) x1 r0 z) Q) : Tt (fun K k => c_X0_coverAt vl K k 1 x1 r0 z) Q := w_un (fun _ _ => rfl) H
theorem e_X0_coverAt {vl : Nat → Nat} {r0 : Nat} {x1 : Int32} {z : ow_MS} {Q : (Int32 × ow_MS) → Prop} (H : Tt (fun K k => c_X0_coverAt vl K k 0 x1 r0 z) Q) : Te (fun K => ce_X0_coverAt vl K r0 x1 z) Q := w_te H
theorem u_X0_coverAt_0 {vl : Nat → Nat} {x1 : Int32} {r0 : Nat} {z : ow_MS} {Q : (Int32 × ow_MS) → Prop} (H : Tt (fun K k => cm_X0_coverAt_0 vl K (c_X0_coverAt vl K k) x1 r0 z) Q) : Tt (fun K k => c_X0_coverAt vl K k 0 x1 r0 z) Q := w_un (fun _ _ => rfl) H
theorem tc_coverAt (hd : dvC y) : Te (fun K => ce_X0_coverAt vl K 41000 x y) (fun r => r.2 = y) := by
  obtain ⟨n, n18, hn⟩ := hd
  have c1 : Tt (fun K t => c_X0_coverAt vl K t 1 x 41000 y) (fun r => r.2 = y) := by
    refine u_X0_coverAt_1 ?_; unfold cm_X0_coverAt_1
    exact w_some rfl
  refine e_X0_coverAt ?_
  refine u_X0_coverAt_0 ?_; unfold cm_X0_coverAt_0
  refine w_if (fun _ => c1) (fun h0 => ?_)
  obtain ⟨k, k31, rfl⟩ := nI_of h0
  exact w_rdF hn (w_lt k31 (by omega) (fun h9 => w_crJ ch_41004 rfl (show k < 18 by omega) rfl (w_some rfl)) (fun _ => c1))
theorem u_X0_commonDivisor_1 {vl : Nat → Nat} {x8 : Int32} {w0 : Int64} {w2 : Int64} {w4 : Int64} {w6 : Int64} {z : ow_MS} {Q : (Int64 × ow_MS) → Prop} (H : Tt (fun K k => cm_X0_commonDivisor_1 vl K (c_X0_commonDivisor vl K k) x8 w0 w2 w4 w6 z) Q) : Tt (fun K k => c_X0_commonDivisor vl K k 1 x8 w0 w2 w4 w6 z) Q := w_un (fun _ _ => rfl) H
theorem e_X0_commonDivisor {vl : Nat → Nat} {w0 : Int64} {w2 : Int64} {z : ow_MS} {Q : (Int64 × ow_MS) → Prop} (H : Tt (fun K k => c_X0_commonDivisor vl K k 0 0 w0 w2 0 0 z) Q) : Te (fun K => ce_X0_commonDivisor vl K w0 w2 z) Q := w_te H
theorem u_X0_commonDivisor_0 {vl : Nat → Nat} {x8 : Int32} {w0 : Int64} {w2 : Int64} {w4 : Int64} {w6 : Int64} {z : ow_MS} {Q : (Int64 × ow_MS) → Prop} (H : Tt (fun K k => cm_X0_commonDivisor_0 vl K (c_X0_commonDivisor vl K k) x8 w0 w2 w4 w6 z) Q) : Tt (fun K k => c_X0_commonDivisor vl K k 0 x8 w0 w2 w4 w6 z) Q := w_un (fun _ _ => rfl) H
theorem tc_comDiv {a b : Int64} : Te (fun K => ce_X0_commonDivisor vl K a b y) (fun r => r.2 = y) := by
  have key : ∀ (d i : Nat) (w4 w6 : Int64), i + d = 200 → Tt (fun K t => c_X0_commonDivisor vl K t 1 (nI i) a b w4 w6 y) (fun r => r.2 = y) := by
    intro d
    induction d with
    | zero =>
      intro i w4 w6 hi
      refine u_X0_commonDivisor_1 ?_; unfold cm_X0_commonDivisor_1
      exact w_leT (a := 200) (by omega) (by omega) (w_some rfl)
    | succ d ih =>
      intro i w4 w6 hi
      refine u_X0_commonDivisor_1 ?_; unfold cm_X0_commonDivisor_1
      rw [nI_1]
      exact w_leF (a := 200) (by omega) (by omega) (w_if (fun _ => w_some rfl) (fun h0 => w_nzJ (lgc0 h0) (ih (i + 1) _ _ (by omega))))
  refine e_X0_commonDivisor ?_
  refine u_X0_commonDivisor_0 ?_; unfold cm_X0_commonDivisor_0
  exact key 200 0 a b (by omega)
theorem u_X0_countColours_1 {vl : Nat → Nat} {x1 : Int32} {x4 : Int32} {w2 : Int64} {r0 : Nat} {z : ow_MS} {Q : (Int64 × ow_MS) → Prop} (H : Tt (fun K k => cm_X0_countColours_1 vl K (c_X0_countColours vl K k) x1 x4 w2 r0 z) Q) : Tt (fun K k => c_X0_countColours vl K k 1 x1 x4 w2 r0 z) Q := w_un (fun _ _ => rfl) H
theorem e_X0_countColours {vl : Nat → Nat} {r0 : Nat} {x1 : Int32} {z : ow_MS} {Q : (Int64 × ow_MS) → Prop} (H : Tt (fun K k => c_X0_countColours vl K k 0 x1 0 0 r0 z) Q) : Te (fun K => ce_X0_countColours vl K r0 x1 z) Q := w_te H
theorem u_X0_countColours_0 {vl : Nat → Nat} {x1 : Int32} {x4 : Int32} {w2 : Int64} {r0 : Nat} {z : ow_MS} {Q : (Int64 × ow_MS) → Prop} (H : Tt (fun K k => cm_X0_countColours_0 vl K (c_X0_countColours vl K k) x1 x4 w2 r0 z) Q) : Tt (fun K k => c_X0_countColours vl K k 0 x1 x4 w2 r0 z) Q := w_un (fun _ _ => rfl) H
theorem tc_countCol (hd : dvC y) : Te (fun K => ce_X0_countColours vl K 41000 x y) (fun r => r.2 = y) := by
  obtain ⟨n, n18, hn⟩ := hd
  have key : ∀ (d i : Nat) (w : Int64), i + d = n → Tt (fun K t => c_X0_countColours vl K t 1 x (nI i) w 41000 y) (fun r => r.2 = y) := by
    intro d
    induction d with
    | zero =>
      intro i w hi
      refine u_X0_countColours_1 ?_; unfold cm_X0_countColours_1
      exact w_rdF hn (w_leT (by omega) (by omega) (w_some rfl))
    | succ d ih =>
      intro i w hi
      refine u_X0_countColours_1 ?_; unfold cm_X0_countColours_1
      refine w_rdF hn (w_leF (by omega) (by omega) (w_crJ ch_41004 rfl (show i < 18 by omega) rfl (w_cs1 tc_comDiv ?_)))
      rintro v z e
      dsimp only at e
      rw [e, nI_1]
      exact ih (i + 1) _ (by omega)
  refine e_X0_countColours ?_
  refine u_X0_countColours_0 ?_; unfold cm_X0_countColours_0
  exact key n 0 _ (by omega)
def cxP (g : Nat) : Prop := cL 4000 g ∨ cvP g
theorem cxP_r {g : Nat} (h : cxP g) : 4001 ≤ g ∧ g ≤ 4011 ∨ 41001 ≤ g ∧ g ≤ 41005 ∨ 42001 ≤ g ∧ g ≤ 42012 := by
  rcases h with h | h
  · unfold cL at h
    omega
  · unfold cvP at h
    omega
theorem gM_cv {y1 y2 : ow_MS} (hN : gN y1) (hf : fr (cL 4000) y y1) (hf2 : fr cvP y1 y2) (h : gM y) : gM y2 := by
  refine ⟨⟨dgC_fr hf2 (fun g g1 g2 h9 => by unfold cvP at h9; omega) hN.1, nsC_fr hf2 (fun h' hh' g hg h9 => ?_) hN.2.1, kdC_fr hf2 (fun g hg => by unfold cvP at hg; omega) hN.2.2⟩, tbs_fr (fr_tr (fr_mono (fun g hg => Or.inl hg) hf) (fr_mono (fun g hg => Or.inr hg) hf2)) (fun g (hg : cxP g) => by have := cxP_r hg; omega) h.2⟩
  have key : ∀ a, a ∈ nHL → a ≤ 40000 ∨ 44000 ≤ a := by decide
  have := key h' hh'
  unfold cP at hg
  unfold cvP at h9
  omega
/-- a diagram is loaded, its cover found -/
theorem tc_ld3 {h d c : Nat} {A : rn_L} {sg : Nat → Bool} (hh : nH h) (hN : gN y) (hd : d < 40) (hs : slC y 1000 d (clC sg A)) (hA : okL A c) : Te (fun K => ce_X7_load vl K h 1000 (nI d) y) (fun y1 => gN y1 ∧ fr (cL h) y y1 ∧ ∃ S G, shA y1 h A sg (c, cirs A, S, G) ∧ jnN A sg c S G) := by
  obtain ⟨T, hT, hb⟩ := hN.2.1 h hh
  have h4 : 4000 ≤ h := nH_all (P := fun h => 4000 ≤ h) (by decide) hh
  refine w_monoE (tc_load3 hh ch_1000 (by omega) hd hA hs hT hb) ?_
  rintro y1 ⟨⟨⟨c', ci', S, G⟩, h1, h2, h3, h5⟩, h6⟩
  dsimp only at h2 h3 h5
  subst h2
  subst h3
  exact ⟨gN_net hh h6 (fun g hg => by unfold cL at hg; omega) ⟨_, h1.1, h1.2.2.1.2.2.1⟩ hN, h6, S, G, h1, hA, h1.2.1, h1.2.2.1.1, h5⟩
theorem e_X11_cover {vl : Nat → Nat} {r0 : Nat} {x1 : Int32} {x2 : Int32} {z : ow_MS} {Q : (Nat × Int32 × ow_MS) → Prop} (H : Tt (fun K _ => cm_X11_cover_0 vl K x1 x2 r0 z) Q) : Te (fun K => ce_X11_cover vl K r0 x1 x2 z) Q := w_te0 H
theorem e_X11_colours {vl : Nat → Nat} {r0 : Nat} {x1 : Int32} {x2 : Int32} {z : ow_MS} {Q : (Nat × Int64 × ow_MS) → Prop} (H : Tt (fun K _ => cm_X11_colours_0 vl K x1 x2 r0 z) Q) : Te (fun K => ce_X11_colours vl K r0 x1 x2 z) Q := w_te0 H
end CC2
end
section
/-! 99zzzzzzza.cmap -/
/-! the class: maps has an answer -/
/-- the tables of permutations; the latest values -/
def mpC (y : ow_MS) : Prop := (∀ i, i < 576 → ∃ k, k < 24 ∧ y.2.1 41006 i = nI k) ∧ (∀ i, i < 24 → ∃ k, k < 24 ∧ y.2.1 41007 i = nI k) ∧ ∀ i, i < 18 → ∃ k, k < 24 ∧ y.2.1 41009 i = nI k
theorem mpC_fr {P : Nat → Prop} {y y1 : ow_MS} (hf : fr P y y1) (hP : ¬ P 41006 ∧ ¬ P 41007 ∧ ¬ P 41009) (h : mpC y) : mpC y1 := by
  obtain ⟨h1, h2, h3⟩ := h
  refine ⟨fun i hi => ?_, fun i hi => ?_, fun i hi => ?_⟩
  · rw [(hf _ hP.1).2.1]
    exact h1 i hi
  · rw [(hf _ hP.2.1).2.1]
    exact h2 i hi
  · rw [(hf _ hP.2.2).2.1]
    exact h3 i hi
theorem ch_41006 {vl : Nat → Nat} : ((cX vl).2 41006).2.1 = 576 := rfl
theorem ch_41007 {vl : Nat → Nat} : ((cX vl).2 41007).2.1 = 24 := rfl
theorem ch_41008 {vl : Nat → Nat} : ((cX vl).2 41008).2.1 = 24 := rfl
theorem ch_41009 {vl : Nat → Nat} : ((cX vl).2 41009).2.1 = 18 := rfl
theorem ch_41011 {vl : Nat → Nat} : ((cX vl).2 41011).2.1 = 36 := rfl
theorem ch_41012 {vl : Nat → Nat} : ((cX vl).2 41012).2.1 = 36 := rfl
theorem ch_41013 {vl : Nat → Nat} : ((cX vl).2 41013).2.1 = 36 := rfl
theorem ch_41014 {vl : Nat → Nat} : ((cX vl).2 41014).2.1 = 36 := rfl
theorem ch_41015 {vl : Nat → Nat} : ((cX vl).2 41015).2.1 = 36 := rfl
/-- the steps of a plan -/
def stP (z : ow_MS) : Prop := ∃ k, k ≤ 36 ∧ z.1 41010 = nI k ∧ ∀ s, s < k → (∃ a, a < 18 ∧ z.2.1 41012 s = nI a) ∧ (∃ a, a < 18 ∧ z.2.1 41013 s = nI a) ∧ ∃ a, a < 18 ∧ z.2.1 41014 s = nI a
def plR (g : Nat) : Prop := 41010 ≤ g ∧ g ≤ 41016
section CMP
variable {vl : Nat → Nat} {y : ow_MS}
theorem e_X0_addStep {vl : Nat → Nat} {r0 : Nat} {x1 : Int32} {x2 : Int32} {x3 : Int32} {x4 : Int32} {x5 : Int32} {z : ow_MS} {Q : ow_MS → Prop} (H : Tt (fun K _ => cm_X0_addStep_0 vl K x1 x2 x3 x4 x5 r0 z) Q) : Te (fun K => ce_X0_addStep vl K r0 x1 x2 x3 x4 x5 z) Q := w_te0 H
theorem tc_addStep {a b d : Nat} {k i : Int32} (h : stP y) (ha : a < 18) (hb : b < 18) (hd : d < 18) : Te (fun K => ce_X0_addStep vl K 41000 k (nI a) (nI b) (nI d) i y) (fun y1 => stP y1 ∧ fr plR y y1) := by
  obtain ⟨n, n36, h1, h2⟩ := id h
  refine e_X0_addStep ?_; unfold cm_X0_addStep_0
  rw [show Int32.ofNat (uw_len (cX vl) y (41000 + 11)) = nI 36 from rfl]
  refine w_rdF h1 (w_le (by omega) (by omega) (fun _ => w_some ⟨h, fr_rf⟩) (fun h9 => w_rdF h1 (w_ctI ch_41011 rfl h9 (w_rdF (x := nI n) h1 (w_ctI ch_41012 rfl h9 (w_rdF (x := nI n) h1 (w_ctI ch_41013 rfl h9 (w_rdF (x := nI n) h1 (w_ctI ch_41014 rfl h9 (w_rdF (x := nI n) h1 (w_ctZ ch_41015 rfl h9 (w_rdF (x := nI n) h1 (w_wrF (w_some ⟨⟨n + 1, by omega, ?_, fun s hs => ?_⟩, ?_⟩))))))))))))))
  · rw [po_usF_at, nI_1]
  · by_cases e : s = n
    · subst e
      exact ⟨⟨a, ha, rd_ot (by omega) (rd_ot (by omega) (rd_ot (by omega) po_usI_at))⟩, ⟨b, hb, rd_ot (by omega) (rd_ot (by omega) po_usI_at)⟩, d, hd, rd_ot (by omega) po_usI_at⟩
    · obtain ⟨⟨a', b1, b2⟩, ⟨a2, c1, c2⟩, a3, d1, d2⟩ := h2 s (by omega)
      exact ⟨⟨a', b1, rd_ot (by omega) (rd_ot (by omega) (rd_ot (by omega) (rd_ne e (rd_ot (by omega) b2))))⟩, ⟨a2, c1, rd_ot (by omega) (rd_ot (by omega) (rd_ne e (rd_ot (by omega) (rd_ot (by omega) c2))))⟩, a3, d1, rd_ot (by omega) (rd_ne e (rd_ot (by omega) (rd_ot (by omega) (rd_ot (by omega) d2))))⟩
  · exact fr_F2 (fr_I2 (fr_I2 (fr_I2 (fr_I2 (fr_I (by unfold plR; omega)) (by unfold plR; omega)) (by unfold plR; omega)) (by unfold plR; omega)) (by unfold plR; omega)) (by unfold plR; omega)
/-- what a plan reads: the arcs, the net -/
def plN (y : ow_MS) (c ci : Nat) (S : ow_NP) (G : Nat → Int32) (a : Nat → Nat) (n : Nat) : Prop := cAt y 4000 (c, ci, S, G) ∧ vn c S ∧ c ≤ 12 ∧ n ≤ 18 ∧ (∀ v, v < 2 * c → y.2.1 41001 v = nI (a v) ∧ a v < n) ∧ y.1 41002 = nI n
theorem plN_fr {P : Nat → Prop} {y1 : ow_MS} {c ci n : Nat} {S : ow_NP} {G : Nat → Int32} {a : Nat → Nat} (hf : fr P y y1) (hP : ∀ g, P g → ¬ cP 4000 g ∧ g ≠ 41001 ∧ g ≠ 41002) (h : plN y c ci S G a n) : plN y1 c ci S G a n := by
  obtain ⟨h1, h2, h3, h4, h5, h6⟩ := h
  refine ⟨cAt_fr hf (fun g hg h9 => (hP g h9).1 hg) h1, h2, h3, h4, fun v hv => ?_, (hf 41002 (fun h9 => (hP _ h9).2.2 rfl)).1.trans h6⟩
  rw [(hf 41001 (fun h9 => (hP _ h9).2.1 rfl)).2.1]
  exact h5 v hv
theorem plR_n {g : Nat} (h : plR g) : ¬ cP 4000 g ∧ g ≠ 41001 ∧ g ≠ 41002 := by
  unfold plR at h
  unfold cP
  omega
variable {c ci n : Nat} {S : ow_NP} {G : Nat → Int32} {a : Nat → Nat}
theorem u_X0_planCrossing_14 {vl : Nat → Nat} {x2 : Int32} {x3 : Int32} {x4 : Int32} {x5 : Int32} {x6 : Int32} {x7 : Int32} {x8 : Int32} {x9 : Int32} {x10 : Int32} {r0 : Nat} {r1 : Nat} {t0 : Int32} {t1 : Int32} {t2 : Int32} {t3 : Int32} {t4 : Int32} {z : ow_MS} {Q : (Int32 × ow_MS) → Prop} (H : Tt (fun K k => cm_X0_planCrossing_14 vl K (c_X0_planCrossing vl K k) x2 x3 x4 x5 x6 x7 x8 x9 x10 r0 r1 t0 t1 t2 t3 t4 z) Q) : Tt (fun K k => c_X0_planCrossing vl K k 14 x2 x3 x4 x5 x6 x7 x8 x9 x10 r0 r1 t0 t1 t2 t3 t4 z) Q := w_un (fun _ _ => rfl) H
theorem u_X0_planCrossing_10 {vl : Nat → Nat} {x2 : Int32} {x3 : Int32} {x4 : Int32} {x5 : Int32} {x6 : Int32} {x7 : Int32} {x8 : Int32} {x9 : Int32} {x10 : Int32} {r0 : Nat} {r1 : Nat} {t0 : Int32} {t1 : Int32} {t2 : Int32} {t3 : Int32} {t4 : Int32} {z : ow_MS} {Q : (Int32 × ow_MS) → Prop} (H : Tt (fun K k => cm_X0_planCrossing_10 vl K (c_X0_planCrossing vl K k) x2 x3 x4 x5 x6 x7 x8 x9 x10 r0 r1 t0 t1 t2 t3 t4 z) Q) : Tt (fun K k => c_X0_planCrossing vl K k 10 x2 x3 x4 x5 x6 x7 x8 x9 x10 r0 r1 t0 t1 t2 t3 t4 z) Q := w_un (fun _ _ => rfl) H
theorem u_X0_planCrossing_11 {vl : Nat → Nat} {x2 : Int32} {x3 : Int32} {x4 : Int32} {x5 : Int32} {x6 : Int32} {x7 : Int32} {x8 : Int32} {x9 : Int32} {x10 : Int32} {r0 : Nat} {r1 : Nat} {t0 : Int32} {t1 : Int32} {t2 : Int32} {t3 : Int32} {t4 : Int32} {z : ow_MS} {Q : (Int32 × ow_MS) → Prop} (H : Tt (fun K k => cm_X0_planCrossing_11 vl K (c_X0_planCrossing vl K k) x2 x3 x4 x5 x6 x7 x8 x9 x10 r0 r1 t0 t1 t2 t3 t4 z) Q) : Tt (fun K k => c_X0_planCrossing vl K k 11 x2 x3 x4 x5 x6 x7 x8 x9 x10 r0 r1 t0 t1 t2 t3 t4 z) Q := w_un (fun _ _ => rfl) H
theorem u_X0_planCrossing_13 {vl : Nat → Nat} {x2 : Int32} {x3 : Int32} {x4 : Int32} {x5 : Int32} {x6 : Int32} {x7 : Int32} {x8 : Int32} {x9 : Int32} {x10 : Int32} {r0 : Nat} {r1 : Nat} {t0 : Int32} {t1 : Int32} {t2 : Int32} {t3 : Int32} {t4 : Int32} {z : ow_MS} {Q : (Int32 × ow_MS) → Prop} (H : Tt (fun K k => cm_X0_planCrossing_13 vl K (c_X0_planCrossing vl K k) x2 x3 x4 x5 x6 x7 x8 x9 x10 r0 r1 t0 t1 t2 t3 t4 z) Q) : Tt (fun K k => c_X0_planCrossing vl K k 13 x2 x3 x4 x5 x6 x7 x8 x9 x10 r0 r1 t0 t1 t2 t3 t4 z) Q := w_un (fun _ _ => rfl) H
theorem u_X0_planCrossing_12 {vl : Nat → Nat} {x2 : Int32} {x3 : Int32} {x4 : Int32} {x5 : Int32} {x6 : Int32} {x7 : Int32} {x8 : Int32} {x9 : Int32} {x10 : Int32} {r0 : Nat} {r1 : Nat} {t0 : Int32} {t1 : Int32} {t2 : Int32} {t3 : Int32} {t4 : Int32} {z : ow_MS} {Q : (Int32 × ow_MS) → Prop} (H : Tt (fun K k => cm_X0_planCrossing_12 vl K (c_X0_planCrossing vl K k) x2 x3 x4 x5 x6 x7 x8 x9 x10 r0 r1 t0 t1 t2 t3 t4 z) Q) : Tt (fun K k => c_X0_planCrossing vl K k 12 x2 x3 x4 x5 x6 x7 x8 x9 x10 r0 r1 t0 t1 t2 t3 t4 z) Q := w_un (fun _ _ => rfl) H
theorem u_X0_planCrossing_9 {vl : Nat → Nat} {x2 : Int32} {x3 : Int32} {x4 : Int32} {x5 : Int32} {x6 : Int32} {x7 : Int32} {x8 : Int32} {x9 : Int32} {x10 : Int32} {r0 : Nat} {r1 : Nat} {t0 : Int32} {t1 : Int32} {t2 : Int32} {t3 : Int32} {t4 : Int32} {z : ow_MS} {Q : (Int32 × ow_MS) → Prop} (H : Tt (fun K k => cm_X0_planCrossing_9 vl K (c_X0_planCrossing vl K k) x2 x3 x4 x5 x6 x7 x8 x9 x10 r0 r1 t0 t1 t2 t3 t4 z) Q) : Tt (fun K k => c_X0_planCrossing vl K k 9 x2 x3 x4 x5 x6 x7 x8 x9 x10 r0 r1 t0 t1 t2 t3 t4 z) Q := w_un (fun _ _ => rfl) H
theorem u_X0_planCrossing_7 {vl : Nat → Nat} {x2 : Int32} {x3 : Int32} {x4 : Int32} {x5 : Int32} {x6 : Int32} {x7 : Int32} {x8 : Int32} {x9 : Int32} {x10 : Int32} {r0 : Nat} {r1 : Nat} {t0 : Int32} {t1 : Int32} {t2 : Int32} {t3 : Int32} {t4 : Int32} {z : ow_MS} {Q : (Int32 × ow_MS) → Prop} (H : Tt (fun K k => cm_X0_planCrossing_7 vl K (c_X0_planCrossing vl K k) x2 x3 x4 x5 x6 x7 x8 x9 x10 r0 r1 t0 t1 t2 t3 t4 z) Q) : Tt (fun K k => c_X0_planCrossing vl K k 7 x2 x3 x4 x5 x6 x7 x8 x9 x10 r0 r1 t0 t1 t2 t3 t4 z) Q := w_un (fun _ _ => rfl) H
theorem u_X0_planCrossing_8 {vl : Nat → Nat} {x2 : Int32} {x3 : Int32} {x4 : Int32} {x5 : Int32} {x6 : Int32} {x7 : Int32} {x8 : Int32} {x9 : Int32} {x10 : Int32} {r0 : Nat} {r1 : Nat} {t0 : Int32} {t1 : Int32} {t2 : Int32} {t3 : Int32} {t4 : Int32} {z : ow_MS} {Q : (Int32 × ow_MS) → Prop} (H : Tt (fun K k => cm_X0_planCrossing_8 vl K (c_X0_planCrossing vl K k) x2 x3 x4 x5 x6 x7 x8 x9 x10 r0 r1 t0 t1 t2 t3 t4 z) Q) : Tt (fun K k => c_X0_planCrossing vl K k 8 x2 x3 x4 x5 x6 x7 x8 x9 x10 r0 r1 t0 t1 t2 t3 t4 z) Q := w_un (fun _ _ => rfl) H
theorem u_X0_planCrossing_6 {vl : Nat → Nat} {x2 : Int32} {x3 : Int32} {x4 : Int32} {x5 : Int32} {x6 : Int32} {x7 : Int32} {x8 : Int32} {x9 : Int32} {x10 : Int32} {r0 : Nat} {r1 : Nat} {t0 : Int32} {t1 : Int32} {t2 : Int32} {t3 : Int32} {t4 : Int32} {z : ow_MS} {Q : (Int32 × ow_MS) → Prop} (H : Tt (fun K k => cm_X0_planCrossing_6 vl K (c_X0_planCrossing vl K k) x2 x3 x4 x5 x6 x7 x8 x9 x10 r0 r1 t0 t1 t2 t3 t4 z) Q) : Tt (fun K k => c_X0_planCrossing vl K k 6 x2 x3 x4 x5 x6 x7 x8 x9 x10 r0 r1 t0 t1 t2 t3 t4 z) Q := w_un (fun _ _ => rfl) H
theorem u_X0_planCrossing_5 {vl : Nat → Nat} {x2 : Int32} {x3 : Int32} {x4 : Int32} {x5 : Int32} {x6 : Int32} {x7 : Int32} {x8 : Int32} {x9 : Int32} {x10 : Int32} {r0 : Nat} {r1 : Nat} {t0 : Int32} {t1 : Int32} {t2 : Int32} {t3 : Int32} {t4 : Int32} {z : ow_MS} {Q : (Int32 × ow_MS) → Prop} (H : Tt (fun K k => cm_X0_planCrossing_5 vl K (c_X0_planCrossing vl K k) x2 x3 x4 x5 x6 x7 x8 x9 x10 r0 r1 t0 t1 t2 t3 t4 z) Q) : Tt (fun K k => c_X0_planCrossing vl K k 5 x2 x3 x4 x5 x6 x7 x8 x9 x10 r0 r1 t0 t1 t2 t3 t4 z) Q := w_un (fun _ _ => rfl) H
theorem u_X0_planCrossing_4 {vl : Nat → Nat} {x2 : Int32} {x3 : Int32} {x4 : Int32} {x5 : Int32} {x6 : Int32} {x7 : Int32} {x8 : Int32} {x9 : Int32} {x10 : Int32} {r0 : Nat} {r1 : Nat} {t0 : Int32} {t1 : Int32} {t2 : Int32} {t3 : Int32} {t4 : Int32} {z : ow_MS} {Q : (Int32 × ow_MS) → Prop} (H : Tt (fun K k => cm_X0_planCrossing_4 vl K (c_X0_planCrossing vl K k) x2 x3 x4 x5 x6 x7 x8 x9 x10 r0 r1 t0 t1 t2 t3 t4 z) Q) : Tt (fun K k => c_X0_planCrossing vl K k 4 x2 x3 x4 x5 x6 x7 x8 x9 x10 r0 r1 t0 t1 t2 t3 t4 z) Q := w_un (fun _ _ => rfl) H
theorem u_X0_planCrossing_3 {vl : Nat → Nat} {x2 : Int32} {x3 : Int32} {x4 : Int32} {x5 : Int32} {x6 : Int32} {x7 : Int32} {x8 : Int32} {x9 : Int32} {x10 : Int32} {r0 : Nat} {r1 : Nat} {t0 : Int32} {t1 : Int32} {t2 : Int32} {t3 : Int32} {t4 : Int32} {z : ow_MS} {Q : (Int32 × ow_MS) → Prop} (H : Tt (fun K k => cm_X0_planCrossing_3 vl K (c_X0_planCrossing vl K k) x2 x3 x4 x5 x6 x7 x8 x9 x10 r0 r1 t0 t1 t2 t3 t4 z) Q) : Tt (fun K k => c_X0_planCrossing vl K k 3 x2 x3 x4 x5 x6 x7 x8 x9 x10 r0 r1 t0 t1 t2 t3 t4 z) Q := w_un (fun _ _ => rfl) H
theorem u_X0_planCrossing_2 {vl : Nat → Nat} {x2 : Int32} {x3 : Int32} {x4 : Int32} {x5 : Int32} {x6 : Int32} {x7 : Int32} {x8 : Int32} {x9 : Int32} {x10 : Int32} {r0 : Nat} {r1 : Nat} {t0 : Int32} {t1 : Int32} {t2 : Int32} {t3 : Int32} {t4 : Int32} {z : ow_MS} {Q : (Int32 × ow_MS) → Prop} (H : Tt (fun K k => cm_X0_planCrossing_2 vl K (c_X0_planCrossing vl K k) x2 x3 x4 x5 x6 x7 x8 x9 x10 r0 r1 t0 t1 t2 t3 t4 z) Q) : Tt (fun K k => c_X0_planCrossing vl K k 2 x2 x3 x4 x5 x6 x7 x8 x9 x10 r0 r1 t0 t1 t2 t3 t4 z) Q := w_un (fun _ _ => rfl) H
theorem u_X0_planCrossing_1 {vl : Nat → Nat} {x2 : Int32} {x3 : Int32} {x4 : Int32} {x5 : Int32} {x6 : Int32} {x7 : Int32} {x8 : Int32} {x9 : Int32} {x10 : Int32} {r0 : Nat} {r1 : Nat} {t0 : Int32} {t1 : Int32} {t2 : Int32} {t3 : Int32} {t4 : Int32} {z : ow_MS} {Q : (Int32 × ow_MS) → Prop} (H : Tt (fun K k => cm_X0_planCrossing_1 vl K (c_X0_planCrossing vl K k) x2 x3 x4 x5 x6 x7 x8 x9 x10 r0 r1 t0 t1 t2 t3 t4 z) Q) : Tt (fun K k => c_X0_planCrossing vl K k 1 x2 x3 x4 x5 x6 x7 x8 x9 x10 r0 r1 t0 t1 t2 t3 t4 z) Q := w_un (fun _ _ => rfl) H
theorem e_X0_planCrossing {vl : Nat → Nat} {r0 : Nat} {r1 : Nat} {x2 : Int32} {x3 : Int32} {z : ow_MS} {Q : (Int32 × ow_MS) → Prop} (H : Tt (fun K k => c_X0_planCrossing vl K k 0 x2 x3 0 0 0 0 0 0 0 r0 r1 0 0 0 0 0 z) Q) : Te (fun K => ce_X0_planCrossing vl K r0 r1 x2 x3 z) Q := w_te H
theorem u_X0_planCrossing_0 {vl : Nat → Nat} {x2 : Int32} {x3 : Int32} {x4 : Int32} {x5 : Int32} {x6 : Int32} {x7 : Int32} {x8 : Int32} {x9 : Int32} {x10 : Int32} {r0 : Nat} {r1 : Nat} {t0 : Int32} {t1 : Int32} {t2 : Int32} {t3 : Int32} {t4 : Int32} {z : ow_MS} {Q : (Int32 × ow_MS) → Prop} (H : Tt (fun K k => cm_X0_planCrossing_0 vl K (c_X0_planCrossing vl K k) x2 x3 x4 x5 x6 x7 x8 x9 x10 r0 r1 t0 t1 t2 t3 t4 z) Q) : Tt (fun K k => c_X0_planCrossing vl K k 0 x2 x3 x4 x5 x6 x7 x8 x9 x10 r0 r1 t0 t1 t2 t3 t4 z) Q := w_un (fun _ _ => rfl) H
theorem tc_planX {x : Nat} {kn : Int32} (h : plN y c ci S G a n) (hs : stP y) (hx : x < c) : Te (fun K => ce_X0_planCrossing vl K 41000 4000 (nI x) kn y) (fun r => stP r.2 ∧ fr plR y r.2) := by
  obtain ⟨h1, hv, hc, h18, h2, h3⟩ := h
  obtain ⟨-, v2, -, -⟩ := hv (2 * x + 1) (by omega)
  obtain ⟨o1, o2⟩ := h2 (2 * x) (by omega)
  obtain ⟨u1, u2⟩ := h2 (2 * x + 1) (by omega)
  obtain ⟨i1, i2⟩ := h2 _ v2
  let Q : Int32 × ow_MS → Prop := fun r => stP r.2 ∧ fr plR y r.2
  have c14 : ∀ (x7 x8 x9 x10 ov : Int32) (z : ow_MS), Q (0, z) → Tt (fun K k => c_X0_planCrossing vl K k 14 (nI x) kn ov (nI (a (S.2 (2 * x + 1)))) (nI (a (2 * x + 1))) x7 x8 x9 x10 41000 4000 0 0 0 0 0 z) Q := by
    intro x7 x8 x9 x10 ov z hz
    refine u_X0_planCrossing_14 ?_; unfold cm_X0_planCrossing_14
    exact w_some hz
  have c9 : ∀ (o : Nat) (x7 x8 x9 x10 : Int32), o < 18 → Tt (fun K k => c_X0_planCrossing vl K k 9 (nI x) kn (nI o) (nI (a (S.2 (2 * x + 1)))) (nI (a (2 * x + 1))) x7 x8 x9 x10 41000 4000 0 0 0 0 0 y) Q := by
    intro o x7 x8 x9 x10 ho
    have c10 : Tt (fun K k => c_X0_planCrossing vl K k 10 (nI x) kn (nI o) (nI (a (S.2 (2 * x + 1)))) (nI (a (2 * x + 1))) x7 x8 x9 x10 41000 4000 0 0 0 0 0 y) Q := by
      refine u_X0_planCrossing_10 ?_; unfold cm_X0_planCrossing_10
      refine w_rdF rfl (w_wrF ?_)
      generalize hz : usF y (41000 + 16) _ = z
      have fz : fr plR y z := by
        rw [← hz]
        exact fr_F (by unfold plR; omega)
      have sz : stP z := by
        obtain ⟨k, k1, k2, k3⟩ := hs
        rw [← hz]
        exact ⟨k, k1, rf_ot (by omega) k2, k3⟩
      have ad : ∀ (a1 b1 d1 : Nat) (k1 j1 : Int32), a1 < 18 → b1 < 18 → d1 < 18 → Te (fun K => ce_X0_addStep vl K 41000 k1 (nI a1) (nI b1) (nI d1) j1 z) (fun y1 => Q (0, y1)) := fun a1 b1 d1 k1 j1 g1 g2 g3 => w_monoE (tc_addStep sz g1 g2 g3) (fun r hr => ⟨hr.1, fr_tr fz hr.2⟩)
      have c11 : ∀ t0, Tt (fun K k => c_X0_planCrossing vl K k 11 (nI x) kn (nI o) (nI (a (S.2 (2 * x + 1)))) (nI (a (2 * x + 1))) x7 x8 x9 x10 41000 4000 t0 (nI (a (S.2 (2 * x + 1)))) (nI o) (nI (a (2 * x + 1))) 2 z) Q := by
        intro t0
        refine u_X0_planCrossing_11 ?_; unfold cm_X0_planCrossing_11
        exact w_cs0 (ad _ _ _ _ _ (by omega) ho (by omega)) (fun z1 h9 => c14 _ _ _ _ _ z1 h9)
      have c13 : ∀ t0, Tt (fun K k => c_X0_planCrossing vl K k 13 (nI x) kn (nI o) (nI (a (S.2 (2 * x + 1)))) (nI (a (2 * x + 1))) x7 x8 x9 x10 41000 4000 t0 (nI (a (S.2 (2 * x + 1)))) (nI o) (nI (a (2 * x + 1))) 1 z) Q := by
        intro t0
        refine u_X0_planCrossing_13 ?_; unfold cm_X0_planCrossing_13
        exact w_cs0 (ad _ _ _ _ _ (by omega) ho (by omega)) (fun z1 h9 => c14 _ _ _ _ _ z1 h9)
      have c12 : Tt (fun K k => c_X0_planCrossing vl K k 12 (nI x) kn (nI o) (nI (a (S.2 (2 * x + 1)))) (nI (a (2 * x + 1))) x7 x8 x9 x10 41000 4000 0 0 0 0 0 z) Q := by
        refine u_X0_planCrossing_12 ?_; unfold cm_X0_planCrossing_12
        exact w_if (fun _ => w_cs0 (ad _ _ _ _ _ (by omega) ho (by omega)) (fun z1 h9 => c14 _ _ _ _ _ z1 h9)) (fun _ => w_if (fun _ => c13 _) (fun _ => c13 _))
      exact w_if (fun _ => c12) (fun _ => w_if (fun _ => c12) (fun _ => w_if (fun _ => c11 _) (fun _ => c11 _)))
    refine u_X0_planCrossing_9 ?_; unfold cm_X0_planCrossing_9
    exact w_if (fun _ => w_some ⟨hs, fr_rf⟩) (fun _ => w_if (fun _ => w_if (fun _ => w_some ⟨hs, fr_rf⟩) (fun _ => c10)) (fun _ => c10))
  have c7 : ∀ (o : Int32) (x7 x8 x9 x10 t0 : Int32), Tt (fun K k => c_X0_planCrossing vl K k 7 (nI x) kn o (nI (a (S.2 (2 * x + 1)))) (nI (a (2 * x + 1))) x7 x8 x9 x10 41000 4000 t0 0 0 0 0 y) Q := by
    intro o x7 x8 x9 x10 t0
    refine u_X0_planCrossing_7 ?_; unfold cm_X0_planCrossing_7
    refine w_if (fun _ => ?_) (fun _ => ?_)
    · refine u_X0_planCrossing_8 ?_; unfold cm_X0_planCrossing_8
      exact c9 _ _ _ _ _ (by omega)
    · refine u_X0_planCrossing_8 ?_; unfold cm_X0_planCrossing_8
      exact c9 _ _ _ _ _ (by omega)
  have c6 : ∀ (o : Int32) (x7 x8 x9 x10 : Int32), Tt (fun K k => c_X0_planCrossing vl K k 6 (nI x) kn o (nI (a (S.2 (2 * x + 1)))) (nI (a (2 * x + 1))) x7 x8 x9 x10 41000 4000 0 0 0 0 0 y) Q := by
    intro o x7 x8 x9 x10
    refine u_X0_planCrossing_6 ?_; unfold cm_X0_planCrossing_6
    exact c7 _ _ _ _ _ _
  have c5 : ∀ (o : Int32) (x7 x8 x9 x10 : Int32), Tt (fun K k => c_X0_planCrossing vl K k 5 (nI x) kn o (nI (a (S.2 (2 * x + 1)))) (nI (a (2 * x + 1))) x7 x8 x9 x10 41000 4000 0 0 0 0 0 y) Q := by
    intro o x7 x8 x9 x10
    refine u_X0_planCrossing_5 ?_; unfold cm_X0_planCrossing_5
    exact w_if (fun _ => w_if (fun _ => c7 _ _ _ _ _ _) (fun _ => c6 _ _ _ _ _)) (fun _ => c6 _ _ _ _ _)
  have c4 : ∀ (x7 x8 x9 t0 : Int32), Tt (fun K k => c_X0_planCrossing vl K k 4 (nI x) kn (nI (a (2 * x))) (nI (a (S.2 (2 * x + 1)))) (nI (a (2 * x + 1))) x7 x8 x9 0 41000 4000 t0 0 0 0 0 y) Q := by
    intro x7 x8 x9 t0
    refine u_X0_planCrossing_4 ?_; unfold cm_X0_planCrossing_4
    exact w_if (fun _ => c5 _ _ _ _ _) (fun _ => w_if (fun _ => c5 _ _ _ _ _) (fun _ => c9 _ _ _ _ _ (by omega)))
  have c3 : ∀ (x7 x8 t0 : Int32), Tt (fun K k => c_X0_planCrossing vl K k 3 (nI x) kn (nI (a (2 * x))) (nI (a (S.2 (2 * x + 1)))) (nI (a (2 * x + 1))) x7 x8 0 0 41000 4000 t0 0 0 0 0 y) Q := by
    intro x7 x8 t0
    refine u_X0_planCrossing_3 ?_; unfold cm_X0_planCrossing_3
    exact w_if (fun _ => c4 _ _ _ _) (fun _ => c4 _ _ _ _)
  have c2 : ∀ (x7 t0 : Int32), Tt (fun K k => c_X0_planCrossing vl K k 2 (nI x) kn (nI (a (2 * x))) (nI (a (S.2 (2 * x + 1)))) (nI (a (2 * x + 1))) x7 0 0 0 41000 4000 t0 0 0 0 0 y) Q := by
    intro x7 t0
    refine u_X0_planCrossing_2 ?_; unfold cm_X0_planCrossing_2
    exact w_if (fun _ => c3 _ _ _) (fun _ => c3 _ _ _)
  have c1 : ∀ (t0 : Int32), Tt (fun K k => c_X0_planCrossing vl K k 1 (nI x) kn (nI (a (2 * x))) (nI (a (S.2 (2 * x + 1)))) (nI (a (2 * x + 1))) 0 0 0 0 41000 4000 t0 0 0 0 0 y) Q := by
    intro t0
    refine u_X0_planCrossing_1 ?_; unfold cm_X0_planCrossing_1
    exact w_if (fun _ => c2 _ _) (fun _ => c2 _ _)
  refine e_X0_planCrossing ?_
  refine u_X0_planCrossing_0 ?_; unfold cm_X0_planCrossing_0
  rw [rn_mul2, nI_1]
  exact w_crI ch_41001 rfl (show 2 * x < 24 by omega) o1 (w_crI (nH_2 nH4) rfl (show 2 * x + 1 < 24 by omega) (h1.2.2.2.1 _) (w_crI ch_41001 rfl (show S.2 (2 * x + 1) < 24 by omega) i1 (w_crI ch_41001 rfl (show 2 * x + 1 < 24 by omega) u1 (w_crI (nH_3 nH4) rfl (show x < 12 by omega) rfl (w_if (fun _ => c1 _) (fun _ => c1 _))))))
theorem u_X0_planFrom_1 {vl : Nat → Nat} {x2 : Int32} {x3 : Int32} {x4 : Int32} {x5 : Int32} {x6 : Int32} {x7 : Int32} {x8 : Int32} {r0 : Nat} {r1 : Nat} {z : ow_MS} {Q : (Int32 × ow_MS) → Prop} (H : Tt (fun K k => cm_X0_planFrom_1 vl K (c_X0_planFrom vl K k) x2 x3 x4 x5 x6 x7 x8 r0 r1 z) Q) : Tt (fun K k => c_X0_planFrom vl K k 1 x2 x3 x4 x5 x6 x7 x8 r0 r1 z) Q := w_un (fun _ _ => rfl) H
theorem u_X0_planFrom_6 {vl : Nat → Nat} {x2 : Int32} {x3 : Int32} {x4 : Int32} {x5 : Int32} {x6 : Int32} {x7 : Int32} {x8 : Int32} {r0 : Nat} {r1 : Nat} {z : ow_MS} {Q : (Int32 × ow_MS) → Prop} (H : Tt (fun K k => cm_X0_planFrom_6 vl K (c_X0_planFrom vl K k) x2 x3 x4 x5 x6 x7 x8 r0 r1 z) Q) : Tt (fun K k => c_X0_planFrom vl K k 6 x2 x3 x4 x5 x6 x7 x8 r0 r1 z) Q := w_un (fun _ _ => rfl) H
theorem u_X0_planFrom_2 {vl : Nat → Nat} {x2 : Int32} {x3 : Int32} {x4 : Int32} {x5 : Int32} {x6 : Int32} {x7 : Int32} {x8 : Int32} {r0 : Nat} {r1 : Nat} {z : ow_MS} {Q : (Int32 × ow_MS) → Prop} (H : Tt (fun K k => cm_X0_planFrom_2 vl K (c_X0_planFrom vl K k) x2 x3 x4 x5 x6 x7 x8 r0 r1 z) Q) : Tt (fun K k => c_X0_planFrom vl K k 2 x2 x3 x4 x5 x6 x7 x8 r0 r1 z) Q := w_un (fun _ _ => rfl) H
theorem u_X0_planFrom_5 {vl : Nat → Nat} {x2 : Int32} {x3 : Int32} {x4 : Int32} {x5 : Int32} {x6 : Int32} {x7 : Int32} {x8 : Int32} {r0 : Nat} {r1 : Nat} {z : ow_MS} {Q : (Int32 × ow_MS) → Prop} (H : Tt (fun K k => cm_X0_planFrom_5 vl K (c_X0_planFrom vl K k) x2 x3 x4 x5 x6 x7 x8 r0 r1 z) Q) : Tt (fun K k => c_X0_planFrom vl K k 5 x2 x3 x4 x5 x6 x7 x8 r0 r1 z) Q := w_un (fun _ _ => rfl) H
theorem u_X0_planFrom_3 {vl : Nat → Nat} {x2 : Int32} {x3 : Int32} {x4 : Int32} {x5 : Int32} {x6 : Int32} {x7 : Int32} {x8 : Int32} {r0 : Nat} {r1 : Nat} {z : ow_MS} {Q : (Int32 × ow_MS) → Prop} (H : Tt (fun K k => cm_X0_planFrom_3 vl K (c_X0_planFrom vl K k) x2 x3 x4 x5 x6 x7 x8 r0 r1 z) Q) : Tt (fun K k => c_X0_planFrom vl K k 3 x2 x3 x4 x5 x6 x7 x8 r0 r1 z) Q := w_un (fun _ _ => rfl) H
theorem u_X0_planFrom_4 {vl : Nat → Nat} {x2 : Int32} {x3 : Int32} {x4 : Int32} {x5 : Int32} {x6 : Int32} {x7 : Int32} {x8 : Int32} {r0 : Nat} {r1 : Nat} {z : ow_MS} {Q : (Int32 × ow_MS) → Prop} (H : Tt (fun K k => cm_X0_planFrom_4 vl K (c_X0_planFrom vl K k) x2 x3 x4 x5 x6 x7 x8 r0 r1 z) Q) : Tt (fun K k => c_X0_planFrom vl K k 4 x2 x3 x4 x5 x6 x7 x8 r0 r1 z) Q := w_un (fun _ _ => rfl) H
theorem e_X0_planFrom {vl : Nat → Nat} {r0 : Nat} {r1 : Nat} {x2 : Int32} {x3 : Int32} {z : ow_MS} {Q : (Int32 × ow_MS) → Prop} (H : Tt (fun K k => c_X0_planFrom vl K k 0 x2 x3 0 0 0 0 0 r0 r1 z) Q) : Te (fun K => ce_X0_planFrom vl K r0 r1 x2 x3 z) Q := w_te H
theorem u_X0_planFrom_0 {vl : Nat → Nat} {x2 : Int32} {x3 : Int32} {x4 : Int32} {x5 : Int32} {x6 : Int32} {x7 : Int32} {x8 : Int32} {r0 : Nat} {r1 : Nat} {z : ow_MS} {Q : (Int32 × ow_MS) → Prop} (H : Tt (fun K k => cm_X0_planFrom_0 vl K (c_X0_planFrom vl K k) x2 x3 x4 x5 x6 x7 x8 r0 r1 z) Q) : Tt (fun K k => c_X0_planFrom vl K k 0 x2 x3 x4 x5 x6 x7 x8 r0 r1 z) Q := w_un (fun _ _ => rfl) H
theorem tc_planFrom {p se : Int32} (h : plN y c ci S G a n) : Te (fun K => ce_X0_planFrom vl K 41000 4000 p se y) (fun r => stP r.2 ∧ fr plR y r.2) := by
  let Q : Int32 × ow_MS → Prop := fun r => stP r.2 ∧ fr plR y r.2
  have hP : ∀ z, fr plR y z → plN z c ci S G a n := fun z hf => plN_fr hf (fun g hg => plR_n hg) h
  obtain ⟨-, -, hc, h18, -, -⟩ := id h
  have c1 : ∀ (d j : Nat) (x4 : Int32) (z : ow_MS), j + d = n → Q (0, z) → Tt (fun K k => c_X0_planFrom vl K k 1 p se x4 (nI j) 0 0 0 41000 4000 z) Q := by
    intro d
    induction d with
    | zero =>
      intro j x4 z hj hz
      refine u_X0_planFrom_1 ?_; unfold cm_X0_planFrom_1
      exact w_rdF (hP z hz.2).2.2.2.2.2 (w_leT (by omega) (by omega) (w_some hz))
    | succ d ih =>
      intro j x4 z hj hz
      have c6 : ∀ (x4 : Int32) (z : ow_MS), Q (0, z) → Tt (fun K k => c_X0_planFrom vl K k 6 p se x4 (nI j) 0 0 0 41000 4000 z) Q := by
        intro x4 z hz
        refine u_X0_planFrom_6 ?_; unfold cm_X0_planFrom_6
        rw [nI_1]
        exact ih (j + 1) x4 z (by omega) hz
      have c2 : ∀ (e i : Nat) (x4 : Int32) (z : ow_MS), i + e = 12 → Q (0, z) → Tt (fun K k => c_X0_planFrom vl K k 2 p se x4 (nI j) (nI i) 0 0 41000 4000 z) Q := by
        intro e
        induction e with
        | zero =>
          intro i x4 z hi hz
          refine u_X0_planFrom_2 ?_; unfold cm_X0_planFrom_2
          exact w_leT (a := 12) (by omega) (by omega) (c6 x4 z hz)
        | succ e ihe =>
          intro i x4 z hi hz
          have c5 : ∀ (x4 x7 x8 : Int32) (z : ow_MS), Q (0, z) → Tt (fun K k => c_X0_planFrom vl K k 5 p se x4 (nI j) (nI i) x7 x8 41000 4000 z) Q := by
            intro x4 x7 x8 z hz
            refine u_X0_planFrom_5 ?_; unfold cm_X0_planFrom_5
            rw [nI_1]
            exact ihe (i + 1) x4 z (by omega) hz
          have c3 : ∀ (g x : Nat) (x4 x7 : Int32) (z : ow_MS), x + g = c → Q (0, z) → Tt (fun K k => c_X0_planFrom vl K k 3 p se x4 (nI j) (nI i) x7 (nI x) 41000 4000 z) Q := by
            intro g
            induction g with
            | zero =>
              intro x x4 x7 z hx hz
              refine u_X0_planFrom_3 ?_; unfold cm_X0_planFrom_3
              exact w_rdF (hP z hz.2).1.1 (w_leT (by omega) (by omega) (w_if (fun _ => w_if (fun _ => c5 _ _ _ z hz) (fun _ => c6 _ z hz)) (fun _ => c5 _ _ _ z hz)))
            | succ g ihg =>
              intro x x4 x7 z hx hz
              have c4 : ∀ (x4 : Int32) (z : ow_MS), Q (0, z) → Tt (fun K k => c_X0_planFrom vl K k 4 p se x4 (nI j) (nI i) x7 (nI x) 41000 4000 z) Q := by
                intro x4 z hz
                refine u_X0_planFrom_4 ?_; unfold cm_X0_planFrom_4
                rw [nI_1]
                exact ihg (x + 1) x4 x7 z (by omega) hz
              refine u_X0_planFrom_3 ?_; unfold cm_X0_planFrom_3
              rw [rn_mul2]
              refine w_rdF (hP z hz.2).1.1 (w_leF (by omega) (by omega) (w_crI (nH_6 nH4) rfl (show 2 * x < 24 by omega) rfl (w_if (fun _ => w_rdF rfl (w_if (fun _ => w_cs1 (tc_planX (hP z hz.2) hz.1 (show x < c by omega)) ?_) (fun _ => c4 _ z hz))) (fun _ => c4 _ z hz))))
              rintro v z1 ⟨g1, g2⟩
              exact c4 _ z1 ⟨g1, fr_tr hz.2 g2⟩
          refine u_X0_planFrom_2 ?_; unfold cm_X0_planFrom_2
          exact w_leF (a := 12) (by omega) (by omega) (c3 c 0 x4 x4 z (by omega) hz)
      refine u_X0_planFrom_1 ?_; unfold cm_X0_planFrom_1
      refine w_rdF (hP z hz.2).2.2.2.2.2 (w_leF (by omega) (by omega) (w_if (fun _ => c6 x4 z hz) (fun _ => w_if (fun _ => w_cs0 (tc_addStep hz.1 (show j < 18 by omega) (show j < 18 by omega) (show j < 18 by omega)) ?_) (fun _ => c6 x4 z hz))))
      rintro z1 ⟨g1, g2⟩
      exact c2 12 0 _ z1 (by omega) ⟨g1, fr_tr hz.2 g2⟩
  refine e_X0_planFrom ?_
  refine u_X0_planFrom_0 ?_; unfold cm_X0_planFrom_0
  refine w_wrF (w_wrF (c1 n 0 0 _ (by omega) ⟨⟨0, by omega, rf_ot (by omega) po_usF_at, fun s hs => absurd hs (by omega)⟩, fr_F2 (fr_F (by unfold plR; omega)) (by unfold plR; omega)⟩))
theorem or_bit18 {m l : Nat} (hm : m < 2 ^ 18) (hl : l < 18) : ∃ m', m' < 2 ^ 18 ∧ nI m ||| ((1 : Int32) <<< (nI l &&& 31)) = nI m' := by
  have h1 : 2 ^ l < 2 ^ 18 := Nat.pow_lt_pow_right (by omega) hl
  refine ⟨m ||| 2 ^ l, Nat.or_lt_two_pow hm h1, ?_⟩
  rw [shl1 (by omega), ow_or (by omega) (by omega)]
theorem u_X0_planPart_3 {vl : Nat → Nat} {x2 : Int32} {x3 : Int32} {x4 : Int32} {x5 : Int32} {r0 : Nat} {r1 : Nat} {z : ow_MS} {Q : ow_MS → Prop} (H : Tt (fun K k => cm_X0_planPart_3 vl K (c_X0_planPart vl K k) x2 x3 x4 x5 r0 r1 z) Q) : Tt (fun K k => c_X0_planPart vl K k 3 x2 x3 x4 x5 r0 r1 z) Q := w_un (fun _ _ => rfl) H
theorem u_X0_planPart_4 {vl : Nat → Nat} {x2 : Int32} {x3 : Int32} {x4 : Int32} {x5 : Int32} {r0 : Nat} {r1 : Nat} {z : ow_MS} {Q : ow_MS → Prop} (H : Tt (fun K k => cm_X0_planPart_4 vl K (c_X0_planPart vl K k) x2 x3 x4 x5 r0 r1 z) Q) : Tt (fun K k => c_X0_planPart vl K k 4 x2 x3 x4 x5 r0 r1 z) Q := w_un (fun _ _ => rfl) H
theorem u_X0_planPart_5 {vl : Nat → Nat} {x2 : Int32} {x3 : Int32} {x4 : Int32} {x5 : Int32} {r0 : Nat} {r1 : Nat} {z : ow_MS} {Q : ow_MS → Prop} (H : Tt (fun K k => cm_X0_planPart_5 vl K (c_X0_planPart vl K k) x2 x3 x4 x5 r0 r1 z) Q) : Tt (fun K k => c_X0_planPart vl K k 5 x2 x3 x4 x5 r0 r1 z) Q := w_un (fun _ _ => rfl) H
theorem u_X0_planPart_1 {vl : Nat → Nat} {x2 : Int32} {x3 : Int32} {x4 : Int32} {x5 : Int32} {r0 : Nat} {r1 : Nat} {z : ow_MS} {Q : ow_MS → Prop} (H : Tt (fun K k => cm_X0_planPart_1 vl K (c_X0_planPart vl K k) x2 x3 x4 x5 r0 r1 z) Q) : Tt (fun K k => c_X0_planPart vl K k 1 x2 x3 x4 x5 r0 r1 z) Q := w_un (fun _ _ => rfl) H
theorem u_X0_planPart_2 {vl : Nat → Nat} {x2 : Int32} {x3 : Int32} {x4 : Int32} {x5 : Int32} {r0 : Nat} {r1 : Nat} {z : ow_MS} {Q : ow_MS → Prop} (H : Tt (fun K k => cm_X0_planPart_2 vl K (c_X0_planPart vl K k) x2 x3 x4 x5 r0 r1 z) Q) : Tt (fun K k => c_X0_planPart vl K k 2 x2 x3 x4 x5 r0 r1 z) Q := w_un (fun _ _ => rfl) H
theorem e_X0_planPart {vl : Nat → Nat} {r0 : Nat} {r1 : Nat} {x2 : Int32} {z : ow_MS} {Q : ow_MS → Prop} (H : Tt (fun K k => c_X0_planPart vl K k 0 x2 0 0 0 r0 r1 z) Q) : Te (fun K => ce_X0_planPart vl K r0 r1 x2 z) Q := w_te H
theorem u_X0_planPart_0 {vl : Nat → Nat} {x2 : Int32} {x3 : Int32} {x4 : Int32} {x5 : Int32} {r0 : Nat} {r1 : Nat} {z : ow_MS} {Q : ow_MS → Prop} (H : Tt (fun K k => cm_X0_planPart_0 vl K (c_X0_planPart vl K k) x2 x3 x4 x5 r0 r1 z) Q) : Tt (fun K k => c_X0_planPart vl K k 0 x2 x3 x4 x5 r0 r1 z) Q := w_un (fun _ _ => rfl) H
theorem tc_planPart {p : Int32} (h : plN y c ci S G a n) (hs : stP y) : Te (fun K => ce_X0_planPart vl K 41000 4000 p y) (fun y1 => stP y1 ∧ fr plR y y1) := by
  let Q : ow_MS → Prop := fun z => stP z ∧ fr plR y z
  have hP : ∀ z, fr plR y z → plN z c ci S G a n := fun z hf => plN_fr hf (fun g hg => plR_n hg) h
  obtain ⟨h1, -, hc, h18, h2, h3⟩ := id h
  have c3 : ∀ (m : Nat), m < 2 ^ 18 → ∀ (d s : Nat) (z : ow_MS), s + d = n + 1 → Q z → Tt (fun K k => c_X0_planPart vl K k 3 p (nI m) (nI s) 0 41000 4000 z) Q := by
    intro m hm d
    induction d with
    | zero =>
      intro s z hs1 hz
      refine u_X0_planPart_3 ?_; unfold cm_X0_planPart_3
      exact w_rdF (hP z hz.2).2.2.2.2.2 (w_ltT (by omega) (by omega) (w_some hz))
    | succ d ih =>
      intro s z hs1 hz
      have c4 : ∀ (e q : Nat) (z : ow_MS), q + e = m + 1 → Q z → Tt (fun K k => c_X0_planPart vl K k 4 p (nI m) (nI s) (nI q) 41000 4000 z) Q := by
        intro e
        induction e with
        | zero =>
          intro q z hq hz
          refine u_X0_planPart_4 ?_; unfold cm_X0_planPart_4
          rw [nI_1]
          exact w_ltT (by omega) (by omega) (ih (s + 1) z (by omega) hz)
        | succ e ihe =>
          intro q z hq hz
          have c5 : ∀ (z : ow_MS), Q z → Tt (fun K k => c_X0_planPart vl K k 5 p (nI m) (nI s) (nI q) 41000 4000 z) Q := by
            intro z hz
            refine u_X0_planPart_5 ?_; unfold cm_X0_planPart_5
            rw [nI_1]
            exact ihe (q + 1) z (by omega) hz
          refine u_X0_planPart_4 ?_; unfold cm_X0_planPart_4
          refine w_ltF (by omega) (by omega) (w_if (fun _ => w_if (fun _ => w_cs1 (tc_planFrom (hP z hz.2)) ?_) (fun _ => c5 z hz)) (fun _ => c5 z hz))
          rintro v z1 ⟨g1, g2⟩
          have q1 : Q z1 := ⟨g1, fr_tr hz.2 g2⟩
          exact w_if (fun _ => w_some q1) (fun _ => c5 z1 q1)
      refine u_X0_planPart_3 ?_; unfold cm_X0_planPart_3
      refine w_rdF (hP z hz.2).2.2.2.2.2 (w_ltF (by omega) (by omega) ?_)
      rcases Nat.eq_zero_or_pos m with hm0 | hm0
      · refine u_X0_planPart_4 ?_; unfold cm_X0_planPart_4
        rw [nI_1]
        exact w_ltT (b := 1) (by omega) (by omega) (ih (s + 1) z (by omega) hz)
      · exact c4 m 1 z (by omega) hz
  have c1 : ∀ (d v m : Nat), m < 2 ^ 18 → v + d = 2 * c → Tt (fun K k => c_X0_planPart vl K k 1 p (nI m) (nI v) 0 41000 4000 y) Q := by
    intro d
    induction d with
    | zero =>
      intro v m hm hv
      refine u_X0_planPart_1 ?_; unfold cm_X0_planPart_1
      exact w_rdF h1.1 (by rw [rn_mul2]; exact w_leT (by omega) (by omega) (c3 m hm n 1 y (by omega) ⟨hs, fr_rf⟩))
    | succ d ih =>
      intro v m hm hv
      have c2 : ∀ (m : Nat), m < 2 ^ 18 → Tt (fun K k => c_X0_planPart vl K k 2 p (nI m) (nI v) 0 41000 4000 y) Q := by
        intro m hm
        refine u_X0_planPart_2 ?_; unfold cm_X0_planPart_2
        rw [nI_1]
        exact ih (v + 1) m hm (by omega)
      refine u_X0_planPart_1 ?_; unfold cm_X0_planPart_1
      refine w_rdF h1.1 ?_
      rw [rn_mul2]
      refine w_leF (by omega) (by omega) (w_crI (nH_6 nH4) rfl (show v < 24 by omega) rfl (w_if (fun _ => w_crI ch_41001 rfl (show v < 24 by omega) (h2 v (by omega)).1 ?_) (fun _ => c2 m hm)))
      obtain ⟨m', m1, m2⟩ := or_bit18 (l := a v) hm (by have := (h2 v (by omega)).2; omega)
      rw [m2]
      exact c2 m' m1
  refine e_X0_planPart ?_
  refine u_X0_planPart_0 ?_; unfold cm_X0_planPart_0
  exact c1 (2 * c) 0 0 (by omega) (by omega)
end CMP
end
section
/-! 99zzzzzzzb.cmap2 -/
/-! the class: maps: counting -/
section CMQ
variable {vl : Nat → Nat} {y : ow_MS}
theorem u_X0_findClasses_1 {vl : Nat → Nat} {x1 : Int32} {x2 : Int32} {x3 : Int32} {x4 : Int32} {r0 : Nat} {z : ow_MS} {Q : ow_MS → Prop} (H : Tt (fun K k => cm_X0_findClasses_1 vl K (c_X0_findClasses vl K k) x1 x2 x3 x4 r0 z) Q) : Tt (fun K k => c_X0_findClasses vl K k 1 x1 x2 x3 x4 r0 z) Q := w_un (fun _ _ => rfl) H
theorem u_X0_findClasses_2 {vl : Nat → Nat} {x1 : Int32} {x2 : Int32} {x3 : Int32} {x4 : Int32} {r0 : Nat} {z : ow_MS} {Q : ow_MS → Prop} (H : Tt (fun K k => cm_X0_findClasses_2 vl K (c_X0_findClasses vl K k) x1 x2 x3 x4 r0 z) Q) : Tt (fun K k => c_X0_findClasses vl K k 2 x1 x2 x3 x4 r0 z) Q := w_un (fun _ _ => rfl) H
theorem e_X0_findClasses {vl : Nat → Nat} {r0 : Nat} {x1 : Int32} {z : ow_MS} {Q : ow_MS → Prop} (H : Tt (fun K k => c_X0_findClasses vl K k 0 x1 0 0 0 r0 z) Q) : Te (fun K => ce_X0_findClasses vl K r0 x1 z) Q := w_te H
theorem u_X0_findClasses_0 {vl : Nat → Nat} {x1 : Int32} {x2 : Int32} {x3 : Int32} {x4 : Int32} {r0 : Nat} {z : ow_MS} {Q : ow_MS → Prop} (H : Tt (fun K k => cm_X0_findClasses_0 vl K (c_X0_findClasses vl K k) x1 x2 x3 x4 r0 z) Q) : Tt (fun K k => c_X0_findClasses vl K k 0 x1 x2 x3 x4 r0 z) Q := w_un (fun _ _ => rfl) H
theorem tc_findCl {g : Nat} (hg : g ≤ 24) (h : mpC y) : Te (fun K => ce_X0_findClasses vl K 41000 (nI g) y) (fun y1 => fr (fun q => q = 41008) y y1) := by
  let Q : ow_MS → Prop := fun z => fr (fun q => q = 41008) y z
  have c1 : ∀ (d x : Nat) (z : ow_MS), x + d = g → Q z → Tt (fun K k => c_X0_findClasses vl K k 1 (nI g) (nI x) 0 0 41000 z) Q := by
    intro d
    induction d with
    | zero =>
      intro x z hx hz
      refine u_X0_findClasses_1 ?_; unfold cm_X0_findClasses_1
      exact w_leT (by omega) (by omega) (w_some hz)
    | succ d ih =>
      intro x z hx hz
      have c2 : ∀ (e o m : Nat), o + e = g → m < 24 → Tt (fun K k => c_X0_findClasses vl K k 2 (nI g) (nI x) (nI m) (nI o) 41000 z) Q := by
        intro e
        induction e with
        | zero =>
          intro o m ho hm
          refine u_X0_findClasses_2 ?_; unfold cm_X0_findClasses_2
          refine w_leT (by omega) (by omega) (w_crI ch_41008 rfl hm rfl (w_ctI ch_41008 rfl hm ?_))
          rw [nI_1]
          exact ih (x + 1) _ (by omega) (fr_I2 hz rfl)
        | succ e ihe =>
          intro o m ho hm
          obtain ⟨k, k1, k2⟩ := h.1 (24 * o + x) (by omega)
          refine u_X0_findClasses_2 ?_; unfold cm_X0_findClasses_2
          rw [show (24 : Int32) * nI o = nI (24 * o) from pk_mul 24 o, nI_add, nI_1, nI_1]
          refine w_leF (by omega) (by omega) (w_crI ch_41006 rfl (by omega) ((congrFun (hz 41006 (by decide)).2.1 _).trans k2) ?_)
          by_cases hk : k < m
          · rw [if_pos (nI_lt hk (by omega))]
            exact ihe (o + 1) k (by omega) k1
          · rw [if_neg (nI_nlt (by omega) (by omega))]
            exact ihe (o + 1) m (by omega) hm
      refine u_X0_findClasses_1 ?_; unfold cm_X0_findClasses_1
      exact w_leF (by omega) (by omega) (c2 g 0 x (by omega) (by omega))
  refine e_X0_findClasses ?_
  refine u_X0_findClasses_0 ?_; unfold cm_X0_findClasses_0
  refine w_cs0 (tc_fillA ch_41008 (by omega)) ?_
  rintro z ⟨-, hf⟩
  exact c1 g 0 z (by omega) hf
theorem w_cdM {dd r0 : Nat} {x1 x2 x3 : Int32} {z : ow_MS} {Q : Int64 × ow_MS → Prop} (H : Tt (fun K k => c_X0_countFrom vl K (cd0_X0_countFrom vl K dd) k 0 x1 x2 x3 0 0 0 0 0 0 r0 0 0 0 0 z) Q) : Te (fun K => cd0_X0_countFrom vl K (dd + 1) r0 x1 x2 x3 z) Q := w_te H
theorem mpC_set {z : ow_MS} {i k : Nat} (hk : k < 24) (h : mpC z) : mpC (usI z 41009 i (nI k)) := by
  obtain ⟨h1, h2, h3⟩ := h
  refine ⟨fun j hj => ?_, fun j hj => ?_, fun j hj => ?_⟩
  · obtain ⟨a, a1, a2⟩ := h1 j hj
    exact ⟨a, a1, rd_ot (by omega) a2⟩
  · obtain ⟨a, a1, a2⟩ := h2 j hj
    exact ⟨a, a1, rd_ot (by omega) a2⟩
  · by_cases e : j = i
    · rw [e]
      exact ⟨k, hk, po_usI_at⟩
    · obtain ⟨a, a1, a2⟩ := h3 j hj
      exact ⟨a, a1, rd_ne e a2⟩
theorem stP_fr {P : Nat → Prop} {y1 : ow_MS} (hf : fr P y y1) (hP : ∀ g, P g → g < 41010 ∨ 41014 < g) (h : stP y) : stP y1 := by
  obtain ⟨k, k1, k2, k3⟩ := h
  refine ⟨k, k1, (hf 41010 (fun h9 => by have := hP _ h9; omega)).1.trans k2, fun s hs => ?_⟩
  rw [(hf 41012 (fun h9 => by have := hP _ h9; omega)).2.1, (hf 41013 (fun h9 => by have := hP _ h9; omega)).2.1, (hf 41014 (fun h9 => by have := hP _ h9; omega)).2.1]
  exact k3 s hs
theorem u_X0_countFrom_0 {dd : Nat} {vl : Nat → Nat} {x1 : Int32} {x2 : Int32} {x3 : Int32} {x4 : Int32} {x5 : Int32} {x6 : Int32} {x7 : Int32} {x8 : Int32} {w5 : Int64} {r0 : Nat} {t0 : Int32} {t1 : Int32} {y0 : Int64} {y1 : Int64} {z : ow_MS} {Q : (Int64 × ow_MS) → Prop} (H : Tt (fun K k => cm_X0_countFrom_0 vl K (cd0_X0_countFrom vl K dd) (c_X0_countFrom vl K (cd0_X0_countFrom vl K dd) k) x1 x2 x3 x4 x5 x6 x7 x8 w5 r0 t0 t1 y0 y1 z) Q) : Tt (fun K k => c_X0_countFrom vl K (cd0_X0_countFrom vl K dd) k 0 x1 x2 x3 x4 x5 x6 x7 x8 w5 r0 t0 t1 y0 y1 z) Q := w_un (fun _ _ => rfl) H
theorem u_X0_countFrom_1 {dd : Nat} {vl : Nat → Nat} {x1 : Int32} {x2 : Int32} {x3 : Int32} {x4 : Int32} {x5 : Int32} {x6 : Int32} {x7 : Int32} {x8 : Int32} {w5 : Int64} {r0 : Nat} {t0 : Int32} {t1 : Int32} {y0 : Int64} {y1 : Int64} {z : ow_MS} {Q : (Int64 × ow_MS) → Prop} (H : Tt (fun K k => cm_X0_countFrom_1 vl K (cd0_X0_countFrom vl K dd) (c_X0_countFrom vl K (cd0_X0_countFrom vl K dd) k) x1 x2 x3 x4 x5 x6 x7 x8 w5 r0 t0 t1 y0 y1 z) Q) : Tt (fun K k => c_X0_countFrom vl K (cd0_X0_countFrom vl K dd) k 1 x1 x2 x3 x4 x5 x6 x7 x8 w5 r0 t0 t1 y0 y1 z) Q := w_un (fun _ _ => rfl) H
theorem u_X0_countFrom_6 {dd : Nat} {vl : Nat → Nat} {x1 : Int32} {x2 : Int32} {x3 : Int32} {x4 : Int32} {x5 : Int32} {x6 : Int32} {x7 : Int32} {x8 : Int32} {w5 : Int64} {r0 : Nat} {t0 : Int32} {t1 : Int32} {y0 : Int64} {y1 : Int64} {z : ow_MS} {Q : (Int64 × ow_MS) → Prop} (H : Tt (fun K k => cm_X0_countFrom_6 vl K (cd0_X0_countFrom vl K dd) (c_X0_countFrom vl K (cd0_X0_countFrom vl K dd) k) x1 x2 x3 x4 x5 x6 x7 x8 w5 r0 t0 t1 y0 y1 z) Q) : Tt (fun K k => c_X0_countFrom vl K (cd0_X0_countFrom vl K dd) k 6 x1 x2 x3 x4 x5 x6 x7 x8 w5 r0 t0 t1 y0 y1 z) Q := w_un (fun _ _ => rfl) H
theorem u_X0_countFrom_2 {dd : Nat} {vl : Nat → Nat} {x1 : Int32} {x2 : Int32} {x3 : Int32} {x4 : Int32} {x5 : Int32} {x6 : Int32} {x7 : Int32} {x8 : Int32} {w5 : Int64} {r0 : Nat} {t0 : Int32} {t1 : Int32} {y0 : Int64} {y1 : Int64} {z : ow_MS} {Q : (Int64 × ow_MS) → Prop} (H : Tt (fun K k => cm_X0_countFrom_2 vl K (cd0_X0_countFrom vl K dd) (c_X0_countFrom vl K (cd0_X0_countFrom vl K dd) k) x1 x2 x3 x4 x5 x6 x7 x8 w5 r0 t0 t1 y0 y1 z) Q) : Tt (fun K k => c_X0_countFrom vl K (cd0_X0_countFrom vl K dd) k 2 x1 x2 x3 x4 x5 x6 x7 x8 w5 r0 t0 t1 y0 y1 z) Q := w_un (fun _ _ => rfl) H
theorem u_X0_countFrom_4 {dd : Nat} {vl : Nat → Nat} {x1 : Int32} {x2 : Int32} {x3 : Int32} {x4 : Int32} {x5 : Int32} {x6 : Int32} {x7 : Int32} {x8 : Int32} {w5 : Int64} {r0 : Nat} {t0 : Int32} {t1 : Int32} {y0 : Int64} {y1 : Int64} {z : ow_MS} {Q : (Int64 × ow_MS) → Prop} (H : Tt (fun K k => cm_X0_countFrom_4 vl K (cd0_X0_countFrom vl K dd) (c_X0_countFrom vl K (cd0_X0_countFrom vl K dd) k) x1 x2 x3 x4 x5 x6 x7 x8 w5 r0 t0 t1 y0 y1 z) Q) : Tt (fun K k => c_X0_countFrom vl K (cd0_X0_countFrom vl K dd) k 4 x1 x2 x3 x4 x5 x6 x7 x8 w5 r0 t0 t1 y0 y1 z) Q := w_un (fun _ _ => rfl) H
theorem u_X0_countFrom_3 {dd : Nat} {vl : Nat → Nat} {x1 : Int32} {x2 : Int32} {x3 : Int32} {x4 : Int32} {x5 : Int32} {x6 : Int32} {x7 : Int32} {x8 : Int32} {w5 : Int64} {r0 : Nat} {t0 : Int32} {t1 : Int32} {y0 : Int64} {y1 : Int64} {z : ow_MS} {Q : (Int64 × ow_MS) → Prop} (H : Tt (fun K k => cm_X0_countFrom_3 vl K (cd0_X0_countFrom vl K dd) (c_X0_countFrom vl K (cd0_X0_countFrom vl K dd) k) x1 x2 x3 x4 x5 x6 x7 x8 w5 r0 t0 t1 y0 y1 z) Q) : Tt (fun K k => c_X0_countFrom vl K (cd0_X0_countFrom vl K dd) k 3 x1 x2 x3 x4 x5 x6 x7 x8 w5 r0 t0 t1 y0 y1 z) Q := w_un (fun _ _ => rfl) H
theorem u_X0_countFrom_5 {dd : Nat} {vl : Nat → Nat} {x1 : Int32} {x2 : Int32} {x3 : Int32} {x4 : Int32} {x5 : Int32} {x6 : Int32} {x7 : Int32} {x8 : Int32} {w5 : Int64} {r0 : Nat} {t0 : Int32} {t1 : Int32} {y0 : Int64} {y1 : Int64} {z : ow_MS} {Q : (Int64 × ow_MS) → Prop} (H : Tt (fun K k => cm_X0_countFrom_5 vl K (cd0_X0_countFrom vl K dd) (c_X0_countFrom vl K (cd0_X0_countFrom vl K dd) k) x1 x2 x3 x4 x5 x6 x7 x8 w5 r0 t0 t1 y0 y1 z) Q) : Tt (fun K k => c_X0_countFrom vl K (cd0_X0_countFrom vl K dd) k 5 x1 x2 x3 x4 x5 x6 x7 x8 w5 r0 t0 t1 y0 y1 z) Q := w_un (fun _ _ => rfl) H
theorem tc_countF {g : Nat} (hg : g ≤ 24) : ∀ (d q s dd : Nat) (z : ow_MS), q + d = 19 → d ≤ dd → s ≤ 36 → mpC z → stP z → Te (fun K => cd0_X0_countFrom vl K (dd + 1) 41000 (nI s) (nI q) (nI g) z) (fun r => mpC r.2 ∧ fr (fun q => q = 41009) z r.2) := by
  intro d
  induction d with
  | zero =>
    intro q s dd z hq hdd hs hm hst
    refine w_cdM ?_
    refine u_X0_countFrom_0 ?_; unfold cm_X0_countFrom_0
    exact w_leF (b := 18) (by omega) (by omega) (w_some ⟨hm, fr_rf⟩)
  | succ d ih =>
    intro q s dd z hq hdd hs hm hst
    obtain ⟨dd, rfl⟩ : ∃ k, dd = k + 1 := ⟨dd - 1, by omega⟩
    let Q : Int64 × ow_MS → Prop := fun r => mpC r.2 ∧ fr (fun q => q = 41009) z r.2
    have sf : ∀ y1, fr (fun q => q = 41009) z y1 → stP y1 := fun y1 hf => stP_fr hf (fun g hg => by omega) hst
    have c1 : ∀ (e j : Nat) (y1 : ow_MS), j + e = 37 → mpC y1 → fr (fun q => q = 41009) z y1 → Tt (fun K k => c_X0_countFrom vl K (cd0_X0_countFrom vl K (dd + 1)) k 1 (nI s) (nI q) (nI g) (nI j) 0 0 0 0 0 41000 0 0 0 0 y1) Q := by
      intro e
      induction e with
      | zero =>
        intro j y1 hj hm1 hf
        obtain ⟨k, k36, k1, k2⟩ := sf y1 hf
        refine u_X0_countFrom_1 ?_; unfold cm_X0_countFrom_1
        exact w_rdF k1 (w_leT (by omega) (by omega) (w_some ⟨hm1, hf⟩))
      | succ e ihe =>
        intro j y1 hj hm1 hf
        obtain ⟨k, k36, k1, k2⟩ := sf y1 hf
        have c6 : ∀ (x5 x6 : Int32) (y1 : ow_MS), mpC y1 → fr (fun q => q = 41009) z y1 → Tt (fun K k => c_X0_countFrom vl K (cd0_X0_countFrom vl K (dd + 1)) k 6 (nI s) (nI q) (nI g) (nI j) x5 x6 0 0 0 41000 0 0 0 0 y1) Q := by
          intro x5 x6 y1 hm1 hf
          refine u_X0_countFrom_6 ?_; unfold cm_X0_countFrom_6
          rw [nI_1]
          exact ihe (j + 1) y1 (by omega) hm1 hf
        refine u_X0_countFrom_1 ?_; unfold cm_X0_countFrom_1
        refine w_rdF k1 (w_le (by omega) (by omega) (fun _ => w_some ⟨hm1, hf⟩) (fun hjk => ?_))
        obtain ⟨⟨a1, p1, p2⟩, ⟨a2, p3, p4⟩, a3, p5, p6⟩ := k2 j hjk
        have p20 : z.2.1 41012 j = nI a1 := (congrFun (hf 41012 (by decide)).2.1 j).symm.trans p2
        refine w_crI ch_41011 rfl (show j < 36 by omega) rfl (w_if (fun _ => ?_) (fun _ => ?_))
        · -- a seed
          have c2 : ∀ (f t : Nat) (w : Int64) (y1 : ow_MS), t + f = g → mpC y1 → fr (fun q => q = 41009) z y1 → Tt (fun K k => c_X0_countFrom vl K (cd0_X0_countFrom vl K (dd + 1)) k 2 (nI s) (nI q) (nI g) (nI j) 0 0 (nI t) 0 w 41000 0 0 0 0 y1) Q := by
            intro f
            induction f with
            | zero =>
              intro t w y1 ht hm1 hf
              refine u_X0_countFrom_2 ?_; unfold cm_X0_countFrom_2
              exact w_leT (by omega) (by omega) (w_some ⟨hm1, hf⟩)
            | succ f ihf =>
              intro t w y1 ht hm1 hf
              have c4 : ∀ (x8 : Int32) (w5 y0 v1 : Int64) (y1 : ow_MS), mpC y1 → fr (fun q => q = 41009) z y1 → Tt (fun K k => c_X0_countFrom vl K (cd0_X0_countFrom vl K (dd + 1)) k 4 (nI s) (nI q) (nI g) (nI j) 0 0 (nI t) x8 w5 41000 0 0 y0 v1 y1) Q := by
                intro x8 w5 y0 v1 y1 hm1 hf
                refine u_X0_countFrom_4 ?_; unfold cm_X0_countFrom_4
                rw [nI_1]
                exact ihf (t + 1) _ y1 (by omega) hm1 hf
              have c3 : ∀ (t0 : Int32), Tt (fun K k => c_X0_countFrom vl K (cd0_X0_countFrom vl K (dd + 1)) k 3 (nI s) (nI q) (nI g) (nI j) 0 0 (nI t) 0 w 41000 t0 0 0 0 y1) Q := by
                intro t0
                have m2 : mpC (usI y1 41009 a1 (nI t)) := mpC_set (by omega) hm1
                have f2 : fr (fun q => q = 41009) z (usI y1 41009 a1 (nI t)) := fr_I2 hf rfl
                have p2' : y1.2.1 41012 j = nI a1 := (congrFun (hf 41012 (by decide)).2.1 j).trans p20
                refine u_X0_countFrom_3 ?_; unfold cm_X0_countFrom_3
                refine w_crI ch_41012 rfl (show j < 36 by omega) p2' (w_ctI ch_41009 rfl p1 (w_if (fun _ => c4 _ _ _ _ _ m2 f2) (fun _ => ?_)))
                rw [nI_1, nI_1]
                refine w_cs1 (ih (q + 1) (j + 1) dd _ (by omega) (by omega) (by omega) m2 (sf _ f2)) ?_
                rintro v y3 ⟨m3, f3⟩
                exact c4 _ _ _ _ y3 m3 (fr_tr f2 f3)
              refine u_X0_countFrom_2 ?_; unfold cm_X0_countFrom_2
              refine w_leF (by omega) (by omega) (w_if (fun _ => w_crI ch_41008 rfl (show t < 24 by omega) rfl (c3 _)) (fun _ => c3 _))
          exact c2 g 0 0 y1 (by omega) hm1 hf
        · -- a step
          obtain ⟨b2, q1, q2⟩ := hm1.2.2 a2 p3
          obtain ⟨b3, q3, q4⟩ := hm1.2.2 a3 p5
          have c5 : ∀ (o : Nat) (x5 : Int32), o < 24 → Tt (fun K k => c_X0_countFrom vl K (cd0_X0_countFrom vl K (dd + 1)) k 5 (nI s) (nI q) (nI g) (nI j) x5 0 0 0 0 41000 (nI o) 24 0 0 y1) Q := by
            intro o x5 ho
            obtain ⟨b4, q5, q6⟩ := hm1.1 (24 * o + b3) (by omega)
            refine u_X0_countFrom_5 ?_; unfold cm_X0_countFrom_5
            refine w_crI ch_41014 rfl (show j < 36 by omega) p6 (w_crI ch_41009 rfl p5 q4 (w_crI ch_41006 (i := 24 * o + b3) (by rw [show (24 : Int32) * nI o = nI (24 * o) from pk_mul 24 o, nI_add]) (by omega) q6 (w_crI ch_41011 rfl (show j < 36 by omega) rfl (w_if (fun _ => w_crI ch_41012 rfl (show j < 36 by omega) p2 (w_ctI ch_41009 rfl p1 (c6 _ _ _ (mpC_set q5 hm1) (fr_I2 hf rfl)))) (fun _ => w_crI ch_41012 rfl (show j < 36 by omega) p2 (w_crI ch_41009 rfl p1 rfl (w_if (fun _ => c6 _ _ y1 hm1 hf) (fun _ => w_some ⟨hm1, hf⟩))))))))
          obtain ⟨b5, q7, q8⟩ := hm1.2.1 b2 q1
          exact w_crI ch_41013 rfl (show j < 36 by omega) p4 (w_crI ch_41009 rfl p3 q2 (w_crI ch_41015 rfl (show j < 36 by omega) rfl (w_if (fun _ => c5 b2 _ q1) (fun _ => w_crI ch_41007 rfl q1 q8 (c5 b5 _ q7)))))
    refine w_cdM ?_
    refine u_X0_countFrom_0 ?_; unfold cm_X0_countFrom_0
    exact w_leT (b := 18) (by omega) (by omega) (c1 (37 - s) s z (by omega) hm fr_rf)
end CMQ
end
section
/-! 99zzzzzzzc.cmap3 -/
/-! the class: maps -/
section CMR
variable {vl : Nat → Nat} {y : ow_MS} {x x' : Int32}
def mxP (g : Nat) : Prop := 4001 ≤ g ∧ g ≤ 4011 ∨ 41001 ≤ g ∧ g ≤ 41016
theorem u_X0_countMaps_1 {vl : Nat → Nat} {x2 : Int32} {x3 : Int32} {x6 : Int32} {w4 : Int64} {r0 : Nat} {r1 : Nat} {t0 : Int32} {z : ow_MS} {Q : (Int64 × ow_MS) → Prop} (H : Tt (fun K k => cm_X0_countMaps_1 vl K (c_X0_countMaps vl K k) x2 x3 x6 w4 r0 r1 t0 z) Q) : Tt (fun K k => c_X0_countMaps vl K k 1 x2 x3 x6 w4 r0 r1 t0 z) Q := w_un (fun _ _ => rfl) H
theorem u_X0_countMaps_3 {vl : Nat → Nat} {x2 : Int32} {x3 : Int32} {x6 : Int32} {w4 : Int64} {r0 : Nat} {r1 : Nat} {t0 : Int32} {z : ow_MS} {Q : (Int64 × ow_MS) → Prop} (H : Tt (fun K k => cm_X0_countMaps_3 vl K (c_X0_countMaps vl K k) x2 x3 x6 w4 r0 r1 t0 z) Q) : Tt (fun K k => c_X0_countMaps vl K k 3 x2 x3 x6 w4 r0 r1 t0 z) Q := w_un (fun _ _ => rfl) H
theorem u_X0_countMaps_2 {vl : Nat → Nat} {x2 : Int32} {x3 : Int32} {x6 : Int32} {w4 : Int64} {r0 : Nat} {r1 : Nat} {t0 : Int32} {z : ow_MS} {Q : (Int64 × ow_MS) → Prop} (H : Tt (fun K k => cm_X0_countMaps_2 vl K (c_X0_countMaps vl K k) x2 x3 x6 w4 r0 r1 t0 z) Q) : Tt (fun K k => c_X0_countMaps vl K k 2 x2 x3 x6 w4 r0 r1 t0 z) Q := w_un (fun _ _ => rfl) H
theorem e_X0_countMaps {vl : Nat → Nat} {r0 : Nat} {r1 : Nat} {x2 : Int32} {z : ow_MS} {Q : (Int64 × ow_MS) → Prop} (H : Tt (fun K k => c_X0_countMaps vl K k 0 x2 0 0 0 r0 r1 0 z) Q) : Te (fun K => ce_X0_countMaps vl K r0 r1 x2 z) Q := w_te H
theorem u_X0_countMaps_0 {vl : Nat → Nat} {x2 : Int32} {x3 : Int32} {x6 : Int32} {w4 : Int64} {r0 : Nat} {r1 : Nat} {t0 : Int32} {z : ow_MS} {Q : (Int64 × ow_MS) → Prop} (H : Tt (fun K k => cm_X0_countMaps_0 vl K (c_X0_countMaps vl K k) x2 x3 x6 w4 r0 r1 t0 z) Q) : Tt (fun K k => c_X0_countMaps vl K k 0 x2 x3 x6 w4 r0 r1 t0 z) Q := w_un (fun _ _ => rfl) H
theorem tc_countMaps {A : rn_L} {sg : Nat → Bool} {c m : Nat} {S : ow_NP} {G : Nat → Int32} (hJ : jnN A sg c S G) (hy : cAt y 4000 (c, cirs A, S, G)) (hm : m ≤ 4) (hp : mpC y) (hst : stP y) : Te (fun K => ce_X0_countMaps vl K 41000 4000 (nI m) y) (fun r => mpC r.2 ∧ stP r.2 ∧ cAt r.2 4000 (c, cirs A, S, G) ∧ fr mxP y r.2) := by
  let Q : Int64 × ow_MS → Prop := fun r => mpC r.2 ∧ stP r.2 ∧ cAt r.2 4000 (c, cirs A, S, G) ∧ fr mxP y r.2
  obtain ⟨hA, hi, hv, hG⟩ := hJ
  have hc := hA.2.2.2.1
  have h6 := hA.2.2.2.2
  have nc := neC_cirs A
  obtain ⟨q, q1, q2, q3, R, q4, q5⟩ := iso_q hi hv
  have c1 : ∀ g : Nat, g ≤ 24 → Tt (fun K k => c_X0_countMaps vl K k 1 (nI m) 0 0 0 41000 4000 (nI g) y) Q := by
    intro g hg
    refine u_X0_countMaps_1 ?_; unfold cm_X0_countMaps_1
    refine w_cs0 (tc_markArcs (m := neC A) nH4 hy hv hc (by omega) q2 q3 q4 q5 (by omega)) ?_
    rintro y1 ⟨⟨a, n, ⟨s1, s2, s3, s4, s5⟩, n1, n2⟩, f1⟩
    have hy1 : cAt y1 4000 (c, cirs A, S, G) := cAt_fr f1 (fun g hg h9 => by unfold cP at hg; unfold arP at h9; omega) hy
    refine w_cs0 (tc_markParts nH4 hy1 (fun k hk => (hv k hk).1) hc) ?_
    rintro y2 ⟨-, g2, f2⟩
    have pl := mp_out_le S.1 (2 * c) (np_fill (y1.2.1 (4000 + 6)) 0 (2 * c) (-1)) (2 * c)
    generalize (mp_out S.1 (2 * c) (np_fill (y1.2.1 (4000 + 6)) 0 (2 * c) (-1)) (2 * c)).2 = P at g2 pl
    have hy2 : cAt y2 4000 (c, cirs A, S, G) := cAt_fr f2 (fun g hg h9 => by unfold cP at hg; unfold cQ at h9; omega) hy1
    have f02 : fr (fun g => 4001 ≤ g ∧ g ≤ 4011 ∨ g = 41001 ∨ g = 41002) y y2 := fr_tr (fr_mono (fun g hg => by unfold arP at hg; omega) f1) (fr_mono (fun g hg => by unfold cQ at hg; omega) f2)
    have hp2 : mpC y2 := mpC_fr f02 (by omega) hp
    refine w_cs0 (tc_findCl hg hp2) ?_
    rintro y3 f3
    have hN3 : plN y3 c (cirs A) S G a (n + cirs A) := by
      refine plN_fr f3 (fun g hg => by unfold cP; omega) ⟨hy2, hv, hc, by omega, fun v hv2 => ?_, ?_⟩
      · rw [(f2 41001 (by unfold cQ; omega)).2.1]
        exact ⟨(s1 v hv2).1, by have := (s1 v hv2).2; omega⟩
      · rw [(f2 41002 (by unfold cQ; omega)).1]
        exact s5
    have hp3 : mpC y3 := mpC_fr f3 (by omega) hp2
    have hs3 : stP y3 := stP_fr f3 (fun g hg => by omega) (stP_fr f02 (fun g hg => by omega) hst)
    have f03 : fr mxP y y3 := fr_tr (fr_mono (fun g hg => by unfold mxP; omega) f02) (fr_mono (fun g hg => by unfold mxP; omega) f3)
    have e3 : y3.1 4011 = nI P := (f3 4011 (by decide)).1.trans g2
    have c3 : ∀ (d i : Nat) (w : Int64) (z : ow_MS), i + d = P → mpC z → stP z → fr (fun g => 41009 ≤ g ∧ g ≤ 41016) y3 z → Tt (fun K k => c_X0_countMaps vl K k 3 (nI m) (nI g) (nI i) w 41000 4000 0 z) Q := by
      intro d
      induction d with
      | zero =>
        intro i w z hi2 hz hs hf
        have hz4 := (plN_fr hf (fun g hg => by unfold cP; omega) hN3).1
        refine u_X0_countMaps_3 ?_; unfold cm_X0_countMaps_3
        exact w_rdF ((hf 4011 (by omega)).1.trans e3) (w_leT (by omega) (by omega) (w_some ⟨hz, hs, hz4, fr_tr f03 (fr_mono (fun g hg => by unfold mxP; omega) hf)⟩))
      | succ d ih =>
        intro i w z hi2 hz hs hf
        refine u_X0_countMaps_3 ?_; unfold cm_X0_countMaps_3
        refine w_rdF ((hf 4011 (by omega)).1.trans e3) (w_leF (by omega) (by omega) (w_cs0 (tc_planPart (plN_fr hf (fun g hg => by unfold cP; omega) hN3) hs) ?_))
        rintro z1 ⟨g1, g3⟩
        have hz1 : mpC z1 := mpC_fr g3 (by unfold plR; omega) hz
        refine w_cs1 (tc_countF hg 19 0 0 20 z1 (by omega) (by omega) (by omega) hz1 g1) ?_
        rintro v z2 ⟨k1, k2⟩
        rw [nI_1]
        exact ih (i + 1) _ z2 (by omega) k1 (stP_fr k2 (fun g hg => by omega) g1) (fr_tr (fr_tr hf (fr_mono (fun g hg => by unfold plR at hg; omega) g3)) (fr_mono (fun g hg => by omega) k2))
    have c2 : ∀ (d i : Nat) (w : Int64), i + d = cirs A → Tt (fun K k => c_X0_countMaps vl K k 2 (nI m) (nI g) (nI i) w 41000 4000 0 y3) Q := by
      intro d
      induction d with
      | zero =>
        intro i w hi2
        refine u_X0_countMaps_2 ?_; unfold cm_X0_countMaps_2
        exact w_rdF (x := nI (cirs A)) hN3.1.2.1 (w_leT (by omega) (by omega) (c3 P 0 w y3 (by omega) hp3 hs3 fr_rf))
      | succ d ih =>
        intro i w hi2
        refine u_X0_countMaps_2 ?_; unfold cm_X0_countMaps_2
        rw [nI_1]
        exact w_rdF (x := nI (cirs A)) hN3.1.2.1 (w_leF (by omega) (by omega) (ih (i + 1) _ (by omega)))
    exact c2 (cirs A) 0 1 (by omega)
  refine e_X0_countMaps ?_
  refine u_X0_countMaps_0 ?_; unfold cm_X0_countMaps_0
  exact w_if (fun _ => c1 24 (by omega)) (fun _ => w_if (fun _ => c1 6 (by omega)) (fun _ => c1 m (by omega)))
theorem e_X11_maps {vl : Nat → Nat} {r0 : Nat} {x1 : Int32} {x2 : Int32} {z : ow_MS} {Q : (Nat × Int32 × ow_MS) → Prop} (H : Tt (fun K _ => cm_X11_maps_0 vl K x1 x2 r0 z) Q) : Te (fun K => ce_X11_maps vl K r0 x1 x2 z) Q := w_te0 H
theorem tc_maps (hM : gM y) (hp : mpC y) (hst : stP y) : Te (fun K => ce_X11_maps vl K 0 x x' y) (fun r => gM r.2.2 ∧ mpC r.2.2 ∧ stP r.2.2 ∧ fr mxP y r.2.2) := by
  refine e_X11_maps ?_; unfold cm_X11_maps_0
  refine w_tc0 (tc_need hM.1.1) ?_ ?_
  · rintro y1 ⟨h1, rfl⟩
    rcases h1 with ⟨-, d, A, sg, c, hd, rfl, hs, hA, hne⟩ | h1
    · refine w_if (fun _ => w_some ⟨hM, hp, hst, fr_rf⟩) (fun h0 => w_if (fun h4 => ?_) (fun _ => w_some ⟨hM, hp, hst, fr_rf⟩))
      refine w_cs0 (tc_ld3 nH4 hM.1 hd hs hA) ?_
      rintro y2 ⟨g1, g2, S, G, g3, g4⟩
      have f2 : fr mxP y1 y2 := fr_mono (fun g hg => by unfold cL at hg; unfold mxP; omega) g2
      have hp2 : mpC y2 := mpC_fr g2 (by unfold cL; omega) hp
      have hst2 : stP y2 := stP_fr g2 (fun g hg => by unfold cL at hg; omega) hst
      have hM2 : gM y2 := ⟨g1, tbs_fr g2 (fun g hg => by unfold cL at hg; omega) hM.2⟩
      refine w_rdF g3.1.1 (w_if (fun _ => w_some ⟨hM2, hp2, hst2, f2⟩) (fun _ => w_rdF rfl (w_if (fun _ => ?_) (fun _ => w_some ⟨hM2, hp2, hst2, f2⟩))))
      obtain ⟨m, m31, rfl⟩ := nI_of (x := x') (fun h => h0 (by
        rw [Int32.lt_iff_toInt_lt] at h ⊢
        exact Int.lt_trans h (by decide)))
      have hm4 : m ≤ 4 := (nI_leI m31 (by omega)).mp h4
      refine w_cs1 (tc_countMaps g4 g3.1 hm4 hp2 hst2) ?_
      rintro v y3 ⟨k1, k0, k2, k3⟩
      refine w_some ⟨⟨⟨dgC_fr k3 (fun g a1 a2 h9 => by unfold mxP at h9; omega) g1.1, nsC_put nH4 k3 (fun h' hh' hne' g hg h9 => ?_) ⟨_, k2, g3.2.2.1.2.2.1⟩ g1.2.1, kdC_fr k3 (fun g hg => by unfold mxP at hg; omega) g1.2.2⟩, tbs_fr k3 (fun g hg => by unfold mxP at hg; omega) hM2.2⟩, k1, k0, fr_tr f2 k3⟩
      have key : ∀ a, a ∈ nHL → a ≠ 4000 → 5000 ≤ a ∧ (a ≤ 40000 ∨ 44000 ≤ a) := by decide
      have := key h' hh' hne'
      unfold cP at hg
      unfold mxP at h9
      omega
    · exact absurd (show (0 : Nat) = 1 from h1.1) (by decide)
  · rintro a y1 ha ⟨h1, rfl⟩
    exact w_some ⟨hM, hp, hst, fr_rf⟩
end CMR
end
section
/-! 99zzzzzzzd.csc -/
/-! the one behind, in a round row -/
abbrev vT := Nat × Nat
section SC
def scF (a : vT) : List vT → vT → vT
  | [], p => p
  | [_], _ => a
  | b :: c :: R, p => if b = p then c else scF a (c :: R) p
def sc (L : List vT) (p : vT) : vT := match L with
  | [] => p
  | a :: M => scF a (a :: M) p
theorem scF_mid {a p q : vT} {Y : List vT} : ∀ {X : List vT}, p ∉ X → scF a (X ++ p :: q :: Y) p = q
  | [], _ => if_pos rfl
  | [b], h => by
    have hb : b ≠ p := fun e => h (by rw [e]; exact List.mem_singleton.mpr rfl)
    show (if b = p then p else scF a (p :: q :: Y) p) = q
    rw [if_neg hb]
    exact if_pos rfl
  | b :: c :: X, h => by
    have hb : b ≠ p := fun e => h (by rw [e]; exact List.mem_cons_self)
    show (if b = p then c else scF a ((c :: X) ++ p :: q :: Y) p) = q
    rw [if_neg hb]
    exact scF_mid (fun h9 => h (List.mem_cons_of_mem _ h9))
theorem scF_end {a p : vT} : ∀ {X : List vT}, p ∉ X → scF a (X ++ [p]) p = a
  | [], _ => rfl
  | [b], h => by
    have hb : b ≠ p := fun e => h (by rw [e]; exact List.mem_singleton.mpr rfl)
    show (if b = p then p else scF a [p] p) = a
    rw [if_neg hb]
    rfl
  | b :: c :: X, h => by
    have hb : b ≠ p := fun e => h (by rw [e]; exact List.mem_cons_self)
    show (if b = p then c else scF a ((c :: X) ++ [p]) p) = a
    rw [if_neg hb]
    exact scF_end (fun h9 => h (List.mem_cons_of_mem _ h9))
theorem sc_mid {p q : vT} {X Y : List vT} (h : p ∉ X) : sc (X ++ p :: q :: Y) p = q := by
  cases X with
  | nil => exact scF_mid (a := p) (X := []) h
  | cons b X => exact scF_mid (a := b) (X := b :: X) h
theorem sc_end {p a : vT} {X : List vT} (h : p ∉ a :: X) : sc (a :: X ++ [p]) p = a := scF_end (a := a) (X := a :: X) h
theorem sc_one {p : vT} : sc [p] p = p := rfl
/-- what stands behind p: the head of what follows, then of what is before -/
theorem sc_hd {p : vT} {X Y : List vT} (h : p ∉ X) : sc (X ++ p :: Y) p = (Y ++ X ++ [p]).headD p := by
  cases Y with
  | cons q Y => exact sc_mid h
  | nil =>
    cases X with
    | nil => rfl
    | cons a X => exact sc_end h
theorem nd_mid {p : vT} {X Y : List vT} (h : (X ++ p :: Y).Nodup) : p ∉ X ∧ p ∉ Y := by
  have h1 := List.nodup_append.mp h
  exact ⟨fun h9 => h1.2.2 p h9 p List.mem_cons_self rfl, (List.nodup_cons.mp h1.2.1).1⟩
theorem nd_rot {X Y : List vT} (h : (X ++ Y).Nodup) : (Y ++ X).Nodup := by
  have h1 := List.nodup_append.mp h
  exact List.nodup_append.mpr ⟨h1.2.1, h1.1, fun a ha b hb e => h1.2.2 b hb a ha e.symm⟩
/-- a row turned -/
theorem sc_rot {p : vT} {X Y : List vT} (hn : (X ++ Y).Nodup) (hp : p ∈ X ++ Y) : sc (Y ++ X) p = sc (X ++ Y) p := by
  rcases List.mem_append.mp hp with h | h
  · obtain ⟨X1, X2, rfl⟩ := List.append_of_mem h
    have h1 : (X1 ++ p :: (X2 ++ Y)).Nodup := by simpa using hn
    have h2 : ((Y ++ X1) ++ p :: X2).Nodup := by simpa using nd_rot hn
    have e1 := sc_hd (nd_mid h1).1 (Y := X2 ++ Y)
    have e2 := sc_hd (nd_mid h2).1 (Y := X2)
    rw [show X1 ++ p :: X2 ++ Y = X1 ++ p :: (X2 ++ Y) by simp, show Y ++ (X1 ++ p :: X2) = (Y ++ X1) ++ p :: X2 by simp, e1, e2]
    simp
  · obtain ⟨Y1, Y2, rfl⟩ := List.append_of_mem h
    have h1 : ((X ++ Y1) ++ p :: Y2).Nodup := by simpa using hn
    have h2 : (Y1 ++ p :: (Y2 ++ X)).Nodup := by simpa using nd_rot hn
    have e1 := sc_hd (nd_mid h1).1 (Y := Y2)
    have e2 := sc_hd (nd_mid h2).1 (Y := Y2 ++ X)
    rw [show X ++ (Y1 ++ p :: Y2) = (X ++ Y1) ++ p :: Y2 by simp, show Y1 ++ p :: Y2 ++ X = Y1 ++ p :: (Y2 ++ X) by simp, e1, e2]
    simp
theorem sc_cons {r : vT} {Z : List vT} : sc (r :: Z) r = Z.headD r := by
  cases Z with
  | nil => rfl
  | cons a Z => exact if_pos rfl
theorem sc_in {p : vT} {L : List vT} (hp : p ∈ L) (hn : L.Nodup) : sc L p ∈ L := by
  obtain ⟨X, Y, rfl⟩ := List.append_of_mem hp
  rw [sc_hd (nd_mid hn).1]
  cases Y with
  | cons q Y =>
    show q ∈ _
    simp
  | nil =>
    cases X with
    | nil =>
      show p ∈ _
      simp
    | cons a X =>
      show a ∈ _
      simp
/-- one goes out of a row -/
theorem sc_out {r p : vT} {X Y : List vT} (hn : (X ++ r :: Y).Nodup) (hp : p ∈ X ++ Y) : sc (X ++ Y) p = if sc (X ++ r :: Y) p = r then sc (X ++ r :: Y) r else sc (X ++ r :: Y) p := by
  have hn2 : (r :: (Y ++ X)).Nodup := by simpa using nd_rot hn
  have hn3 : (X ++ Y).Nodup := nd_rot (List.nodup_cons.mp hn2).2
  have hr : r ∉ Y ++ X := (List.nodup_cons.mp hn2).1
  have e0 : ∀ q, q ∈ X ++ r :: Y → sc (X ++ r :: Y) q = sc (r :: (Y ++ X)) q := fun q hq => (sc_rot (X := X) (Y := r :: Y) hn hq).symm
  have hpr : p ≠ r := fun e => hr (by rw [← e]; simpa [Or.comm] using hp)
  rw [e0 p (by simp at hp ⊢; grind), e0 r (by simp), ← sc_rot hn3 hp]
  have hp2 : p ∈ Y ++ X := by simpa [Or.comm] using hp
  generalize hZ : Y ++ X = Z at *
  obtain ⟨Z1, Z2, rfl⟩ := List.append_of_mem hp2
  have k1 : (r :: Z1) ++ p :: Z2 = r :: (Z1 ++ p :: Z2) := rfl
  have n1 : ((r :: Z1) ++ p :: Z2).Nodup := hn2
  rw [sc_cons, ← k1, sc_hd (nd_mid n1).1, sc_hd (nd_mid (List.nodup_cons.mp hn2).2).1]
  cases Z2 with
  | cons q Z2 =>
    have hq : q ≠ r := fun e => hr (by rw [e]; simp)
    show q = if q = r then _ else q
    rw [if_neg hq]
  | nil =>
    show (Z1 ++ [p]).headD p = if r = r then _ else _
    rw [if_pos rfl]
    cases Z1 <;> rfl
theorem nd_spl {r : vT} : ∀ {X Y Z W : List vT}, (X ++ r :: Y).Nodup → X ++ r :: Y = Z ++ r :: W → X = Z ∧ Y = W
  | [], Y, [], W, _, e => ⟨rfl, (List.cons.inj e).2⟩
  | [], Y, b :: Z, W, h, e => by
    obtain ⟨e1, e2⟩ := List.cons.inj e
    have := (nd_mid h).2
    rw [e2] at this
    exact absurd (by simp) this
  | a :: X, Y, [], W, h, e => by
    obtain ⟨e1, e2⟩ := List.cons.inj e
    have := (nd_mid h).1
    rw [e1] at this
    exact absurd List.mem_cons_self this
  | a :: X, Y, b :: Z, W, h, e => by
    obtain ⟨e1, e2⟩ := List.cons.inj e
    obtain ⟨h1, h2⟩ := nd_spl (List.nodup_cons.mp h).2 e2
    exact ⟨by rw [e1, h1], h2⟩
/-- one comes into a row, behind p -/
theorem sc_put {r p q : vT} {X Y : List vT} (hn : (X ++ p :: r :: Y).Nodup) (hq : q ∈ X ++ p :: r :: Y) : sc (X ++ p :: r :: Y) q = if q = p then r else if q = r then sc (X ++ p :: Y) p else sc (X ++ p :: Y) q := by
  have e : X ++ p :: r :: Y = (X ++ [p]) ++ r :: Y := by simp
  have hn' : ((X ++ [p]) ++ r :: Y).Nodup := by rw [← e]; exact hn
  have hr := nd_mid hn'
  have hpn := nd_mid hn
  have hrp : r ≠ p := fun h9 => hr.1 (by rw [h9]; simp)
  have e2 : X ++ p :: Y = (X ++ [p]) ++ Y := by simp
  by_cases c1 : q = p
  · rw [if_pos c1, c1]
    exact sc_mid hpn.1
  · rw [if_neg c1]
    have o1 : ∀ s, s ∈ (X ++ [p]) ++ Y → sc (X ++ p :: Y) s = if sc (X ++ p :: r :: Y) s = r then sc (X ++ p :: r :: Y) r else sc (X ++ p :: r :: Y) s := by
      intro s hs
      rw [e2, e]
      exact sc_out hn' hs
    have s1 : sc (X ++ p :: r :: Y) p = r := sc_mid hpn.1
    by_cases c2 : q = r
    · rw [if_pos c2, c2, o1 p (by simp), s1, if_pos rfl]
    · rw [if_neg c2, o1 q (by simp at hq ⊢; grind)]
      by_cases c3 : sc (X ++ p :: r :: Y) q = r
      · exfalso
        obtain ⟨Z1, Z2, hZ⟩ := List.append_of_mem hq
        have n2 : (Z1 ++ q :: Z2).Nodup := by rw [← hZ]; exact hn
        rw [hZ, sc_hd (nd_mid n2).1] at c3
        cases Z2 with
        | cons a Z2 =>
          have c3 : a = r := c3
          subst c3
          have hZ' : (X ++ [p]) ++ a :: Y = (Z1 ++ [q]) ++ a :: Z2 := by rw [← e, hZ]; simp
          obtain ⟨u1, u2⟩ := nd_spl hn' hZ'
          have := congrArg List.getLast? u1
          simp at this
          exact c1 this.symm
        | nil =>
          cases Z1 with
          | nil =>
            have c3 : q = r := c3
            exact c2 c3
          | cons b Z1 =>
            have c3 : b = r := c3
            subst c3
            cases X with
            | nil =>
              have := (List.cons.inj hZ).1
              exact hrp this.symm
            | cons a X =>
              have := (List.cons.inj hZ).1
              exact hr.1 (by rw [← this]; simp)
      · rw [if_neg c3]
end SC
section SC2
/-- a row parted in two, or two rows made one: the last of each change what is behind them -/
theorem sc_spl1 {v w p : vT} {X Y : List vT} (hn : ((X ++ [v]) ++ (Y ++ [w])).Nodup) (hp : p ∈ X ++ [v]) : sc (X ++ [v]) p = if p = v then sc ((X ++ [v]) ++ (Y ++ [w])) w else sc ((X ++ [v]) ++ (Y ++ [w])) p := by
  have hv : v ∉ X := (nd_mid (X := X) (Y := Y ++ [w]) (by simpa using hn)).1
  by_cases e : p = v
  · rw [if_pos e, e, sc_hd (Y := []) hv]
    have hw : w ∉ (X ++ [v]) ++ Y := (nd_mid (X := (X ++ [v]) ++ Y) (Y := []) (by simpa using hn)).1
    rw [show (X ++ [v]) ++ (Y ++ [w]) = ((X ++ [v]) ++ Y) ++ w :: [] by simp, sc_hd hw]
    cases X <;> rfl
  · rw [if_neg e]
    have hp' : p ∈ X := by
      rcases List.mem_append.mp hp with h | h
      · exact h
      · exact absurd (List.mem_singleton.mp h) e
    obtain ⟨X1, X2, rfl⟩ := List.append_of_mem hp'
    have hp1 : p ∉ X1 := (nd_mid (X := X1) (Y := X2 ++ [v] ++ (Y ++ [w])) (by simpa using hn)).1
    rw [show X1 ++ p :: X2 ++ [v] = X1 ++ p :: (X2 ++ [v]) by simp, sc_hd hp1, show X1 ++ p :: (X2 ++ [v]) ++ (Y ++ [w]) = X1 ++ p :: (X2 ++ [v] ++ (Y ++ [w])) by simp, sc_hd hp1]
    cases X2 <;> rfl
theorem sc_spl2 {v w p : vT} {X Y : List vT} (hn : ((X ++ [v]) ++ (Y ++ [w])).Nodup) (hp : p ∈ Y ++ [w]) : sc (Y ++ [w]) p = if p = w then sc ((X ++ [v]) ++ (Y ++ [w])) v else sc ((X ++ [v]) ++ (Y ++ [w])) p := by
  have := sc_spl1 (nd_rot hn) hp
  rw [this, sc_rot hn (by simp), sc_rot hn (List.mem_append_right _ hp)]
theorem sc_map {s : vT → vT} {p : vT} {L : List vT} (hn : L.Nodup) (hi : ∀ a b, a ∈ L → b ∈ L → s a = s b → a = b) (hp : p ∈ L) : sc (L.map s) (s p) = s (sc L p) := by
  obtain ⟨X, Y, rfl⟩ := List.append_of_mem hp
  have h1 := (nd_mid hn).1
  have h2 : s p ∉ X.map s := fun h9 => by
    obtain ⟨a, ha, e⟩ := List.mem_map.mp h9
    exact h1 (by rw [← hi a p (by simp [ha]) (by simp) e]; exact ha)
  rw [List.map_append, List.map_cons, sc_hd h2, sc_hd h1]
  cases Y with
  | cons q Y => rfl
  | nil => cases X <;> rfl
theorem sc_rev {p : vT} {L : List vT} (hn : L.Nodup) (hp : p ∈ L) : sc L.reverse (sc L p) = p := by
  obtain ⟨X, Y, rfl⟩ := List.append_of_mem hp
  have h1 := (nd_mid hn).1
  cases Y with
  | cons q Y =>
    rw [sc_mid h1]
    have h2 : q ∉ Y.reverse := by
      have := (nd_mid (X := X ++ [p]) (Y := Y) (p := q) (by simpa using hn)).2
      simpa using this
    rw [show (X ++ p :: q :: Y).reverse = Y.reverse ++ q :: p :: X.reverse by simp]
    exact sc_mid h2
  | nil =>
    cases X with
    | nil => rfl
    | cons a X =>
      rw [sc_end h1]
      have h2 : a ∉ p :: X.reverse := by
        have := (List.nodup_cons.mp (show (a :: (X ++ [p])).Nodup by simpa using hn)).1
        simp at this ⊢
        grind
      rw [show (a :: X ++ [p]).reverse = p :: X.reverse ++ [a] by simp]
      exact sc_end h2
theorem sc_inj {p q : vT} {L : List vT} (hn : L.Nodup) (hp : p ∈ L) (hq : q ∈ L) (e : sc L p = sc L q) : p = q := by
  rw [← sc_rev hn hp, e, sc_rev hn hq]
/-- a net by its components: each visit has the one behind it -/
def shw (N : Nat → Nat) (g : vT → Nat) (A : rn_L) : Prop := ∀ L, L ∈ A → ∀ p, p ∈ L → N (g p) = g (sc L p)
theorem nx_sc : ∀ A : rn_L, A.flatten.Nodup → ∀ v, v < A.flatten.length → ∃ L, L ∈ A ∧ vAt A v ∈ L ∧ vAt A (rn_nx A v) = sc L (vAt A v) := by
  refine snocI (fun _ v hv => absurd hv (Nat.not_lt_zero _)) (fun A L ih hn v hv => ?_)
  rw [fl_app] at hn
  rw [fl_app, List.length_append] at hv
  by_cases e : v < A.flatten.length
  · obtain ⟨K, k1, k2, k3⟩ := ih (List.nodup_append.mp hn).1 v e
    refine ⟨K, List.mem_append_left _ k1, ?_, ?_⟩
    · rw [vAt_ap e]
      exact k2
    · rw [vAt_ap e, rnx_app e, vAt_ap (rnx_lt e)]
      exact k3
  · obtain ⟨i, rfl⟩ : ∃ i, v = A.flatten.length + i := ⟨v - A.flatten.length, by omega⟩
    have hi : i < L.length := by omega
    have hL := (List.nodup_append.mp hn).2.1
    refine ⟨L, List.mem_append_right _ (List.mem_singleton.mpr rfl), ?_, ?_⟩
    · rw [vAt_nw (List.getElem?_eq_getElem hi)]
      exact List.getElem_mem hi
    · rw [rnx_new hi, vAt_nw (List.getElem?_eq_getElem hi)]
      have es : L = L.take i ++ L[i] :: L.drop (i + 1) := by
        rw [← List.drop_eq_getElem_cons hi, List.take_append_drop]
      have hni : L[i] ∉ L.take i := by
        rw [es] at hL
        exact (nd_mid hL).1
      by_cases h1 : i + 1 < L.length
      · rw [if_pos h1, vAt_nw (List.getElem?_eq_getElem h1)]
        have es2 : L = L.take i ++ L[i] :: L[i + 1] :: L.drop (i + 1 + 1) := by
          rw [← List.drop_eq_getElem_cons h1]
          exact es
        have := sc_mid (q := L[i + 1]) (Y := L.drop (i + 1 + 1)) hni
        rw [← es2] at this
        exact this.symm
      · rw [if_neg h1, show A.flatten.length = A.flatten.length + 0 from rfl, vAt_nw (List.getElem?_eq_getElem (show 0 < L.length by omega))]
        have := sc_hd (Y := L.drop (i + 1)) hni
        rw [← es] at this
        rw [this, List.drop_eq_nil_of_le (by omega), List.nil_append]
        cases L with
        | nil => exact absurd hi (Nat.not_lt_zero _)
        | cons a M =>
          cases i with
          | zero =>
            have : M = [] := List.length_eq_zero_iff.mp (by have h0 : (a :: M).length = M.length + 1 := rfl; omega)
            subst this
            rfl
          | succ i => rfl
theorem one_L {A : rn_L} (hn : A.flatten.Nodup) {L K : List vT} {p : vT} (hL : L ∈ A) (hK : K ∈ A) (h1 : p ∈ L) (h2 : p ∈ K) : L = K := by
  induction A with
  | nil => cases hL
  | cons B A ih =>
    rw [List.flatten_cons] at hn
    have hd := List.nodup_append.mp hn
    rcases List.mem_cons.mp hL with e1 | hL2
    · rcases List.mem_cons.mp hK with e2 | hK2
      · rw [e1, e2]
      · rw [e1] at h1
        exact absurd rfl (hd.2.2 p h1 p (List.mem_flatten.mpr ⟨K, hK2, h2⟩))
    · rcases List.mem_cons.mp hK with e2 | hK2
      · rw [e2] at h2
        exact absurd rfl (hd.2.2 p h2 p (List.mem_flatten.mpr ⟨L, hL2, h1⟩))
      · exact ih hd.2.1 hL2 hK2
theorem shw_iff {N : Nat → Nat} {g : vT → Nat} {A : rn_L} (hn : A.flatten.Nodup) : shw N g A ↔ ∀ v, v < A.flatten.length → N (g (vAt A v)) = g (vAt A (rn_nx A v)) := by
  constructor
  · intro h v hv
    obtain ⟨L, h1, h2, h3⟩ := nx_sc A hn v hv
    rw [h3]
    exact h L h1 _ h2
  · intro h L hL p hp
    have hm : p ∈ A.flatten := List.mem_flatten.mpr ⟨L, hL, hp⟩
    obtain ⟨v, hv, e⟩ := List.mem_iff_getElem.mp hm
    have e' : vAt A v = p := by
      unfold vAt
      rw [List.getElem?_eq_getElem hv, e]
      rfl
    obtain ⟨K, h1, h2, h3⟩ := nx_sc A hn v hv
    have := h v hv
    rw [h3, e'] at this
    rw [e'] at h2
    rw [one_L hn hL h1 hp h2]
    exact this
/-- isoN by names -/
def gl (f : Nat → Nat) (p : vT) : Nat := 2 * f p.1 + p.2
def isoS (A : rn_L) (sg : Nat → Bool) (f : Nat → Nat) (T : ow_NT) : Prop := wkF A.flatten ∧ A.flatten.length = 2 * T.1 ∧ T.1 ≤ 12 ∧ (∀ p, p ∈ A.flatten → f p.1 < T.1) ∧ (∀ p q, p ∈ A.flatten → q ∈ A.flatten → f p.1 = f q.1 → p.1 = q.1) ∧ shw T.2.2.1.1 (gl f) A ∧ (∀ p, p ∈ A.flatten → (T.2.2.2 (f p.1) < 0 ↔ sg p.1 = true)) ∧ cirs A = T.2.1
theorem mem_vAt {A : rn_L} {p : vT} (h : p ∈ A.flatten) : ∃ v, v < A.flatten.length ∧ vAt A v = p := by
  obtain ⟨v, hv, e⟩ := List.mem_iff_getElem.mp h
  refine ⟨v, hv, ?_⟩
  unfold vAt
  rw [List.getElem?_eq_getElem hv, e]
  rfl
theorem isoS_iff {A : rn_L} {sg : Nat → Bool} {f : Nat → Nat} {T : ow_NT} : isoS A sg f T ↔ isoN A sg f T := by
  constructor
  · rintro ⟨h1, h2, h3, h4, h5, h6, h7, h8⟩
    exact ⟨h1, h2, h3, fun v hv => h4 _ (vAt_mem hv), fun v w hv hw => h5 _ _ (vAt_mem hv) (vAt_mem hw), fun v hv => (shw_iff h1.1).mp h6 v hv, fun v hv => h7 _ (vAt_mem hv), h8⟩
  · rintro ⟨h1, h2, h3, h4, h5, h6, h7, h8⟩
    refine ⟨h1, h2, h3, fun p hp => ?_, fun p q hp hq => ?_, (shw_iff h1.1).mpr h6, fun p hp => ?_, h8⟩
    · obtain ⟨v, hv, rfl⟩ := mem_vAt hp
      exact h4 v hv
    · obtain ⟨v, hv, rfl⟩ := mem_vAt hp
      obtain ⟨w, hw, rfl⟩ := mem_vAt hq
      exact h5 v w hv hw
    · obtain ⟨v, hv, rfl⟩ := mem_vAt hp
      exact h7 v hv
end SC2
end
section
/-! 99zzzzzzze.cop -/
/-! nets by their components: what changes a net changes its rows -/
def shL (S : ow_NP) (g : vT → Nat) (L : List vT) : Prop := ∀ p, p ∈ L → S.1 (g p) = g (sc L p) ∧ S.2 (g (sc L p)) = g p
def shP (S : ow_NP) (g : vT → Nat) (A : rn_L) : Prop := ∀ L, L ∈ A → shL S g L
def gin (g : vT → Nat) (F : List vT) : Prop := ∀ p q, p ∈ F → q ∈ F → g p = g q → p = q
theorem sc_pre {L : List vT} {r : vT} (hn : L.Nodup) (hr : r ∈ L) : ∃ q, q ∈ L ∧ sc L q = r := by
  have h1 : L.reverse.Nodup := List.pairwise_reverse.mpr (hn.imp (fun h9 e => h9 e.symm))
  have h2 := sc_rev h1 (List.mem_reverse.mpr hr)
  rw [List.reverse_reverse] at h2
  exact ⟨sc L.reverse r, List.mem_reverse.mp (sc_in (List.mem_reverse.mpr hr) h1), h2⟩
theorem sc_self {L : List vT} {r : vT} (hn : L.Nodup) (hr : r ∈ L) (e : sc L r = r) : L = [r] := by
  obtain ⟨X, Y, rfl⟩ := List.append_of_mem hr
  have h1 := nd_mid hn
  rw [sc_hd h1.1] at e
  cases Y with
  | cons q Y =>
    have e : q = r := e
    exact absurd (by rw [e]; exact List.mem_cons_self) h1.2
  | nil =>
    cases X with
    | nil => rfl
    | cons a X =>
      have e : a = r := e
      exact absurd (by rw [e]; exact List.mem_cons_self) h1.1
theorem shL_k {S S' : ow_NP} {g g' : vT → Nat} {L : List vT} (hn : L.Nodup) (hg : ∀ p, p ∈ L → g' p = g p) (h1 : ∀ p, p ∈ L → S'.1 (g p) = S.1 (g p) ∧ S'.2 (g p) = S.2 (g p)) (h : shL S g L) : shL S' g' L := by
  intro p hp
  have hs := sc_in hp hn
  rw [hg p hp, hg _ hs, (h1 p hp).1, (h1 _ hs).2]
  exact h p hp
/-- a visit is cut out of its row -/
theorem shL_cut {S : ow_NP} {g : vT → Nat} {X Y : List vT} {r : vT} (hn : (X ++ r :: Y).Nodup) (hg : gin g (X ++ r :: Y)) (h : shL S g (X ++ r :: Y)) : shL (np_cut S (g r)) g (X ++ Y) := by
  intro p hp
  have hrm : r ∈ X ++ r :: Y := by simp
  have hpm : p ∈ X ++ r :: Y := by
    simp at hp ⊢
    grind
  have hpr : p ≠ r := fun e => by
    have := nd_mid hn
    rw [e] at hp
    rcases List.mem_append.mp hp with h9 | h9
    · exact this.1 h9
    · exact this.2 h9
  obtain ⟨q, hq, e⟩ := sc_pre hn hrm
  obtain ⟨r1, r2⟩ := h r hrm
  obtain ⟨q1, q2⟩ := h q hq
  obtain ⟨p1, p2⟩ := h p hpm
  have hs := sc_in hrm hn
  have hps := sc_in hpm hn
  rw [e] at q1 q2
  have hne : ¬ S.1 (g r) = g r := by
    rw [r1]
    intro h9
    have := sc_self hn hrm (hg _ _ hs hrm h9)
    rw [this] at hpm
    exact hpr (List.mem_singleton.mp hpm)
  rw [show np_cut S (g r) = nl S (S.2 (g r)) (S.1 (g r)) from if_neg hne, q2, r1, sc_out hn hp]
  by_cases c : sc (X ++ r :: Y) p = r
  · have hpq : p = q := sc_inj hn hpm hq (by rw [c, e])
    rw [if_pos c, nl_1, nl_2, hpq, if_pos rfl, if_pos rfl]
    exact ⟨rfl, rfl⟩
  · have hpq : p ≠ q := fun h9 => c (by rw [h9, e])
    rw [if_neg c, nl_1, nl_2, if_neg (fun h9 => hpq (hg _ _ hpm hq h9)), if_neg (fun h9 => hpr (sc_inj hn hpm hrm (hg _ _ hps hs h9)))]
    exact ⟨p1, p2⟩
/-- a visit comes behind another -/
theorem shL_put {S : ow_NP} {g : vT → Nat} {X Y : List vT} {p r : vT} (hn : (X ++ p :: r :: Y).Nodup) (hg : gin g (X ++ p :: r :: Y)) (h : shL S g (X ++ p :: Y)) : shL (np_putBehind S (g p) (g r)) g (X ++ p :: r :: Y) := by
  have hn2 : (X ++ p :: Y).Nodup := by
    have e : X ++ p :: r :: Y = (X ++ [p]) ++ r :: Y := by simp
    rw [e] at hn
    have := nd_rot hn
    have h3 := (List.nodup_cons.mp (show (r :: (Y ++ (X ++ [p]))).Nodup by simpa using this)).2
    simpa using nd_rot h3
  have hpm2 : p ∈ X ++ p :: Y := by simp
  obtain ⟨p1, p2⟩ := h p hpm2
  have hs := sc_in hpm2 hn2
  have sub : ∀ a, a ∈ X ++ p :: Y → a ∈ X ++ p :: r :: Y := fun a ha => by
    simp at ha ⊢
    grind
  have hrn : r ∉ X ++ p :: Y := by
    have := nd_mid (X := X ++ [p]) (p := r) (Y := Y) (by simpa using hn)
    simp at this ⊢
    grind
  have hrm : r ∈ X ++ p :: r :: Y := by simp
  have hpm : p ∈ X ++ p :: r :: Y := by simp
  have hrp : r ≠ p := fun e => hrn (by rw [e]; exact hpm2)
  have hsr : sc (X ++ p :: Y) p ≠ r := fun e => hrn (by rw [← e]; exact hs)
  intro q hq
  rw [sc_put hn hq, show np_putBehind S (g p) (g r) = nl (nl S (g p) (g r)) (g r) (S.1 (g p)) from rfl, p1]
  by_cases c1 : q = p
  · rw [if_pos c1, c1, nl_1, nl_2, if_neg (fun e => hrp (hg _ _ hrm hpm e.symm)), if_neg (fun e => hsr (hg _ _ (sub _ hs) hrm e.symm)), nl_1, nl_2, if_pos rfl, if_pos rfl]
    exact ⟨rfl, rfl⟩
  · rw [if_neg c1]
    by_cases c2 : q = r
    · rw [if_pos c2, c2, nl_1, nl_2, if_pos rfl, if_pos rfl]
      exact ⟨rfl, rfl⟩
    · rw [if_neg c2]
      have hq2 : q ∈ X ++ p :: Y := by
        simp at hq ⊢
        grind
      have hqs := sc_in hq2 hn2
      obtain ⟨q1, q2⟩ := h q hq2
      rw [nl_1, nl_2, if_neg (fun e => c2 (hg _ _ hq hrm e)), if_neg (fun e => c1 (sc_inj hn2 hq2 hpm2 (hg _ _ (sub _ hqs) (sub _ hs) e))), nl_1, nl_2, if_neg (fun e => c1 (hg _ _ hq hpm e)), if_neg (fun e => hrn (by rw [← hg _ _ (sub _ hqs) hrm e]; exact hqs))]
      exact ⟨q1, q2⟩
/-- a visit gets another name -/
theorem shL_ren {S : ow_NP} {g : vT → Nat} {L : List vT} {r : vT} {n : Nat} (hn : L.Nodup) (hr : r ∈ L) (hg : gin g L) (hf : ∀ p, p ∈ L → g p ≠ n) (h : shL S g L) : shL (np_rename S (g r) n) (fun p => if p = r then n else g p) L := by
  obtain ⟨q, hq, e⟩ := sc_pre hn hr
  obtain ⟨r1, r2⟩ := h r hr
  obtain ⟨q1, q2⟩ := h q hq
  rw [e] at q1 q2
  have hs := sc_in hr hn
  intro p hp
  dsimp only
  by_cases hself : S.1 (g r) = g r
  · have hL := sc_self hn hr (hg _ _ hs hr (by rw [← r1]; exact hself))
    subst hL
    have := List.mem_singleton.mp hp
    subst this
    rw [show np_rename S (g p) n = nl S n n from if_pos hself, show sc [p] p = p from rfl, if_pos rfl, nl_1, nl_2, if_pos rfl, if_pos rfl]
    exact ⟨rfl, rfl⟩
  · have hsr : sc L r ≠ r := fun h9 => hself (by rw [r1, h9])
    have hqr : q ≠ r := fun h9 => by rw [h9] at e; exact hsr e
    have hk : (nl S (S.2 (g r)) n).1 (g r) = g (sc L r) := by
      rw [nl_1, q2, if_neg (fun h9 => hqr (hg _ _ hq hr h9.symm))]
      exact r1
    rw [show np_rename S (g r) n = nl (nl S (S.2 (g r)) n) n ((nl S (S.2 (g r)) n).1 (g r)) from if_neg hself, hk, q2]
    obtain ⟨p1, p2⟩ := h p hp
    have hps := sc_in hp hn
    by_cases c1 : p = r
    · rw [if_pos c1, c1, if_neg hsr, nl_1, nl_2, if_pos rfl, if_pos rfl]
      exact ⟨rfl, rfl⟩
    · rw [if_neg c1]
      by_cases c2 : sc L p = r
      · have hpq : p = q := sc_inj hn hp hq (by rw [c2, e])
        rw [if_pos c2, hpq, nl_1, nl_2, if_neg (hf q hq), if_neg (fun h9 => hf _ hs h9.symm), nl_1, nl_2, if_pos rfl, if_pos rfl]
        exact ⟨rfl, rfl⟩
      · have hpq : p ≠ q := fun h9 => c2 (by rw [h9, e])
        rw [if_neg c2, nl_1, nl_2, if_neg (hf p hp), if_neg (fun h9 => c1 (sc_inj hn hp hr (hg _ _ hps hs h9))), nl_1, nl_2, if_neg (fun h9 => hpq (hg _ _ hp hq h9)), if_neg (hf _ hps)]
        exact ⟨p1, p2⟩
end
section
/-! 99zzzzzzzf.cop2 -/
/-! nets by their components: whole nets -/
def rmv (A : rn_L) (r : vT) : rn_L := A.map (List.filter (fun p => decide (p ≠ r)))
theorem rmv_fl {A : rn_L} {r : vT} : (rmv A r).flatten = A.flatten.filter (fun p => decide (p ≠ r)) := (List.filter_flatten).symm
theorem rmv_mem {A : rn_L} {r p : vT} : p ∈ (rmv A r).flatten ↔ p ∈ A.flatten ∧ p ≠ r := by
  rw [rmv_fl, List.mem_filter, decide_eq_true_iff]
theorem rmv_nd {A : rn_L} {r : vT} (h : A.flatten.Nodup) : (rmv A r).flatten.Nodup := by
  rw [rmv_fl]
  exact h.filter _
theorem fil_1 {F : List vT} {r : vT} (hn : F.Nodup) (hr : r ∈ F) : (F.filter (fun p => decide (p ≠ r))).length + 1 = F.length := by
  have h1 := filt_sum (fun p : vT => decide (p ≠ r)) F
  have h2 : (F.filter (fun p => !decide (p ≠ r))).length = 1 := by
    refine nodup_eq (l2 := [r]) (hn.filter _) (List.pairwise_singleton _ _) (fun a => ?_)
    rw [List.mem_filter, List.mem_singleton]
    constructor
    · rintro ⟨-, h⟩
      simpa using h
    · rintro rfl
      exact ⟨hr, by simp⟩
  omega
theorem fil_n {L : List vT} {r : vT} (h : r ∉ L) : L.filter (fun p => decide (p ≠ r)) = L := by
  rw [List.filter_eq_self]
  intro a ha
  exact decide_eq_true (fun e => h (by rw [← e]; exact ha))
theorem fil_m {X Y : List vT} {r : vT} (h : (X ++ r :: Y).Nodup) : (X ++ r :: Y).filter (fun p => decide (p ≠ r)) = X ++ Y := by
  obtain ⟨h1, h2⟩ := nd_mid h
  rw [List.filter_append, List.filter_cons_of_neg (by simp), fil_n h1, fil_n h2]
theorem L_nd {A : rn_L} (hn : A.flatten.Nodup) {L : List vT} (hL : L ∈ A) : L.Nodup := by
  induction A with
  | nil => cases hL
  | cons B A ih =>
    rw [List.flatten_cons] at hn
    have hd := List.nodup_append.mp hn
    rcases List.mem_cons.mp hL with e | h
    · rw [e]
      exact hd.1
    · exact ih hd.2.1 h
theorem gin_L {g : vT → Nat} {A : rn_L} (hg : gin g A.flatten) {L : List vT} (hL : L ∈ A) : gin g L := fun p q hp hq => hg p q (List.mem_flatten.mpr ⟨L, hL, hp⟩) (List.mem_flatten.mpr ⟨L, hL, hq⟩)
section OP
variable {S : ow_NP} {g : vT → Nat} {A : rn_L} {r : vT}
theorem cirs_rmv (hn : A.flatten.Nodup) {L : List vT} (hL : L ∈ A) (hr : r ∈ L) : cirs (rmv A r) = cirs A + if L = [r] then 1 else 0 := by
  induction A with
  | nil => cases hL
  | cons B A ih =>
    rw [List.flatten_cons] at hn
    have hd := List.nodup_append.mp hn
    show List.countP _ (_ :: _) = _
    unfold cirs
    rw [List.countP_cons, List.countP_cons]
    by_cases e : r ∈ B
    · have eL : L = B := one_L (A := B :: A) (by rw [List.flatten_cons]; exact hn) hL List.mem_cons_self hr e
      subst eL
      have rest : A.map (List.filter (fun p => decide (p ≠ r))) = A := by
        refine (List.map_congr_left (fun K hK => fil_n (fun h9 => ?_))).trans (List.map_id _)
        exact hd.2.2 r hr r (List.mem_flatten.mpr ⟨K, hK, h9⟩) rfl
      rw [rest]
      obtain ⟨X, Y, rfl⟩ := List.append_of_mem hr
      rw [fil_m hd.1]
      cases X with
      | nil =>
        cases Y with
        | nil => simp
        | cons b Y => simp
      | cons a X => simp
    · have eL : L ∈ A := (List.mem_cons.mp hL).resolve_left (fun h9 => e (by rw [← h9]; exact hr))
      have := ih hd.2.1 eL
      unfold cirs at this
      rw [fil_n e]
      show List.countP _ (rmv A r) + _ = _
      rw [this]
      omega
/-- a visit is cut out of a net -/
theorem shP_cut (hn : A.flatten.Nodup) (hg : gin g A.flatten) (h : shP S g A) (hr : r ∈ A.flatten) : shP (np_cut S (g r)) g (rmv A r) ∧ cirs (rmv A r) = np_cutN S (g r) (cirs A) := by
  obtain ⟨L, hL, hrL⟩ := List.mem_flatten.mp hr
  have nL := L_nd hn hL
  have gL := gin_L hg hL
  obtain ⟨q, hq, e⟩ := sc_pre nL hrL
  obtain ⟨r1, r2⟩ := h L hL r hrL
  obtain ⟨q1, q2⟩ := h L hL q hq
  rw [e] at q1 q2
  have hs := sc_in hrL nL
  constructor
  · intro K hK
    obtain ⟨M, hM, rfl⟩ := List.mem_map.mp hK
    by_cases c : r ∈ M
    · have eM := one_L hn hM hL c hrL
      subst eM
      obtain ⟨X, Y, rfl⟩ := List.append_of_mem hrL
      rw [fil_m nL]
      exact shL_cut nL gL (h _ hL)
    · rw [fil_n c]
      have far : ∀ p a, p ∈ M → a ∈ L → g p ≠ g a := fun p a hp ha e9 => by
        have := hg p a (List.mem_flatten.mpr ⟨M, hM, hp⟩) (List.mem_flatten.mpr ⟨L, hL, ha⟩) e9
        rw [this] at hp
        exact c (by rw [one_L hn hM hL hp ha]; exact hrL)
      refine shL_k (L_nd hn hM) (fun p _ => rfl) (fun p hp => ?_) (h M hM)
      by_cases hself : S.1 (g r) = g r
      · rw [show np_cut S (g r) = S from if_pos hself]
        exact ⟨rfl, rfl⟩
      · rw [show np_cut S (g r) = nl S (S.2 (g r)) (S.1 (g r)) from if_neg hself, nl_1, nl_2, q2, r1, if_neg (far p q hp hq), if_neg (far p _ hp hs)]
        exact ⟨rfl, rfl⟩
  · rw [cirs_rmv hn hL hrL]
    unfold np_cutN
    by_cases c : L = [r]
    · subst c
      rw [if_pos rfl, if_pos (by rw [r1]; rfl)]
    · rw [if_neg c, if_neg (fun h9 => c (sc_self nL hrL (gL _ _ hs hrL (by rw [← r1]; exact h9))))]
      rfl
/-- a visit gets another name -/
theorem shP_ren {n : Nat} (hn : A.flatten.Nodup) (hg : gin g A.flatten) (hf : ∀ p, p ∈ A.flatten → g p ≠ n) (h : shP S g A) (hr : r ∈ A.flatten) : shP (np_rename S (g r) n) (fun p => if p = r then n else g p) A := by
  obtain ⟨L, hL, hrL⟩ := List.mem_flatten.mp hr
  have nL := L_nd hn hL
  have gL := gin_L hg hL
  obtain ⟨q, hq, e⟩ := sc_pre nL hrL
  obtain ⟨r1, r2⟩ := h L hL r hrL
  obtain ⟨q1, q2⟩ := h L hL q hq
  rw [e] at q1 q2
  have hs := sc_in hrL nL
  intro M hM
  by_cases c : r ∈ M
  · have eM := one_L hn hM hL c hrL
    subst eM
    exact shL_ren nL hrL gL (fun p hp => hf p (List.mem_flatten.mpr ⟨M, hM, hp⟩)) (h M hM)
  · have far : ∀ p a, p ∈ M → a ∈ L → g p ≠ g a := fun p a hp ha e9 => by
      have := hg p a (List.mem_flatten.mpr ⟨M, hM, hp⟩) (List.mem_flatten.mpr ⟨L, hL, ha⟩) e9
      rw [this] at hp
      exact c (by rw [one_L hn hM hL hp ha]; exact hrL)
    refine shL_k (L_nd hn hM) (fun p hp => if_neg (fun e9 => c (by rw [← e9]; exact hp))) (fun p hp => ?_) (h M hM)
    have fp := hf p (List.mem_flatten.mpr ⟨M, hM, hp⟩)
    by_cases hself : S.1 (g r) = g r
    · rw [show np_rename S (g r) n = nl S n n from if_pos hself, nl_1, nl_2, if_neg fp, if_neg fp]
      exact ⟨rfl, rfl⟩
    · have hk : (nl S (S.2 (g r)) n).1 (g r) = g (sc L r) := by
        have hqr : q ≠ r := fun h9 => hself (by rw [← h9, q1, h9])
        rw [nl_1, q2, if_neg (fun h9 => hqr (gL _ _ hq hrL h9.symm))]
        exact r1
      rw [show np_rename S (g r) n = nl (nl S (S.2 (g r)) n) n ((nl S (S.2 (g r)) n).1 (g r)) from if_neg hself, hk, q2, nl_1, nl_2, if_neg fp, if_neg (far p _ hp hs), nl_1, nl_2, if_neg (far p q hp hq), if_neg fp]
      exact ⟨rfl, rfl⟩
end OP
/-- a net and the components that it shows, with both links -/
def isoV (A : rn_L) (sg : Nat → Bool) (f : Nat → Nat) (T : ow_NT) : Prop := isoS A sg f T ∧ shP T.2.2.1 (gl f) A
theorem gl_gin {A : rn_L} {sg : Nat → Bool} {f : Nat → Nat} {T : ow_NT} (h : isoS A sg f T) : gin (gl f) A.flatten := by
  intro p q hp hq e
  have h1 := (h.1.2 p hp).2.1
  have h2 := (h.1.2 q hq).2.1
  unfold gl at e
  have e1 : f p.1 = f q.1 := by omega
  exact Prod.ext (h.2.2.2.2.1 p q hp hq e1) (by omega)
theorem isoV_of {A : rn_L} {sg : Nat → Bool} {f : Nat → Nat} {T : ow_NT} (h : isoN A sg f T) (hv : vn T.1 T.2.2.1) : isoV A sg f T := by
  have hs := isoS_iff.mpr h
  refine ⟨hs, fun L hL p hp => ?_⟩
  have hpf : p ∈ A.flatten := List.mem_flatten.mpr ⟨L, hL, hp⟩
  have e := hs.2.2.2.2.2.1 L hL p hp
  refine ⟨e, ?_⟩
  rw [← e]
  have h1 := hs.2.2.2.1 p hpf
  have h2 := (hs.1.2 p hpf).2.1
  refine (hv (gl f p) ?_).2.2.1
  unfold gl
  omega
theorem isoV_vn {A : rn_L} {sg : Nat → Bool} {f : Nat → Nat} {T : ow_NT} (h : isoV A sg f T) : vn T.1 T.2.2.1 := by
  have hN := isoS_iff.mp h.1
  intro k hk
  obtain ⟨v, hv, e⟩ := lbv_sur hN hk
  have hm := vAt_mem hv
  obtain ⟨L, hL, hp⟩ := List.mem_flatten.mp hm
  have nL := L_nd h.1.1.1 hL
  have lt : ∀ p, p ∈ L → gl f p < 2 * T.1 := fun p hp => by
    have hpf : p ∈ A.flatten := List.mem_flatten.mpr ⟨L, hL, hp⟩
    have h1 := h.1.2.2.2.1 p hpf
    have h2 := (h.1.1.2 p hpf).2.1
    unfold gl
    omega
  have e' : gl f (vAt A v) = k := e
  obtain ⟨a1, a2⟩ := h.2 L hL _ hp
  obtain ⟨q, hq, e2⟩ := sc_pre nL hp
  obtain ⟨b1, b2⟩ := h.2 L hL q hq
  rw [e2] at b1 b2
  rw [← e']
  refine ⟨?_, ?_, ?_, ?_⟩
  · rw [a1]
    exact lt _ (sc_in hp nL)
  · rw [b2]
    exact lt _ hq
  · rw [a1, a2]
  · rw [b2, b1]
/-- a crossing goes out of the components -/
def wox (A : rn_L) (x : Nat) : rn_L := rmv (rmv A (x, 0)) (x, 1)
theorem wox_mem {A : rn_L} {x : Nat} {p : vT} (h : ∀ p, p ∈ A.flatten → p.2 < 2) : p ∈ (wox A x).flatten ↔ p ∈ A.flatten ∧ p.1 ≠ x := by
  unfold wox
  rw [rmv_mem, rmv_mem]
  constructor
  · rintro ⟨⟨h1, h2⟩, h3⟩
    refine ⟨h1, fun e => ?_⟩
    have := h p h1
    have : p.2 = 0 ∨ p.2 = 1 := by omega
    rcases this with h4 | h4
    · exact h2 (Prod.ext e h4)
    · exact h3 (Prod.ext e h4)
  · rintro ⟨h1, h2⟩
    exact ⟨⟨h1, fun e => h2 (by rw [e])⟩, fun e => h2 (by rw [e])⟩
theorem iso_rm {A : rn_L} {sg : Nat → Bool} {f : Nat → Nat} {T : ow_NT} {x0 : Nat} (h : isoV A sg f T) (hx : (x0, 0) ∈ A.flatten) : ∃ f', isoV (wox A x0) sg f' (nt_rm T (f x0)) ∧ ∀ y, f' y = if f y = T.1 - 1 then f x0 else f y := by
  obtain ⟨⟨h1, h2, h3, h4, h5, h6, h7, h8⟩, hP⟩ := id h
  have hg := gl_gin h.1
  have hx1 : (x0, 1) ∈ A.flatten := (h1.2 _ hx).2.2
  have hxc : f x0 < T.1 := h4 _ hx
  have hu : ∀ p, p ∈ A.flatten → p.2 < 2 := fun p hp => (h1.2 p hp).2.1
  obtain ⟨p1, c1⟩ := shP_cut h1.1 hg hP hx
  have n1 := rmv_nd (r := (x0, 0)) h1.1
  have g1 : gin (gl f) (rmv A (x0, 0)).flatten := fun p q hp hq => hg p q (rmv_mem.mp hp).1 (rmv_mem.mp hq).1
  have hx1' : (x0, 1) ∈ (rmv A (x0, 0)).flatten := rmv_mem.mpr ⟨hx1, fun e => by cases e⟩
  obtain ⟨p2, c2⟩ := shP_cut n1 g1 p1 hx1'
  have n2 : (wox A x0).flatten.Nodup := rmv_nd n1
  have g2 : gin (gl f) (wox A x0).flatten := fun p q hp hq => g1 p q (rmv_mem.mp hp).1 (rmv_mem.mp hq).1
  have e0 : gl f (x0, 0) = 2 * f x0 := rfl
  have e1 : gl f (x0, 1) = 2 * f x0 + 1 := rfl
  rw [e0] at p1 c1 p2 c2
  rw [e1] at p2 c2
  have hmem : ∀ p, p ∈ (wox A x0).flatten ↔ p ∈ A.flatten ∧ p.1 ≠ x0 := fun p => wox_mem hu
  have hci : cirs (wox A x0) = np_rmN T.2.2.1 (f x0) T.2.1 := by
    show cirs (rmv (rmv A (x0, 0)) (x0, 1)) = _
    rw [c2, c1, h8]
    rfl
  have hlen : (wox A x0).flatten.length + 2 = 2 * T.1 := by
    have l1 := fil_1 h1.1 hx
    have l2 := fil_1 n1 hx1'
    rw [← rmv_fl] at l1 l2
    have : (wox A x0).flatten.length = (rmv (rmv A (x0, 0)) (x0, 1)).flatten.length := rfl
    omega
  have hwk : wkF (wox A x0).flatten := by
    refine ⟨n2, fun p hp => ?_⟩
    obtain ⟨a, b⟩ := (hmem p).mp hp
    obtain ⟨k1, k2, k3⟩ := h1.2 p a
    exact ⟨k1, k2, (hmem _).mpr ⟨k3, b⟩⟩
  have hfx : ∀ p, p ∈ (wox A x0).flatten → f p.1 ≠ f x0 := fun p hp e => ((hmem p).mp hp).2 (h5 p (x0, 0) ((hmem p).mp hp).1 hx e)
  refine ⟨fun y => if f y = T.1 - 1 then f x0 else f y, ?_, fun y => rfl⟩
  have hf' : ∀ p, p ∈ (wox A x0).flatten → (if f p.1 = T.1 - 1 then f x0 else f p.1) < T.1 - 1 := by
    intro p hp
    have a := h4 p ((hmem p).mp hp).1
    have b := hfx p hp
    split <;> omega
  have hinj : ∀ p q, p ∈ (wox A x0).flatten → q ∈ (wox A x0).flatten → (if f p.1 = T.1 - 1 then f x0 else f p.1) = (if f q.1 = T.1 - 1 then f x0 else f q.1) → p.1 = q.1 := by
    intro p q hp hq e
    have a := hfx p hp
    have b := hfx q hq
    refine h5 p q ((hmem p).mp hp).1 ((hmem q).mp hq).1 ?_
    split at e <;> split at e <;> omega
  have hsg : ∀ p, p ∈ (wox A x0).flatten → (np_rmG T.2.2.2 (f x0) (T.1 - 1) (if f p.1 = T.1 - 1 then f x0 else f p.1) < 0 ↔ sg p.1 = true) := by
    intro p hp
    have a := hfx p hp
    rw [← h7 p ((hmem p).mp hp).1]
    unfold np_rmG
    by_cases cx : f x0 = T.1 - 1
    · rw [if_pos cx, if_neg (fun e => a (by rw [e, cx]))]
    · rw [if_neg cx]
      by_cases cp : f p.1 = T.1 - 1
      · rw [if_pos cp, cp, show su T.2.2.2 (f x0) (T.2.2.2 (T.1 - 1)) (f x0) = T.2.2.2 (T.1 - 1) from if_pos rfl]
      · rw [if_neg cp, show su T.2.2.2 (f x0) (T.2.2.2 (T.1 - 1)) (f p.1) = T.2.2.2 (f p.1) from if_neg a]
  have main : shP (np_rmS T.2.2.1 (f x0) (T.1 - 1)) (gl (fun y => if f y = T.1 - 1 then f x0 else f y)) (wox A x0) := by
    unfold np_rmS
    by_cases cx : f x0 = T.1 - 1
    · rw [if_pos cx]
      intro L hL
      refine shL_k (g := gl f) (L_nd n2 hL) (fun p hp => ?_) (fun p hp => ⟨rfl, rfl⟩) (p2 L hL)
      have := hfx p (List.mem_flatten.mpr ⟨L, hL, hp⟩)
      unfold gl
      dsimp only
      rw [if_neg (fun e => this (by rw [e, cx]))]
    · rw [if_neg cx]
      have hN := isoS_iff.mp h.1
      obtain ⟨v, hv, ev⟩ := lbv_sur hN (k := 2 * (T.1 - 1)) (by omega)
      have hm := vAt_mem hv
      have hu0 := hu _ hm
      have ev' : 2 * f (vAt A v).1 + (vAt A v).2 = 2 * (T.1 - 1) := ev
      generalize hy : vAt A v = y at *
      obtain ⟨y0, yu⟩ := y
      dsimp only at hu0 ev'
      have hyu : yu = 0 := by omega
      subst hyu
      have hfy : f y0 = T.1 - 1 := by omega
      have hyx : y0 ≠ x0 := fun e => cx (by rw [← e]; exact hfy)
      have m0 : (y0, 0) ∈ (wox A x0).flatten := (hmem _).mpr ⟨hm, hyx⟩
      have m1 : (y0, 1) ∈ (wox A x0).flatten := (hmem _).mpr ⟨(h1.2 _ hm).2.2, hyx⟩
      have k0 : gl f (y0, 0) = 2 * (T.1 - 1) := by
        unfold gl
        dsimp only
        omega
      have r1 := shP_ren (n := 2 * f x0) n2 g2 (fun p hp e => hfx p hp (by
        have := hu p ((hmem p).mp hp).1
        unfold gl at e
        omega)) p2 m0
      rw [k0] at r1
      have g3 : gin (fun p => if p = (y0, 0) then 2 * f x0 else gl f p) (wox A x0).flatten := by
        intro p q hp hq e
        dsimp only at e
        have ap := hfx p hp
        have aq := hfx q hq
        have up := hu p ((hmem p).mp hp).1
        have uq := hu q ((hmem q).mp hq).1
        by_cases cp : p = (y0, 0)
        · by_cases cq : q = (y0, 0)
          · rw [cp, cq]
          · rw [if_pos cp, if_neg cq] at e
            unfold gl at e
            omega
        · by_cases cq : q = (y0, 0)
          · rw [if_neg cp, if_pos cq] at e
            unfold gl at e
            omega
          · rw [if_neg cp, if_neg cq] at e
            exact g2 p q hp hq e
      have k1 : (if ((y0, 1) : vT) = (y0, 0) then 2 * f x0 else gl f (y0, 1)) = 2 * (T.1 - 1) + 1 := by
        rw [if_neg (fun e => by cases e)]
        unfold gl
        dsimp only
        omega
      have r2 := shP_ren (n := 2 * f x0 + 1) n2 g3 (fun p hp e => by
        have ap := hfx p hp
        have up := hu p ((hmem p).mp hp).1
        by_cases cp : p = (y0, 0)
        · rw [if_pos cp] at e
          omega
        · rw [if_neg cp] at e
          unfold gl at e
          omega) r1 m1
      rw [k1] at r2
      intro L hL
      refine shL_k (L_nd n2 hL) (fun p hp => ?_) (fun p hp => ⟨rfl, rfl⟩) (r2 L hL)
      have hpf : p ∈ (wox A x0).flatten := List.mem_flatten.mpr ⟨L, hL, hp⟩
      have up := hu p ((hmem p).mp hpf).1
      by_cases cy : p.1 = y0
      · have c01 : p.2 = 0 ∨ p.2 = 1 := by omega
        rcases c01 with c0 | c0
        · have ep : p = (y0, 0) := Prod.ext cy c0
          rw [ep]
          unfold gl
          dsimp only
          rw [if_pos hfy, if_neg (fun e => by cases e), if_pos rfl]
          rfl
        · have ep : p = (y0, 1) := Prod.ext cy c0
          rw [ep]
          unfold gl
          dsimp only
          rw [if_pos hfy, if_pos rfl]
      · rw [if_neg (fun e => cy (by rw [e])), if_neg (fun e => cy (by rw [e]))]
        unfold gl
        dsimp only
        rw [if_neg (fun e => cy (h5 p (y0, 0) ((hmem p).mp hpf).1 hm (by rw [e]; exact hfy.symm)))]
  exact ⟨⟨hwk, by show _ = 2 * (T.1 - 1); omega, by show T.1 - 1 ≤ 12; omega, hf', hinj, fun L hL p hp => (main L hL p hp).1, hsg, hci⟩, main⟩
end
section
/-! 99zzzzzzzg.cprt2 -/
/-! parts of a net: how many come when a crossing goes -/
def cidx (A : rn_L) (p : vT) : Nat := A.findIdx (fun L => decide (p ∈ L))
def pLe (A : rn_L) (k : Nat) : Prop := ∀ M : Nat → Nat, (∀ x, (x, 0) ∈ A.flatten → M (cidx A (x, 0)) = M (cidx A (x, 1))) → dLe A.length M k
theorem cidx_at {A : rn_L} {p : vT} (h : p ∈ A.flatten) : ∃ hj : cidx A p < A.length, p ∈ A[cidx A p] := by
  obtain ⟨L, hL, hp⟩ := List.mem_flatten.mp h
  have hj : cidx A p < A.length := List.findIdx_lt_length_of_exists ⟨L, hL, decide_eq_true hp⟩
  exact ⟨hj, of_decide_eq_true (List.findIdx_getElem (w := hj))⟩
theorem cidx_of {A : rn_L} (hn : A.flatten.Nodup) {p : vT} {j : Nat} (hj : j < A.length) (hp : p ∈ A[j]) : cidx A p = j := by
  induction A generalizing j with
  | nil => exact absurd hj (Nat.not_lt_zero _)
  | cons B A ih =>
    rw [List.flatten_cons] at hn
    have hd := List.nodup_append.mp hn
    unfold cidx
    rw [List.findIdx_cons]
    cases j with
    | zero =>
      have hp : p ∈ B := hp
      rw [decide_eq_true hp]
      rfl
    | succ j =>
      have hj' : j < A.length := Nat.lt_of_succ_lt_succ hj
      have hp' : p ∈ A[j] := hp
      have hnB : p ∉ B := fun h9 => hd.2.2 p h9 p (List.mem_flatten.mpr ⟨A[j], List.getElem_mem hj', hp'⟩) rfl
      rw [decide_eq_false hnB]
      have := ih hd.2.1 hj' hp'
      unfold cidx at this
      rw [this]
      rfl
theorem wox_len {A : rn_L} {x : Nat} : (wox A x).length = A.length := by
  unfold wox rmv
  rw [List.length_map, List.length_map]
theorem wox_idx {A : rn_L} {x : Nat} {p : vT} (hx : p.1 ≠ x) : cidx (wox A x) p = cidx A p := by
  unfold cidx wox rmv
  rw [List.map_map, List.findIdx_map]
  congr 1
  funext L
  have h0 : p ≠ (x, 0) := fun e => hx (by rw [e])
  have h1 : p ≠ (x, 1) := fun e => hx (by rw [e])
  have e : p ∈ List.filter (fun p => decide (p ≠ (x, 1))) (List.filter (fun p => decide (p ≠ (x, 0))) L) ↔ p ∈ L := by
    rw [List.mem_filter, List.mem_filter]
    exact ⟨fun h => h.1.1, fun h => ⟨⟨h, decide_eq_true h0⟩, decide_eq_true h1⟩⟩
  exact decide_eq_decide.mpr e
theorem pLe_rm {A : rn_L} {k x : Nat} (hu : ∀ p, p ∈ A.flatten → p.2 < 2) (h : pLe A k) : pLe (wox A x) (k + 1) := by
  intro M hM
  rw [wox_len]
  refine mgL_k [(cidx A (x, 0), cidx A (x, 1))] M k (h _ (fun y hy => ?_))
  show (if M (cidx A (y, 0)) = M (cidx A (x, 0)) then M (cidx A (x, 1)) else M (cidx A (y, 0))) = (if M (cidx A (y, 1)) = M (cidx A (x, 0)) then M (cidx A (x, 1)) else M (cidx A (y, 1)))
  by_cases e : y = x
  · rw [e, if_pos rfl]
    split <;> rfl
  · have := hM y ((wox_mem hu).mpr ⟨hy, e⟩)
    rw [wox_idx (p := (y, 0)) e, wox_idx (p := (y, 1)) e] at this
    rw [this]
theorem sc_idx {L : List vT} (hn : L.Nodup) {i : Nat} (hi : i + 1 < L.length) : sc L (L[i]'(by omega)) = L[i + 1] := by
  have es : L = L.take i ++ L[i]'(by omega) :: L[i + 1] :: L.drop (i + 1 + 1) := by
    rw [← List.drop_eq_getElem_cons hi, ← List.drop_eq_getElem_cons (by omega), List.take_append_drop]
  have hni : L[i]'(by omega) ∉ L.take i := by
    have h1 : (L.take i ++ L[i]'(by omega) :: L[i + 1] :: L.drop (i + 1 + 1)).Nodup := by
      rw [← es]
      exact hn
    exact (nd_mid h1).1
  have := sc_mid (q := L[i + 1]) (Y := L.drop (i + 1 + 1)) hni
  rw [← es] at this
  exact this
theorem sc_const {β : Type} {φ : vT → β} {L : List vT} (hn : L.Nodup) (h : ∀ p, p ∈ L → φ (sc L p) = φ p) {p q : vT} (hp : p ∈ L) (hq : q ∈ L) : φ p = φ q := by
  have key : ∀ i (hi : i < L.length), φ L[i] = φ (L[0]'(by omega)) := by
    intro i
    induction i with
    | zero => intro hi; rfl
    | succ i ih =>
      intro hi
      rw [← ih (by omega), ← sc_idx hn hi]
      exact h _ (List.getElem_mem _)
  obtain ⟨i, hi, rfl⟩ := List.mem_iff_getElem.mp hp
  obtain ⟨j, hj, rfl⟩ := List.mem_iff_getElem.mp hq
  rw [key i hi, key j hj]
section CP2
variable {A : rn_L} {sg : Nat → Bool} {f : Nat → Nat} {T : ow_NT}
/-- visits of one component, visits of one crossing: one label -/
theorem prt_lab (h : isoV A sg f T) {M : Nat → Nat} (hM : ∀ x, (x, 0) ∈ A.flatten → M (cidx A (x, 0)) = M (cidx A (x, 1))) {p q : vT} (hp : p ∈ A.flatten) (hq : q ∈ A.flatten) (e : (np_parts T.1 T.2.2.1.1).1 (gl f p) = (np_parts T.1 T.2.2.1.1).1 (gl f q)) : M (cidx A p) = M (cidx A q) := by
  have hv := isoV_vn h
  have lt : ∀ p, p ∈ A.flatten → gl f p < 2 * T.1 := fun p hpf => by
    have h1 := h.1.2.2.2.1 p hpf
    have h2 := (h.1.1.2 p hpf).2.1
    unfold gl
    omega
  have hr := (parts_iff hv h.1.2.2.1 (lt p hp) (lt q hq)).mp e
  have key := hr (fun k => ∃ r, r ∈ A.flatten ∧ gl f r = k ∧ M (cidx A r) = M (cidx A p)) ⟨p, hp, rfl, rfl⟩ ?_ ?_
  · obtain ⟨r, r1, r2, r3⟩ := key
    rw [← gl_gin h.1 r q r1 hq r2]
    exact r3.symm
  · rintro k - ⟨r, r1, r2, r3⟩
    obtain ⟨L, hL, hrL⟩ := List.mem_flatten.mp r1
    have nL := L_nd h.1.1.1 hL
    have hs := sc_in hrL nL
    have hsf : sc L r ∈ A.flatten := List.mem_flatten.mpr ⟨L, hL, hs⟩
    refine ⟨sc L r, hsf, ?_, ?_⟩
    · rw [← r2]
      exact (h.2 L hL r hrL).1.symm
    · obtain ⟨j, hj, ej⟩ := List.mem_iff_getElem.mp hL
      rw [cidx_of h.1.1.1 hj (by rw [ej]; exact hs), ← r3, cidx_of h.1.1.1 hj (by rw [ej]; exact hrL)]
  · rintro k - ⟨r, r1, r2, r3⟩
    obtain ⟨k1, k2, k3⟩ := h.1.1.2 r r1
    refine ⟨(r.1, 1 - r.2), k3, ?_, ?_⟩
    · rw [← r2]
      unfold gl mt
      dsimp only
      split <;> omega
    · rw [← r3]
      have c01 : r.2 = 0 ∨ r.2 = 1 := by omega
      rcases c01 with c0 | c0
      · have er : r = (r.1, 0) := Prod.ext rfl c0
        rw [c0]
        have := hM r.1 (by rw [← er]; exact r1)
        rw [← er] at this
        exact this.symm
      · have er : r = (r.1, 1) := Prod.ext rfl c0
        rw [c0] at k3 ⊢
        have := hM r.1 k3
        rw [← er] at this
        exact this
theorem emp_cnt (A : rn_L) : ((List.range A.length).filter (fun c => !neB A c)).length = cirs A := cirs_f.symm
theorem pLe_of (h : isoV A sg f T) {k : Nat} (hk : (np_parts T.1 T.2.2.1.1).2 + T.2.1 ≤ k) : pLe A k := by
  have hv := isoV_vn h
  obtain ⟨-, p2, p3, -⟩ := parts_I hv h.1.2.2.1
  have hN := isoS_iff.mp h.1
  intro M hM
  have hex : ∀ r, ∃ l, r < (np_parts T.1 T.2.2.1.1).2 → ∀ p, p ∈ A.flatten → (np_parts T.1 T.2.2.1.1).1 (gl f p) = nI r → M (cidx A p) = l := by
    intro r
    by_cases hp : ∃ p, p ∈ A.flatten ∧ (np_parts T.1 T.2.2.1.1).1 (gl f p) = nI r
    · obtain ⟨p, hp, e⟩ := hp
      exact ⟨M (cidx A p), fun _ q hq e2 => prt_lab h hM hq hp (by rw [e, e2])⟩
    · exact ⟨0, fun _ p h1 h2 => absurd ⟨p, h1, h2⟩ hp⟩
  refine ⟨(List.range (np_parts T.1 T.2.2.1.1).2).map (fun r => Classical.choose (hex r)) ++ ((List.range A.length).filter (fun c => !neB A c)).map M, ?_, fun j hj => ?_⟩
  · rw [List.length_append, List.length_map, List.length_map, List.length_range, emp_cnt, h.1.2.2.2.2.2.2.2]
    exact hk
  · by_cases hne : A[j] = []
    · refine List.mem_append_right _ (List.mem_map.mpr ⟨j, List.mem_filter.mpr ⟨List.mem_range.mpr hj, ?_⟩, rfl⟩)
      unfold neB
      rw [List.getElem?_eq_getElem hj, hne]
      rfl
    · obtain ⟨p, hp⟩ := List.exists_mem_of_ne_nil _ hne
      have hpf : p ∈ A.flatten := List.mem_flatten.mpr ⟨A[j], List.getElem_mem hj, hp⟩
      have hlt : gl f p < 2 * T.1 := by
        have h1 := h.1.2.2.2.1 p hpf
        have h2 := (h.1.1.2 p hpf).2.1
        unfold gl
        omega
      obtain ⟨r, r1, r2⟩ := p2 (gl f p) hlt
      refine List.mem_append_left _ (List.mem_map.mpr ⟨r, List.mem_range.mpr r1, ?_⟩)
      rw [← Classical.choose_spec (hex r) r1 p hpf r2, cidx_of h.1.1.1 hj hp]
theorem pLe_to (h : isoV A sg f T) {k : Nat} (hk : pLe A k) : (np_parts T.1 T.2.2.1.1).2 + T.2.1 ≤ k := by
  have hv := isoV_vn h
  have hc := h.1.2.2.1
  obtain ⟨hcl, p2, p3, -⟩ := parts_I hv hc
  have hN := isoS_iff.mp h.1
  have hP31 : (np_parts T.1 T.2.2.1.1).2 < 2 ^ 31 := by
    have := mp_out_le T.2.2.1.1 (2 * T.1) (fun _ => -1) (2 * T.1)
    unfold np_parts
    omega
  have lt : ∀ p, p ∈ A.flatten → gl f p < 2 * T.1 := fun p hpf => by
    have h1 := h.1.2.2.2.1 p hpf
    have h2 := (h.1.1.2 p hpf).2.1
    unfold gl
    omega
  -- one mark on a component
  have comp : ∀ L, L ∈ A → ∀ p q, p ∈ L → q ∈ L → (np_parts T.1 T.2.2.1.1).1 (gl f p) = (np_parts T.1 T.2.2.1.1).1 (gl f q) := by
    intro L hL p q hp hq
    refine sc_const (φ := fun p => (np_parts T.1 T.2.2.1.1).1 (gl f p)) (L_nd h.1.1.1 hL) (fun r hr => ?_) hp hq
    rw [← (h.2 L hL r hr).1]
    exact (hcl _ (lt _ (List.mem_flatten.mpr ⟨L, hL, hr⟩))).1
  let M : Nat → Nat := fun j => match A[j]? with
    | some (p :: _) => 2 * ((np_parts T.1 T.2.2.1.1).1 (gl f p)).toNatClampNeg
    | _ => 2 * j + 1
  have Mp : ∀ p, p ∈ A.flatten → ∀ r, r < (np_parts T.1 T.2.2.1.1).2 → (np_parts T.1 T.2.2.1.1).1 (gl f p) = nI r → M (cidx A p) = 2 * r := by
    intro p hp r hr e
    obtain ⟨hj, hpj⟩ := cidx_at hp
    have hL : A[cidx A p] ∈ A := List.getElem_mem hj
    show (match A[cidx A p]? with
      | some (p :: _) => 2 * ((np_parts T.1 T.2.2.1.1).1 (gl f p)).toNatClampNeg
      | _ => 2 * cidx A p + 1) = 2 * r
    rw [List.getElem?_eq_getElem hj]
    cases hl : A[cidx A p] with
    | nil =>
      rw [hl] at hpj
      cases hpj
    | cons a R =>
      have e2 := comp _ hL a p (by rw [hl]; exact List.mem_cons_self) hpj
      dsimp only
      rw [e2, e, nI_clamp (by omega)]
  have hMx : ∀ x, (x, 0) ∈ A.flatten → M (cidx A (x, 0)) = M (cidx A (x, 1)) := by
    intro x hx
    have hx1 : (x, 1) ∈ A.flatten := (h.1.1.2 _ hx).2.2
    obtain ⟨r, r1, r2⟩ := p2 _ (lt _ hx)
    rw [Mp _ hx r r1 r2, Mp _ hx1 r r1 ?_]
    have e : gl f (x, 0) = mt (gl f (x, 1)) := by
      unfold gl mt
      dsimp only
      split <;> omega
    rw [← r2, e]
    exact (hcl _ (lt _ hx1)).2.symm
  obtain ⟨R, hR, hR2⟩ := hk M hMx
  have hlist : ((List.range (np_parts T.1 T.2.2.1.1).2).map (fun r => 2 * r) ++ ((List.range A.length).filter (fun c => !neB A c)).map (fun j => 2 * j + 1)).Nodup := by
    rw [List.nodup_append]
    refine ⟨nodup_map List.nodup_range (fun a b _ _ e => by omega), nodup_map (List.nodup_range.filter _) (fun a b _ _ e => by omega), fun a ha b hb e => ?_⟩
    obtain ⟨a1, -, rfl⟩ := List.mem_map.mp ha
    obtain ⟨b1, -, rfl⟩ := List.mem_map.mp hb
    omega
  have := nodup_le _ R hlist (fun a ha => by
    rcases List.mem_append.mp ha with h9 | h9
    · obtain ⟨r, r1, rfl⟩ := List.mem_map.mp h9
      have r1 := List.mem_range.mp r1
      obtain ⟨v, v1, v2⟩ := p3 r r1
      obtain ⟨w, w1, w2⟩ := lbv_sur hN v1
      have hm := vAt_mem w1
      have w2 : gl f (vAt A w) = v := w2
      have := Mp _ hm r r1 (by rw [w2]; exact v2)
      rw [← this]
      exact hR2 _ (cidx_at hm).1
    · obtain ⟨j, j1, rfl⟩ := List.mem_map.mp h9
      obtain ⟨j1, j2⟩ := List.mem_filter.mp j1
      have j1 := List.mem_range.mp j1
      have : M j = 2 * j + 1 := by
        show (match A[j]? with
          | some (p :: _) => 2 * ((np_parts T.1 T.2.2.1.1).1 (gl f p)).toNatClampNeg
          | _ => 2 * j + 1) = 2 * j + 1
        unfold neB at j2
        rw [List.getElem?_eq_getElem j1] at j2 ⊢
        cases hl : A[j] with
        | nil => rfl
        | cons a L =>
          rw [hl] at j2
          cases j2
      rw [← this]
      exact hR2 j j1)
  rw [List.length_append, List.length_map, List.length_map, List.length_range, emp_cnt, h.1.2.2.2.2.2.2.2] at this
  omega
end CP2
end
section
/-! 99zzzzzzzh.cchn -/
/-! the class: chain: a net small enough -/
theorem rn_b_take (A : rn_L) (c : Nat) (h : c < A.length) : rn_b A (c + 1) = rn_b A c + A[c].length := by
  have e : A.take (c + 1) = A.take c ++ [A[c]] := by
    rw [List.take_succ, List.getElem?_eq_getElem h]
    rfl
  unfold rn_b
  rw [e, List.flatten_append, List.length_append, List.flatten_cons, List.flatten_nil, List.append_nil]
theorem cirs_eC (A : rn_L) : cirs A = eC A := by
  have h1 := filt_sum (neB A) (List.range A.length)
  rw [List.length_range, ← cirs_f] at h1
  have h2 := neC_eC A
  have h3 : ((List.range A.length).filter (neB A)).length ≤ neC A := by
    refine nodup_le _ _ (List.nodup_range.filter _) (fun c hc => ?_)
    obtain ⟨c1, c2⟩ := List.mem_filter.mp hc
    have c1' := List.mem_range.mp c1
    refine List.mem_filter.mpr ⟨c1, decide_eq_true ?_⟩
    have e := rn_b_take A c c1'
    unfold neB at c2
    rw [List.getElem?_eq_getElem c1'] at c2
    have : A[c] ≠ [] := fun h9 => by
      rw [h9] at c2
      cases c2
    have := List.length_pos_iff.mpr this
    omega
  have h4 := neC_cirs A
  omega
section CHN
variable {A : rn_L} {sg : Nat → Bool} {T : ow_NT} {c : Nat}
theorem ell_le (hok : okF A.flatten T.1) (h : isoV A sg (fun x => x) T) : ell2 (qE A) T.1 A.flatten.length sg T.1 0 + eC A ≤ (np_parts T.1 T.2.2.1.1).2 + T.2.1 := by
  have hc := h.1.2.2.1
  have hF := okF_wk (by omega) hok
  have hd := wkF_ok hF
  have hv := isoV_vn h
  have hN := isoS_iff.mp h.1
  let L := lab (qE A) T.1 (mdS sg T.1 0)
  have hS := lab_sat (q := qE A) (c := T.1) (m := mdS sg T.1 0)
  have all : ∀ v, v < A.flatten.length → L (rn_pv A v) = L v ∧ L (mtf A v) = L v := by
    intro v hv
    have hx : crs A v < T.1 := ((hok.2 _).mp (List.mem_of_getElem? (vAt_of hv))).1
    have h3 : mdS sg T.1 0 (crs A v) = 3 := by unfold mdS; rw [if_pos hx]
    have h1 := (hS _ hx).1 (Or.inr h3)
    have h2 := (hS _ hx).2 (Or.inr h3)
    have h1 : L (rn_pv A (ovx A (crs A v))) = L (mtf A (ovx A (crs A v))) ∧ L (rn_pv A (mtf A (ovx A (crs A v)))) = L (ovx A (crs A v)) := h1
    have h2 : L (rn_pv A (ovx A (crs A v))) = L (rn_pv A (mtf A (ovx A (crs A v)))) ∧ L (ovx A (crs A v)) = L (mtf A (ovx A (crs A v))) := h2
    by_cases h0 : uns A v = 0
    · rw [ovx_eq hok hv h0] at h1 h2
      exact ⟨by rw [h1.1, ← h2.2], h2.2.symm⟩
    · have e1 := ovx_eq hok (mtf_lt hd hv) (mtf_uns hF hv h0)
      rw [crs_mtf hd hv] at e1
      rw [e1, mtf_mtf hd hv] at h1 h2
      exact ⟨by rw [← h2.1, h1.1], h2.2⟩
  obtain ⟨-, p2, p3, -⟩ := parts_I hv hc
  have one : ∀ v w, v < A.flatten.length → w < A.flatten.length → (np_parts T.1 T.2.2.1.1).1 (lbv A (fun x => x) v) = (np_parts T.1 T.2.2.1.1).1 (lbv A (fun x => x) w) → L v = L w := by
    intro v w hv1 hw1 e
    have hr := (parts_iff hv hc (lbv_lt hN hv1) (lbv_lt hN hw1)).mp e
    have key := hr (fun k => ∃ u, u < A.flatten.length ∧ lbv A (fun x => x) u = k ∧ L u = L v) ⟨v, hv1, rfl, rfl⟩ ?_ ?_
    · obtain ⟨u, u1, u2, u3⟩ := key
      rw [← lbv_inj hN u1 hw1 u2]
      exact u3.symm
    · rintro k - ⟨u, u1, u2, u3⟩
      refine ⟨rn_nx A u, rn_nx_lt u1, ?_, ?_⟩
      · rw [← u2]
        exact (hN.2.2.2.2.2.1 u u1).symm
      · have := (all (rn_nx A u) (rn_nx_lt u1)).1
        rw [pv_nx u1] at this
        rw [← this]
        exact u3
    · rintro k - ⟨u, u1, u2, u3⟩
      obtain ⟨m1, -, m3, -⟩ := lbv_mt hN u1
      exact ⟨mtf A u, m1, by rw [m3, u2], by rw [(all u u1).2]; exact u3⟩
  have hex : ∀ r, ∃ l, ∀ v, v < A.flatten.length → (np_parts T.1 T.2.2.1.1).1 (lbv A (fun x => x) v) = nI r → L v = l := by
    intro r
    by_cases hp : ∃ v, v < A.flatten.length ∧ (np_parts T.1 T.2.2.1.1).1 (lbv A (fun x => x) v) = nI r
    · obtain ⟨v, hv1, e⟩ := hp
      exact ⟨L v, fun w hw e2 => one w v hw hv1 (by rw [e, e2])⟩
    · exact ⟨0, fun v h1 h2 => absurd ⟨v, h1, h2⟩ hp⟩
  have h1 : ell2 (qE A) T.1 A.flatten.length sg T.1 0 ≤ (np_parts T.1 T.2.2.1.1).2 := by
    refine cN_le ⟨(List.range (np_parts T.1 T.2.2.1.1).2).map (fun r => Classical.choose (hex r)), by rw [List.length_map, List.length_range]; exact Nat.le_refl _, fun v hv1 => ?_⟩
    obtain ⟨r, r1, r2⟩ := p2 _ (lbv_lt hN hv1)
    exact List.mem_map.mpr ⟨r, List.mem_range.mpr r1, (Classical.choose_spec (hex r) v hv1 r2).symm⟩
  have := cirs_eC A
  have := h.1.2.2.2.2.2.2.2
  omega
theorem ch_ok2 {k : Nat} (hok : okF A.flatten T.1) (hC : A.length ≤ 6) (h : isoV A sg (fun x => x) T) (hk : (np_parts T.1 T.2.2.1.1).2 + T.2.1 ≤ k) (hk1 : 1 ≤ k) (hck : T.1 + k ≤ 9) : chOK A sg T.1 k := by
  have hE := qE_ends hok (by omega)
  have hev := qE_evn hok (by omega)
  have hp := Nat.le_trans (ell_le hok h) hk
  have hle : ∀ s, s < 2 ^ T.1 → LcN A sg s ≤ ell (qE A) T.1 A.flatten.length sg s + eC A := fun s hs => Nat.add_le_add_right (rts_ell hok (by omega) hs) _
  have hblk : ∀ h, smH (fun s => mbt (ell (qE A) T.1 A.flatten.length sg s + eC A)) h 0 (2 ^ T.1) ≤ 1140 := by
    intro h
    rcases Nat.lt_or_ge h 9 with h9 | h9
    · exact blk_1140 hE hev hk1 hp (by omega) h9
    · rw [smH_0 _ (fun i hi e => by
        have := pc_le (c := T.1) hi
        omega)]
      omega
  have hblk2 : ∀ h, smH (fun s => mbt (LcN A sg s)) h 0 (2 ^ T.1) ≤ 1140 := fun h => Nat.le_trans (smH_le _ (fun i hi => by
    rw [Nat.zero_add]
    exact mbt_mono (hle i hi))) (hblk h)
  refine ⟨hok, by omega, hC, fun s hs => mbt_9 ?_, ?_, hblk2⟩
  · have h1 := smH_mono (w := fun s => mbt (LcN A sg s)) (h := pc s) (t := 0) (a := s + 1) (2 ^ T.1) hs
    have h2 : mbt (LcN A sg s) ≤ smH (fun s => mbt (LcN A sg s)) (pc s) 0 (s + 1) := by
      show _ ≤ smH _ _ _ s + (if pc s = pc s then mbt (LcN A sg (0 + s)) else 0)
      rw [if_pos rfl, Nat.zero_add]
      omega
    exact Nat.le_trans h2 (Nat.le_trans h1 (hblk2 _))
  · have h1 := gen_all (ab := sg) (e := eC A) hE hev T.1 0 (Nat.le_refl _) (Nat.zero_mod _)
    have h2 : bsN A sg (2 ^ T.1) ≤ smA (fun s => 2 ^ (ell (qE A) T.1 A.flatten.length sg s + eC A)) 0 (2 ^ T.1) := smA_le _ (fun i hi => by
      rw [Nat.zero_add]
      exact two_mono (hle i hi))
    have h3 : 3 ^ T.1 * 2 ^ (ell2 (qE A) T.1 A.flatten.length sg T.1 0 + eC A) ≤ 3 ^ T.1 * 2 ^ k := Nat.mul_le_mul_left _ (two_mono hp)
    have key : ∀ c : Fin 9, ∀ P : Fin 10, c.val + P.val ≤ 9 → 1 ≤ P.val → 3 ^ c.val * 2 ^ P.val ≤ 13122 := by decide
    have h4 := key ⟨T.1, by omega⟩ ⟨k, by omega⟩ hck hk1
    exact Nat.le_trans h2 (Nat.le_trans h1 (Nat.le_trans h3 h4))
end CHN
end
section
/-! 99zzzzzzzi.clp -/
/-! the class: the loops of a state, gone round -/
/-- the end that is joined to an end -/
def muE (G : Nat → Int32) (b : Nat → Bool) (e : Nat) : Nat := if alB G b (e / 4) then 2 * mt (e / 2) + (1 - e % 2) else 2 * mt (e / 2) + e % 2
section LPP
variable {S : ow_NP} {G : Nat → Int32} {b : Nat → Bool} {c : Nat}
theorem mt_h (v : Nat) : mt v / 2 = v / 2 ∧ mt v ≠ v ∧ mt (mt v) = v := by
  unfold mt
  refine ⟨?_, ?_, ?_⟩
  · split <;> omega
  · split <;> omega
  · split <;> split <;> omega
theorem muE_i (e : Nat) : muE G b e / 4 = e / 4 ∧ muE G b e / 2 = mt (e / 2) ∧ muE G b e ≠ e ∧ muE G b (muE G b e) = e := by
  obtain ⟨m1, m2, m3⟩ := mt_h (e / 2)
  have key : ∀ k, k / 2 = mt (e / 2) → k / 4 = e / 4 := fun k hk => by omega
  have h1 : muE G b e / 2 = mt (e / 2) := by
    unfold muE
    split <;> omega
  have h2 := key _ h1
  have h3 : muE G b e % 2 = if alB G b (e / 4) then 1 - e % 2 else e % 2 := by
    unfold muE
    split <;> omega
  refine ⟨h2, h1, fun h9 => m2 (by rw [← h1, h9]), ?_⟩
  unfold muE at h1 h2 h3 ⊢
  by_cases ha : alB G b (e / 4) = true
  · rw [if_pos ha] at h1 h2 h3 ⊢
    rw [if_pos ha] at h3
    rw [h2, if_pos ha, h1, m3, h3]
    omega
  · rw [if_neg ha] at h1 h2 h3 ⊢
    rw [if_neg ha] at h3
    rw [h2, if_neg ha, h1, m3, h3]
    omega
theorem p0E_i (hv : vn c S) {e : Nat} (he : e < 4 * c) : p0E S e < 4 * c ∧ p0E S (p0E S e) = e ∧ p0E S e % 2 ≠ e % 2 ∧ egp S (p0E S e) = egp S e := by
  obtain ⟨v1, v2, v3, v4⟩ := hv (e / 2) (by omega)
  unfold p0E egp
  by_cases h : e % 2 = 0
  · rw [if_pos h, if_pos h]
    refine ⟨by omega, ?_, by omega, ?_⟩
    · rw [if_neg (by omega), show (2 * S.1 (e / 2) + 1) / 2 = S.1 (e / 2) by omega, v3]
      omega
    · rw [if_neg (by omega), show (2 * S.1 (e / 2) + 1) / 2 = S.1 (e / 2) by omega, v3]
  · rw [if_neg h, if_neg h]
    refine ⟨by omega, ?_, by omega, ?_⟩
    · rw [if_pos (by omega), show (2 * S.2 (e / 2)) / 2 = S.2 (e / 2) by omega, v4]
      omega
    · rw [if_pos (by omega), show (2 * S.2 (e / 2)) / 2 = S.2 (e / 2) by omega]
theorem egp_two (hv : vn c S) {e d : Nat} (he : e < 4 * c) (hd : d < 4 * c) (h : egp S e = egp S d) : d = e ∨ d = p0E S e := by
  obtain ⟨v1, v2, v3, v4⟩ := hv (e / 2) (by omega)
  obtain ⟨w1, w2, w3, w4⟩ := hv (d / 2) (by omega)
  unfold egp at h
  unfold p0E
  by_cases h1 : e % 2 = 0
  · rw [if_pos h1] at h ⊢
    by_cases h2 : d % 2 = 0
    · rw [if_pos h2] at h
      omega
    · rw [if_neg h2] at h
      rw [h, w4]
      omega
  · rw [if_neg h1] at h ⊢
    by_cases h2 : d % 2 = 0
    · rw [if_pos h2] at h
      omega
    · rw [if_neg h2] at h
      have := vn_inj2 hv (show e / 2 < 2 * c by omega) (show d / 2 < 2 * c by omega) h
      omega
theorem muE_lt {e : Nat} (he : e < 4 * c) : muE G b e < 4 * c := by
  have := (muE_i (G := G) (b := b) e).1
  omega
/-- labels that stay across the joins -/
def clL (S : ow_NP) (G : Nat → Int32) (b : Nat → Bool) (c : Nat) (f : Nat → Option Nat) : Prop := ∀ d l, d < 4 * c → f (egp S d) = some l → f (egp S (muE G b d)) = some l
/-- gone round from e0, now at e, behind ep -/
def wkL (S : ow_NP) (G : Nat → Int32) (b : Nat → Bool) (c : Nat) (f : Nat → Option Nat) (l e0 ep e : Nat) : Prop := e0 < 4 * c ∧ ep < 4 * c ∧ e = p0E S (muE G b ep) ∧ f (egp S ep) = some l ∧ f (egp S e0) = some l ∧ (∀ d l', d < 4 * c → f (egp S d) = some l' → f (egp S (muE G b d)) = some l' ∨ d = ep ∧ l' = l ∨ d = p0E S e0 ∧ l' = l) ∧ (f (egp S e) = none ∨ e = e0)
theorem wkL_lt (hv : vn c S) {f : Nat → Option Nat} {l e0 ep e : Nat} (h : wkL S G b c f l e0 ep e) : e < 4 * c := by
  rw [h.2.2.1]
  exact (p0E_i hv (muE_lt h.2.1)).1
theorem wkL_0 (hv : vn c S) {f : Nat → Option Nat} {l e0 : Nat} (he : e0 < 4 * c) (hn : f (egp S e0) = none) (h : clL S G b c f) : wkL S G b c (stO f (egp S e0) l) l e0 e0 (p0E S (muE G b e0)) := by
  have m1 := muE_lt (G := G) (b := b) he
  obtain ⟨-, -, m3, m4⟩ := muE_i (G := G) (b := b) e0
  obtain ⟨q1, q2, q3, q4⟩ := p0E_i hv m1
  obtain ⟨r1, r2, r3, r4⟩ := p0E_i hv he
  refine ⟨he, he, rfl, stO_at, stO_at, fun d l' hd hl => ?_, ?_⟩
  · by_cases c1 : egp S d = egp S e0
    · rw [c1, stO_at] at hl
      injection hl with hl
      rcases egp_two hv he hd c1.symm with h9 | h9
      · exact Or.inr (Or.inl ⟨h9, hl.symm⟩)
      · exact Or.inr (Or.inr ⟨h9, hl.symm⟩)
    · rw [stO_ne c1] at hl
      have := h d l' hd hl
      refine Or.inl ?_
      rw [stO_ne (fun h9 => by rw [h9, hn] at this; cases this)]
      exact this
  · by_cases c1 : p0E S (muE G b e0) = e0
    · exact Or.inr c1
    · refine Or.inl ?_
      rw [q4]
      by_cases c2 : egp S (muE G b e0) = egp S e0
      · rcases egp_two hv he m1 c2.symm with h9 | h9
        · exact absurd h9 m3
        · exact absurd (by rw [h9, r2]) c1
      · rw [stO_ne c2]
        cases hf : f (egp S (muE G b e0)) with
        | none => rfl
        | some l' =>
          have := h _ l' m1 hf
          rw [m4, hn] at this
          cases this
theorem wkL_s (hv : vn c S) {f : Nat → Option Nat} {l e0 ep e : Nat} (hn : f (egp S e) = none) (h : wkL S G b c f l e0 ep e) : wkL S G b c (stO f (egp S e) l) l e0 e (p0E S (muE G b e)) := by
  have he := wkL_lt hv h
  obtain ⟨h1, h2, h3, h4, h5, h6, h7⟩ := h
  have m1 := muE_lt (G := G) (b := b) he
  obtain ⟨-, -, m3, m4⟩ := muE_i (G := G) (b := b) e
  obtain ⟨q1, q2, q3, q4⟩ := p0E_i hv m1
  obtain ⟨r1, r2, r3, r4⟩ := p0E_i hv he
  have n1 := muE_lt (G := G) (b := b) h2
  obtain ⟨-, -, n3, n4⟩ := muE_i (G := G) (b := b) ep
  have pe : p0E S e = muE G b ep := by
    rw [h3, (p0E_i hv n1).2.1]
  have ege : egp S (muE G b ep) = egp S e := by
    rw [h3, (p0E_i hv n1).2.2.2]
  have ne : ∀ x, f x ≠ none → x ≠ egp S e := fun x hx e9 => hx (by rw [e9]; exact hn)
  refine ⟨h1, he, rfl, stO_at, ?_, fun d l' hd hl => ?_, ?_⟩
  · rw [stO_ne (ne _ (by rw [h5]; simp))]
    exact h5
  · by_cases c1 : egp S d = egp S e
    · rw [c1, stO_at] at hl
      injection hl with hl
      rcases egp_two hv he hd c1.symm with h9 | h9
      · exact Or.inr (Or.inl ⟨h9, hl.symm⟩)
      · refine Or.inl ?_
        rw [h9, pe, n4, stO_ne (ne _ (by rw [h4]; simp)), h4, hl]
    · rw [stO_ne c1] at hl
      rcases h6 d l' hd hl with h9 | ⟨h9, h8⟩ | ⟨h9, h8⟩
      · refine Or.inl ?_
        rw [stO_ne (fun e9 => by rw [e9, hn] at h9; cases h9)]
        exact h9
      · refine Or.inl ?_
        rw [h9, ege, stO_at, h8]
      · exact Or.inr (Or.inr ⟨h9, h8⟩)
  · by_cases c1 : p0E S (muE G b e) = e0
    · exact Or.inr c1
    · refine Or.inl ?_
      rw [q4]
      by_cases c2 : egp S (muE G b e) = egp S e
      · rcases egp_two hv he m1 c2.symm with h9 | h9
        · exact absurd h9 m3
        · rw [pe] at h9
          have : e = ep := by rw [← m4, h9, n4]
          rw [this, h4] at hn
          cases hn
      · rw [stO_ne c2]
        cases hf : f (egp S (muE G b e)) with
        | none => rfl
        | some l' =>
          exfalso
          rcases h6 _ l' m1 hf with h9 | ⟨h9, -⟩ | ⟨h9, -⟩
          · rw [m4, hn] at h9
            cases h9
          · have e1 : muE G b ep = e := by rw [← h9, m4]
            rw [e1] at pe
            exact r3 (by rw [pe])
          · exact c1 (by rw [h9, (p0E_i hv h1).2.1])
theorem wkL_e (hv : vn c S) {f : Nat → Option Nat} {l e0 ep e : Nat} (hn : f (egp S e) ≠ none) (h : wkL S G b c f l e0 ep e) : clL S G b c f := by
  obtain ⟨h1, h2, h3, h4, h5, h6, h7⟩ := h
  have he0 : e = e0 := h7.resolve_left hn
  have n1 := muE_lt (G := G) (b := b) h2
  obtain ⟨-, -, n3, n4⟩ := muE_i (G := G) (b := b) ep
  have ege : egp S (muE G b ep) = egp S e := by
    rw [h3, (p0E_i hv n1).2.2.2]
  have pe : p0E S e = muE G b ep := by
    rw [h3, (p0E_i hv n1).2.1]
  intro d l' hd hl
  rcases h6 d l' hd hl with h9 | ⟨h9, h8⟩ | ⟨h9, h8⟩
  · exact h9
  · rw [h9, ege, he0, h5, h8]
  · rw [h9, ← he0, pe, n4, h4, h8]
/-- the joins are those of the state -/
theorem muE_un (hv : vn c S) {e : Nat} (he : e < 4 * c) : rt (uPx S G b c) (egp S e) = rt (uPx S G b c) (egp S (muE G b e)) := by
  obtain ⟨j1, j2⟩ := uPx_j (S := S) (G := G) (b := b) c (e / 4) (by omega)
  have key : ∀ k, k < 4 → e = 4 * (e / 4) + k → rt (uPx S G b c) (egp S e) = rt (uPx S G b c) (egp S (muE G b e)) := by
    intro k hk he4
    unfold toI at j1
    unfold toO at j2
    generalize hx : e / 4 = x at *
    have m0 : mt (2 * x) = 2 * x + 1 := by unfold mt; rw [if_pos (by omega)]
    have m1 : mt (2 * x + 1) = 2 * x := by unfold mt; rw [if_neg (by omega)]; omega
    have mu : muE G b e = if alB G b x then 2 * mt (e / 2) + (1 - e % 2) else 2 * mt (e / 2) + e % 2 := by
      unfold muE
      rw [hx]
    rw [mu]
    have k4 : k = 0 ∨ k = 1 ∨ k = 2 ∨ k = 3 := by omega
    by_cases ha : alB G b x = true
    · rw [if_pos ha] at j1 j2 ⊢
      rcases k4 with rfl | rfl | rfl | rfl
      · rw [show e / 2 = 2 * x by omega, show e % 2 = 0 by omega, m0, show e = 4 * x by omega, show 2 * (2 * x + 1) + (1 - 0) = 4 * x + 3 by omega]
        exact j2
      · rw [show e / 2 = 2 * x by omega, show e % 2 = 1 by omega, m0, show e = 4 * x + 1 by omega, show 2 * (2 * x + 1) + (1 - 1) = 4 * x + 2 by omega]
        exact j1
      · rw [show e / 2 = 2 * x + 1 by omega, show e % 2 = 0 by omega, m1, show e = 4 * x + 2 by omega, show 2 * (2 * x) + (1 - 0) = 4 * x + 1 by omega]
        exact j1.symm
      · rw [show e / 2 = 2 * x + 1 by omega, show e % 2 = 1 by omega, m1, show e = 4 * x + 3 by omega, show 2 * (2 * x) + (1 - 1) = 4 * x by omega]
        exact j2.symm
    · rw [if_neg ha] at j1 j2 ⊢
      rcases k4 with rfl | rfl | rfl | rfl
      · rw [show e / 2 = 2 * x by omega, show e % 2 = 0 by omega, m0, show e = 4 * x by omega, show 2 * (2 * x + 1) + 0 = 4 * x + 2 by omega]
        exact j2
      · rw [show e / 2 = 2 * x by omega, show e % 2 = 1 by omega, m0, show e = 4 * x + 1 by omega, show 2 * (2 * x + 1) + 1 = 4 * x + 3 by omega]
        exact j1
      · rw [show e / 2 = 2 * x + 1 by omega, show e % 2 = 0 by omega, m1, show e = 4 * x + 2 by omega, show 2 * (2 * x) + 0 = 4 * x by omega]
        exact j2.symm
      · rw [show e / 2 = 2 * x + 1 by omega, show e % 2 = 1 by omega, m1, show e = 4 * x + 3 by omega, show 2 * (2 * x) + 1 = 4 * x + 1 by omega]
        exact j1.symm
  exact key (e % 4) (by omega) (by omega)
/-- labels that stay across the joins are labels of the loops -/
theorem clL_un (hv : vn c S) {f : Nat → Option Nat} (h : clL S G b c f) (hall : ∀ g, g < 2 * c → f g ≠ none) {g g' : Nat} (hg : g < 2 * c) (hg' : g' < 2 * c) (e : rt (uPx S G b c) g = rt (uPx S G b c) g') : f g = f g' := by
  have fs : ∀ d, d < 4 * c → f (egp S d) = f (egp S (muE G b d)) := by
    intro d hd
    cases hf : f (egp S d) with
    | none => exact absurd hf (hall _ (egp_lt hv hd))
    | some l => exact (h d l hd hf).symm
  have key := uPx_min (M := fun g => (f g).getD 0) hv (fun x hx => ?_) c (Nat.le_refl _) g g' hg hg' e
  · have key : (f g).getD 0 = (f g').getD 0 := key
    cases h1 : f g with
    | none => exact absurd h1 (hall g hg)
    | some l =>
      cases h2 : f g' with
      | none => exact absurd h2 (hall g' hg')
      | some l' =>
        rw [h1, h2] at key
        exact congrArg some key
  · have m0 : mt (2 * x) = 2 * x + 1 := by unfold mt; rw [if_pos (by omega)]
    have f0 := fs (4 * x) (by omega)
    have f1 := fs (4 * x + 1) (by omega)
    unfold muE at f0 f1
    rw [show 4 * x / 4 = x by omega, show 4 * x / 2 = 2 * x by omega, show 4 * x % 2 = 0 by omega, m0] at f0
    rw [show (4 * x + 1) / 4 = x by omega, show (4 * x + 1) / 2 = 2 * x by omega, show (4 * x + 1) % 2 = 1 by omega, m0] at f1
    unfold toI toO
    by_cases ha : alB G b x = true
    · rw [if_pos ha] at f0 f1
      rw [if_pos ha, if_pos ha, show 4 * x + 2 = 2 * (2 * x + 1) + (1 - 1) by omega, show 4 * x + 3 = 2 * (2 * x + 1) + (1 - 0) by omega, f0, f1]
      exact ⟨rfl, rfl⟩
    · rw [if_neg ha] at f0 f1
      rw [if_neg ha, if_neg ha, show 4 * x + 3 = 2 * (2 * x + 1) + 1 by omega, show 4 * x + 2 = 2 * (2 * x + 1) + 0 by omega, f0, f1]
      exact ⟨rfl, rfl⟩
theorem clL_gd {f : Nat → Option Nat} {n x : Nat} (h : clL S G b c f) (hx : x < c) : (f (egp S (4 * x + 1))).getD n = (f (egp S (toI G b x))).getD n ∧ (f (egp S (4 * x))).getD n = (f (egp S (toO G b x))).getD n := by
  have fs : ∀ d, d < 4 * c → f (egp S d) = f (egp S (muE G b d)) := by
    intro d hd
    cases hf : f (egp S d) with
    | none =>
      cases hf2 : f (egp S (muE G b d)) with
      | none => rfl
      | some l =>
        have := h _ l (muE_lt hd) hf2
        rw [(muE_i d).2.2.2, hf] at this
        cases this
    | some l => exact (h d l hd hf).symm
  have m0 : mt (2 * x) = 2 * x + 1 := by unfold mt; rw [if_pos (by omega)]
  have f0 := fs (4 * x) (by omega)
  have f1 := fs (4 * x + 1) (by omega)
  unfold muE at f0 f1
  rw [show 4 * x / 4 = x by omega, show 4 * x / 2 = 2 * x by omega, show 4 * x % 2 = 0 by omega, m0] at f0
  rw [show (4 * x + 1) / 4 = x by omega, show (4 * x + 1) / 2 = 2 * x by omega, show (4 * x + 1) % 2 = 1 by omega, m0] at f1
  unfold toI toO
  by_cases ha : alB G b x = true
  · rw [if_pos ha] at f0 f1
    rw [if_pos ha, if_pos ha, show 4 * x + 2 = 2 * (2 * x + 1) + (1 - 1) by omega, show 4 * x + 3 = 2 * (2 * x + 1) + (1 - 0) by omega, f0, f1]
    exact ⟨rfl, rfl⟩
  · rw [if_neg ha] at f0 f1
    rw [if_neg ha, if_neg ha, show 4 * x + 3 = 2 * (2 * x + 1) + 1 by omega, show 4 * x + 2 = 2 * (2 * x + 1) + 0 by omega, f0, f1]
    exact ⟨rfl, rfl⟩
end LPP
end
section
/-! 99zzzzzzzj.clp2 -/
/-! the class: goRound, markLoops -/
theorem ch_43002 {vl : Nat → Nat} : ((cX vl).2 43002).2.1 = 4096 := rfl
theorem ch_43003 {vl : Nat → Nat} : ((cX vl).2 43003).2.1 = 256 := rfl
theorem ch_43004 {vl : Nat → Nat} : ((cX vl).2 43004).2.1 = 2560 := rfl
theorem nH44 : nH 44000 := by
  unfold nH nHL
  decide
def tb (s x : Nat) : Bool := decide (s / 2 ^ x % 2 = 1)
theorem bvx : ∀ v : Fin 16, nI v.val >>> ((1 : Int32) &&& 31) = nI (v.val / 2) ∧ nI v.val ^^^ 1 = nI (mt v.val) := by decide +kernel
theorem m1b : vp_nar .byte (-1 : Int32) = -1 := by decide
section GOR
variable {vl : Nat → Nat} {y : ow_MS} {S : ow_NP} {G : Nat → Int32} {c ci s : Nat}
theorem u_J7_fill_eb02e_1 {vl : Nat → Nat} {x1 : Int32} {x2 : Int32} {x3 : Int32} {x4 : Int32} {r0 : Nat} {z : ow_MS} {Q : ow_MS → Prop} (H : Tt (fun K k => cm_J7_fill_eb02e_1 vl K (c_J7_fill_eb02e vl K k) x1 x2 x3 x4 r0 z) Q) : Tt (fun K k => c_J7_fill_eb02e vl K k 1 x1 x2 x3 x4 r0 z) Q := w_un (fun _ _ => rfl) H
theorem e_J7_fill_eb02e {vl : Nat → Nat} {r0 : Nat} {x1 : Int32} {x2 : Int32} {x3 : Int32} {z : ow_MS} {Q : ow_MS → Prop} (H : Tt (fun K k => c_J7_fill_eb02e vl K k 0 x1 x2 x3 0 r0 z) Q) : Te (fun K => ce_J7_fill_eb02e vl K r0 x1 x2 x3 z) Q := w_te H
theorem u_J7_fill_eb02e_0 {vl : Nat → Nat} {x1 : Int32} {x2 : Int32} {x3 : Int32} {x4 : Int32} {r0 : Nat} {z : ow_MS} {Q : ow_MS → Prop} (H : Tt (fun K k => cm_J7_fill_eb02e_0 vl K (c_J7_fill_eb02e vl K k) x1 x2 x3 x4 r0 z) Q) : Tt (fun K k => c_J7_fill_eb02e vl K k 0 x1 x2 x3 x4 r0 z) Q := w_un (fun _ _ => rfl) H
theorem tc_fillB {g l a b : Nat} {x : Int32} (hL : ((cX vl).2 g).2.1 = l) (h1 : a ≤ b) (h2 : b ≤ l) (hl : l < 2 ^ 31) (hx : vp_nar .byte x = x) : Te (fun K => ce_J7_fill_eb02e vl K g (nI a) (nI b) x y) (fun y1 => (∀ k, y1.2.1 g k = if a ≤ k ∧ k < b then x else y.2.1 g k) ∧ fr (fun q => q = g) y y1) := by
  let Q : ow_MS → Prop := fun y1 => (∀ k, y1.2.1 g k = if a ≤ k ∧ k < b then x else y.2.1 g k) ∧ fr (fun q => q = g) y y1
  have c1 : ∀ (d i : Nat) (y1 : ow_MS), i + d = b → a ≤ i → (∀ k, y1.2.1 g k = if a ≤ k ∧ k < i then x else y.2.1 g k) → fr (fun q => q = g) y y1 → Tt (fun K t => c_J7_fill_eb02e vl K t 1 (nI a) (nI b) x (nI i) g y1) Q := by
    intro d
    induction d with
    | zero =>
      intro i y1 hi ha hk hf
      have e : i = b := by omega
      subst e
      refine u_J7_fill_eb02e_1 ?_; unfold cm_J7_fill_eb02e_1
      exact w_leT (by omega) (by omega) (w_some ⟨hk, hf⟩)
    | succ d ih =>
      intro i y1 hi ha hk hf
      refine u_J7_fill_eb02e_1 ?_; unfold cm_J7_fill_eb02e_1
      rw [nI_1]
      refine w_leF (by omega) (by omega) (w_ctB hL rfl (by omega) ?_)
      rw [hx]
      refine ih (i + 1) _ (by omega) (by omega) (fun k => ?_) (fr_I2 hf rfl)
      by_cases e : k = i
      · rw [e, if_pos (by omega)]
        exact po_usI_at
      · rw [show (usI y1 g i x).2.1 g k = y1.2.1 g k from po_usI_ne e, hk]
        by_cases e1 : a ≤ k ∧ k < i
        · rw [if_pos e1, if_pos (by omega)]
        · rw [if_neg e1, if_neg (by omega)]
  refine e_J7_fill_eb02e ?_
  refine u_J7_fill_eb02e_0 ?_; unfold cm_J7_fill_eb02e_0
  unfold uw_len
  rw [hL]
  refine w_cs0 (tc_range h1 h2 hl) ?_
  rintro y1 e
  subst e
  exact c1 (b - a) a _ (by omega) (by omega) (fun k => by rw [if_neg (by omega)]) fr_rf
/-- only the entries of one state change -/
def frS (s : Nat) (z z1 : ow_MS) : Prop := fr (fun g => g = 43002 ∨ g = 43003 ∨ g = 43004) z z1 ∧ (∀ i, i / 16 ≠ s → z1.2.1 43002 i = z.2.1 43002 i) ∧ (∀ i, i ≠ s → z1.2.1 43003 i = z.2.1 43003 i) ∧ ∀ i, i / 10 ≠ s → z1.2.1 43004 i = z.2.1 43004 i
theorem frS_tr {z z1 z2 : ow_MS} (h1 : frS s z z1) (h2 : frS s z1 z2) : frS s z z2 := ⟨fr_tr h1.1 h2.1, fun i hi => (h2.2.1 i hi).trans (h1.2.1 i hi), fun i hi => (h2.2.2.1 i hi).trans (h1.2.2.1 i hi), fun i hi => (h2.2.2.2 i hi).trans (h1.2.2.2 i hi)⟩
theorem frS_3 {z : ow_MS} {x : Int32} : frS s z (usI z 43003 s x) := ⟨fr_I (Or.inr (Or.inl rfl)), fun j _ => rd_ot (by omega) rfl, fun j hj => po_usI_ne hj, fun j _ => rd_ot (by omega) rfl⟩
theorem frS_4 {z : ow_MS} {i : Nat} {x : Int32} (hi : i / 10 = s) : frS s z (usI z 43004 i x) := ⟨fr_I (Or.inr (Or.inr rfl)), fun j _ => rd_ot (by omega) rfl, fun j _ => rd_ot (by omega) rfl, fun j hj => po_usI_ne (fun e => hj (by rw [e]; exact hi))⟩
/-- labels of the gaps so far -/
def lbS (z : ow_MS) (s c : Nat) (f : Nat → Option Nat) : Prop := ∀ g, g < 2 * c → z.2.1 43002 (16 * s + g) = oM (f g)
theorem lbS_set {z : ow_MS} {f : Nat → Option Nat} {g l : Nat} (h : lbS z s c f) : lbS (usI z 43002 (16 * s + g) (nI l)) s c (stO f g l) := by
  intro k hk
  by_cases e : k = g
  · rw [e, po_usI_at, stO_at]
    rfl
  · rw [stO_ne e]
    exact rd_ne (by omega) (h k hk)
theorem i16 (s g : Nat) : nI s * (16 : Int32) + nI g = nI (16 * s + g) := by
  rw [show nI s * (16 : Int32) = nI (s * 16) from pk_mul _ 16, nI_add, Nat.mul_comm]
theorem i10 (s g : Nat) : nI s * (10 : Int32) + nI g = nI (10 * s + g) := by
  rw [show nI s * (10 : Int32) = nI (s * 10) from pk_mul _ 10, nI_add, Nat.mul_comm]
theorem u_X1_goRound_7 {vl : Nat → Nat} {x1 : Int32} {x2 : Int32} {x3 : Int32} {x4 : Int32} {x5 : Int32} {x6 : Int32} {x7 : Int32} {x8 : Int32} {r0 : Nat} {t0 : Int32} {t1 : Int32} {z : ow_MS} {Q : ow_MS → Prop} (H : Tt (fun K k => cm_X1_goRound_7 vl K (c_X1_goRound vl K k) x1 x2 x3 x4 x5 x6 x7 x8 r0 t0 t1 z) Q) : Tt (fun K k => c_X1_goRound vl K k 7 x1 x2 x3 x4 x5 x6 x7 x8 r0 t0 t1 z) Q := w_un (fun _ _ => rfl) H
theorem u_X1_goRound_6 {vl : Nat → Nat} {x1 : Int32} {x2 : Int32} {x3 : Int32} {x4 : Int32} {x5 : Int32} {x6 : Int32} {x7 : Int32} {x8 : Int32} {r0 : Nat} {t0 : Int32} {t1 : Int32} {z : ow_MS} {Q : ow_MS → Prop} (H : Tt (fun K k => cm_X1_goRound_6 vl K (c_X1_goRound vl K k) x1 x2 x3 x4 x5 x6 x7 x8 r0 t0 t1 z) Q) : Tt (fun K k => c_X1_goRound vl K k 6 x1 x2 x3 x4 x5 x6 x7 x8 r0 t0 t1 z) Q := w_un (fun _ _ => rfl) H
theorem u_X1_goRound_5 {vl : Nat → Nat} {x1 : Int32} {x2 : Int32} {x3 : Int32} {x4 : Int32} {x5 : Int32} {x6 : Int32} {x7 : Int32} {x8 : Int32} {r0 : Nat} {t0 : Int32} {t1 : Int32} {z : ow_MS} {Q : ow_MS → Prop} (H : Tt (fun K k => cm_X1_goRound_5 vl K (c_X1_goRound vl K k) x1 x2 x3 x4 x5 x6 x7 x8 r0 t0 t1 z) Q) : Tt (fun K k => c_X1_goRound vl K k 5 x1 x2 x3 x4 x5 x6 x7 x8 r0 t0 t1 z) Q := w_un (fun _ _ => rfl) H
theorem u_X1_goRound_3 {vl : Nat → Nat} {x1 : Int32} {x2 : Int32} {x3 : Int32} {x4 : Int32} {x5 : Int32} {x6 : Int32} {x7 : Int32} {x8 : Int32} {r0 : Nat} {t0 : Int32} {t1 : Int32} {z : ow_MS} {Q : ow_MS → Prop} (H : Tt (fun K k => cm_X1_goRound_3 vl K (c_X1_goRound vl K k) x1 x2 x3 x4 x5 x6 x7 x8 r0 t0 t1 z) Q) : Tt (fun K k => c_X1_goRound vl K k 3 x1 x2 x3 x4 x5 x6 x7 x8 r0 t0 t1 z) Q := w_un (fun _ _ => rfl) H
theorem u_X1_goRound_4 {vl : Nat → Nat} {x1 : Int32} {x2 : Int32} {x3 : Int32} {x4 : Int32} {x5 : Int32} {x6 : Int32} {x7 : Int32} {x8 : Int32} {r0 : Nat} {t0 : Int32} {t1 : Int32} {z : ow_MS} {Q : ow_MS → Prop} (H : Tt (fun K k => cm_X1_goRound_4 vl K (c_X1_goRound vl K k) x1 x2 x3 x4 x5 x6 x7 x8 r0 t0 t1 z) Q) : Tt (fun K k => c_X1_goRound vl K k 4 x1 x2 x3 x4 x5 x6 x7 x8 r0 t0 t1 z) Q := w_un (fun _ _ => rfl) H
theorem u_X1_goRound_2 {vl : Nat → Nat} {x1 : Int32} {x2 : Int32} {x3 : Int32} {x4 : Int32} {x5 : Int32} {x6 : Int32} {x7 : Int32} {x8 : Int32} {r0 : Nat} {t0 : Int32} {t1 : Int32} {z : ow_MS} {Q : ow_MS → Prop} (H : Tt (fun K k => cm_X1_goRound_2 vl K (c_X1_goRound vl K k) x1 x2 x3 x4 x5 x6 x7 x8 r0 t0 t1 z) Q) : Tt (fun K k => c_X1_goRound vl K k 2 x1 x2 x3 x4 x5 x6 x7 x8 r0 t0 t1 z) Q := w_un (fun _ _ => rfl) H
theorem u_X1_goRound_1 {vl : Nat → Nat} {x1 : Int32} {x2 : Int32} {x3 : Int32} {x4 : Int32} {x5 : Int32} {x6 : Int32} {x7 : Int32} {x8 : Int32} {r0 : Nat} {t0 : Int32} {t1 : Int32} {z : ow_MS} {Q : ow_MS → Prop} (H : Tt (fun K k => cm_X1_goRound_1 vl K (c_X1_goRound vl K k) x1 x2 x3 x4 x5 x6 x7 x8 r0 t0 t1 z) Q) : Tt (fun K k => c_X1_goRound vl K k 1 x1 x2 x3 x4 x5 x6 x7 x8 r0 t0 t1 z) Q := w_un (fun _ _ => rfl) H
theorem e_X1_goRound {vl : Nat → Nat} {r0 : Nat} {x1 : Int32} {x2 : Int32} {x3 : Int32} {z : ow_MS} {Q : ow_MS → Prop} (H : Tt (fun K k => c_X1_goRound vl K k 0 x1 x2 x3 0 0 0 0 0 r0 0 0 z) Q) : Te (fun K => ce_X1_goRound vl K r0 x1 x2 x3 z) Q := w_te H
theorem u_X1_goRound_0 {vl : Nat → Nat} {x1 : Int32} {x2 : Int32} {x3 : Int32} {x4 : Int32} {x5 : Int32} {x6 : Int32} {x7 : Int32} {x8 : Int32} {r0 : Nat} {t0 : Int32} {t1 : Int32} {z : ow_MS} {Q : ow_MS → Prop} (H : Tt (fun K k => cm_X1_goRound_0 vl K (c_X1_goRound vl K k) x1 x2 x3 x4 x5 x6 x7 x8 r0 t0 t1 z) Q) : Tt (fun K k => c_X1_goRound vl K k 0 x1 x2 x3 x4 x5 x6 x7 x8 r0 t0 t1 z) Q := w_un (fun _ _ => rfl) H
theorem tc_goRound {l g0 : Nat} {f : Nat → Option Nat} (hy : cAt y 44000 (c, ci, S, G)) (hv : vn c S) (hc : c ≤ 8) (hs : s < 256) (hl : l < 16) (hg0 : g0 < 2 * c) (hf : lbS y s c f) (hn : f g0 = none) (hcl : clL S G (tb s) c f) (hfl : ∀ g k, g < 2 * c → f g = some k → k < 16) : Te (fun K => ce_X1_goRound vl K 43000 (nI s) (nI g0) (nI l) y) (fun y1 => ∃ f1, lbS y1 s c f1 ∧ clL S G (tb s) c f1 ∧ f1 g0 = some l ∧ (∀ g, g < 2 * c → f g ≠ none → f1 g = f g) ∧ (∀ g k, g < 2 * c → f1 g = some k → f g = none → k = l ∧ rt (uPx S G (tb s) c) g = rt (uPx S G (tb s) c) g0) ∧ fr (fun q => q = 43002) y y1 ∧ ∀ i, i / 16 ≠ s → y1.2.1 43002 i = y.2.1 43002 i) := by
  let Q : ow_MS → Prop := fun y1 => ∃ f1, lbS y1 s c f1 ∧ clL S G (tb s) c f1 ∧ f1 g0 = some l ∧ (∀ g, g < 2 * c → f g ≠ none → f1 g = f g) ∧ (∀ g k, g < 2 * c → f1 g = some k → f g = none → k = l ∧ rt (uPx S G (tb s) c) g = rt (uPx S G (tb s) c) g0) ∧ fr (fun q => q = 43002) y y1 ∧ ∀ i, i / 16 ≠ s → y1.2.1 43002 i = y.2.1 43002 i
  let J : ow_MS → (Nat → Option Nat) → Prop := fun z f1 => lbS z s c f1 ∧ (∀ g, g < 2 * c → f g ≠ none → f1 g = f g) ∧ (∀ g k, g < 2 * c → f1 g = some k → f g = none → k = l ∧ rt (uPx S G (tb s) c) g = rt (uPx S G (tb s) c) g0) ∧ fr (fun q => q = 43002) y z ∧ ∀ i, i / 16 ≠ s → z.2.1 43002 i = y.2.1 43002 i
  have hA : ∀ z, fr (fun q => q = 43002) y z → cAt z 44000 (c, ci, S, G) := fun z h => cAt_fr h (fun g hg h9 => by unfold cP at hg; omega) hy
  -- from the arrival at an end to the next one
  have step : ∀ (e i : Nat) (z : ow_MS), e < 4 * c → fr (fun q => q = 43002) y z → Tt (fun K k => c_X1_goRound vl K k 1 (nI s) (nI g0) (nI l) (nI (egp S (p0E S (muE G (tb s) e)))) (nI (p0E S (muE G (tb s) e) % 2)) (nI (i + 1)) 0 0 43000 0 0 z) Q → Tt (fun K k => c_X1_goRound vl K k 2 (nI s) (nI g0) (nI l) (nI (egp S e)) (nI (e % 2)) (nI i) 0 0 43000 (nI (e / 2)) 0 z) Q := by
    intro e i z he hz H
    have m1 := muE_lt (G := G) (b := tb s) he
    obtain ⟨u1, u2, u3, u4⟩ := muE_i (G := G) (b := tb s) e
    obtain ⟨q1, q2, q3, q4⟩ := p0E_i hv m1
    obtain ⟨b1, b2⟩ := bvx ⟨e / 2, by omega⟩
    dsimp only at b1 b2
    have mlt := mt_lt (show e / 2 < 2 * c by omega)
    have e4 : e / 2 / 2 = e / 4 := by omega
    rw [q4] at H
    have par : muE G (tb s) e % 2 = if alB G (tb s) (e / 4) then 1 - e % 2 else e % 2 := by
      unfold muE
      split <;> omega
    have eg : egp S (muE G (tb s) e) = if muE G (tb s) e % 2 = 0 then mt (e / 2) else S.2 (mt (e / 2)) := by
      unfold egp
      rw [u2]
    have c7 : ∀ (x7 x8 : Int32), Tt (fun K k => c_X1_goRound vl K k 7 (nI s) (nI g0) (nI l) (nI (egp S e)) (nI (p0E S (muE G (tb s) e) % 2)) (nI i) x7 x8 43000 (nI (egp S (muE G (tb s) e))) 0 z) Q := by
      intro x7 x8
      refine u_X1_goRound_7 ?_; unfold cm_X1_goRound_7
      rw [nI_1]
      exact H
    have c5 : ∀ al : Bool, al = alB G (tb s) (e / 4) → Tt (fun K k => c_X1_goRound vl K k 5 (nI s) (nI g0) (nI l) (nI (egp S e)) (nI (e % 2)) (nI i) (nI (e / 2)) 0 43000 (if al then 1 else 0) 0 z) Q := by
      intro al hal
      rw [← hal] at par
      have fin : ∀ (t : Nat), t = p0E S (muE G (tb s) e) % 2 → Tt (fun K k => c_X1_goRound vl K k 6 (nI s) (nI g0) (nI l) (nI (egp S e)) (nI (e % 2)) (nI i) (nI (e / 2)) (if al then 1 else 0) 43000 (nI t) 0 z) Q := by
        intro t ht
        have t01 : t = 0 ∨ t = 1 := by omega
        refine u_X1_goRound_6 ?_; unfold cm_X1_goRound_6
        rw [b2]
        rcases t01 with h9 | h9
        · rw [h9] at ht
          have k1 : muE G (tb s) e % 2 = 1 := by omega
          rw [if_neg (by omega)] at eg
          refine w_ifT (by rw [h9]; rfl) (w_crI (nH_2 nH44) rfl (show mt (e / 2) < 24 by omega) ((hA z hz).2.2.2.1 _) ?_)
          rw [← eg, h9, ht]
          exact c7 _ _
        · rw [h9] at ht
          have k1 : muE G (tb s) e % 2 = 0 := by omega
          rw [if_pos k1] at eg
          refine w_ifF (by rw [h9]; decide) ?_
          rw [← eg, h9, ht]
          exact c7 _ _
      have e01 : e % 2 = 0 ∨ e % 2 = 1 := by omega
      refine u_X1_goRound_5 ?_; unfold cm_X1_goRound_5
      cases al with
      | false =>
        have par : muE G (tb s) e % 2 = e % 2 := par
        rcases e01 with h9 | h9
        · exact w_ifT (by rw [h9]; rfl) (fin 1 (by omega))
        · exact w_ifF (by rw [h9]; decide) (fin 0 (by omega))
      | true =>
        have par : muE G (tb s) e % 2 = 1 - e % 2 := par
        rcases e01 with h9 | h9
        · exact w_ifF (by rw [h9]; decide) (fin 0 (by omega))
        · exact w_ifT (by rw [h9]; rfl) (fin 1 (by omega))
    have c3 : ∀ sb : Bool, sb = sgP G (e / 4) → Tt (fun K k => c_X1_goRound vl K k 3 (nI s) (nI g0) (nI l) (nI (egp S e)) (nI (e % 2)) (nI i) (nI (e / 2)) 0 43000 (if sb then 1 else 0) 0 z) Q := by
      intro sb hsb
      have hbit := bit_nI (s := s) (x := e / 4) hs (by omega)
      have c5' : ∀ bb : Bool, tb s (e / 4) = bb → Tt (fun K k => c_X1_goRound vl K k 5 (nI s) (nI g0) (nI l) (nI (egp S e)) (nI (e % 2)) (nI i) (nI (e / 2)) 0 43000 (if (sb == !bb) then 1 else 0) 0 z) Q := fun bb hbb => c5 (sb == !bb) (by unfold alB; rw [hsb, hbb])
      refine u_X1_goRound_3 ?_; unfold cm_X1_goRound_3
      rw [b1, e4, hbit]
      by_cases hb : s / 2 ^ (e / 4) % 2 = 1
      · have tbv : tb s (e / 4) = true := decide_eq_true hb
        have := c5' true tbv
        refine w_ifF (by unfold btN; rw [hb]; decide) ?_
        refine u_X1_goRound_4 ?_; unfold cm_X1_goRound_4
        cases sb with
        | false => exact w_ifT rfl this
        | true => exact w_ifF (by decide) this
      · have tbv : tb s (e / 4) = false := decide_eq_false hb
        have := c5' false tbv
        have hb0 : s / 2 ^ (e / 4) % 2 = 0 := by omega
        refine w_ifT (by unfold btN; rw [hb0]; rfl) ?_
        refine u_X1_goRound_4 ?_; unfold cm_X1_goRound_4
        cases sb with
        | false => exact w_ifF (by decide) this
        | true => exact w_ifT rfl this
    refine u_X1_goRound_2 ?_; unfold cm_X1_goRound_2
    rw [b1, e4]
    refine w_crI (nH_3 nH44) rfl (show e / 4 < 12 by omega) ((hA z hz).2.2.2.2 _) (w_if (fun h9 => ?_) (fun h9 => ?_))
    · exact c3 false (by unfold sgP; rw [decide_eq_false (Int32.not_lt.mpr h9)])
    · exact c3 true (by unfold sgP; rw [decide_eq_true (Int32.not_le.mp h9)])
  -- one gap is marked, the walk goes on
  have mark : ∀ (e i : Nat) (z : ow_MS) (f1 : Nat → Option Nat), i < 16 → e < 4 * c → f1 (egp S e) = none → J z f1 → (∀ z1, J z1 (stO f1 (egp S e) l) → Tt (fun K k => c_X1_goRound vl K k 1 (nI s) (nI g0) (nI l) (nI (egp S (p0E S (muE G (tb s) e)))) (nI (p0E S (muE G (tb s) e) % 2)) (nI (i + 1)) 0 0 43000 0 0 z1) Q) → rt (uPx S G (tb s) c) (egp S e) = rt (uPx S G (tb s) c) g0 → Tt (fun K k => c_X1_goRound vl K k 1 (nI s) (nI g0) (nI l) (nI (egp S e)) (nI (e % 2)) (nI i) 0 0 43000 0 0 z) Q := by
    rintro e i z f1 hi he hn1 ⟨j1, j2, j3, j4, j5⟩ H hrt
    have hge := egp_lt hv he
    have J2 : J (usI z 43002 (16 * s + egp S e) (nI l)) (stO f1 (egp S e) l) := by
      refine ⟨lbS_set j1, fun g hg h9 => ?_, fun g k hg hk h9 => ?_, fr_I2 j4 rfl, fun k hk => ?_⟩
      · rw [stO_ne (fun e9 => by rw [← e9, j2 g hg h9] at hn1; exact h9 hn1)]
        exact j2 g hg h9
      · by_cases e9 : g = egp S e
        · rw [e9, stO_at] at hk
          injection hk with hk
          rw [e9]
          exact ⟨hk.symm, hrt⟩
        · rw [stO_ne e9] at hk
          exact j3 g k hg hk h9
      · rw [show (usI z 43002 (16 * s + egp S e) (nI l)).2.1 43002 k = z.2.1 43002 k from po_usI_ne (fun e9 => hk (by omega))]
        exact j5 k hk
    have ev : e % 2 = 0 ∨ e % 2 = 1 := by omega
    refine u_X1_goRound_1 ?_; unfold cm_X1_goRound_1
    rw [i16]
    refine w_leF (a := 16) (by omega) (by omega) (w_crI ch_43002 rfl (by omega) ((j1 _ hge).trans (by rw [hn1]; rfl)) (w_ifT rfl (w_ctB ch_43002 rfl (by omega) ?_)))
    rw [show vp_nar .byte ((nI l).toInt8.toInt32) = nI l from (byt ⟨l, by omega⟩).1]
    rcases ev with h9 | h9
    · have e1 : egp S e = e / 2 := if_pos h9
      have := step e i _ he J2.2.2.2.1 (H _ J2)
      refine w_ifT (by rw [h9]; rfl) ?_
      rw [show nI (egp S e) = nI (e / 2) from by rw [e1]]
      rw [show nI (egp S e) = nI (e / 2) from by rw [e1]] at this
      rw [e1] at this ⊢
      exact this
    · have e1 : egp S e = S.2 (e / 2) := if_neg (by omega)
      have hn2 : S.1 (egp S e) = e / 2 := by rw [e1]; exact (hv _ (by omega)).2.2.2
      refine w_ifF (by rw [h9]; decide) (w_crI (nH_1 nH44) rfl (show egp S e < 24 by omega) ((hA _ J2.2.2.2.1).2.2.1 _) ?_)
      have e2 : ((c, ci, S, G) : ow_NT).2.2.1.1 (egp S e) = e / 2 := hn2
      rw [e2]
      exact step e i _ he J2.2.2.2.1 (H _ J2)
  have go : ∀ (d i ep e : Nat) (z : ow_MS) (f1 : Nat → Option Nat), i + d = 16 → 0 < i → i + ucn f1 (2 * c) ≤ 2 * c → J z f1 → wkL S G (tb s) c f1 l (p0E S (2 * g0)) ep e → rt (uPx S G (tb s) c) (egp S ep) = rt (uPx S G (tb s) c) g0 → Tt (fun K k => c_X1_goRound vl K k 1 (nI s) (nI g0) (nI l) (nI (egp S e)) (nI (e % 2)) (nI i) 0 0 43000 0 0 z) Q := by
    intro d
    induction d with
    | zero =>
      intro i ep e z f1 hi hi0 hu hJ hw hr
      have he := wkL_lt hv hw
      have hne := ucn_0 _ (show ucn f1 (2 * c) = 0 by omega) _ (egp_lt hv he)
      obtain ⟨j1, j2, j3, j4, j5⟩ := id hJ
      have g0e : egp S (p0E S (2 * g0)) = g0 := by
        rw [(p0E_i hv (by omega)).2.2.2]
        unfold egp
        rw [if_pos (by omega)]
        omega
      have := hw.2.2.2.2.1
      rw [g0e] at this
      refine u_X1_goRound_1 ?_; unfold cm_X1_goRound_1
      exact w_leT (a := 16) (by omega) (by omega) (w_some ⟨f1, j1, wkL_e hv hne hw, this, j2, j3, j4, j5⟩)
    | succ d ih =>
      intro i ep e z f1 hi hi0 hu hJ hw hr
      have he := wkL_lt hv hw
      have hge := egp_lt hv he
      have ce : rt (uPx S G (tb s) c) (egp S e) = rt (uPx S G (tb s) c) g0 := by
        rw [hw.2.2.1, (p0E_i hv (muE_lt hw.2.1)).2.2.2, ← muE_un hv hw.2.1]
        exact hr
      by_cases hn1 : f1 (egp S e) = none
      · have uc := ucn_st (l := l) hn1 (2 * c) hge
        exact mark e i z f1 (by omega) he hn1 hJ (fun z1 J1 => ih (i + 1) e _ z1 _ (by omega) (by omega) (by omega) J1 (wkL_s hv hn1 hw) ce) ce
      · obtain ⟨j1, j2, j3, j4, j5⟩ := id hJ
        have g0e : egp S (p0E S (2 * g0)) = g0 := by
          rw [(p0E_i hv (by omega)).2.2.2]
          unfold egp
          rw [if_pos (by omega)]
          omega
        have hgl := hw.2.2.2.2.1
        rw [g0e] at hgl
        obtain ⟨k, hk⟩ : ∃ k, f1 (egp S e) = some k := by
          cases hf1 : f1 (egp S e) with
          | none => exact absurd hf1 hn1
          | some k => exact ⟨k, rfl⟩
        have k16 : k < 16 := by
          by_cases hfn : f (egp S e) = none
          · have := (j3 _ k hge hk hfn).1
            omega
          · rw [j2 _ hge hfn] at hk
            exact hfl _ k hge hk
        refine u_X1_goRound_1 ?_; unfold cm_X1_goRound_1
        rw [i16]
        exact w_leF (a := 16) (by omega) (by omega) (w_crI ch_43002 rfl (by omega) ((j1 _ hge).trans (by rw [hk])) (w_ifF (oM_n (by omega)) (w_some ⟨f1, j1, wkL_e hv hn1 hw, hgl, j2, j3, j4, j5⟩)))
  have he0 := (p0E_i hv (show 2 * g0 < 4 * c by omega)).1
  have g0e : egp S (p0E S (2 * g0)) = g0 := by
    rw [(p0E_i hv (by omega)).2.2.2]
    unfold egp
    rw [if_pos (by omega)]
    omega
  have p2 : p0E S (2 * g0) % 2 = 1 := by
    have := (p0E_i hv (show 2 * g0 < 4 * c by omega)).2.2.1
    omega
  have uc := ucn_st (l := l) hn (2 * c) hg0
  have ul := ucn_le f (2 * c)
  have := mark (p0E S (2 * g0)) 0 y f (by omega) he0 (by rw [g0e]; exact hn) ⟨hf, fun g _ _ => rfl, fun g k _ hk h9 => (by rw [h9] at hk; cases hk), fr_rf, fun _ _ => rfl⟩ (fun z1 J1 => go 15 1 _ _ z1 _ (by omega) (by omega) (by rw [g0e]; omega) J1 (wkL_0 hv he0 (by rw [g0e]; exact hn) hcl) (by rw [g0e])) (by rw [g0e])
  rw [g0e, p2] at this
  refine e_X1_goRound ?_
  refine u_X1_goRound_0 ?_; unfold cm_X1_goRound_0
  exact this
end GOR
/-- what markLoops leaves of a state: labels, how many, a gap of each -/
def LpS (y : ow_MS) (S : ow_NP) (G : Nat → Int32) (c s : Nat) (L : Nat → Nat) (n : Nat) : Prop := (∀ g, g < 2 * c → y.2.1 43002 (16 * s + g) = nI (L g) ∧ L g < n) ∧ y.2.1 43003 s = nI n ∧ (∀ l, l < n → ∃ g, g < 2 * c ∧ y.2.1 43004 (10 * s + l) = nI g ∧ L g = l) ∧ (∀ g g', g < 2 * c → g' < 2 * c → (L g = L g' ↔ rt (uPx S G (tb s) c) g = rt (uPx S G (tb s) c) g')) ∧ n = rtsN (uPx S G (tb s) c) (2 * c)
section MLP
variable {vl : Nat → Nat} {y : ow_MS} {S : ow_NP} {G : Nat → Int32} {c ci : Nat}
theorem LpS_frS {z z1 : ow_MS} {s s' n : Nat} {L : Nat → Nat} (hne : s' ≠ s) (hc : c ≤ 8) (hn : n ≤ 10) (h : frS s z z1) (hL : LpS z S G c s' L n) : LpS z1 S G c s' L n := by
  obtain ⟨-, f2, f3, f4⟩ := h
  obtain ⟨h1, h2, h3, h4, h5⟩ := hL
  refine ⟨fun g hg => ?_, by rw [f3 s' hne]; exact h2, fun l hl => ?_, h4, h5⟩
  · rw [f2 (16 * s' + g) (by omega)]
    exact h1 g hg
  · obtain ⟨g, g1, g2, g3⟩ := h3 l hl
    exact ⟨g, g1, by rw [f4 (10 * s' + l) (by omega)]; exact g2, g3⟩
theorem rtsN_lab {p : Nat → Nat} {V n : Nat} {L : Nat → Nat} (hp : dn p) (h1 : ∀ g, g < V → L g < n) (h2 : ∀ l, l < n → ∃ g, g < V ∧ L g = l) (h3 : ∀ g g', g < V → g' < V → (L g = L g' ↔ rt p g = rt p g')) : n = rtsN p V := by
  refine Nat.le_antisymm ?_ ?_
  · have := rtsN_le (p1 := fun x => x) (p2 := p) (f := fun l => if h : l < n then Classical.choose (h2 l h) else 0) (V1 := n) (V2 := V) hp (fun l hl => ?_) (fun l l' hl hl' e => ?_)
    · have e : rtsN (fun x => x) n = n := by
        have : ∀ m, rtsN (fun x : Nat => x) m = m := by
          intro m
          induction m with
          | zero => rfl
          | succ m ih => rw [rtsN_s, ih, if_pos rfl]
        exact this n
      rw [e] at this
      exact this
    · rw [dif_pos hl]
      exact (Classical.choose_spec (h2 l hl)).1
    · rw [dif_pos hl, dif_pos hl'] at e
      have a := Classical.choose_spec (h2 l hl)
      have b := Classical.choose_spec (h2 l' hl')
      have := (h3 _ _ a.1 b.1).mpr e
      rw [a.2, b.2] at this
      rw [this]
  · unfold rtsN
    have e : (((List.range V).filter (fun g => decide (p g = g))).map L).length = ((List.range V).filter (fun g => decide (p g = g))).length := List.length_map _
    rw [← e]
    have := nodup_le (((List.range V).filter (fun g => decide (p g = g))).map L) (List.range n) (nodup_map (List.nodup_range.filter _) (fun a b ha hb e => ?_)) (fun l hl => ?_)
    · rw [List.length_range] at this
      exact this
    · obtain ⟨a1, a2⟩ := List.mem_filter.mp ha
      obtain ⟨b1, b2⟩ := List.mem_filter.mp hb
      have := (h3 a b (List.mem_range.mp a1) (List.mem_range.mp b1)).mp e
      rw [rt_root (of_decide_eq_true a2), rt_root (of_decide_eq_true b2)] at this
      exact this
    · obtain ⟨g, hg, rfl⟩ := List.mem_map.mp hl
      exact List.mem_range.mpr (h1 g (List.mem_range.mp (List.mem_filter.mp hg).1))
theorem u_X1_markLoops_1 {vl : Nat → Nat} {x1 : Int32} {x2 : Int32} {x3 : Int32} {x4 : Int32} {r0 : Nat} {z : ow_MS} {Q : ow_MS → Prop} (H : Tt (fun K k => cm_X1_markLoops_1 vl K (c_X1_markLoops vl K k) x1 x2 x3 x4 r0 z) Q) : Tt (fun K k => c_X1_markLoops vl K k 1 x1 x2 x3 x4 r0 z) Q := w_un (fun _ _ => rfl) H
theorem u_X1_markLoops_2 {vl : Nat → Nat} {x1 : Int32} {x2 : Int32} {x3 : Int32} {x4 : Int32} {r0 : Nat} {z : ow_MS} {Q : ow_MS → Prop} (H : Tt (fun K k => cm_X1_markLoops_2 vl K (c_X1_markLoops vl K k) x1 x2 x3 x4 r0 z) Q) : Tt (fun K k => c_X1_markLoops vl K k 2 x1 x2 x3 x4 r0 z) Q := w_un (fun _ _ => rfl) H
theorem u_X1_markLoops_3 {vl : Nat → Nat} {x1 : Int32} {x2 : Int32} {x3 : Int32} {x4 : Int32} {r0 : Nat} {z : ow_MS} {Q : ow_MS → Prop} (H : Tt (fun K k => cm_X1_markLoops_3 vl K (c_X1_markLoops vl K k) x1 x2 x3 x4 r0 z) Q) : Tt (fun K k => c_X1_markLoops vl K k 3 x1 x2 x3 x4 r0 z) Q := w_un (fun _ _ => rfl) H
theorem e_X1_markLoops {vl : Nat → Nat} {r0 : Nat} {z : ow_MS} {Q : ow_MS → Prop} (H : Tt (fun K k => c_X1_markLoops vl K k 0 0 0 0 0 r0 z) Q) : Te (fun K => ce_X1_markLoops vl K r0 z) Q := w_te H
theorem u_X1_markLoops_0 {vl : Nat → Nat} {x1 : Int32} {x2 : Int32} {x3 : Int32} {x4 : Int32} {r0 : Nat} {z : ow_MS} {Q : ow_MS → Prop} (H : Tt (fun K k => cm_X1_markLoops_0 vl K (c_X1_markLoops vl K k) x1 x2 x3 x4 r0 z) Q) : Tt (fun K k => c_X1_markLoops vl K k 0 x1 x2 x3 x4 r0 z) Q := w_un (fun _ _ => rfl) H
theorem tc_markLoops (hy : cAt y 44000 (c, ci, S, G)) (hv : vn c S) (hc : c ≤ 8) (hB : ∀ s, s < 2 ^ c → rtsN (uPx S G (tb s) c) (2 * c) ≤ 9) : Te (fun K => ce_X1_markLoops vl K 43000 y) (fun y1 => (∀ s, s < 2 ^ c → ∃ L n, LpS y1 S G c s L n) ∧ fr (fun g => g = 43002 ∨ g = 43003 ∨ g = 43004) y y1) := by
  let Q : ow_MS → Prop := fun y1 => (∀ s, s < 2 ^ c → ∃ L n, LpS y1 S G c s L n) ∧ fr (fun g => g = 43002 ∨ g = 43003 ∨ g = 43004) y y1
  have h2c : 2 ^ c ≤ 256 := two_mono (b := 8) hc
  have hA : ∀ z, fr (fun g => g = 43002 ∨ g = 43003 ∨ g = 43004) y z → cAt z 44000 (c, ci, S, G) := fun z h => cAt_fr h (fun g hg h9 => by unfold cP at hg; omega) hy
  have c1 : ∀ (d s : Nat) (z : ow_MS), s + d = 2 ^ c → (∀ s', s' < s → ∃ L n, LpS z S G c s' L n) → fr (fun g => g = 43002 ∨ g = 43003 ∨ g = 43004) y z → Tt (fun K k => c_X1_markLoops vl K k 1 (nI (2 * c)) (nI s) 0 0 43000 z) Q := by
    intro d
    induction d with
    | zero =>
      intro s z hs hL hf
      refine u_X1_markLoops_1 ?_; unfold cm_X1_markLoops_1
      refine w_rdF (hA z hf).1 ?_
      rw [shl1 (show ((c, ci, S, G) : ow_NT).1 < 31 by show c < 31; omega)]
      exact w_leT (by show s < 2 ^ 31; omega) (show 2 ^ c ≤ s by omega) (w_some ⟨fun s' hs' => hL s' (by omega), hf⟩)
    | succ d ih =>
      intro s z hs hL hf
      -- gaps below g are marked, n labels so far
      have c2 : ∀ (e g n : Nat) (f : Nat → Option Nat) (z1 : ow_MS), g + e = 2 * c → n ≤ g → lbS z1 s c f → clL S G (tb s) c f → (∀ k, k < g → f k ≠ none) → (∀ k l, k < 2 * c → f k = some l → l < n) → (∀ l, l < n → ∃ k, k < 2 * c ∧ z1.2.1 43004 (10 * s + l) = nI k ∧ f k = some l) → (∀ k k' l, k < 2 * c → k' < 2 * c → f k = some l → f k' = some l → rt (uPx S G (tb s) c) k = rt (uPx S G (tb s) c) k') → frS s z z1 → Tt (fun K k => c_X1_markLoops vl K k 2 (nI (2 * c)) (nI s) (nI n) (nI g) 43000 z1) Q := by
        intro e
        induction e with
        | zero =>
          intro g n f z1 hg hng hl hcl hm hln hgap hsame hfr
          have hg : g = 2 * c := by omega
          subst hg
          have hall : ∀ g, g < 2 * c → f g ≠ none := hm
          have fr1 : fr (fun g => g = 43002 ∨ g = 43003 ∨ g = 43004) y z1 := fr_tr hf hfr.1
          have hex : ∀ g, g < 2 * c → ∃ l, f g = some l := fun g hg => by
            cases hfg : f g with
            | none => exact absurd hfg (hall g hg)
            | some l => exact ⟨l, rfl⟩
          have hLp : LpS (usI z1 43003 s (nI n)) S G c s (fun g => (f g).getD 0) n := by
            have k1 : ∀ g, g < 2 * c → (f g).getD 0 < n := fun g hg => by
              obtain ⟨l, hl2⟩ := hex g hg
              rw [hl2]
              exact hln g l hg hl2
            have k3 : ∀ g g', g < 2 * c → g' < 2 * c → ((f g).getD 0 = (f g').getD 0 ↔ rt (uPx S G (tb s) c) g = rt (uPx S G (tb s) c) g') := by
              intro g g' hg hg'
              obtain ⟨l, e1⟩ := hex g hg
              obtain ⟨l', e2⟩ := hex g' hg'
              constructor
              · intro h9
                rw [e1, e2] at h9
                have h9 : l = l' := h9
                rw [← h9] at e2
                exact hsame g g' l hg hg' e1 e2
              · intro h9
                rw [clL_un hv hcl hall hg hg' h9]
            refine ⟨fun g hg => ⟨rd_ot (by omega) ?_, k1 g hg⟩, po_usI_at, fun l hl2 => ?_, k3, rtsN_lab (uPx_dn c) k1 (fun l hl2 => ?_) k3⟩
            · obtain ⟨l, e1⟩ := hex g hg
              dsimp only
              rw [hl g hg, e1]
              rfl
            · obtain ⟨k, q1, q2, q3⟩ := hgap l hl2
              exact ⟨k, q1, rd_ot (by omega) q2, by dsimp only; rw [q3]; rfl⟩
            · obtain ⟨k, q1, q2, q3⟩ := hgap l hl2
              exact ⟨k, q1, by rw [q3]; rfl⟩
          refine u_X1_markLoops_2 ?_; unfold cm_X1_markLoops_2
          refine w_leT (by omega) (by omega) (w_ctI ch_43003 rfl (by omega) ?_)
          rw [nI_1]
          refine ih (s + 1) _ (by omega) (fun s' hs' => ?_) (fr_tr fr1 frS_3.1)
          by_cases e9 : s' = s
          · rw [e9]
            exact ⟨_, n, hLp⟩
          · obtain ⟨L, n', hLs⟩ := hL s' (by omega)
            have hn' : n' ≤ 10 := by
              have := hB s' (by omega)
              rw [hLs.2.2.2.2]
              omega
            exact ⟨L, n', LpS_frS e9 hc hn' (frS_tr hfr frS_3) hLs⟩
        | succ e ihe =>
          intro g n f z1 hg hng hl hcl hm hln hgap hsame hfr
          have hgc : g < 2 * c := by omega
          have n9 : n ≤ 9 := by
            have := rtsN_le (p1 := fun x => x) (p2 := uPx S G (tb s) c) (f := fun l => if h : l < n then Classical.choose (hgap l h) else 0) (V1 := n) (V2 := 2 * c) (uPx_dn c) (fun l hl2 => ?_) (fun l l' hl2 hl2' e9 => ?_)
            · have e9 : rtsN (fun x : Nat => x) n = n := by
                have : ∀ m, rtsN (fun x : Nat => x) m = m := by
                  intro m
                  induction m with
                  | zero => rfl
                  | succ m ih => rw [rtsN_s, ih, if_pos rfl]
                exact this n
              rw [e9] at this
              exact Nat.le_trans this (hB s (by omega))
            · rw [dif_pos hl2]
              exact (Classical.choose_spec (hgap l hl2)).1
            · rw [dif_pos hl2, dif_pos hl2'] at e9
              have a := Classical.choose_spec (hgap l hl2)
              have b := Classical.choose_spec (hgap l' hl2')
              have key : l = l' := by
                have key := uPx_min (M := fun k => (f k).getD n) hv (fun x hx => ?_) c (Nat.le_refl _) _ _ a.1 b.1 e9
                · have key : (f (Classical.choose (hgap l hl2))).getD n = (f (Classical.choose (hgap l' hl2'))).getD n := key
                  rw [a.2.2, b.2.2] at key
                  exact key
                · exact clL_gd hcl hx
              rw [key]
          have hfl : ∀ k l, k < 2 * c → f k = some l → l < 16 := fun k l hk h9 => by
            have := hln k l hk h9
            omega
          have fr1 : fr (fun g => g = 43002 ∨ g = 43003 ∨ g = 43004) y z1 := fr_tr hf hfr.1
          have c3 : ∀ (n' : Nat) (f' : Nat → Option Nat) (z2 : ow_MS), n' ≤ g + 1 → lbS z2 s c f' → clL S G (tb s) c f' → (∀ k, k < g + 1 → f' k ≠ none) → (∀ k l, k < 2 * c → f' k = some l → l < n') → (∀ l, l < n' → ∃ k, k < 2 * c ∧ z2.2.1 43004 (10 * s + l) = nI k ∧ f' k = some l) → (∀ k k' l, k < 2 * c → k' < 2 * c → f' k = some l → f' k' = some l → rt (uPx S G (tb s) c) k = rt (uPx S G (tb s) c) k') → frS s z z2 → Tt (fun K k => c_X1_markLoops vl K k 3 (nI (2 * c)) (nI s) (nI n') (nI g) 43000 z2) Q := by
            intro n' f' z2 a1 a2 a3 a4 a5 a6 a7 a8
            refine u_X1_markLoops_3 ?_; unfold cm_X1_markLoops_3
            rw [nI_1]
            exact ihe (g + 1) n' f' z2 (by omega) a1 a2 a3 a4 a5 a6 a7 a8
          by_cases hfg : f g = none
          · refine u_X1_markLoops_2 ?_; unfold cm_X1_markLoops_2
            rw [i16, i10]
            refine w_leF (by omega) (by omega) (w_crI ch_43002 rfl (by omega) ((hl g hgc).trans (by rw [hfg]; rfl)) (w_ifT rfl (w_ctB ch_43004 rfl (by omega) ?_)))
            rw [show vp_nar .byte ((nI g).toInt8.toInt32) = nI g from (byt ⟨g, by omega⟩).1]
            have fz : frS s z1 (usI z1 43004 (10 * s + n) (nI g)) := frS_4 (by omega)
            refine w_cs0 (tc_goRound (ci := ci) (hA _ (fr_tr fr1 fz.1)) hv hc (by omega) (show n < 16 by omega) hgc (fun k hk => rd_ot (by omega) (hl k hk)) hfg hcl hfl) ?_
            rintro z2 ⟨f1, g1, g2, g3, g4, g5, g6, g7⟩
            have fz2 : frS s (usI z1 43004 (10 * s + n) (nI g)) z2 := ⟨fr_mono (fun q hq => Or.inl hq) g6, g7, fun i _ => by rw [(g6 43003 (by decide)).2.1], fun i _ => by rw [(g6 43004 (by decide)).2.1]⟩
            rw [nI_1]
            refine c3 (n + 1) f1 z2 (by omega) g1 g2 (fun k hk => ?_) (fun k l hk h9 => ?_) (fun l hl2 => ?_) (fun k k' l hk hk' h9 h8 => ?_) (frS_tr hfr (frS_tr fz fz2))
            · by_cases e9 : k = g
              · rw [e9, g3]
                simp
              · rw [g4 k (by omega) (hm k (by omega))]
                exact hm k (by omega)
            · by_cases hfk : f k = none
              · have := (g5 k l hk h9 hfk).1
                omega
              · rw [g4 k hk hfk] at h9
                have := hln k l hk h9
                omega
            · rw [(g6 43004 (by decide)).2.1]
              by_cases e9 : l = n
              · rw [e9]
                exact ⟨g, hgc, po_usI_at, g3⟩
              · obtain ⟨k, q1, q2, q3⟩ := hgap l (by omega)
                refine ⟨k, q1, rd_ne (by omega) q2, ?_⟩
                rw [g4 k q1 (by rw [q3]; simp)]
                exact q3
            · by_cases hfk : f k = none
              · obtain ⟨e1, r1⟩ := g5 k l hk h9 hfk
                by_cases hfk' : f k' = none
                · rw [r1, (g5 k' l hk' h8 hfk').2]
                · rw [g4 k' hk' hfk'] at h8
                  have := hln k' l hk' h8
                  omega
              · rw [g4 k hk hfk] at h9
                have hlt := hln k l hk h9
                by_cases hfk' : f k' = none
                · have := (g5 k' l hk' h8 hfk').1
                  omega
                · rw [g4 k' hk' hfk'] at h8
                  exact hsame k k' l hk hk' h9 h8
          · obtain ⟨l0, hl0⟩ : ∃ l, f g = some l := by
              cases h9 : f g with
              | none => exact absurd h9 hfg
              | some l => exact ⟨l, rfl⟩
            have hl016 := hfl g l0 hgc hl0
            refine u_X1_markLoops_2 ?_; unfold cm_X1_markLoops_2
            rw [i16]
            refine w_leF (by omega) (by omega) (w_crI ch_43002 rfl (by omega) ((hl g hgc).trans (by rw [hl0])) (w_ifF (oM_n (by omega)) (c3 n f z1 (by omega) hl hcl (fun k hk => ?_) hln hgap hsame hfr)))
            by_cases e9 : k = g
            · rw [e9]
              exact hfg
            · exact hm k (by omega)
      refine u_X1_markLoops_1 ?_; unfold cm_X1_markLoops_1
      refine w_rdF (hA z hf).1 ?_
      rw [shl1 (show ((c, ci, S, G) : ow_NT).1 < 31 by show c < 31; omega), show nI s * (16 : Int32) = nI (16 * s) from by rw [show nI s * (16 : Int32) = nI (s * 16) from pk_mul _ 16, Nat.mul_comm], nI_add]
      refine w_leF (show 2 ^ c < 2 ^ 31 by omega) (show s < 2 ^ c by omega) (w_cs0 (tc_fillB ch_43002 (by omega) (by omega) (by omega) m1b) ?_)
      rintro z1 ⟨g1, g2⟩
      refine c2 (2 * c) 0 0 (fun _ => none) z1 (by omega) (by omega) (fun g hg => ?_) (fun d l _ h9 => by cases h9) (fun k hk => absurd hk (by omega)) (fun k l _ h9 => by cases h9) (fun l hl2 => absurd hl2 (by omega)) (fun k k' l _ _ h9 => by cases h9) ⟨fr_mono (fun q hq => Or.inl hq) g2, fun i hi => ?_, fun i _ => by rw [(g2 43003 (by decide)).2.1], fun i _ => by rw [(g2 43004 (by decide)).2.1]⟩
      · rw [g1, if_pos (by omega)]
        rfl
      · rw [g1, if_neg (by omega)]
  refine e_X1_markLoops ?_
  refine u_X1_markLoops_0 ?_; unfold cm_X1_markLoops_0
  refine w_rdF hy.1 ?_
  rw [rn_mul2]
  exact c1 (2 ^ c) 0 y (by omega) (fun s' hs' => absurd hs' (by omega)) fr_rf
end MLP
end
