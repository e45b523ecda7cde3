/-! public methods of the reference: smooth, apart, join -/
section PUBC
variable {X : (Nat → Nat → Int32) → Prop} {z : ow_MS}
theorem ok_has {A : rn_L} {c x : Nat} (h : okF A.flatten c) (hx : x < c) : ∃ t, t < A.flatten.length ∧ crs A t = x := by
  have hm := (h.2 (x, 0)).mpr ⟨hx, by simp⟩
  obtain ⟨t, ht, e⟩ := List.getElem_of_mem hm
  refine ⟨t, ht, ?_⟩
  unfold crs
  rw [vAt_eq (List.getElem?_eq_getElem ht), e]
theorem crs_mtf {A : rn_L} {v : Nat} (hd : rn_ok A.flatten) (hv : v < A.flatten.length) : crs A (mtf A v) = crs A v := by
  obtain ⟨-, p, q, h1, h2, h3⟩ := mtf_mt hd hv
  unfold crs
  rw [vAt_eq h1, vAt_eq h2, h3]
theorem mtf_ne {A : rn_L} {v : Nat} (hd : rn_ok A.flatten) (hv : v < A.flatten.length) : mtf A v ≠ v := fun e => (mtf_mt hd hv).1 e.symm
/-- what smoothIn makes may be kept -/
theorem sm_net {z2 z3 : ow_MS} {A : rn_L} {sg : Nat → Bool} {v q : Nat} (o1 : oNet z2 1000 A sg) (hv : v < A.flatten.length) (hq : q ≤ 6) (s3 : ∀ x, x < 40 → z3.2.1 3006 x = z2.2.1 1006 x) (b3 : bmE z3 3000 A (fun j => j < A.flatten.length ∧ j ≠ v ∧ j ≠ mtf A v) q) : mNet z3 3000 := by
  have hd := wkF_ok o1.wk
  have hc : ∀ j, (j < A.flatten.length ∧ j ≠ v ∧ j ≠ mtf A v) → mtf A j < A.flatten.length ∧ mtf A j ≠ v ∧ mtf A j ≠ mtf A v := by
    intro j hj
    refine ⟨mtf_lt hd hj.1, fun e9 => ?_, fun e9 => ?_⟩
    · have := mtf_mtf hd hj.1
      rw [e9] at this
      exact hj.2.2 this.symm
    · have h5 := mtf_mtf hd hj.1
      rw [e9, mtf_mtf hd hv] at h5
      exact hj.2.1 h5.symm
  have hs : ∀ j, (j < A.flatten.length ∧ j ≠ v ∧ j ≠ mtf A v) → s1 (z3.2.1 (3000 + 6) (crs A j)) := by
    intro j hj
    obtain ⟨x1, x2, x3⟩ := o1.cx hj.1
    show s1 (z3.2.1 3006 (crs A j))
    rw [s3 _ (by omega)]
    exact s1_if x3
  exact bmE_net o1.wk o1.len hq (fun j hj => hj.1) hc hs b3
theorem e_X13_smooth {x1 : Int32} {x2 : Int32} {z : ow_MS} {Q : (Int32 × ow_MS) → Prop} (H : Tt (fun K k => q_X13_smooth K k 0 x1 x2 0 z) Q) : Te (fun K => qe_X13_smooth K x1 x2 z) Q := w_te H
theorem u_X13_smooth_0 {x1 : Int32} {x2 : Int32} {x3 : Int32} {z : ow_MS} {Q : (Int32 × ow_MS) → Prop} (H : Tt (fun K k => qm_X13_smooth_0 K (q_X13_smooth K k) x1 x2 x3 z) Q) : Tt (fun K k => q_X13_smooth K k 0 x1 x2 x3 z) Q := w_un (fun _ _ => rfl) H
theorem u_X13_smooth_1 {x1 : Int32} {x2 : Int32} {x3 : Int32} {z : ow_MS} {Q : (Int32 × ow_MS) → Prop} (H : Tt (fun K k => qm_X13_smooth_1 K (q_X13_smooth K k) x1 x2 x3 z) Q) : Tt (fun K k => q_X13_smooth K k 1 x1 x2 x3 z) Q := w_un (fun _ _ => rfl) H
theorem u_X13_smooth_2 {x1 : Int32} {x2 : Int32} {x3 : Int32} {z : ow_MS} {Q : (Int32 × ow_MS) → Prop} (H : Tt (fun K k => qm_X13_smooth_2 K (q_X13_smooth K k) x1 x2 x3 z) Q) : Tt (fun K k => q_X13_smooth K k 2 x1 x2 x3 z) Q := w_un (fun _ _ => rfl) H
theorem tp_smooth {d x : Int32} (h : gI X z) : Te (fun K => qe_X13_smooth K d x z) (fun r => gI X r.2) := by
  have h1 := gI_1 (c := 0) h
  refine e_X13_smooth ?_
  refine u_X13_smooth_0 ?_; unfold qm_X13_smooth_0
  refine w_wrF (w_has h1.2.1 (w_ifT rfl (w_fail h1)) (fun e A sg he hx hv hne => w_ifF (by decide) ?_))
  subst hx
  refine w_cs0 (to_open pn1 he hv) (fun z2 ⟨o1, f1⟩ => ?_)
  have h2 : gI X z2 := gI_net pn1 f1 (fun g hg => by omega) h1
  have hl := o1.len
  have hC := o1.2.2.2
  have hd := wkF_ok o1.wk
  have c1 : Tt (fun K k => q_X13_smooth K k 1 (nI e) x 0 z2) (fun r => gI X r.2) := by
    refine u_X13_smooth_1 ?_; unfold qm_X13_smooth_1
    exact w_fail h2
  refine w_if (fun _ => c1) (fun h0 => w_rdF o1.1.V (w_nzI (by decide) ?_))
  rw [show nI A.flatten.length / 2 = nI (A.flatten.length / 2) from pk_div (d := 2) (by omega) (by omega) (by omega)]
  refine w_if (fun h9 => ?_) (fun _ => c1)
  obtain ⟨y, hy31, rfl⟩ := nI_of h0
  have hy : y < A.flatten.length / 2 := (nI_ltI hy31 (by omega)).mp h9
  obtain ⟨c, hok, hc12⟩ := o1.2.2.1
  have hVc := okF_len hok
  obtain ⟨t, ht1, ht2⟩ := ok_has hok (x := y) (by omega)
  have find : ∀ (k v : Nat), v + k = t → (∀ j, j < v → crs A j ≠ y) → Tt (fun K i => q_X13_smooth K i 2 (nI e) (nI y) (nI v) z2) (fun r => gI X r.2) := by
    intro k
    induction k with
    | zero =>
      intro v hv9 hall
      have hvt : v = t := by omega
      subst hvt
      obtain ⟨g1, g2, g3⟩ := rn_c_in A v ht1
      have hml := mtf_lt hd ht1
      have hmc := crs_mtf hd ht1
      have hmn := mtf_ne hd ht1
      have hvm : v < mtf A v := by
        rcases Nat.lt_or_ge (mtf A v) v with h8 | h8
        · exact absurd (hmc.trans ht2) (hall _ h8)
        · omega
      refine u_X13_smooth_2 ?_; unfold qm_X13_smooth_2
      refine w_rdI (pl4 pn1) rfl (by omega) (lk_cu o1.1 ht1).1 (w_ifT (by rw [ht2]) (w_rdI (pl8 pn1) rfl (by omega) (lk_c o1.1 ht1) (w_rdI (pl7 pn1) rfl (by omega) (lk_m hd o1.1 ht1) (w_cs0 (tp_smoothIn pn1 pn3 (by omega) hl (by omega) o1.1.1 g1 g2 g3 hvm hml) (fun z3 ⟨⟨q, hq, b3⟩, s3, f3⟩ => ?_)))))
      have h3 : gI X z3 := gI_net pn3 f3 (fun g hg => by omega) h2
      have hq3 : z3.1 3002 = nI q := by
        obtain ⟨C, k1, k2, -⟩ := b3
        rw [k2.2.1, List.length_map, k1]
      refine w_rdF hq3 (w_le (b := 6) (by omega) (by omega) (fun h8 => w_free (w_ifT rfl (w_fail h3)) (fun f hf hfr => w_ifF (rn_neg1 (by omega)) (w_keep h3 hfr (sm_net o1 ht1 h8 s3 b3)))) (fun h8 => w_fail h3))
    | succ k ih =>
      intro v hv9 hall
      have hvl : v < A.flatten.length := by omega
      by_cases hcv : crs A v = y
      · have hvt : v < t := by omega
        -- the first visit is found before t
        obtain ⟨g1, g2, g3⟩ := rn_c_in A v hvl
        have hml := mtf_lt hd hvl
        have hmc := crs_mtf hd hvl
        have hmn := mtf_ne hd hvl
        have hvm : v < mtf A v := by
          rcases Nat.lt_or_ge (mtf A v) v with h8 | h8
          · exact absurd (hmc.trans hcv) (hall _ h8)
          · omega
        refine u_X13_smooth_2 ?_; unfold qm_X13_smooth_2
        refine w_rdI (pl4 pn1) rfl (by omega) (lk_cu o1.1 hvl).1 (w_ifT (by rw [hcv]) (w_rdI (pl8 pn1) rfl (by omega) (lk_c o1.1 hvl) (w_rdI (pl7 pn1) rfl (by omega) (lk_m hd o1.1 hvl) (w_cs0 (tp_smoothIn pn1 pn3 (by omega) hl (by omega) o1.1.1 g1 g2 g3 hvm hml) (fun z3 ⟨⟨q, hq, b3⟩, s3, f3⟩ => ?_)))))
        have h3 : gI X z3 := gI_net pn3 f3 (fun g hg => by omega) h2
        have hq3 : z3.1 3002 = nI q := by
          obtain ⟨C, k1, k2, -⟩ := b3
          rw [k2.2.1, List.length_map, k1]
        refine w_rdF hq3 (w_le (b := 6) (by omega) (by omega) (fun h8 => w_free (w_ifT rfl (w_fail h3)) (fun f hf hfr => w_ifF (rn_neg1 (by omega)) (w_keep h3 hfr (sm_net o1 hvl h8 s3 b3)))) (fun h8 => w_fail h3))
      · have hx12 := (o1.cx hvl).1
        refine u_X13_smooth_2 ?_; unfold qm_X13_smooth_2
        refine w_rdI (pl4 pn1) rfl (by omega) (lk_cu o1.1 hvl).1 (w_ifF (fun e9 => hcv ((nI_eq (by omega) (by omega)).mp e9)) ?_)
        rw [nI_1]
        refine ih (v + 1) (by omega) (fun j hj => ?_)
        by_cases hjv : j = v
        · rw [hjv]; exact hcv
        · exact hall j (by omega)
  exact find t 0 (by omega) (fun j hj => by omega)
/-! two nets side by side -/
def A12 (A B : rn_L) (s : Nat) : rn_L := A ++ shN s B
theorem A12_len {A B : rn_L} {s : Nat} : (A12 A B s).flatten.length = A.flatten.length + B.flatten.length := by
  unfold A12
  rw [List.flatten_append, List.length_append, shN_fl, List.length_map]
theorem A12_l {A B : rn_L} {s i : Nat} (hi : i < A.flatten.length) : vAt (A12 A B s) i = vAt A i := by
  refine vAt_eq ?_
  unfold A12
  rw [List.flatten_append, List.getElem?_append_left hi]
  exact vAt_of hi
theorem A12_r {A B : rn_L} {s i : Nat} (hi : i < B.flatten.length) : vAt (A12 A B s) (A.flatten.length + i) = ((vAt B i).1 + s, (vAt B i).2) := by
  refine vAt_eq ?_
  unfold A12
  rw [List.flatten_append, List.getElem?_append_right (by omega), Nat.add_sub_cancel_left, shN_fl, List.getElem?_map, vAt_of hi]
  rfl
theorem A12_ok {A B : rn_L} {a b : Nat} (hA : okF A.flatten a) (hB : okF B.flatten b) : okF (A12 A B a).flatten (a + b) := by
  have h1 : okB A.flatten 0 a := ⟨hA.1, fun p => by rw [hA.2]; omega⟩
  have h2 : okB (shN a B).flatten (0 + a) b := by rw [Nat.zero_add]; exact okF_sh hB
  have h3 := okB_app h1 h2
  unfold A12
  rw [List.flatten_append]
  exact ⟨h3.1, fun p => by rw [h3.2]; omega⟩
theorem u_X13_addNet_3 {x2 : Int32} {x3 : Int32} {x4 : Int32} {r1 : Nat} {z : ow_MS} {Q : ow_MS → Prop} (H : Tt (fun K k => qm_X13_addNet_3 K (q_X13_addNet K k) x2 x3 x4 r1 z) Q) : Tt (fun K k => q_X13_addNet K k 3 x2 x3 x4 r1 z) Q := w_un (fun _ _ => rfl) H
theorem u_X13_addNet_1 {x2 : Int32} {x3 : Int32} {x4 : Int32} {r1 : Nat} {z : ow_MS} {Q : ow_MS → Prop} (H : Tt (fun K k => qm_X13_addNet_1 K (q_X13_addNet K k) x2 x3 x4 r1 z) Q) : Tt (fun K k => q_X13_addNet K k 1 x2 x3 x4 r1 z) Q := w_un (fun _ _ => rfl) H
theorem u_X13_addNet_2 {x2 : Int32} {x3 : Int32} {x4 : Int32} {r1 : Nat} {z : ow_MS} {Q : ow_MS → Prop} (H : Tt (fun K k => qm_X13_addNet_2 K (q_X13_addNet K k) x2 x3 x4 r1 z) Q) : Tt (fun K k => q_X13_addNet K k 2 x2 x3 x4 r1 z) Q := w_un (fun _ _ => rfl) H
theorem e_X13_addNet {r1 : Nat} {x2 : Int32} {z : ow_MS} {Q : ow_MS → Prop} (H : Tt (fun K k => q_X13_addNet K k 0 x2 0 0 r1 z) Q) : Te (fun K => qe_X13_addNet K r1 x2 z) Q := w_te H
theorem u_X13_addNet_0 {x2 : Int32} {x3 : Int32} {x4 : Int32} {r1 : Nat} {z : ow_MS} {Q : ow_MS → Prop} (H : Tt (fun K k => qm_X13_addNet_0 K (q_X13_addNet K k) x2 x3 x4 r1 z) Q) : Tt (fun K k => q_X13_addNet K k 0 x2 x3 x4 r1 z) Q := w_un (fun _ _ => rfl) H
theorem tp_addNet {o s q V0 c : Nat} {z : ow_MS} {A B : rn_L} {sg : Nat → Bool} (ho : mw_net o) (hon : o ≠ 3000) (hO : oNet z o B sg) (hok : okF B.flatten c) (hl : (A12 A B s).flatten.length ≤ 24) (hq : q + B.length ≤ 12) (hs : s + c ≤ 24) (hV : V0 = A.flatten.length) (hb : bmE z 3000 (A12 A B s) (fun j => j < V0) q) : Te (fun K => qe_X13_addNet K o (nI s) z) (fun z1 => bmE z1 3000 (A12 A B s) (fun j => j < (A12 A B s).flatten.length) (q + B.length) ∧ fr (fun g => 3001 ≤ g ∧ g ≤ 3006) z z1 ∧ (∀ x, x < c → z1.2.1 3006 (x + s) = z.2.1 (o + 6) x) ∧ ∀ x, x < s → z1.2.1 3006 x = z.2.1 3006 x) := by
  have hmo := net_mod ho
  have hlen := A12_len (A := A) (B := B) (s := s)
  have hBc := okF_len hok
  have oY : ∀ {y : ow_MS}, fr (fun g => 3001 ≤ g ∧ g ≤ 3006) z y → oNet y o B sg := fun hf => oNet_fr hf (fun g hg => by omega) hO
  let Q : ow_MS → Prop := fun z1 => bmE z1 3000 (A12 A B s) (fun j => j < (A12 A B s).flatten.length) (q + B.length) ∧ fr (fun g => 3001 ≤ g ∧ g ≤ 3006) z z1 ∧ (∀ x, x < c → z1.2.1 3006 (x + s) = z.2.1 (o + 6) x) ∧ ∀ x, x < s → z1.2.1 3006 x = z.2.1 3006 x
  have l3 : ∀ (k x : Nat) (y : ow_MS), x + k = c → fr (fun g => 3001 ≤ g ∧ g ≤ 3006) z y → bmE y 3000 (A12 A B s) (fun j => j < (A12 A B s).flatten.length) (q + B.length) → (∀ x', x' < x → y.2.1 3006 (x' + s) = z.2.1 (o + 6) x') → (∀ x, x < s → y.2.1 3006 x = z.2.1 3006 x) → Tt (fun K i => q_X13_addNet K i 3 (nI s) (nI x) 0 o y) Q := by
    intro k
    induction k with
    | zero =>
      intro x y hx hf hb h1 h2
      refine u_X13_addNet_3 ?_; unfold qm_X13_addNet_3
      refine w_rdF (oY hf).1.V (w_nzI (by decide) ?_)
      rw [show nI B.flatten.length / 2 = nI (B.flatten.length / 2) from pk_div (d := 2) (by omega) (by omega) (by omega)]
      exact w_leT (by omega) (by omega) (w_some ⟨hb, hf, fun x' hx' => h1 x' (by omega), h2⟩)
    | succ k ih =>
      intro x y hx hf hb h1 h2
      refine u_X13_addNet_3 ?_; unfold qm_X13_addNet_3
      refine w_rdF (oY hf).1.V (w_nzI (by decide) ?_)
      rw [show nI B.flatten.length / 2 = nI (B.flatten.length / 2) from pk_div (d := 2) (by omega) (by omega) (by omega), nI_add, nI_1]
      refine w_leF (by omega) (by omega) (w_rdI (pl6 ho) rfl (by omega) rfl (w_wrI (pl6 pn3) rfl (by omega) ?_))
      refine ih (x + 1) _ (by omega) (fr_I2 hf (by omega)) (bmE_fr (F := fun g => g = 3006) (fr_I rfl) (fun g hg => by omega) hb) (fun x' hx' => ?_) (fun x' hx' => rd_ne (by omega) (h2 x' hx'))
      by_cases he : x' = x
      · rw [he]
        show (usI y 3006 (x + s) (y.2.1 (o + 6) x)).2.1 3006 (x + s) = _
        rw [po_usI_at, (hf (o + 6) (by omega)).2.1]
      · exact rd_ne (by omega) (h1 x' (by omega))
  have out : ∀ (k m : Nat) (y : ow_MS), m + k = B.length → fr (fun g => 3001 ≤ g ∧ g ≤ 3006) z y → y.2.1 3006 = z.2.1 3006 → bmE y 3000 (A12 A B s) (fun j => j < V0 + rn_b B m) (q + m) → Tt (fun K i => q_X13_addNet K i 1 (nI s) (nI m) 0 o y) Q := by
    intro k
    induction k with
    | zero =>
      intro m y hm hf h6 hb
      have hme : m = B.length := by omega
      rw [hme, rn_b_len] at hb
      refine u_X13_addNet_1 ?_; unfold qm_X13_addNet_1
      exact w_rdF (lk_C (oY hf).1) (w_leT (by omega) (by omega) (l3 c 0 y (by omega) hf (bmE_eq hb (fun j => by omega)) (fun x hx => by omega) (fun x _ => by rw [h6])))
    | succ k ih =>
      intro m y hm hf h6 hb
      have hmono := rn_b_mono B m
      have hble := rn_b_le B (m + 1)
      have inn : ∀ (k i : Nat) (y : ow_MS), i + k = rn_b B (m + 1) → rn_b B m ≤ i → fr (fun g => 3001 ≤ g ∧ g ≤ 3006) z y → y.2.1 3006 = z.2.1 3006 → bm y 3000 (A12 A B s) (fun j => j < V0 + i) (q + m) → Tt (fun K i9 => q_X13_addNet K i9 2 (nI s) (nI m) (nI i) o y) Q := by
        intro k
        induction k with
        | zero =>
          intro i y hi hlo hf h6 hb
          have hie : i = rn_b B (m + 1) := by omega
          rw [hie] at hb ⊢
          refine u_X13_addNet_2 ?_; unfold qm_X13_addNet_2
          rw [nI_1]
          exact w_rdI (pl3 ho) rfl (by omega) (lk_b (oY hf).1 (by omega)) (w_leT (by omega) (Nat.le_refl _) (w_cs0 (bm_end pn3 (by omega) hb) (fun y2 ⟨g1, g2⟩ => ih (m + 1) y2 (by omega) (fr_tr hf (fr_mono (fun g hg => by omega) g2)) (by rw [(g2 3006 (by omega)).2.1]; exact h6) g1)))
        | succ k ihk =>
          intro i y hi hlo hf h6 hb
          have hil : i < B.flatten.length := by omega
          have ev := A12_r (A := A) (s := s) hil
          refine u_X13_addNet_2 ?_; unfold qm_X13_addNet_2
          rw [nI_1]
          refine w_rdI (pl3 ho) rfl (by omega) (lk_b (oY hf).1 (by omega)) (w_leF (by omega) (by omega) (w_rdI (pl4 ho) rfl (by omega) (lk_cu (oY hf).1 hil).1 (w_rdI (pl5 ho) rfl (by omega) (lk_cu (oY hf).1 hil).2 (w_cs0 (bm_add (i := V0 + i) pn3 (by omega) (fun j hj => by omega) (by omega) ?_ ?_ hb) (fun y2 ⟨g1, g2⟩ => ?_)))))
          · rw [nI_add]
            show _ = nI (vAt (A12 A B s) (V0 + i)).1
            rw [hV, ev]
            rfl
          · show _ = nI (vAt (A12 A B s) (V0 + i)).2
            rw [hV, ev]
            rfl
          · rw [nI_1]
            exact ihk (i + 1) y2 (by omega) (by omega) (fr_tr hf (fr_mono (fun g hg => by omega) g2)) (by rw [(g2 3006 (by omega)).2.1]; exact h6) (bm_eq g1 (fun j => by omega))
      refine u_X13_addNet_1 ?_; unfold qm_X13_addNet_1
      exact w_rdF (lk_C (oY hf).1) (w_leF (by omega) (by omega) (w_rdI (pl3 ho) rfl (by omega) (lk_b (oY hf).1 (by omega)) (inn _ (rn_b B m) y (by omega : rn_b B m + (rn_b B (m + 1) - rn_b B m) = _) (Nat.le_refl _) hf h6 hb.b)))
  refine e_X13_addNet ?_
  refine u_X13_addNet_0 ?_; unfold qm_X13_addNet_0
  exact out B.length 0 z (by omega) fr_rf rfl (bmE_eq hb (fun j => by rw [rn_b0]; omega))
theorem u_X13_apart_1 {x1 : Int32} {x2 : Int32} {z : ow_MS} {Q : (Int32 × ow_MS) → Prop} (H : Tt (fun K k => qm_X13_apart_1 K (q_X13_apart K k) x1 x2 z) Q) : Tt (fun K k => q_X13_apart K k 1 x1 x2 z) Q := w_un (fun _ _ => rfl) H
theorem u_X13_apart_2 {x1 : Int32} {x2 : Int32} {z : ow_MS} {Q : (Int32 × ow_MS) → Prop} (H : Tt (fun K k => qm_X13_apart_2 K (q_X13_apart K k) x1 x2 z) Q) : Tt (fun K k => q_X13_apart K k 2 x1 x2 z) Q := w_un (fun _ _ => rfl) H
theorem e_X13_apart {x1 : Int32} {x2 : Int32} {z : ow_MS} {Q : (Int32 × ow_MS) → Prop} (H : Tt (fun K k => q_X13_apart K k 0 x1 x2 z) Q) : Te (fun K => qe_X13_apart K x1 x2 z) Q := w_te H
theorem u_X13_apart_0 {x1 : Int32} {x2 : Int32} {z : ow_MS} {Q : (Int32 × ow_MS) → Prop} (H : Tt (fun K k => qm_X13_apart_0 K (q_X13_apart K k) x1 x2 z) Q) : Tt (fun K k => q_X13_apart K k 0 x1 x2 z) Q := w_un (fun _ _ => rfl) H
theorem tp_apart {d e : Int32} (h : gI X z) : Te (fun K => qe_X13_apart K d e z) (fun r => gI X r.2) := by
  have h1 := gI_1 (c := 0) h
  have c1 : ∀ y, gI X y → Tt (fun K k => q_X13_apart K k 1 d e y) (fun r => gI X r.2) := by
    intro y hy
    refine u_X13_apart_1 ?_; unfold qm_X13_apart_1
    exact w_fail hy
  have c2 : ∀ y, gI X y → Tt (fun K k => q_X13_apart K k 2 d e y) (fun r => gI X r.2) := by
    intro y hy
    refine u_X13_apart_2 ?_; unfold qm_X13_apart_2
    exact w_fail hy
  refine e_X13_apart ?_
  refine u_X13_apart_0 ?_; unfold qm_X13_apart_0
  refine w_wrF (w_has h1.2.1 (w_ifT rfl (c1 _ h1)) (fun d9 A sg hd9 hx hv hne => w_ifF (by decide) (w_has h1.2.1 (w_ifT rfl (c1 _ h1)) (fun e9 B sg2 he9 hy hw hne2 => w_ifF (by decide) ?_))))
  subst hx
  subst hy
  refine w_cs0 (to_open pn1 hd9 hv) (fun z2 ⟨o1, f1⟩ => ?_)
  have h2 : gI X z2 := gI_net pn1 f1 (fun g hg => by omega) h1
  have hw2 : vRow z2 12 (32 * e9) B sg2 := ⟨rc_fr f1 (by omega) hw.1, hw.2⟩
  refine w_cs0 (to_open pn2 he9 hw2) (fun z3 ⟨o2, f2⟩ => ?_)
  have h3 : gI X z3 := gI_net pn2 f2 (fun g hg => by omega) h2
  have o1' := oNet_fr f2 (fun g hg => by omega) o1
  have l1 := o1.len
  have l2 := o2.len
  have k1 := o1.2.2.2
  have k2 := o2.2.2.2
  obtain ⟨a, ha, ha12⟩ := o1.2.2.1
  obtain ⟨b, hb, hb12⟩ := o2.2.2.1
  have hVa := okF_len ha
  have hVb := okF_len hb
  refine w_rdF o1'.1.V (w_rdF o2.1.V ?_)
  rw [nI_add]
  refine w_lt (a := 24) (by omega) (by omega) (fun _ => c2 _ h3) (fun h24 => w_rdF (lk_C o1'.1) (w_rdF (lk_C o2.1) ?_))
  rw [nI_add]
  refine w_le (b := 6) (by omega) (by omega) (fun h6 => w_free (w_ifT rfl (w_fail h3)) (fun f hf hfr => w_ifF (rn_neg1 (by omega)) (w_cs0 (bm_clear (A := A12 [] A 0) pn3) (fun z4 ⟨b4, f4⟩ => ?_)))) (fun _ => c2 _ h3)
  have o4 := oNet_fr f4 (fun g hg => by omega) o1'
  have o4b := oNet_fr f4 (fun g hg => by omega) o2
  refine w_cs0 (tp_addNet (A := []) (s := 0) (q := 0) (V0 := 0) pn1 (by omega) o4 ha (by rw [A12_len]; show 0 + _ ≤ _; omega) (by omega) (by omega) rfl (bmE_eq b4 (fun j => ⟨fun h9 => h9.elim, fun h9 => by omega⟩))) (fun z5 ⟨b5, f5, s5, _⟩ => ?_)
  have o5 := oNet_fr f5 (fun g hg => by omega) o4
  have o5b := oNet_fr f5 (fun g hg => by omega) o4b
  have hb5 : bmE z5 3000 (A12 A B a) (fun j => j < A.flatten.length) A.length := by
    obtain ⟨C, q1, q2, q3, q4⟩ := b5
    have hmem : ∀ j, j ∈ C.flatten → j < A.flatten.length := fun j hj => by
      have := (q4 j).mp hj
      rw [A12_len] at this
      have h0 : ([] : rn_L).flatten.length = 0 := rfl
      omega
    have ev : ∀ j, j < A.flatten.length → vAt (A12 [] A 0) j = vAt (A12 A B a) j := fun j hj => by
      have e1 := A12_r (A := []) (B := A) (s := 0) hj
      have h0 : ([] : rn_L).flatten.length + j = j := Nat.zero_add j
      rw [h0] at e1
      rw [e1, A12_l hj]
      rfl
    have em : C.map (List.map (vAt (A12 [] A 0))) = C.map (List.map (vAt (A12 A B a))) := List.map_congr_left (fun l hl => List.map_congr_left (fun j hj => ev j (hmem j (List.mem_flatten.mpr ⟨l, hl, hj⟩))))
    rw [em] at q2
    refine ⟨C, by omega, q2, q3, fun j => ?_⟩
    rw [q4 j, A12_len]
    have h0 : ([] : rn_L).flatten.length = 0 := rfl
    omega
  refine w_rdF o5.1.V (w_nzI (by decide) ?_)
  rw [show nI A.flatten.length / 2 = nI a from by rw [show nI A.flatten.length / 2 = nI (A.flatten.length / 2) from pk_div (d := 2) (by omega) (by omega) (by omega)]; congr 1; omega]
  refine w_cs0 (tp_addNet (A := A) (s := a) (q := A.length) (V0 := A.flatten.length) pn2 (by omega) o5b hb (by rw [A12_len]; omega) (by omega) (by omega) rfl hb5) (fun z6 ⟨b6, f6, s6, t6⟩ => ?_)
  have F36 : fr (fun g => 3001 ≤ g ∧ g ≤ 3006) z3 z6 := fr_tr (fr_mono (fun g hg => by omega) f4) (fr_tr f5 f6)
  have ok12 := A12_ok ha hb
  have wk12 := okF_wk (by omega) ok12
  refine w_keep (gI_net pn3 F36 (fun g hg => by omega) h3) (frD_eq (F36 12 (by omega)).2.1 hfr) (bmE_net wk12 (by rw [A12_len]; omega) h6 (fun j hj => hj) (fun j hj => mtf_lt (wkF_ok wk12) hj) (fun j hj => ?_) b6)
  rw [A12_len] at hj
  by_cases hja : j < A.flatten.length
  · have e1 : crs (A12 A B a) j = crs A j := by unfold crs; rw [A12_l hja]
    obtain ⟨x1, x2, x3⟩ := o4.cx hja
    have hca : crs A j < a := ((ha.2 _).mp (List.mem_of_getElem? (vAt_of hja))).1
    rw [e1]
    show s1 (z6.2.1 3006 (crs A j))
    rw [t6 _ hca]
    have := s5 _ hca
    rw [Nat.add_zero] at this
    rw [this]
    exact s1_if x3
  · obtain ⟨i, rfl⟩ : ∃ i, j = A.flatten.length + i := ⟨j - A.flatten.length, by omega⟩
    have hib : i < B.flatten.length := by omega
    have e1 : crs (A12 A B a) (A.flatten.length + i) = crs B i + a := by unfold crs; rw [A12_r hib]
    obtain ⟨x1, x2, x3⟩ := o5b.cx hib
    have hcb : crs B i < b := ((hb.2 _).mp (List.mem_of_getElem? (vAt_of hib))).1
    rw [e1]
    show s1 (z6.2.1 3006 (crs B i + a))
    rw [s6 _ hcb]
    exact s1_if x3
end PUBC
