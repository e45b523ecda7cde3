/-! pack -/
theorem mk_of {z : ow_MS} {n P : Nat} {A : rn_L} (hcn : A.length ≤ 39) (h : rn_pt z n A P) : ∃ m, mk A m P ∧ ∀ c, c < A.length → z.2.1 (n + 12) c = nI (m c) := by
  obtain ⟨h1, h2, ⟨s1, s2, s3, s4⟩, h4⟩ := h
  have hM : ∀ c, c < A.length → z.2.1 (n + 12) c = nI (z.2.1 (n + 12) c).toNatClampNeg ∧ (z.2.1 (n + 12) c).toNatClampNeg < P := by
    intro c hc
    obtain ⟨p, hp, e⟩ := (s1 c hc).resolve_left (h4 c hc)
    rw [e, nI_clamp (by omega)]
    exact ⟨rfl, hp⟩
  refine ⟨fun c => (z.2.1 (n + 12) c).toNatClampNeg, ⟨fun c hc => (hM c hc).2, fun a b hab => ?_, fun a b ha hb e => ?_, fun p hp => ?_⟩, fun c hc => (hM c hc).1⟩
  · obtain ⟨v, w, hm, e1, e2⟩ := hab
    have ha : a < A.length := by rw [← e1]; exact (rn_c_in A v (rn_mt_lt hm).1).1
    obtain ⟨g1, g2⟩ := hM a ha
    have := s2 a b _ g2 ⟨v, w, hm, e1, e2⟩ g1
    show _ = (z.2.1 (n + 12) b).toNatClampNeg
    rw [this, nI_clamp (by omega)]
  · obtain ⟨g1, g2⟩ := hM a ha
    have g3 := (hM b hb).1
    have e : (z.2.1 (n + 12) a).toNatClampNeg = (z.2.1 (n + 12) b).toNatClampNeg := e
    rw [← e] at g3
    exact s3 a b _ g2 ha hb g1 g3
  · obtain ⟨a, ha, e⟩ := s4 p hp
    refine ⟨a, ha, ?_⟩
    show (z.2.1 (n + 12) a).toNatClampNeg = p
    rw [e, nI_clamp (by omega)]
def lI (l : Option Nat) : Int32 := match l with
  | none => -1
  | some q => nI q
def rwI (z : ow_MS) (R : List (Nat × List Nat)) (w : Nat → Bool) : Prop := ∀ k, k < R.length → z.2.1 8 k = nI (rAt R k).1 ∧ rc_At z 7 (32 * k) (rAt R k).2 ∧ z.2.1 9 k = bZ (w k)
theorem rwI_fr {P : Nat → Prop} {z z1 : ow_MS} {R : List (Nat × List Nat)} {w : Nat → Bool} (hf : fr P z z1) (h7 : ¬ P 7) (h8 : ¬ P 8) (h9 : ¬ P 9) (h : rwI z R w) : rwI z1 R w := fun k hk => by
  obtain ⟨a1, a2, a3⟩ := h k hk
  exact ⟨by rw [(hf 8 h8).2.1]; exact a1, rc_fr hf h7 a2, by rw [(hf 9 h9).2.1]; exact a3⟩
theorem rAt_app {R : List (Nat × List Nat)} {r : Nat × List Nat} {k : Nat} (hk : k < R.length) : rAt (R ++ [r]) k = rAt R k := by
  unfold rAt
  rw [List.getElem?_append_left hk]
theorem rAt_new {R : List (Nat × List Nat)} {r : Nat × List Nat} : rAt (R ++ [r]) R.length = r := by
  unfold rAt
  rw [List.getElem?_append_right (Nat.le_refl _), Nat.sub_self]
  rfl
theorem rlt_a {a b : Nat × List Nat} (h : a.1 < b.1) : rlt a b = true := by
  unfold rlt
  rw [decide_eq_true h]
  rfl
theorem rlt_b {a b : Nat × List Nat} (h : a.1 = b.1) : rlt a b = lxb a.2 b.2 := by
  unfold rlt
  rw [decide_eq_false (by omega), decide_eq_true h]
  rfl
theorem rlt_c {a b : Nat × List Nat} (h : b.1 < a.1) : rlt a b = false := by
  unfold rlt
  rw [decide_eq_false (by omega), decide_eq_false (by omega)]
  rfl
theorem pkA_w {R : List (Nat × List Nat)} {w : Nat → Bool} {l : Option Nat} {p : Nat} (h : w p = true) : pkA R w l p = l := by
  unfold pkA
  rw [if_pos h]
theorem pkA_n {R : List (Nat × List Nat)} {w : Nat → Bool} {p : Nat} (h : w p = false) : pkA R w none p = some p := by
  unfold pkA
  rw [h]
  rfl
theorem pkA_t {R : List (Nat × List Nat)} {w : Nat → Bool} {p q : Nat} (h : w p = false) (hr : rlt (rAt R p) (rAt R q) = true) : pkA R w (some q) p = some p := by
  unfold pkA
  rw [h]
  show (if rlt (rAt R p) (rAt R q) = true then some p else some q) = _
  rw [if_pos hr]
theorem pkA_f {R : List (Nat × List Nat)} {w : Nat → Bool} {p q : Nat} (h : w p = false) (hr : rlt (rAt R p) (rAt R q) = false) : pkA R w (some q) p = some q := by
  unfold pkA
  rw [h]
  show (if rlt (rAt R p) (rAt R q) = true then some p else some q) = _
  rw [hr]
  rfl
theorem tk_200 {sg : Nat → Bool} : ∀ A : rn_L, (∀ p : Nat × Nat, p ∈ A.flatten → p.1 < 40 ∧ p.2 < 2) → ∀ t, t ∈ tk sg A → t < 200
  | [], _, t, ht => by simp [tk] at ht
  | B :: A, h, t, ht => by
    rw [List.flatten_cons] at h
    rw [tk_cons, List.mem_append, List.mem_cons] at ht
    rcases ht with ht | ht | ht
    · obtain ⟨p, hp, e⟩ := List.mem_map.mp ht
      have := h p (List.mem_append_left _ hp)
      rw [← e]
      unfold tkv
      by_cases hb : sg p.1 = true
      · rw [if_pos hb]; omega
      · rw [if_neg hb]; omega
    · omega
    · exact tk_200 A (fun p hp => h p (List.mem_append_right _ hp)) t ht
abbrev frQ (n h g : Nat) : Prop := 2 ≤ g ∧ g ≤ 9 ∨ g = h ∨ n + 7 ≤ g ∧ g ≤ n + 13
theorem add_ap {T : List Nat} {z : ow_MS} {h o t : Nat} (hT : ∀ k u, T[k]? = some u → z.2.1 h (o + (k + 1)) = nI u) : ∀ k u, (T ++ [t])[k]? = some u → (usI z h (o + (T.length + 1)) (nI t)).2.1 h (o + (k + 1)) = nI u := by
  intro k u hk
  by_cases hkl : k < T.length
  · rw [List.getElem?_append_left hkl] at hk
    exact rd_ne (by omega) (hT k u hk)
  · have hk2 : k = T.length := by
      have := (List.getElem?_eq_some_iff.mp hk).1
      rw [List.length_append] at this
      simp at this
      omega
    subst hk2
    rw [List.getElem?_append_right (Nat.le_refl _), Nat.sub_self] at hk
    cases hk
    exact po_usI_at
theorem e_X13_pack {r1 : Nat} {r2 : Nat} {x3 : Int32} {z : ow_MS} {Q : ow_MS → Prop} (H : Tt (fun K k => q_X13_pack K k 0 x3 0 0 0 0 0 0 0 0 r1 r2 0 0 z) Q) : Te (fun K => qe_X13_pack K r1 r2 x3 z) Q := w_te H
theorem u_X13_pack_0 {x3 : Int32} {x4 : Int32} {x5 : Int32} {x6 : Int32} {x7 : Int32} {x8 : Int32} {x9 : Int32} {x10 : Int32} {x11 : Int32} {r1 : Nat} {r2 : Nat} {t0 : Int32} {t1 : Int32} {z : ow_MS} {Q : ow_MS → Prop} (H : Tt (fun K k => qm_X13_pack_0 K (q_X13_pack K k) x3 x4 x5 x6 x7 x8 x9 x10 x11 r1 r2 t0 t1 z) Q) : Tt (fun K k => q_X13_pack K k 0 x3 x4 x5 x6 x7 x8 x9 x10 x11 r1 r2 t0 t1 z) Q := w_un (fun _ _ => rfl) H
theorem u_X13_pack_9 {x3 : Int32} {x4 : Int32} {x5 : Int32} {x6 : Int32} {x7 : Int32} {x8 : Int32} {x9 : Int32} {x10 : Int32} {x11 : Int32} {r1 : Nat} {r2 : Nat} {t0 : Int32} {t1 : Int32} {z : ow_MS} {Q : ow_MS → Prop} (H : Tt (fun K k => qm_X13_pack_9 K (q_X13_pack K k) x3 x4 x5 x6 x7 x8 x9 x10 x11 r1 r2 t0 t1 z) Q) : Tt (fun K k => q_X13_pack K k 9 x3 x4 x5 x6 x7 x8 x9 x10 x11 r1 r2 t0 t1 z) Q := w_un (fun _ _ => rfl) H
theorem u_X13_pack_3 {x3 : Int32} {x4 : Int32} {x5 : Int32} {x6 : Int32} {x7 : Int32} {x8 : Int32} {x9 : Int32} {x10 : Int32} {x11 : Int32} {r1 : Nat} {r2 : Nat} {t0 : Int32} {t1 : Int32} {z : ow_MS} {Q : ow_MS → Prop} (H : Tt (fun K k => qm_X13_pack_3 K (q_X13_pack K k) x3 x4 x5 x6 x7 x8 x9 x10 x11 r1 r2 t0 t1 z) Q) : Tt (fun K k => q_X13_pack K k 3 x3 x4 x5 x6 x7 x8 x9 x10 x11 r1 r2 t0 t1 z) Q := w_un (fun _ _ => rfl) H
theorem u_X13_pack_7 {x3 : Int32} {x4 : Int32} {x5 : Int32} {x6 : Int32} {x7 : Int32} {x8 : Int32} {x9 : Int32} {x10 : Int32} {x11 : Int32} {r1 : Nat} {r2 : Nat} {t0 : Int32} {t1 : Int32} {z : ow_MS} {Q : ow_MS → Prop} (H : Tt (fun K k => qm_X13_pack_7 K (q_X13_pack K k) x3 x4 x5 x6 x7 x8 x9 x10 x11 r1 r2 t0 t1 z) Q) : Tt (fun K k => q_X13_pack K k 7 x3 x4 x5 x6 x7 x8 x9 x10 x11 r1 r2 t0 t1 z) Q := w_un (fun _ _ => rfl) H
theorem u_X13_pack_8 {x3 : Int32} {x4 : Int32} {x5 : Int32} {x6 : Int32} {x7 : Int32} {x8 : Int32} {x9 : Int32} {x10 : Int32} {x11 : Int32} {r1 : Nat} {r2 : Nat} {t0 : Int32} {t1 : Int32} {z : ow_MS} {Q : ow_MS → Prop} (H : Tt (fun K k => qm_X13_pack_8 K (q_X13_pack K k) x3 x4 x5 x6 x7 x8 x9 x10 x11 r1 r2 t0 t1 z) Q) : Tt (fun K k => q_X13_pack K k 8 x3 x4 x5 x6 x7 x8 x9 x10 x11 r1 r2 t0 t1 z) Q := w_un (fun _ _ => rfl) H
theorem u_X13_pack_4 {x3 : Int32} {x4 : Int32} {x5 : Int32} {x6 : Int32} {x7 : Int32} {x8 : Int32} {x9 : Int32} {x10 : Int32} {x11 : Int32} {r1 : Nat} {r2 : Nat} {t0 : Int32} {t1 : Int32} {z : ow_MS} {Q : ow_MS → Prop} (H : Tt (fun K k => qm_X13_pack_4 K (q_X13_pack K k) x3 x4 x5 x6 x7 x8 x9 x10 x11 r1 r2 t0 t1 z) Q) : Tt (fun K k => q_X13_pack K k 4 x3 x4 x5 x6 x7 x8 x9 x10 x11 r1 r2 t0 t1 z) Q := w_un (fun _ _ => rfl) H
theorem u_X13_pack_6 {x3 : Int32} {x4 : Int32} {x5 : Int32} {x6 : Int32} {x7 : Int32} {x8 : Int32} {x9 : Int32} {x10 : Int32} {x11 : Int32} {r1 : Nat} {r2 : Nat} {t0 : Int32} {t1 : Int32} {z : ow_MS} {Q : ow_MS → Prop} (H : Tt (fun K k => qm_X13_pack_6 K (q_X13_pack K k) x3 x4 x5 x6 x7 x8 x9 x10 x11 r1 r2 t0 t1 z) Q) : Tt (fun K k => q_X13_pack K k 6 x3 x4 x5 x6 x7 x8 x9 x10 x11 r1 r2 t0 t1 z) Q := w_un (fun _ _ => rfl) H
theorem u_X13_pack_5 {x3 : Int32} {x4 : Int32} {x5 : Int32} {x6 : Int32} {x7 : Int32} {x8 : Int32} {x9 : Int32} {x10 : Int32} {x11 : Int32} {r1 : Nat} {r2 : Nat} {t0 : Int32} {t1 : Int32} {z : ow_MS} {Q : ow_MS → Prop} (H : Tt (fun K k => qm_X13_pack_5 K (q_X13_pack K k) x3 x4 x5 x6 x7 x8 x9 x10 x11 r1 r2 t0 t1 z) Q) : Tt (fun K k => q_X13_pack K k 5 x3 x4 x5 x6 x7 x8 x9 x10 x11 r1 r2 t0 t1 z) Q := w_un (fun _ _ => rfl) H
theorem u_X13_pack_1 {x3 : Int32} {x4 : Int32} {x5 : Int32} {x6 : Int32} {x7 : Int32} {x8 : Int32} {x9 : Int32} {x10 : Int32} {x11 : Int32} {r1 : Nat} {r2 : Nat} {t0 : Int32} {t1 : Int32} {z : ow_MS} {Q : ow_MS → Prop} (H : Tt (fun K k => qm_X13_pack_1 K (q_X13_pack K k) x3 x4 x5 x6 x7 x8 x9 x10 x11 r1 r2 t0 t1 z) Q) : Tt (fun K k => q_X13_pack K k 1 x3 x4 x5 x6 x7 x8 x9 x10 x11 r1 r2 t0 t1 z) Q := w_un (fun _ _ => rfl) H
theorem u_X13_pack_2 {x3 : Int32} {x4 : Int32} {x5 : Int32} {x6 : Int32} {x7 : Int32} {x8 : Int32} {x9 : Int32} {x10 : Int32} {x11 : Int32} {r1 : Nat} {r2 : Nat} {t0 : Int32} {t1 : Int32} {z : ow_MS} {Q : ow_MS → Prop} (H : Tt (fun K k => qm_X13_pack_2 K (q_X13_pack K k) x3 x4 x5 x6 x7 x8 x9 x10 x11 r1 r2 t0 t1 z) Q) : Tt (fun K k => q_X13_pack K k 2 x3 x4 x5 x6 x7 x8 x9 x10 x11 r1 r2 t0 t1 z) Q := w_un (fun _ _ => rfl) H
theorem tr_pack {n h o la : Nat} {z : ow_MS} {A : rn_L} {sg : Nat → Bool} (hn : mw_net n) (hh : 10 ≤ h ∧ h < 1000) (hla : (mX.2 h).2.1 = la) (ha : la < 2 ^ 30) (ho : o + 32 ≤ la) (hVC : A.flatten.length + A.length ≤ 31) (hcn : A.length ≤ 19) (hF : wkF A.flatten) (hA : rn_At z n A []) (hG : rn_sg z n A.flatten sg) : Te (fun K => qe_X13_pack K n h (nI o) z) (fun z1 => ∃ m P, mk A m P ∧ rc_At z1 h o (pkR A sg m P) ∧ fr (frQ n h) z z1 ∧ (∀ i, i < o ∨ o + 32 ≤ i → z1.2.1 h i = z.2.1 h i) ∧ rn_lk z1 n A ∧ rn_pt z1 n A P) := by
  have hm := net_mod hn
  have hd := wkF_ok hF
  refine e_X13_pack ?_
  refine u_X13_pack_0 ?_; unfold qm_X13_pack_0
  refine w_cs0 (tn_link hn (by omega) (by omega) hd.1 hA) (fun zl ⟨fl, al, il⟩ => w_cs0 (tn_split hn (by omega) (by omega) hd ⟨al, il⟩) (fun z0 ⟨f0, P, hpt⟩ => ?_))
  have hL0 : rn_lk z0 n A := fr_lk f0 (fun g hg => by rcases hg with hg | hg <;> omega) ⟨al, il⟩
  have f00 : fr (frQ n h) z z0 := fr_tr (fr_mono (fun g hg => Or.inr (Or.inr (by have := hg.1; have := hg.2; omega))) fl) (fr_mono (fun g hg => Or.inr (Or.inr (by rcases hg with hg | hg <;> omega))) f0)
  have hG0 : rn_sg z0 n A.flatten sg := fun p hp => by
    rw [(f00 (n + 6) (by omega)).2.1]
    exact hG p hp
  obtain ⟨m, hk, hmz⟩ := mk_of (by omega) hpt
  have hP := hpt.2.1
  obtain ⟨tot, -⟩ := rwL_tot (sg := sg) hd hk
  obtain ⟨R, hR⟩ : ∃ R, R = rwL A sg m P := ⟨_, rfl⟩
  rw [← hR] at tot
  have hRl := rwL_len (A := A) (sg := sg) (m := m) P
  rw [← hR] at hRl
  obtain ⟨A', sg', c', eP, okP, cP, lP⟩ := pkR_ok (sg := sg) hF hk
  have t200 : ∀ t, t ∈ pkR A sg m P → t < 200 := by
    rw [eP]
    exact tk_200 A' (fun p hp => by
      obtain ⟨a1, a2⟩ := (okP.2 p).mp hp
      exact ⟨by omega, a2⟩)
  have lenP : (pkR A sg m P).length = A.flatten.length + A.length := by
    rw [eP, tk_len, lP, okF_len okP]
    omega
  -- what stays
  have frN : ∀ {y : ow_MS}, fr (fun g => 2 ≤ g ∧ g ≤ 9 ∨ g = h) z0 y → rn_lk y n A ∧ rn_sg y n A.flatten sg ∧ rn_pt y n A P ∧ (∀ c, c < A.length → y.2.1 (n + 12) c = nI (m c)) ∧ fr (frQ n h) z y := fun {y} hf => by
    have e12 := (hf (n + 12) (by omega)).2.1
    refine ⟨fr_lk hf (fun g hg => by omega) hL0, fun p hp => ?_, ?_, fun c hc => ?_, fr_tr f00 (fr_mono (fun g hg => by unfold frQ; omega) hf)⟩
    · rw [(hf (n + 6) (by omega)).2.1]
      exact hG0 p hp
    · obtain ⟨a1, a2, a3, a4⟩ := hpt
      exact ⟨by rw [(hf (n + 13) (by omega)).1]; exact a1, a2, by rw [e12]; exact a3, by rw [e12]; exact a4⟩
    · rw [e12]
      exact hmz c hc
  let Q : ow_MS → Prop := fun z1 => ∃ m P, mk A m P ∧ rc_At z1 h o (pkR A sg m P) ∧ fr (frQ n h) z z1 ∧ (∀ i, i < o ∨ o + 32 ≤ i → z1.2.1 h i = z.2.1 h i) ∧ rn_lk z1 n A ∧ rn_pt z1 n A P
  have eh : z0.2.1 h = z.2.1 h := by
    rw [(f0 h (by rintro (h9 | h9) <;> omega)).2.1, (fl h (fun h9 => by have := h9.1; omega)).2.1]
  -- circles
  have cirL : ∀ (d k : Nat) (T : List Nat) (x4 x7 : Int32) (z1 : ow_MS), k + d = cir A m P → T ++ List.replicate d 0 = pkR A sg m P → fr (fun g => 2 ≤ g ∧ g ≤ 9 ∨ g = h) z0 z1 → (∀ i, i < o ∨ o + 32 ≤ i → z1.2.1 h i = z.2.1 h i) → (∀ i u, T[i]? = some u → z1.2.1 h (o + (i + 1)) = nI u) → Tt (fun K i => q_X13_pack K i 9 (nI o) x4 (nI (cir A m P)) (nI T.length) x7 (nI k) 0 0 0 n h 0 0 z1) Q := by
    intro d
    induction d with
    | zero =>
      intro k T x4 x7 z1 hkd hT hf hi hw
      rw [List.replicate_zero, List.append_nil] at hT
      obtain ⟨b1, b2, b3, b4, b5⟩ := frN (y := usI z1 h o (nI T.length)) (fr_I2 hf (Or.inr rfl))
      have hTl : T.length ≤ 31 := by rw [hT, lenP]; exact hVC
      refine u_X13_pack_9 ?_; unfold qm_X13_pack_9
      refine w_leT (by omega) (by omega) (w_wrI hla rfl (by omega) (w_some ⟨m, P, hk, ⟨by rw [lenP]; exact hVC, t200, ?_, fun i u hi9 => ?_⟩, b5, fun i hi9 => rd_ne (by omega) (hi i hi9), b1, b3⟩))
      · rw [po_usI_at, hT]
      · rw [← hT] at hi9
        exact rd_ne (by omega) (hw i u hi9)
    | succ d ih =>
      intro k T x4 x7 z1 hkd hT hf hi hw
      have hTl : T.length + 1 ≤ 31 := by
        have := congrArg List.length hT
        rw [List.length_append, List.length_replicate, lenP] at this
        omega
      refine u_X13_pack_9 ?_; unfold qm_X13_pack_9
      rw [nI_1, nI_1, nI_add]
      refine w_leF (by omega) (by omega) (w_wrI hla rfl (by omega) ?_)
      have := ih (k + 1) (T ++ [0]) x4 x7 (usI z1 h (o + (T.length + 1)) (nI 0)) (by omega) (by rw [← hT, List.replicate_succ, List.append_assoc]; rfl) (fr_I2 hf (Or.inr rfl)) (fun i hi9 => rd_ne (by omega) (hi i hi9)) (add_ap hw)
      rw [List.length_append] at this
      exact this
  -- the rows in order
  have ordL : ∀ (k : Nat) (w : Nat → Bool) (T : List Nat) (b : Nat) (z1 : ow_MS), rem w (fun _ => 1) R.length = k → T ++ pkT R b (sel R k w) ++ List.replicate (cir A m P) 0 = pkR A sg m P → fr (fun g => 2 ≤ g ∧ g ≤ 9 ∨ g = h) z0 z1 → (∀ i, i < o ∨ o + 32 ≤ i → z1.2.1 h i = z.2.1 h i) → (∀ i u, T[i]? = some u → z1.2.1 h (o + (i + 1)) = nI u) → rwI z1 R w → Tt (fun K i => q_X13_pack K i 3 (nI o) (nI R.length) (nI (cir A m P)) (nI T.length) (nI b) (nI (R.length - k)) 0 0 0 n h 0 0 z1) Q := by
    intro k
    induction k with
    | zero =>
      intro w T b z1 hr hT hf hi hw hI
      refine u_X13_pack_3 ?_; unfold qm_X13_pack_3
      refine w_leT (by omega) (by omega) ?_
      have e : sel R 0 w = [] := rfl
      rw [e] at hT
      have e2 : pkT R b [] = [] := rfl
      rw [e2, List.append_nil] at hT
      exact cirL (cir A m P) 0 T (nI R.length) (nI b) z1 (by omega) hT hf hi hw
    | succ k ih =>
      intro w T b z1 hr hT hf hi hw hI
      have hkR : k + 1 ≤ R.length := by
        have : ∀ (g : Nat → Bool) n, rem g (fun _ => 1) n ≤ n := by
          intro g n
          induction n with
          | zero => exact Nat.le_refl _
          | succ n ih =>
            unfold rem
            by_cases h9 : g n = true
            · rw [if_pos h9]; omega
            · rw [if_neg h9]; omega
        have := this w R.length
        omega
      obtain ⟨q, hq⟩ : ∃ q, pk1 R w R.length = some q := by
        cases hp : pk1 R w R.length with
        | some q => exact ⟨q, rfl⟩
        | none =>
          have h0 := pk1_none R.length hp
          have : ∀ n, n ≤ R.length → rem w (fun _ => 1) n = 0 := by
            intro n
            induction n with
            | zero => intro _; rfl
            | succ n ih =>
              intro hn
              unfold rem
              rw [ih (by omega), h0 n (by omega)]
              rfl
          have := this _ (Nat.le_refl _)
          omega
      obtain ⟨hq1, hq2⟩ := pk1_in R.length hq
      rw [sel_some hq] at hT
      have eT : T ++ (sft b (rAt R q).2 ++ pkT R (b + (rAt R q).1 / 2) (sel R k (fun i => w i || decide (i = q)))) ++ List.replicate (cir A m P) 0 = pkR A sg m P := hT
      have r1 := rem_st (g' := fun i => w i || decide (i = q)) (f := fun _ => 1) hq2 (fun b => rfl) R.length hq1
      have r1' : rem (fun i => w i || decide (i = q)) (fun _ => 1) R.length + 1 = rem w (fun _ => 1) R.length := r1
      have hTtot := congrArg List.length eT
      rw [List.length_append, List.length_append, List.length_append, sft_len, List.length_replicate, lenP] at hTtot
      obtain ⟨v1, v2, v3⟩ := hI q hq1
      have hR20 : R.length ≤ 19 := by omega
      have hb1 : ∀ j, j < R.length → (rAt R j).1 < 2 ^ 20 := by
        intro j hj
        have hmem : rAt R j ∈ rwL A sg m P := by rw [← hR]; exact List.mem_of_getElem? (rAt_of hj)
        obtain ⟨p, v, g1, g2, g3, g4⟩ := rwL_mem P hmem
        rw [g4]
        have : (pvl A m p A.flatten.length).length ≤ A.flatten.length := Nat.le_trans (List.length_filter_le _ _) (by rw [List.length_range]; exact Nat.le_refl _)
        show (pvl A m p A.flatten.length).length < 2 ^ 20
        omega
      -- the row q is put
      have put : ∀ (d i : Nat) (z2 : ow_MS), i + d = (rAt R q).2.length → fr (fun g => 2 ≤ g ∧ g ≤ 9 ∨ g = h) z0 z2 → (∀ i, i < o ∨ o + 32 ≤ i → z2.2.1 h i = z.2.1 h i) → (∀ j u, (T ++ sft b ((rAt R q).2.take i))[j]? = some u → z2.2.1 h (o + (j + 1)) = nI u) → rwI z2 R (fun i => w i || decide (i = q)) → Tt (fun K i9 => q_X13_pack K i9 7 (nI o) (nI R.length) (nI (cir A m P)) (nI (T ++ sft b ((rAt R q).2.take i)).length) (nI b) (nI (R.length - (k + 1))) (nI q) (nI (i + 1)) 0 n h 0 0 z2) Q := by
        intro d
        induction d with
        | zero =>
          intro i z2 hid hf2 hi2 hw2 hI2
          obtain ⟨u1, u2, u3⟩ := hI2 q hq1
          have hql := u2.1
          refine u_X13_pack_7 ?_; unfold qm_X13_pack_7
          rw [show (32 : Int32) * nI q = nI (32 * q) from pk_mul 32 q]
          refine w_rdI ml7 rfl (by omega) u2.2.2.1 (w_ltT (by omega) (by omega) (w_rdI ml8 rfl (by omega) u1 (w_nzI (by decide) ?_)))
          have hdv : nI (rAt R q).1 / 2 = nI ((rAt R q).1 / 2) := pk_div (d := 2) (by have := hb1 q hq1; omega) (by omega) (by omega)
          rw [hdv, nI_add, nI_1]
          rw [List.take_of_length_le (by omega)] at hw2 ⊢
          have := ih (fun i => w i || decide (i = q)) (T ++ sft b (rAt R q).2) (b + (rAt R q).1 / 2) z2 (by omega) (by rw [← eT]; simp only [List.append_assoc]) hf2 hi2 hw2 hI2
          rw [show R.length - (k + 1) + 1 = R.length - k by omega]
          exact this
        | succ d ihd =>
          intro i z2 hid hf2 hi2 hw2 hI2
          obtain ⟨u1, u2, u3⟩ := hI2 q hq1
          have hql := u2.1
          obtain ⟨t, a1, a2, a3⟩ := rc_get u2 (k := i) (by omega)
          have hTl : (T ++ sft b ((rAt R q).2.take i)).length = T.length + i := by
            rw [List.length_append, sft_len, List.length_take]
            omega
          obtain ⟨T2, hT2⟩ : ∃ T2, T2 = T ++ sft b ((rAt R q).2.take i) := ⟨_, rfl⟩
          rw [← hT2] at hTl hw2 ⊢
          have est : T ++ sft b ((rAt R q).2.take (i + 1)) = T2 ++ [if t = 0 then 0 else t + 4 * b] := by
            obtain ⟨g1, g2⟩ := List.getElem?_eq_some_iff.mp a1
            rw [List.take_succ_eq_append_getElem g1, g2, hT2]
            unfold sft
            rw [List.map_append, List.append_assoc]
            rfl
          have c8 : Tt (fun K i9 => q_X13_pack K i9 8 (nI o) (nI R.length) (nI (cir A m P)) (nI (T2.length + 1)) (nI b) (nI (R.length - (k + 1))) (nI q) (nI (i + 1)) (nI t) n h (nI (if t = 0 then 0 else t + 4 * b)) (nI (o + (T2.length + 1))) z2) Q := by
            refine u_X13_pack_8 ?_; unfold qm_X13_pack_8
            refine w_wrI hla rfl (by omega) ?_
            rw [nI_1]
            have := ihd (i + 1) (usI z2 h (o + (T2.length + 1)) (nI (if t = 0 then 0 else t + 4 * b))) (by omega) (fr_I2 hf2 (Or.inr rfl)) (fun j hj => rd_ne (by omega) (hi2 j hj)) (by rw [est]; exact add_ap hw2) (rwI_fr (P := fun g => g = h) (fr_I rfl) (by omega) (by omega) (by omega) hI2)
            rw [est, List.length_append] at this
            exact this
          refine u_X13_pack_7 ?_; unfold qm_X13_pack_7
          rw [show (32 : Int32) * nI q = nI (32 * q) from pk_mul 32 q, nI_add, nI_1 T2.length, nI_add]
          refine w_rdI ml7 rfl (by omega) u2.2.2.1 (w_ltF (by omega) (by omega) (w_rdI ml7 rfl (by omega) a3 (w_eqN (b := 0) (by omega) (by omega) (fun h9 => ?_) (fun h9 => ?_))))
          · rw [if_pos h9] at c8
            exact c8
          · rw [if_neg h9] at c8
            rw [show (4 : Int32) * nI b = nI (4 * b) from pk_mul 4 b, nI_add]
            exact c8
      -- the least row is looked for
      have pick : ∀ (d p : Nat), p + d = R.length → Tt (fun K i9 => q_X13_pack K i9 4 (nI o) (nI R.length) (nI (cir A m P)) (nI T.length) (nI b) (nI (R.length - (k + 1))) (lI (pk1 R w p)) (nI p) 0 n h 0 0 z1) Q := by
        intro d
        induction d with
        | zero =>
          intro p hp
          have hpR : p = R.length := by omega
          rw [hpR, hq]
          show Tt (fun K i9 => q_X13_pack K i9 4 (nI o) (nI R.length) (nI (cir A m P)) (nI T.length) (nI b) (nI (R.length - (k + 1))) (nI q) (nI R.length) 0 n h 0 0 z1) Q
          refine u_X13_pack_4 ?_; unfold qm_X13_pack_4
          refine w_leT (by omega) (Nat.le_refl _) (w_wrZ ml9 rfl (by omega) ?_)
          have e0 : T ++ sft b ((rAt R q).2.take 0) = T := List.append_nil _
          have := put (rAt R q).2.length 0 (usI z1 9 q (vp_nar .boolean 1)) (by omega) (fr_I2 hf (Or.inl (by decide))) (fun i hi9 => rd_ot (by omega) (hi i hi9)) (by rw [e0]; exact fun j u hj => rd_ot (by omega) (hw j u hj)) (fun j hj => by
            obtain ⟨g1, g2, g3⟩ := hI j hj
            refine ⟨rd_ot (by decide) g1, rc_fr (P := fun g => g = 9) (fr_I rfl) (by decide) g2, ?_⟩
            by_cases hjq : j = q
            · show _ = bZ (w j || decide (j = q))
              rw [hjq, po_usI_at, decide_eq_true rfl, Bool.or_true]
              rfl
            · show _ = bZ (w j || decide (j = q))
              rw [po_usI_ne hjq, decide_eq_false hjq, Bool.or_false]
              exact g3)
          rw [e0] at this
          exact this
        | succ d ihd =>
          intro p hp
          have hpR : p < R.length := by omega
          obtain ⟨g1, g2, g3⟩ := hI p hpR
          have c6 : ∀ l : Option Nat, pk1 R w (p + 1) = l → Tt (fun K i9 => q_X13_pack K i9 6 (nI o) (nI R.length) (nI (cir A m P)) (nI T.length) (nI b) (nI (R.length - (k + 1))) (lI l) (nI p) 0 n h 0 0 z1) Q := by
            intro l hl
            refine u_X13_pack_6 ?_; unfold qm_X13_pack_6
            rw [nI_1, ← hl]
            exact ihd (p + 1) (by omega)
          have c5 : ∀ (x9 : Int32), pk1 R w (p + 1) = some p → Tt (fun K i9 => q_X13_pack K i9 5 (nI o) (nI R.length) (nI (cir A m P)) (nI T.length) (nI b) (nI (R.length - (k + 1))) x9 (nI p) 0 n h 0 0 z1) Q := by
            intro x9 hl
            refine u_X13_pack_5 ?_; unfold qm_X13_pack_5
            exact c6 _ hl
          refine u_X13_pack_4 ?_; unfold qm_X13_pack_4
          refine w_leF (by omega) hpR (w_rdI ml9 rfl (by omega) g3 ?_)
          cases hwp : w p with
          | true => exact w_ifF (by decide) (c6 _ (by rw [pk1_s, pkA_w hwp]))
          | false =>
            refine w_ifT rfl ?_
            cases hl : pk1 R w p with
            | none => exact w_ifT rfl (c5 _ (by rw [pk1_s, hl, pkA_n hwp]))
            | some q9 =>
              obtain ⟨j1, j2⟩ := pk1_in p hl
              obtain ⟨i1, i2, i3⟩ := hI q9 (by omega)
              have b1 := hb1 p hpR
              have b2 := hb1 q9 (by omega)
              have l1 := g2.1
              have l2 := i2.1
              rw [show lI (some q9) = nI q9 from rfl]
              refine w_ifF (rn_neg1 (by omega)) (w_rdI ml8 rfl (by omega) g1 (w_rdI ml8 rfl (by omega) i1 (w_lt (by omega) (by omega) (fun h9 => c5 _ (by rw [pk1_s, hl, pkA_t hwp (rlt_a h9)])) (fun h9 => w_rdI ml8 rfl (by omega) g1 (w_rdI ml8 rfl (by omega) i1 (w_eqN (by omega) (by omega) (fun h8 => ?_) (fun h8 => c6 (some q9) (by rw [pk1_s, hl, pkA_f hwp (rlt_c (by omega))]))))))))
              rw [show (32 : Int32) * nI p = nI (32 * p) from pk_mul 32 p, show (32 : Int32) * nI q9 = nI (32 * q9) from pk_mul 32 q9]
              refine w_cs1 (tr_below ml7 ml7 (by omega) (by omega) (by omega) (by omega) g2 i2) (fun a z2 e => ?_)
              cases e
              cases hlx : lxb (rAt R p).2 (rAt R q9).2 with
              | true => exact w_ifF (by decide) (c5 _ (by rw [pk1_s, hl, pkA_t hwp (by rw [rlt_b h8, hlx])]))
              | false => exact w_ifT rfl (c6 (some q9) (by rw [pk1_s, hl, pkA_f hwp (by rw [rlt_b h8, hlx])]))
      refine u_X13_pack_3 ?_; unfold qm_X13_pack_3
      refine w_leF (by omega) (by omega) ?_
      exact pick R.length 0 (by omega)
  -- the parts
  have partL : ∀ (d p : Nat) (z1 : ow_MS), p + d = P → fr (fun g => 2 ≤ g ∧ g ≤ 9 ∨ g = h) z0 z1 → z1.2.1 h = z.2.1 h → rwI z1 (rwL A sg m p) (fun _ => false) → Tt (fun K i => q_X13_pack K i 1 (nI o) (nI (rwL A sg m p).length) (nI (cir A m p)) (nI p) 0 0 0 0 0 n h 0 0 z1) Q := by
    intro d
    induction d with
    | zero =>
      intro p z1 hp hf hz hI
      have hpP : p = P := by omega
      rw [hpP, ← hR] at hI ⊢
      refine u_X13_pack_1 ?_; unfold qm_X13_pack_1
      refine w_rdF (frN hf).2.2.1.1 (w_leT (by omega) (by omega) ?_)
      have h0 : rem (fun _ => false) (fun _ => 1) R.length = R.length := rem_1 _
      have := ordL R.length (fun _ => false) [] 0 z1 h0 (by rw [List.nil_append]; unfold pkR; rw [← hR]) hf (fun i hi => by rw [hz]) (fun i u hi => by simp at hi) hI
      rw [Nat.sub_self] at this
      exact this
    | succ d ih =>
      intro p z1 hp hf hz hI
      obtain ⟨b1, b2, b3, b4, b5⟩ := frN hf
      have hRp := rwL_len (A := A) (sg := sg) (m := m) p
      have hlen : (pvl A m p A.flatten.length).length ≤ A.flatten.length := Nat.le_trans (List.length_filter_le _ _) (by rw [List.length_range]; exact Nat.le_refl _)
      refine u_X13_pack_1 ?_; unfold qm_X13_pack_1
      rw [show (32 : Int32) * nI (rwL A sg m p).length = nI (32 * (rwL A sg m p).length) from pk_mul 32 _]
      refine w_rdF b3.1 (w_leF (by omega) (by omega) (w_cs1 (tr_leastOf hn hVC hd b1 b2 (fun c hc => ⟨b4 c hc, by have := hk.1 c hc; omega⟩) (by omega) (by omega)) (fun a z2 ⟨r1, r2, r3, r4⟩ => ?_)))
      have r1 : a = nI (pvl A m p A.flatten.length).length := r1
      have r2 : fr frR7 z1 z2 := r2
      have r3 : ∀ i, i < 32 * (rwL A sg m p).length ∨ 32 * (rwL A sg m p).length + 32 ≤ i → z2.2.1 7 i = z1.2.1 7 i := r3
      have r4 : ∀ T, lsC A sg (pvl A m p A.flatten.length) = some T → rc_At z2 7 (32 * (rwL A sg m p).length) T := r4
      have hf2 : fr (fun g => 2 ≤ g ∧ g ≤ 9 ∨ g = h) z0 z2 := fr_tr hf (fr_mono (fun g hg => Or.inl (by have := hg.1; have := hg.2; omega)) r2)
      have hz2 : z2.2.1 h = z.2.1 h := by
        rw [(r2 h (fun h9 => by have := h9.2; omega)).2.1]
        exact hz
      have e8 := (r2 8 (by decide)).2.1
      have e9 := (r2 9 (by decide)).2.1
      have hI2 : rwI z2 (rwL A sg m p) (fun _ => false) := fun k hk9 => by
        obtain ⟨g1, g2, g3⟩ := hI k hk9
        refine ⟨by rw [e8]; exact g1, ⟨g2.1, g2.2.1, ?_, fun i t hi => ?_⟩, by rw [e9]; exact g3⟩
        · rw [r3 _ (Or.inl (by omega))]
          exact g2.2.2.1
        · have := (List.getElem?_eq_some_iff.mp hi).1
          have := g2.1
          rw [r3 _ (Or.inl (by omega))]
          exact g2.2.2.2 i t hi
      rw [r1]
      refine w_eqN (b := 0) (by omega) (by omega) (fun h9 => ?_) (fun h9 => ?_)
      · have hnil : pvl A m p A.flatten.length = [] := List.length_eq_zero_iff.mp h9
        have eR : rwL A sg m (p + 1) = rwL A sg m p := by
          rw [rwL_s]
          unfold rwA
          rw [hnil]
          rfl
        have eC : cir A m (p + 1) = cir A m p + 1 := by
          show cir A m p + (if pvl A m p A.flatten.length = [] then 1 else 0) = _
          rw [if_pos hnil]
        refine u_X13_pack_2 ?_; unfold qm_X13_pack_2
        rw [nI_1, nI_1]
        have := ih (p + 1) z2 (by omega) hf2 hz2 (by rw [eR]; exact hI2)
        rw [eR, eC] at this
        exact this
      · have hne : pvl A m p A.flatten.length ≠ [] := fun e => h9 (by rw [e]; rfl)
        obtain ⟨T, hT⟩ := lsC_ne (sg := sg) hne
        have eR : rwL A sg m (p + 1) = rwL A sg m p ++ [((pvl A m p A.flatten.length).length, T)] := by
          rw [rwL_s]
          unfold rwA
          rw [hT]
        have eC : cir A m (p + 1) = cir A m p := by
          show cir A m p + (if pvl A m p A.flatten.length = [] then 1 else 0) = _
          rw [if_neg hne]
          rfl
        refine w_wrI ml8 rfl (by omega) (w_wrZ ml9 rfl (by omega) ?_)
        refine u_X13_pack_2 ?_; unfold qm_X13_pack_2
        rw [nI_1, nI_1]
        have := ih (p + 1) (usI (usI z2 8 (rwL A sg m p).length (nI (pvl A m p A.flatten.length).length)) 9 (rwL A sg m p).length (vp_nar .boolean 0)) (by omega) (fr_I2 (fr_I2 hf2 (Or.inl (by decide))) (Or.inl (by decide))) (by rw [po_usI_ot (by omega), po_usI_ot (by omega)]; exact hz2) (by
          rw [eR]
          intro k hk9
          rw [List.length_append] at hk9
          simp only [List.length_cons, List.length_nil] at hk9
          by_cases hke : k = (rwL A sg m p).length
          · rw [hke, rAt_new]
            exact ⟨rd_ot (by decide) po_usI_at, rc_fr (P := fun g => g = 8 ∨ g = 9) (fr_I2 (fr_I (Or.inl rfl)) (Or.inr rfl)) (by decide) (r4 T hT), po_usI_at⟩
          · have hk8 : k < (rwL A sg m p).length := by omega
            obtain ⟨g1, g2, g3⟩ := hI2 k hk8
            rw [rAt_app hk8]
            exact ⟨rd_ot (by decide) (rd_ne hke g1), rc_fr (P := fun g => g = 8 ∨ g = 9) (fr_I2 (fr_I (Or.inl rfl)) (Or.inr rfl)) (by decide) g2, rd_ne hke (rd_ot (by decide) g3)⟩)
        rw [eR, eC, List.length_append] at this
        exact this
  exact partL P 0 z0 (by omega) fr_rf eh (fun k hk9 => by simp [rwL] at hk9)
