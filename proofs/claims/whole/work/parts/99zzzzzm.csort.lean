/-! rows in order: the reference's and the class's -/
theorem lxb_lex : ∀ (S T : List Nat), lxb S T = true ↔ lexD S T < 0
  | [], [] => ⟨fun h => (by cases h), fun h => absurd h (by decide)⟩
  | [], b :: B => by
    refine ⟨fun _ => ?_, fun _ => rfl⟩
    show - (((b :: B).length : Nat) : Int) < 0
    rw [List.length_cons]
    omega
  | a :: A, [] => by
    refine ⟨fun h => (by cases h), fun h => ?_⟩
    have h1 : (((a :: A).length : Nat) : Int) < 0 := h
    omega
  | a :: A, b :: B => by
    show (if a = b then lxb A B else decide (a < b)) = true ↔ (if a = b then lexD A B else (a : Int) - b) < 0
    by_cases e : a = b
    · rw [if_pos e, if_pos e]
      exact lxb_lex A B
    · rw [if_neg e, if_neg e, decide_eq_true_iff]
      omega
theorem rlt_cmp {a b : cdT} : rlt a b = true ↔ cmpC a b < 0 := by
  unfold rlt cmpC
  by_cases e : a.1 = b.1
  · rw [if_pos e, decide_eq_false (by omega : ¬ a.1 < b.1), decide_eq_true e, Bool.false_or, Bool.true_and]
    exact lxb_lex _ _
  · rw [if_neg e, decide_eq_false e, Bool.false_and, Bool.or_false, decide_eq_true_iff]
    omega
theorem rlt_f {a b : cdT} (h : rlt a b = false) : cmpC b a ≤ 0 := by
  have h1 : ¬ cmpC a b < 0 := fun h9 => by
    rw [rlt_cmp.mpr h9] at h
    cases h
  have := cmpC_sym (A := b) (B := a)
  omega
/-- the one picked is least -/
theorem pk1_le {R : List cdT} {w : Nat → Bool} : ∀ (k p : Nat), pk1 R w k = some p → ∀ q, q < k → w q = false → cmpC (rAt R p) (rAt R q) ≤ 0
  | 0, p, h => by cases h
  | k + 1, p, h => by
    intro q hq hw
    rw [pk1_s] at h
    by_cases e : w k = true
    · rw [pkA_w e] at h
      by_cases eq : q = k
      · rw [eq, e] at hw
        cases hw
      · exact pk1_le k p h q (by omega) hw
    · have e : w k = false := by
        cases h9 : w k
        · rfl
        · exact absurd h9 e
      cases hl : pk1 R w k with
      | none =>
        rw [hl, pkA_n e] at h
        cases h
        by_cases eq : q = k
        · rw [eq, cmpC_rf]
          exact Int.le_refl _
        · have := pk1_none k hl q (by omega)
          rw [this] at hw
          cases hw
      | some l =>
        rw [hl] at h
        cases hr : rlt (rAt R k) (rAt R l) with
        | true =>
          rw [pkA_t e hr] at h
          cases h
          by_cases eq : q = k
          · rw [eq, cmpC_rf]
            exact Int.le_refl _
          · exact cmpC_tr (Int.le_of_lt (rlt_cmp.mp hr)) (pk1_le k l hl q (by omega) hw)
        | false =>
          rw [pkA_f e hr] at h
          cases h
          by_cases eq : q = k
          · rw [eq]
            exact rlt_f hr
          · exact pk1_le k _ hl q (by omega) hw
theorem sel_spec {R : List cdT} : ∀ (k : Nat) (w : Nat → Bool), rem w (fun _ => 1) R.length = k → (sel R k w).Nodup ∧ (∀ p, p ∈ sel R k w ↔ p < R.length ∧ w p = false) ∧ ((sel R k w).map (rAt R)).Pairwise (fun a b => cmpC a b ≤ 0)
  | 0, w => fun h => by
    refine ⟨List.nodup_nil, fun p => ⟨fun h9 => (by cases h9), fun h9 => ?_⟩, List.Pairwise.nil⟩
    have := rem_zero R.length h p h9.1
    rw [this] at h9
    cases h9.2
  | k + 1, w => fun h => by
    cases hp : pk1 R w R.length with
    | none =>
      have h1 := pk1_none R.length hp
      have : rem w (fun _ => 1) R.length = rem (fun _ => true) (fun _ => 1) R.length := rem_congr _ (fun c hc => h1 c hc)
      have h0 : ∀ n, rem (fun _ => true) (fun _ => 1) n = 0 := by
        intro n
        induction n with
        | zero => rfl
        | succ n ih =>
          show rem (fun _ => true) (fun _ => 1) n + 0 = 0
          rw [ih]
      rw [h0] at this
      omega
    | some p =>
      obtain ⟨p1, p2⟩ := pk1_in R.length hp
      have hst := rem_st (g := w) (g' := fun i => w i || decide (i = p)) (f := fun _ => 1) (c := p) p2 (fun b => rfl) R.length p1
      obtain ⟨i1, i2, i3⟩ := sel_spec (R := R) k (fun i => w i || decide (i = p)) (by omega)
      rw [sel_some hp]
      refine ⟨List.nodup_cons.mpr ⟨fun hm => ?_, i1⟩, fun q => ?_, ?_⟩
      · have := ((i2 p).mp hm).2
        rw [decide_eq_true rfl, Bool.or_true] at this
        cases this
      · rw [List.mem_cons, i2 q]
        constructor
        · rintro (e | ⟨h1, h2⟩)
          · rw [e]
            exact ⟨p1, p2⟩
          · exact ⟨h1, (Bool.or_eq_false_iff.mp h2).1⟩
        · rintro ⟨h1, h2⟩
          by_cases e : q = p
          · exact Or.inl e
          · refine Or.inr ⟨h1, ?_⟩
            rw [h2, decide_eq_false e]
            rfl
      · rw [List.map_cons]
        refine List.Pairwise.cons (fun b hb => ?_) i3
        obtain ⟨q, hq, e⟩ := List.mem_map.mp hb
        have hq2 := (i2 q).mp hq
        rw [← e]
        exact pk1_le R.length p hp q hq2.1 (Bool.or_eq_false_iff.mp hq2.2).1
theorem rAt_range {R : List cdT} : (List.range R.length).map (rAt R) = R := by
  apply List.ext_getElem?
  intro i
  rw [List.getElem?_map]
  by_cases h : i < R.length
  · rw [List.getElem?_range h, rAt_of h]
    rfl
  · rw [List.getElem?_eq_none (by rw [List.length_range]; omega), List.getElem?_eq_none (by omega)]
    rfl
theorem sel_perm {R : List cdT} : ((sel R R.length (fun _ => false)).map (rAt R)).Perm R ∧ ((sel R R.length (fun _ => false)).map (rAt R)).Pairwise (fun a b => cmpC a b ≤ 0) := by
  obtain ⟨h1, h2, h3⟩ := sel_spec (R := R) R.length (fun _ => false) (rem_1 R.length)
  refine ⟨?_, h3⟩
  have hp : (sel R R.length (fun _ => false)).Perm (List.range R.length) := by
    refine (List.perm_ext_iff_of_nodup h1 List.nodup_range).mpr (fun p => ?_)
    rw [h2 p, List.mem_range]
    exact ⟨fun h => h.1, fun h => ⟨h, rfl⟩⟩
  have := hp.map (rAt R)
  rw [rAt_range] at this
  exact this
theorem srt_pw {Cs : List cdT} {os : List Nat} (h : srt Cs os) : (os.map (fun s => Cs.getD s (0, []))).Pairwise (fun a b => cmpC a b ≤ 0) := by
  rw [List.pairwise_iff_getElem]
  intro i j hi hj hij
  rw [List.length_map] at hi hj
  have h1 := h i j hij hj
  unfold atC at h1
  rw [List.getD_eq_getElem?_getD (l := os), List.getD_eq_getElem?_getD (l := os), List.getElem?_eq_getElem hi, List.getElem?_eq_getElem hj] at h1
  rw [List.getElem_map, List.getElem_map]
  exact h1
theorem cmpC_anti {a b : cdT} (h1 : cmpC a b ≤ 0) (h2 : cmpC b a ≤ 0) : a = b := by
  have := cmpC_sym (A := a) (B := b)
  exact cmpC_0 (by omega)
theorem pw_eq {X Y : List cdT} (h1 : X.Pairwise (fun a b => cmpC a b ≤ 0)) (h2 : Y.Pairwise (fun a b => cmpC a b ≤ 0)) (hp : X.Perm Y) : X = Y := hp.eq_of_pairwise (fun _ _ _ _ => cmpC_anti) h1 h2
/-- the least of the reference's rows -/
theorem lsC_le {A : rn_L} {sg : Nat → Bool} : ∀ (vs : List Nat) (T : List Nat), lsC A sg vs = some T → ∀ v, v ∈ vs → lexD T (cdv A sg v) ≤ 0 := by
  refine snocI (fun T h => by cases h) (fun vs v ih T h w hw => ?_)
  rw [lsC_app] at h
  cases hl : lsC A sg vs with
  | none =>
    have e := lsC_none hl
    rw [hl] at h
    have h : some (cdv A sg v) = some T := h
    cases h
    rw [e, List.nil_append] at hw
    rw [List.mem_singleton.mp hw, lexD_rf]
    exact Int.le_refl _
  | some U =>
    rw [hl] at h
    have h0 := ih U hl
    cases hb : lxb (cdv A sg v) U with
    | true =>
      rw [lsA_t hb] at h
      cases h
      rcases List.mem_append.mp hw with h9 | h9
      · exact lexD_tr _ _ _ (Int.le_of_lt ((lxb_lex _ _).mp hb)) (h0 w h9)
      · rw [List.mem_singleton.mp h9, lexD_rf]
        exact Int.le_refl _
    | false =>
      rw [lsA_f hb] at h
      cases h
      rcases List.mem_append.mp hw with h9 | h9
      · exact h0 w h9
      · rw [List.mem_singleton.mp h9]
        have h1 : ¬ lexD (cdv A sg v) T < 0 := fun h8 => by
          rw [(lxb_lex _ _).mpr h8] at hb
          cases hb
        have := lexD_sym T (cdv A sg v)
        omega
theorem lex_cd : ∀ (n : Nat) (X Y : Nat → Nat), lexD ((List.range n).map X) ((List.range n).map Y) < 0 → cd_lt X Y n
  | 0, X, Y => fun h => absurd (show (0 : Int) < 0 from h) (by decide)
  | n + 1, X, Y => fun h => by
    rw [List.range_succ_eq_map, List.map_cons, List.map_cons, List.map_map, List.map_map] at h
    have h : (if X 0 = Y 0 then lexD ((List.range n).map (X ∘ Nat.succ)) ((List.range n).map (Y ∘ Nat.succ)) else (X 0 : Int) - Y 0) < 0 := h
    by_cases e : X 0 = Y 0
    · rw [if_pos e] at h
      obtain ⟨j, hj, h1, h2⟩ := lex_cd n _ _ h
      refine ⟨j + 1, by omega, h1, fun i hi => ?_⟩
      cases i with
      | zero => exact e
      | succ i => exact h2 i (by omega)
    · rw [if_neg e] at h
      exact ⟨0, by omega, by omega, fun i hi => absurd hi (Nat.not_lt_zero _)⟩
theorem tf_T0 {G : Nat → Int32} {N : Nat → Nat} {v : Nat} : (tf_code G N v).T 0 = cd_first G v ∧ 0 < (tf_code G N v).len := by
  have h1 : tf_ext (tf_vis G tf_0 v) (tf_code G N v) := by
    show tf_ext (tf_vis G tf_0 v) (tf_rest G N 23 0 (tf_ring G N v 24 v tf_0))
    refine tf_ext_tr ?_ (tf_ext_tr (tf_sep_ext _) (tf_rest_ext G N 23 0 _))
    rw [tf_ring]
    split
    · exact tf_ext_rf _
    · exact tf_ring_ext G N v 23 _ _
  refine ⟨?_, Nat.lt_of_lt_of_le (Nat.succ_pos _) h1.1⟩
  rw [h1.2 0 (Nat.succ_pos _)]
  show nu tf_0.T 0 (tf_cell G tf_0 v) 0 = _
  rw [nu_same]
  unfold tf_cell tf_name
  rw [if_pos (show tf_0.num (v / 2) = 0 from rfl)]
  show 4 * (nu tf_0.num (v / 2) 1 (v / 2) - 1) + cd_first G v = _
  rw [nu_same]
  omega
theorem lfc_le {G F : Nat → Int32} {p : Int32} {w : Nat} : ∀ n, w < n → F w = p → lfc G F p n ≤ cd_first G w
  | 0, h, _ => absurd h (Nat.not_lt_zero _)
  | n + 1, h, e => by
    show (if F n = p then (if cd_first G n < lfc G F p n then cd_first G n else lfc G F p n) else lfc G F p n) ≤ _
    by_cases e1 : w = n
    · rw [← e1, if_pos e]
      split <;> omega
    · have ih := lfc_le (G := G) n (by omega) e
      split
      · split <;> omega
      · exact ih
/-- a part's code of the class is the least of all its rows -/
theorem epC_le {T : ow_NT} {F : Nat → Int32} {p : Int32} {C : cdT} {n0 : Nat} (hln : ∀ v, v < 2 * T.1 → F v = p → (tf_code T.2.2.2 T.2.2.1.1 v).len = n0) (hex : ∃ v, v < 2 * T.1 ∧ F v = p) (h : epC T F p C) : ∃ v, v < 2 * T.1 ∧ F v = p ∧ C.2 = tfL (tf_code T.2.2.2 T.2.2.1.1 v) ∧ ∀ w, w < 2 * T.1 → F w = p → lexD C.2 (tfL (tf_code T.2.2.2 T.2.2.1.1 w)) ≤ 0 := by
  obtain ⟨w0, hw0, e1, e2⟩ := lfc_ex (G := T.2.2.2) (F := F) (p := p) (2 * T.1) hex
  rcases h.2 with ⟨a1, a2⟩ | ⟨v, ⟨a1, a2, a3⟩, a4⟩
  · exact absurd ⟨e1, e2⟩ (a1 w0 hw0)
  · refine ⟨v, a1, a2.1, a4, fun w hw ew => ?_⟩
    have l1 := hln v a1 a2.1
    have l2 := hln w hw ew
    rw [a4]
    by_cases hs : epS T F p w
    · have h1 := a3 w hw hs
      have h2 : ¬ lexD (tfL (tf_code T.2.2.2 T.2.2.1.1 w)) (tfL (tf_code T.2.2.2 T.2.2.1.1 v)) < 0 := by
        intro h9
        unfold tfL at h9
        rw [l2, l1] at h9
        rw [l1] at h1
        exact h1 (lex_cd n0 _ _ h9)
      have := lexD_sym (tfL (tf_code T.2.2.2 T.2.2.1.1 v)) (tfL (tf_code T.2.2.2 T.2.2.1.1 w))
      omega
    · have hlt : cd_first T.2.2.2 v < cd_first T.2.2.2 w := by
        have h1 := lfc_le (G := T.2.2.2) (F := F) (p := p) (w := w) (2 * T.1) hw ew
        have h2 := a2.2
        have h3 : cd_first T.2.2.2 w ≠ lfc T.2.2.2 F p (2 * T.1) := fun h9 => hs ⟨ew, h9⟩
        omega
      have t1 := tf_T0 (G := T.2.2.2) (N := T.2.2.1.1) (v := v)
      have t2 := tf_T0 (G := T.2.2.2) (N := T.2.2.1.1) (v := w)
      have key : ∀ P : tf_P, 0 < P.len → ∃ L, tfL P = P.T 0 :: L := by
        intro P hP
        obtain ⟨n, hn⟩ : ∃ n, P.len = n + 1 := ⟨P.len - 1, by omega⟩
        unfold tfL
        rw [hn, List.range_succ_eq_map, List.map_cons]
        exact ⟨_, rfl⟩
      obtain ⟨L1, q1⟩ := key _ t1.2
      obtain ⟨L2, q2⟩ := key _ t2.2
      rw [q1, q2, t1.1, t2.1]
      show (if cd_first T.2.2.2 v = cd_first T.2.2.2 w then lexD L1 L2 else (cd_first T.2.2.2 v : Int) - cd_first T.2.2.2 w) ≤ 0
      rw [if_neg (by omega)]
      omega
