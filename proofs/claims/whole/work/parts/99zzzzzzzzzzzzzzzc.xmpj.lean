/-! maps: the class counts along its plan -/
def sP9 (g n : Nat) (P : List sT9) (L : List Nat) : Prop := L.length = n ∧ (∀ b, b < n → at9 L b < g ∧ (b ∉ tos P → at9 L b = 0)) ∧ ∀ t, t ∈ P → t.1 ≠ 0 → eS9 t (at9 L)
def xt9 (R : List sT9) (v : Nat → Nat) (L : List Nat) : Prop := ∀ b, b ∈ tos R → at9 L b = v b
def vR9 (z : ow_MS) (v : Nat → Nat) : Prop := ∀ b, b < 18 → z.2.1 41009 b = nI (v b) ∧ v b < 24
def ud9 (v : Nat → Nat) (a q : Nat) : Nat → Nat := fun b => if b = a then q else v b
def okP9 (n : Nat) (P : List sT9) : Prop := (∀ s t, P[s]? = some t → vS9 (P.take s) t) ∧ ∀ b, b ∈ tos P → b < n
section XMJ
theorem ud9_at {v : Nat → Nat} {a q : Nat} : ud9 v a q a = q := if_pos rfl
theorem ud9_ne {v : Nat → Nat} {a q b : Nat} (h : b ≠ a) : ud9 v a q b = v b := if_neg h
theorem vR9_set {z : ow_MS} {v : Nat → Nat} {a q : Nat} (hq : q < 24) (h : vR9 z v) : vR9 (usI z 41009 a (nI q)) (ud9 v a q) := fun b hb => by
  by_cases e : b = a
  · rw [e, ud9_at]
    exact ⟨po_usI_at, hq⟩
  · rw [ud9_ne e]
    exact ⟨rd_ne e (h b hb).1, (h b hb).2⟩
theorem take_s9 {P : List sT9} {j : Nat} {t : sT9} (h : P[j]? = some t) : P.take (j + 1) = P.take j ++ [t] := by
  rw [List.take_add_one, h]
  rfl
theorem tos_take {P : List sT9} {j b : Nat} (h : b ∈ tos (P.take j)) : b ∈ tos P := by
  obtain ⟨t, t1, t2⟩ := List.mem_map.mp h
  exact List.mem_map.mpr ⟨t, List.mem_of_mem_take t1, t2⟩
theorem tos_mono {P : List sT9} {i j b : Nat} (hij : i ≤ j) (h : b ∈ tos (P.take i)) : b ∈ tos (P.take j) := by
  have e : P.take i = (P.take j).take i := by rw [List.take_take, Nat.min_eq_left hij]
  rw [e] at h
  exact tos_take h
/-- the arcs of a step that tells of others are known before it, or are it -/
theorem st_in {n : Nat} {P : List sT9} (hP : okP9 n P) {i : Nat} {t : sT9} (hi : P[i]? = some t) : t.2.1 ∈ tos (P.take (i + 1)) ∧ (t.1 ≠ 0 → t.2.2.1 ∈ tos (P.take i) ∧ t.2.2.2.1 ∈ tos (P.take i)) := by
  refine ⟨?_, fun h0 => ?_⟩
  · rw [take_s9 hi, tos_app]
    exact Or.inr rfl
  · rcases hP.1 i t hi with h9 | h9
    · exact absurd h9.1 h0
    · exact h9.2
theorem eS_cg {t : sT9} {v w : Nat → Nat} (h1 : v t.2.1 = w t.2.1) (h2 : v t.2.2.1 = w t.2.2.1) (h3 : v t.2.2.2.1 = w t.2.2.2.1) (h : eS9 t v) : eS9 t w := by
  unfold eS9 at h ⊢
  rw [← h1, ← h2, ← h3]
  exact h
theorem sm9_add {a b : Nat → Nat} : ∀ k, sm9 (fun l => a l + b l) k = sm9 a k + sm9 b k
  | 0 => rfl
  | k + 1 => by
    show sm9 _ k + (a k + b k) = (sm9 a k + a k) + (sm9 b k + b k)
    rw [sm9_add k]
    omega
theorem sm9_cg {a b : Nat → Nat} : ∀ k, (∀ l, l < k → a l = b l) → sm9 a k = sm9 b k
  | 0, _ => rfl
  | k + 1, h => by
    show sm9 a k + a k = sm9 b k + b k
    rw [sm9_cg k (fun l hl => h l (by omega)), h k (by omega)]
theorem sm9_one {F : Nat → Nat} {e : Nat} : ∀ k, sm9 (fun l => if e = l then F l else 0) k = if e < k then F e else 0
  | 0 => rfl
  | k + 1 => by
    show sm9 _ k + (if e = k then F k else 0) = _
    rw [sm9_one k]
    by_cases h : e = k
    · rw [if_neg (by omega), if_pos h, if_pos (by omega), h, Nat.zero_add]
    · rw [if_neg h, Nat.add_zero]
      by_cases h2 : e < k
      · rw [if_pos h2, if_pos (by omega)]
      · rw [if_neg h2, if_neg (by omega)]
/-- one of each class, with its class's size -/
theorem sm_cls {F : Nat → Nat} {g : Nat} (h : ∀ t, t < g → lsM t g < g) : ∀ k, k ≤ g → sm9 (fun t => F (lsM t g)) k = sm9 (fun l => csz g k l * F l) g
  | 0, _ => by
    rw [sm9_cg (b := fun _ => 0) g (fun l _ => by show 0 * F l = 0; rw [Nat.zero_mul]), sm9_c, Nat.mul_zero]
    rfl
  | k + 1, hk => by
    show sm9 (fun t => F (lsM t g)) k + F (lsM k g) = _
    rw [sm_cls h k (by omega), sm9_cg (a := fun l => csz g (k + 1) l * F l) (b := fun l => csz g k l * F l + if lsM k g = l then F l else 0) g (fun l _ => ?_), sm9_add, sm9_one, if_pos (h k (by omega))]
    show (csz g k l + if lsM k g = l then 1 else 0) * F l = _
    by_cases e : lsM k g = l
    · rw [if_pos e, if_pos e, Nat.add_mul, Nat.one_mul]
    · rw [if_neg e, if_neg e, Nat.add_zero, Nat.add_zero]
theorem csz_pos {g : Nat} : ∀ k t, t < k → 1 ≤ csz g k (lsM t g)
  | 0, t, h => absurd h (Nat.not_lt_zero _)
  | k + 1, t, h => by
    show 1 ≤ csz g k (lsM t g) + if lsM k g = lsM t g then 1 else 0
    by_cases e : t = k
    · rw [e, if_pos rfl]
      omega
    · have := csz_pos (g := g) k t (by omega)
      omega
/-- colourings may be conjugated -/
theorem sP_cj {m n h : Nat} {P : List sT9} {L : List Nat} (hm1 : 1 ≤ m) (hm4 : m ≤ 4) (hP : okP9 n P) (hh : h < thM m) (hL : sP9 (thM m) n P L) : sP9 (thM m) n P (tb9 n (fun b => if b ∈ tos P then cjG h (at9 L b) else 0)) := by
  have h24 := (thM_le m).2
  refine ⟨tb9_len, fun b hb => ?_, fun t ht h0 => ?_⟩
  · rw [tb9_at hb]
    by_cases e : b ∈ tos P
    · rw [if_pos e]
      exact ⟨(ca9_m hm1 hm4 hh (hL.2.1 b hb).1).1, fun h9 => absurd e h9⟩
    · rw [if_neg e]
      exact ⟨thM_pos m, fun _ => rfl⟩
  · obtain ⟨i, hi⟩ := List.getElem?_of_mem ht
    obtain ⟨k1, k2⟩ := st_in hP hi
    have m1 := tos_take k1
    have m2 := tos_take (k2 h0).1
    have m3 := tos_take (k2 h0).2
    have l1 := hP.2 _ m1
    have l2 := hP.2 _ m2
    have l3 := hP.2 _ m3
    have e := hL.2.2 t ht h0
    unfold eS9 at e ⊢
    rw [tb9_at l1, tb9_at l2, tb9_at l3, if_pos m1, if_pos m2, if_pos m3, e]
    have b2 : at9 L t.2.2.1 < 24 := by have := (hL.2.1 _ l2).1; omega
    have b3 : at9 L t.2.2.2.1 < 24 := by have := (hL.2.1 _ l3).1; omega
    obtain ⟨c1, -, -, -, c5⟩ := ca9 (h := h) (o := at9 L t.2.2.1) (by omega) b2
    cases t.2.2.2.2
    · exact (sd9 (by omega) b2 b3).symm
    · show cjG h (cjG (ivC (at9 L t.2.2.1)) (at9 L t.2.2.2.1)) = cjG (ivC (cjG h (at9 L t.2.2.1))) (cjG h (at9 L t.2.2.2.1))
      rw [c1]
      exact (sd9 (by omega) c5 b3).symm
theorem cnt_cj {m n h a l N : Nat} {P : List sT9} (hm1 : 1 ≤ m) (hm4 : m ≤ 4) (hP : okP9 n P) (hh : h < thM m) (ha : a ∈ tos P) (hl : l < thM m) (hc : cnt9 (fun L => sP9 (thM m) n P L ∧ at9 L a = l) N) : cnt9 (fun L => sP9 (thM m) n P L ∧ at9 L a = cjG h l) N := by
  have h24 := (thM_le m).2
  have hi := (ca9_m hm1 hm4 hh hh).2
  have back : ∀ (h h' : Nat), h < thM m → h' < thM m → (∀ x, x < 24 → cjG h' (cjG h x) = x) → ∀ L, sP9 (thM m) n P L → tb9 n (fun b => if b ∈ tos P then cjG h' (at9 (tb9 n (fun b => if b ∈ tos P then cjG h (at9 L b) else 0)) b) else 0) = L := by
    intro h h' h1 h2 hx L hL
    refine at9_ext tb9_len hL.1 (fun b hb => ?_)
    rw [tb9_at hb]
    by_cases e : b ∈ tos P
    · rw [if_pos e, tb9_at hb, if_pos e, hx _ (by have := (hL.2.1 b hb).1; omega)]
    · rw [if_neg e, (hL.2.1 b hb).2 e]
  have i1 : ∀ x, x < 24 → cjG (ivC h) (cjG h x) = x := fun x hx => (ca9 (h := h) (o := x) (by omega) hx).2.1
  have i2 : ∀ x, x < 24 → cjG h (cjG (ivC h) x) = x := fun x hx => (ca9 (h := h) (o := x) (by omega) hx).2.2.1
  have la := hP.2 a ha
  refine cnt_bij (fun L => tb9 n (fun b => if b ∈ tos P then cjG h (at9 L b) else 0)) (fun L hL => ⟨sP_cj hm1 hm4 hP hh hL.1, ?_⟩) (fun L M hL hM e => ?_) (fun M hM => ⟨tb9 n (fun b => if b ∈ tos P then cjG (ivC h) (at9 M b) else 0), ⟨sP_cj hm1 hm4 hP hi hM.1, ?_⟩, back (ivC h) h hi hh i2 M hM.1⟩) hc
  · rw [tb9_at la, if_pos ha, hL.2]
  · have e1 := back h (ivC h) hh hi i1 L hL.1
    have e2 := back h (ivC h) hh hi i1 M hM.1
    rw [← e1, ← e2]
    exact congrArg (fun R => tb9 n (fun b => if b ∈ tos P then cjG (ivC h) (at9 R b) else 0)) e
  · rw [tb9_at la, if_pos ha, hM.2, i1 _ (by omega)]
theorem i64_24 : ∀ k : Fin 25, (nI k.val).toInt64 = Int64.ofNat k.val := by decide +kernel
theorem lsM_th {m t : Nat} (hm1 : 1 ≤ m) (hm4 : m ≤ 4) (ht : t < thM m) : lsM t (thM m) < thM m := by
  rcases lsM_or (x := t) (thM m) with h | ⟨o, o1, o2⟩
  · rw [h]
    exact ht
  · rw [o2]
    exact (ca9_m hm1 hm4 o1 ht).1
variable {vl : Nat → Nat}
theorem xc_countF {m n : Nat} {P : List sT9} (hm1 : 1 ≤ m) (hm4 : m ≤ 4) (hP : okP9 n P) (hn : n ≤ 18) (hl : P.length ≤ 18) : ∀ (d q s dd : Nat) (v : Nat → Nat) (z : ow_MS), q + d = 19 → d ≤ dd → s ≤ P.length → q ≤ s → (q = 0 → s = 0) → vR9 z v → stL z P → cjT z → (∀ l, l < 24 → z.2.1 41008 l = nI (csz (thM m) (thM m) l)) → (∀ b, b ∈ tos (P.take s) → v b < thM m) → (∀ i t, i < s → P[i]? = some t → t.1 ≠ 0 → eS9 t v) → Te (fun K => cd0_X0_countFrom vl K (dd + 1) 41000 (nI s) (nI q) (nI (thM m)) z) (fun r => (∃ v', vR9 r.2 v' ∧ ∀ b, b ∈ tos (P.take s) → v' b = v b) ∧ fr (fun q => q = 41009) z r.2 ∧ ∃ M, r.1 = Int64.ofNat M ∧ cnt9 (fun L => sP9 (thM m) n P L ∧ xt9 (P.take s) v L) M) := by
  have h24 := (thM_le m).2
  intro d
  induction d with
  | zero =>
    intro q s dd v z hq hdd hs hqs
    exfalso
    omega
  | succ d ih =>
    intro q s dd v z hq hdd hs hqs hq0 hv hst hcj hcl hvs hes
    obtain ⟨dd, rfl⟩ : ∃ k, dd = k + 1 := ⟨dd - 1, by omega⟩
    let Q : Int64 × ow_MS → Prop := fun r => (∃ v', vR9 r.2 v' ∧ ∀ b, b ∈ tos (P.take s) → v' b = v b) ∧ fr (fun q => q = 41009) z r.2 ∧ ∃ M, r.1 = Int64.ofNat M ∧ cnt9 (fun L => sP9 (thM m) n P L ∧ xt9 (P.take s) v L) M
    have sf : ∀ y1, fr (fun q => q = 41009) z y1 → stL y1 P := fun y1 hf => by
      refine ⟨(hf 41010 (by decide)).1.trans hst.1, fun s t hs => ?_⟩
      rw [(hf 41011 (by decide)).2.1, (hf 41012 (by decide)).2.1, (hf 41013 (by decide)).2.1, (hf 41014 (by decide)).2.1, (hf 41015 (by decide)).2.1]
      exact hst.2 s t hs
    have cf : ∀ y1, fr (fun q => q = 41009) z y1 → cjT y1 := fun y1 hf => by
      refine ⟨fun o x ho hx => ?_, fun o ho => ?_⟩
      · rw [(hf 41006 (by decide)).2.1]
        exact hcj.1 o x ho hx
      · rw [(hf 41007 (by decide)).2.1]
        exact hcj.2 o ho
    have lf : ∀ y1, fr (fun q => q = 41009) z y1 → ∀ l, l < 24 → y1.2.1 41008 l = nI (csz (thM m) (thM m) l) := fun y1 hf l hl9 => by
      rw [(hf 41008 (by decide)).2.1]
      exact hcl l hl9
    have c1 : ∀ (e j : Nat) (w : Nat → Nat) (y1 : ow_MS), j + e = P.length → s ≤ j → (q = 0 → j = 0) → vR9 y1 w → fr (fun q => q = 41009) z y1 → (∀ b, b ∈ tos (P.take s) → w b = v b) → (∀ b, b ∈ tos (P.take j) → w b < thM m) → (∀ i t, i < j → P[i]? = some t → t.1 ≠ 0 → eS9 t w) → (∀ L, sP9 (thM m) n P L → (xt9 (P.take s) v L ↔ xt9 (P.take j) w L)) → Tt (fun K k => c_X0_countFrom vl K (cd0_X0_countFrom vl K (dd + 1)) k 1 (nI s) (nI q) (nI (thM m)) (nI j) 0 0 0 0 0 41000 0 0 0 0 y1) Q := by
      intro e
      induction e with
      | zero =>
        intro j w y1 hj hsj hqj hw hf hvw hwj hew hx
        have ej : j = P.length := by omega
        subst ej
        rw [List.take_length] at hwj hx
        refine u_X0_countFrom_1 ?_; unfold cm_X0_countFrom_1
        refine w_rdF (sf y1 hf).1 (w_leT (by omega) (by omega) (w_some ⟨⟨w, hw, hvw⟩, hf, 1, rfl, ?_⟩))
        refine cnt_1 (L0 := tb9 n (fun b => if b ∈ tos P then w b else 0)) (fun L => ⟨fun hL => ?_, fun eL => ?_⟩)
        · refine at9_ext hL.1.1 tb9_len (fun b hb => ?_)
          rw [tb9_at hb]
          by_cases e9 : b ∈ tos P
          · rw [if_pos e9]
            exact (hx L hL.1).mp hL.2 b e9
          · rw [if_neg e9]
            exact (hL.1.2.1 b hb).2 e9
        · have a9 : ∀ b, b ∈ tos P → at9 L b = w b := fun b hb => by
            rw [eL, tb9_at (hP.2 b hb), if_pos hb]
          have s9 : sP9 (thM m) n P L := by
            refine ⟨by rw [eL]; exact tb9_len, fun b hb => ?_, fun t ht h0 => ?_⟩
            · rw [eL, tb9_at hb]
              by_cases e9 : b ∈ tos P
              · rw [if_pos e9]
                exact ⟨hwj b e9, fun h9 => absurd e9 h9⟩
              · rw [if_neg e9]
                exact ⟨thM_pos m, fun _ => rfl⟩
            · obtain ⟨i, hi⟩ := List.getElem?_of_mem ht
              obtain ⟨k1, k2⟩ := st_in hP hi
              exact eS_cg (a9 _ (tos_take k1)).symm (a9 _ (tos_take (k2 h0).1)).symm (a9 _ (tos_take (k2 h0).2)).symm (hew i t (List.getElem?_eq_some_iff.mp hi).1 hi h0)
          exact ⟨s9, (hx L s9).mpr (fun b hb => a9 b hb)⟩
      | succ e ihe =>
        intro j w y1 hj hsj hqj hw hf hvw hwj hew hx
        have hjl : j < P.length := by omega
        obtain ⟨t, ht⟩ : ∃ t, P[j]? = some t := ⟨_, List.getElem?_eq_getElem hjl⟩
        obtain ⟨r1, r2, r3, r4, r5⟩ := (sf y1 hf).2 j t ht
        obtain ⟨k1, k2⟩ := st_in hP ht
        have hto := hP.2 _ (tos_take k1)
        have htk := take_s9 ht
        have c6 : ∀ (x5 x6 : Int32) (w' : Nat → Nat) (y2 : ow_MS), q ≠ 0 → vR9 y2 w' → fr (fun q => q = 41009) z y2 → (∀ b, b ∈ tos (P.take s) → w' b = v b) → (∀ b, b ∈ tos (P.take (j + 1)) → w' b < thM m) → (∀ i t, i < j + 1 → P[i]? = some t → t.1 ≠ 0 → eS9 t w') → (∀ L, sP9 (thM m) n P L → (xt9 (P.take s) v L ↔ xt9 (P.take (j + 1)) w' L)) → Tt (fun K k => c_X0_countFrom vl K (cd0_X0_countFrom vl K (dd + 1)) k 6 (nI s) (nI q) (nI (thM m)) (nI j) x5 x6 0 0 0 41000 0 0 0 0 y2) Q := by
          intro x5 x6 w' y2 hqn a1 a2 a3 a4 a5 a6
          refine u_X0_countFrom_6 ?_; unfold cm_X0_countFrom_6
          rw [nI_1]
          exact ihe (j + 1) w' y2 (by omega) (by omega) (fun h9 => absurd h9 hqn) a1 a2 a3 a4 a5 a6
        -- setting an arc that is new
        have new : t.2.1 ∉ tos (P.take j) → ∀ g, (∀ b, b ∈ tos (P.take s) → ud9 w t.2.1 g b = v b) ∧ (g < thM m → ∀ b, b ∈ tos (P.take (j + 1)) → ud9 w t.2.1 g b < thM m) ∧ (∀ i t', i < j → P[i]? = some t' → t'.1 ≠ 0 → eS9 t' (ud9 w t.2.1 g)) ∧ ∀ b, b ∈ tos (P.take j) → ud9 w t.2.1 g b = w b := by
          intro hnew g
          have n0 : ∀ b, b ∈ tos (P.take j) → ud9 w t.2.1 g b = w b := fun b hb => ud9_ne (fun e9 => hnew (by rw [← e9]; exact hb))
          refine ⟨fun b hb => (n0 b (tos_mono hsj hb)).trans (hvw b hb), fun hg b hb => ?_, fun i t' hi hi2 h0 => ?_, n0⟩
          · rw [htk, tos_app] at hb
            rcases hb with hb | hb
            · rw [n0 b hb]
              exact hwj b hb
            · rw [hb, ud9_at]
              exact hg
          · obtain ⟨l1, l2⟩ := st_in hP hi2
            exact eS_cg (n0 _ (tos_mono (by omega) l1)).symm (n0 _ (tos_mono (by omega) (l2 h0).1)).symm (n0 _ (tos_mono (by omega) (l2 h0).2)).symm (hew i t' hi hi2 h0)
        refine u_X0_countFrom_1 ?_; unfold cm_X0_countFrom_1
        refine w_rdF (sf y1 hf).1 (w_leF (by omega) hjl (w_crI ch_41011 rfl (show j < 36 by omega) r1 ?_))
        rcases hP.1 j t ht with ⟨h0, hnew⟩ | ⟨hk, hby, hfr⟩
        · -- a seed
          rw [h0]
          refine w_ifT rfl ?_
          obtain ⟨-, -, -, -⟩ := new hnew 0
          let Φ : Nat → List Nat → Prop := fun g L => sP9 (thM m) n P L ∧ xt9 (P.take (j + 1)) (ud9 w t.2.1 g) L
          have Φd : ∀ L g g', Φ g L → Φ g' L → g = g' := fun L g g' h1 h2 => by
            have e1 := h1.2 _ k1
            have e2 := h2.2 _ k1
            rw [ud9_at] at e1 e2
            exact e1.symm.trans e2
          have Φe : ∀ L, (∃ g, g < thM m ∧ Φ g L) ↔ sP9 (thM m) n P L ∧ xt9 (P.take s) v L := fun L => by
            constructor
            · rintro ⟨g, g1, g2, g3⟩
              refine ⟨g2, (hx L g2).mpr (fun b hb => ?_)⟩
              rw [← (new hnew g).2.2.2 b hb]
              exact g3 b (by rw [htk, tos_app]; exact Or.inl hb)
            · rintro ⟨g2, g3⟩
              refine ⟨at9 L t.2.1, (g2.2.1 _ hto).1, g2, fun b hb => ?_⟩
              rw [htk, tos_app] at hb
              rcases hb with hb | hb
              · rw [(new hnew _).2.2.2 b hb]
                exact (hx L g2).mp g3 b hb
              · rw [hb, ud9_at]
          let W : Nat → Nat := fun g => if q = 0 then csz (thM m) (thM m) g else 1
          have c2 : ∀ (f g : Nat) (F w2 : Nat → Nat) (y2 : ow_MS), g + f = thM m → vR9 y2 w2 → fr (fun q => q = 41009) z y2 → (∀ b, b ∈ tos (P.take j) → w2 b = w b) → (∀ g', g' < g → W g' ≠ 0 → cnt9 (Φ g') (F g')) → Tt (fun K k => c_X0_countFrom vl K (cd0_X0_countFrom vl K (dd + 1)) k 2 (nI s) (nI q) (nI (thM m)) (nI j) 0 0 (nI g) 0 (Int64.ofNat (sm9 (fun g' => W g' * F g') g)) 41000 0 0 0 0 y2) Q := by
            intro f
            induction f with
            | zero =>
              intro g F w2 y2 hg hw2 hf2 hww hF
              have eg : g = thM m := by omega
              subst eg
              refine u_X0_countFrom_2 ?_; unfold cm_X0_countFrom_2
              refine w_leT (by omega) (by omega) (w_some ⟨⟨w2, hw2, fun b hb => (hww b (tos_mono hsj hb)).trans (hvw b hb)⟩, hf2, _, rfl, ?_⟩)
              by_cases q0 : q = 0
              · have j0 := hqj q0
                have eW : W = fun g => csz (thM m) (thM m) g := funext (fun g => if_pos q0)
                have Φa : ∀ g L, Φ g L ↔ sP9 (thM m) n P L ∧ at9 L t.2.1 = g := fun g L => by
                  have e9 : tos (P.take (j + 1)) = [t.2.1] := by
                    rw [htk, j0]
                    rfl
                  constructor
                  · rintro ⟨g1, g2⟩
                    have := g2 _ k1
                    rw [ud9_at] at this
                    exact ⟨g1, this⟩
                  · rintro ⟨g1, g2⟩
                    refine ⟨g1, fun b hb => ?_⟩
                    rw [e9] at hb
                    rw [List.mem_singleton.mp hb, ud9_at]
                    exact g2
                have Fc : ∀ g, g < thM m → cnt9 (Φ g) (F (lsM g (thM m))) := fun g hg => by
                  have l1 := lsM_th hm1 hm4 hg
                  have l2 := csz_pos (g := thM m) (thM m) g hg
                  have l3 := hF (lsM g (thM m)) l1 (by rw [eW]; exact Nat.ne_of_gt l2)
                  have l4 := cnt_cg (Φa _) l3
                  refine cnt_cg (fun L => (Φa g L).symm) ?_
                  rcases lsM_or (x := g) (thM m) with h9 | ⟨o, o1, o2⟩
                  · rw [h9] at l4 ⊢
                    exact l4
                  · have oi := (ca9_m hm1 hm4 o1 o1).2
                    have := cnt_cj hm1 hm4 hP oi (tos_take k1) l1 l4
                    rw [show cjG (ivC o) (lsM g (thM m)) = g by rw [o2]; exact (ca9 (h := o) (o := g) (by omega) (by omega)).2.1] at this
                    exact this
                have := cnt_sm Φd (thM m) Fc
                rw [sm_cls (F := F) (fun t ht => lsM_th hm1 hm4 ht) (thM m) (Nat.le_refl _)] at this
                rw [eW]
                exact cnt_cg Φe this
              · have eW : ∀ g, W g = 1 := fun g => if_neg q0
                have := cnt_sm Φd (f := F) (thM m) (fun g hg => hF g hg (by rw [eW]; decide))
                rw [sm9_cg (a := fun g' => W g' * F g') (b := F) (thM m) (fun l _ => by rw [eW, Nat.one_mul])]
                exact cnt_cg Φe this
            | succ f ihf =>
              intro g F w2 y2 hg hw2 hf2 hww hF
              have hgm : g < thM m := by omega
              have c4 : ∀ (x8 : Int32) (y0 : Int64) (M : Nat) (w3 : Nat → Nat) (y3 : ow_MS), y0 = Int64.ofNat (W g * M) → vR9 y3 w3 → fr (fun q => q = 41009) z y3 → (∀ b, b ∈ tos (P.take j) → w3 b = w b) → (W g ≠ 0 → cnt9 (Φ g) M) → Tt (fun K k => c_X0_countFrom vl K (cd0_X0_countFrom vl K (dd + 1)) k 4 (nI s) (nI q) (nI (thM m)) (nI j) 0 0 (nI g) x8 (Int64.ofNat (sm9 (fun g' => W g' * F g') g)) 41000 0 0 y0 (Int64.ofNat (sm9 (fun g' => W g' * F g') g)) y3) Q := by
                intro x8 y0 M w3 y3 hy0 a1 a2 a3 a4
                refine u_X0_countFrom_4 ?_; unfold cm_X0_countFrom_4
                rw [nI_1, hy0, ← Int64.ofNat_add]
                have := ihf (g + 1) (ud9 F g M) w3 y3 (by omega) a1 a2 a3 (fun g' hg' hW => ?_)
                · have e9 : sm9 (fun g' => W g' * ud9 F g M g') (g + 1) = sm9 (fun g' => W g' * F g') g + W g * M := by
                    show sm9 (fun g' => W g' * ud9 F g M g') g + W g * ud9 F g M g = _
                    rw [ud9_at, sm9_cg (b := fun g' => W g' * F g') g (fun l hl9 => by rw [ud9_ne (by omega)])]
                  rw [e9] at this
                  exact this
                · by_cases eg : g' = g
                  · rw [eg] at hW ⊢
                    rw [ud9_at]
                    exact a4 hW
                  · rw [ud9_ne eg]
                    exact hF g' (by omega) hW
              have c3 : ∀ (t0 : Int32), t0 = nI (W g) → Tt (fun K k => c_X0_countFrom vl K (cd0_X0_countFrom vl K (dd + 1)) k 3 (nI s) (nI q) (nI (thM m)) (nI j) 0 0 (nI g) 0 (Int64.ofNat (sm9 (fun g' => W g' * F g') g)) 41000 t0 0 0 0 y2) Q := by
                intro t0 ht0
                subst ht0
                have W24 : W g ≤ 24 := by
                  show (if q = 0 then csz (thM m) (thM m) g else 1) ≤ 24
                  have := csz_le (g := thM m) (l := g) (thM m)
                  split <;> omega
                have f3 : fr (fun q => q = 41009) z (usI y2 41009 t.2.1 (nI g)) := fr_I2 hf2 rfl
                have v3 : vR9 (usI y2 41009 t.2.1 (nI g)) (ud9 w2 t.2.1 g) := vR9_set (by omega) hw2
                have e3 : ∀ b, b ∈ tos (P.take j) → ud9 w2 t.2.1 g b = w b := fun b hb => (ud9_ne (fun e9 => hnew (by rw [← e9]; exact hb))).trans (hww b hb)
                have e4 : ∀ b, b ∈ tos (P.take (j + 1)) → ud9 w2 t.2.1 g b = ud9 w t.2.1 g b := fun b hb => by
                  rw [htk, tos_app] at hb
                  rcases hb with hb | hb
                  · rw [e3 b hb, (new hnew g).2.2.2 b hb]
                  · rw [hb, ud9_at, ud9_at]
                obtain ⟨-, p2, -, -, -⟩ := (sf y2 hf2).2 j t ht
                refine u_X0_countFrom_3 ?_; unfold cm_X0_countFrom_3
                refine w_crI ch_41012 rfl (show j < 36 by omega) p2 (w_ctI ch_41009 rfl (show t.2.1 < 18 by omega) (w_if (fun h9 => ?_) (fun h9 => ?_)))
                · have W0 : W g = 0 := nI_inj9 (a := W g) (b := 0) (by omega) (by omega) h9
                  refine c4 _ 0 0 (ud9 w2 t.2.1 g) _ ?_ v3 f3 e3 (fun h8 => absurd W0 h8)
                  rw [W0]
                  rfl
                · rw [nI_1, nI_1]
                  refine w_cs1 (ih (q + 1) (j + 1) dd (ud9 w2 t.2.1 g) _ (by omega) (by omega) (by omega) (by omega) (fun h9 => by omega) v3 (sf _ f3) (cf _ f3) (lf _ f3) (fun b hb => ?_) (fun i t' hi hi2 h0' => ?_)) ?_
                  · rw [e4 b hb]
                    exact (new hnew g).2.1 hgm b hb
                  · by_cases eij : i = j
                    · rw [eij, ht] at hi2
                      rw [← Option.some.inj hi2] at h0'
                      exact absurd h0 h0'
                    · obtain ⟨l1, l2⟩ := st_in hP hi2
                      exact eS_cg (e4 _ (tos_mono (by omega) l1)).symm (e4 _ (tos_mono (by omega) (l2 h0').1)).symm (e4 _ (tos_mono (by omega) (l2 h0').2)).symm ((new hnew g).2.2.1 i t' (by omega) hi2 h0')
                  · rintro u y3 ⟨⟨w4, a1, a2⟩, a3, M, a4, a5⟩
                    have a4 : u = Int64.ofNat M := a4
                    have a3 : fr (fun q => q = 41009) (usI y2 41009 t.2.1 (nI g)) y3 := a3
                    have a1 : vR9 y3 w4 := a1
                    refine c4 _ _ M w4 y3 ?_ a1 (fr_tr f3 a3) (fun b hb => (a2 b (by rw [htk, tos_app]; exact Or.inl hb)).trans (e3 b hb)) (fun _ => cnt_cg (fun L => and_congr Iff.rfl ⟨fun h8 b hb => (h8 b hb).trans (e4 b hb), fun h8 b hb => (h8 b hb).trans (e4 b hb).symm⟩) a5)
                    rw [a4, show (nI (W g)).toInt64 = Int64.ofNat (W g) from i64_24 ⟨W g, by omega⟩, Int64.ofNat_mul]
              refine u_X0_countFrom_2 ?_; unfold cm_X0_countFrom_2
              refine w_leF (by omega) hgm (w_eqN (b := 0) (by omega) (by omega) (fun q0 => w_crI ch_41008 rfl (show g < 24 by omega) (lf y2 hf2 g (by omega)) (c3 _ ?_)) (fun q0 => c3 _ ?_))
              · show _ = nI (if q = 0 then csz (thM m) (thM m) g else 1)
                rw [if_pos q0]
              · show _ = nI (if q = 0 then csz (thM m) (thM m) g else 1)
                rw [if_neg q0]
                rfl
          exact c2 (thM m) 0 (fun _ => 0) w y1 (by omega) hw hf (fun _ _ => rfl) (fun g' hg' => absurd hg' (Nat.not_lt_zero _))
        · -- a step that tells of others
          have tk : t.1 = 1 ∨ t.1 = 2 := hk.imp (fun h9 => h9.1) (fun h9 => h9.1)
          have hqn : q ≠ 0 := fun h9 => by
            have := hqj h9
            rw [this] at hby
            exact absurd hby List.not_mem_nil
          have lby := hP.2 _ (tos_take hby)
          have lfr := hP.2 _ (tos_take hfr)
          obtain ⟨b1, b2⟩ := hw t.2.2.1 (by omega)
          obtain ⟨b3, b4⟩ := hw t.2.2.2.1 (by omega)
          obtain ⟨b5, b6⟩ := hw t.2.1 (by omega)
          have hi : cjS t.2.2.2.2 (w t.2.2.1) (w t.2.2.2.1) < thM m := by
            have g1 := hwj _ hby
            have g2 := hwj _ hfr
            cases t.2.2.2.2
            · exact (ca9_m hm1 hm4 g1 g2).1
            · exact (ca9_m hm1 hm4 (ca9_m hm1 hm4 g1 g1).2 g2).1
          have xL : ∀ L, sP9 (thM m) n P L → xt9 (P.take j) w L → at9 L t.2.1 = cjS t.2.2.2.2 (w t.2.2.1) (w t.2.2.2.1) := fun L hL hxL => by
            have := hL.2.2 t (List.mem_of_getElem? ht) (by omega)
            unfold eS9 at this
            rw [hxL _ hby, hxL _ hfr] at this
            exact this
          have c5 : ∀ (o : Nat) (x5 : Int32), o = (if t.2.2.2.2 = true then ivC (w t.2.2.1) else w t.2.2.1) → Tt (fun K k => c_X0_countFrom vl K (cd0_X0_countFrom vl K (dd + 1)) k 5 (nI s) (nI q) (nI (thM m)) (nI j) x5 0 0 0 0 41000 (nI o) 24 0 0 y1) Q := by
            intro o x5 ho
            have ho24 : o < 24 := by
              rw [ho]
              split
              · exact (ca9 (h := w t.2.2.1) (o := w t.2.2.1) b2 b2).2.2.2.2
              · exact b2
            have ei : cjG o (w t.2.2.2.1) = cjS t.2.2.2.2 (w t.2.2.1) (w t.2.2.2.1) := by
              rw [ho]
              rfl
            have q6 := (cf y1 hf).1 o (w t.2.2.2.1) ho24 b4
            rw [ei] at q6
            refine u_X0_countFrom_5 ?_; unfold cm_X0_countFrom_5
            refine w_crI ch_41014 rfl (show j < 36 by omega) r4 (w_crI ch_41009 rfl (show t.2.2.2.1 < 18 by omega) b3 (w_crI ch_41006 (i := 24 * o + w t.2.2.2.1) (by rw [show (24 : Int32) * nI o = nI (24 * o) from pk_mul 24 o, nI_add]) (by omega) q6 (w_crI ch_41011 rfl (show j < 36 by omega) r1 ?_)))
            rcases hk with ⟨t1, hnew⟩ | ⟨t2, hold⟩
            · rw [t1]
              refine w_ifT rfl (w_crI ch_41012 rfl (show j < 36 by omega) r2 (w_ctI ch_41009 rfl (show t.2.1 < 18 by omega) ?_))
              obtain ⟨n1, n2, n3, n4⟩ := new hnew (cjS t.2.2.2.2 (w t.2.2.1) (w t.2.2.2.1))
              refine c6 _ _ (ud9 w t.2.1 (cjS t.2.2.2.2 (w t.2.2.1) (w t.2.2.2.1))) _ hqn (vR9_set (by omega) hw) (fr_I2 hf rfl) n1 (n2 hi) (fun i t' hi1 hi2 h0' => ?_) (fun L hL => (hx L hL).trans ⟨fun h9 b hb => ?_, fun h9 b hb => ?_⟩)
              · by_cases eij : i = j
                · rw [eij, ht] at hi2
                  rw [← Option.some.inj hi2]
                  unfold eS9
                  rw [ud9_at, n4 _ hby, n4 _ hfr]
                · exact n3 i t' (by omega) hi2 h0'
              · rw [htk, tos_app] at hb
                rcases hb with hb | hb
                · rw [n4 b hb]
                  exact h9 b hb
                · rw [hb, ud9_at]
                  exact xL L hL h9
              · rw [← n4 b hb]
                exact h9 b (by rw [htk, tos_app]; exact Or.inl hb)
            · rw [t2]
              refine w_ifF (by decide) (w_crI ch_41012 rfl (show j < 36 by omega) r2 (w_crI ch_41009 rfl (show t.2.1 < 18 by omega) b5 (w_eqN (by omega) (by omega) (fun h9 => ?_) (fun h9 => ?_))))
              · have tj : ∀ b, b ∈ tos (P.take (j + 1)) ↔ b ∈ tos (P.take j) := fun b => by
                  rw [htk, tos_app]
                  exact ⟨fun h8 => h8.elim id (fun h7 => by rw [h7]; exact hold), Or.inl⟩
                refine c6 _ _ w y1 hqn hw hf hvw (fun b hb => hwj b ((tj b).mp hb)) (fun i t' hi1 hi2 h0' => ?_) (fun L hL => (hx L hL).trans ⟨fun h8 b hb => h8 b ((tj b).mp hb), fun h8 b hb => h8 b ((tj b).mpr hb)⟩)
                by_cases eij : i = j
                · rw [eij, ht] at hi2
                  rw [← Option.some.inj hi2]
                  exact h9
                · exact hew i t' (by omega) hi2 h0'
              · refine w_some ⟨⟨w, hw, hvw⟩, hf, 0, rfl, cnt_0 (fun L hL => ?_)⟩
                have h8 := (hx L hL.1).mp hL.2
                exact h9 ((h8 _ hold).symm.trans (xL L hL.1 h8))
          refine w_ifF (show ¬ (nI t.1 = 0) from fun h9 => by have := nI_inj9 (a := t.1) (b := 0) (by omega) (by omega) h9; omega) ?_
          refine w_crI ch_41013 rfl (show j < 36 by omega) r3 (w_crI ch_41009 rfl (show t.2.2.1 < 18 by omega) b1 (w_crI ch_41015 rfl (show j < 36 by omega) r5 ?_))
          cases hb : t.2.2.2.2
          · refine w_ifT rfl (c5 _ _ ?_)
            rw [hb]
            rfl
          · refine w_ifF (by decide) (w_crI ch_41007 rfl b2 ((cf y1 hf).2 _ b2) (c5 _ _ ?_))
            rw [hb]
            rfl
    refine w_cdM ?_
    refine u_X0_countFrom_0 ?_; unfold cm_X0_countFrom_0
    exact w_leT (b := 18) (by omega) (by omega) (c1 (P.length - s) s v z (by omega) (Nat.le_refl _) hq0 hv fr_rf (fun _ _ => rfl) hvs hes (fun L _ => Iff.rfl))
end XMJ
