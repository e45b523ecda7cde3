/-! the walk from a start sees one part, each visit once -/
theorem nodup_le {α : Type} [DecidableEq α] : ∀ (l1 l2 : List α), l1.Nodup → (∀ a, a ∈ l1 → a ∈ l2) → l1.length ≤ l2.length
  | [], l2, _, _ => Nat.zero_le _
  | a :: l1, l2, hn, hs => by
    have ha := hs a List.mem_cons_self
    rw [List.nodup_cons] at hn
    have := nodup_le l1 (l2.erase a) hn.2 (fun b hb => by
      have hne : b ≠ a := fun e => hn.1 (e ▸ hb)
      exact (List.mem_erase_of_ne hne).mpr (hs b (List.mem_cons_of_mem _ hb)))
    rw [List.length_erase_of_mem ha] at this
    have h9 : 0 < l2.length := List.length_pos_of_mem ha
    rw [List.length_cons]
    omega
theorem nodup_eq {α : Type} [DecidableEq α] {l1 l2 : List α} (h1 : l1.Nodup) (h2 : l2.Nodup) (h : ∀ a, a ∈ l1 ↔ a ∈ l2) : l1.length = l2.length := Nat.le_antisymm (nodup_le l1 l2 h1 (fun a ha => (h a).mp ha)) (nodup_le l2 l1 h2 (fun a ha => (h a).mpr ha))
theorem nodup_map {α β : Type} {f : α → β} : ∀ {l : List α}, l.Nodup → (∀ a b, a ∈ l → b ∈ l → f a = f b → a = b) → (l.map f).Nodup
  | [], _, _ => List.nodup_nil
  | a :: l, hn, hi => by
    rw [List.nodup_cons] at hn
    rw [List.map_cons, List.nodup_cons]
    refine ⟨fun h => ?_, nodup_map hn.2 (fun x y hx hy => hi x y (List.mem_cons_of_mem _ hx) (List.mem_cons_of_mem _ hy))⟩
    obtain ⟨b, hb, e⟩ := List.mem_map.mp h
    have := hi b a (List.mem_cons_of_mem _ hb) List.mem_cons_self e
    exact hn.1 (this ▸ hb)
theorem rgl_nd {A : rn_L} {s : Nat} (hs : s < A.flatten.length) : (rgl A s).Nodup := by
  unfold rgl
  refine nodup_map List.nodup_range (fun a b ha hb e => ?_)
  have ha := List.mem_range.mp ha
  have hb := List.mem_range.mp hb
  obtain ⟨h1, h2, h3⟩ := rn_c_in A s hs
  unfold rv at e
  unfold rlen at ha hb e
  by_cases c1 : s + a < rn_b A (rn_c A s + 1)
  · by_cases c2 : s + b < rn_b A (rn_c A s + 1)
    · rw [if_pos c1, if_pos c2] at e; omega
    · rw [if_pos c1, if_neg c2] at e; omega
  · by_cases c2 : s + b < rn_b A (rn_c A s + 1)
    · rw [if_neg c1, if_pos c2] at e; omega
    · rw [if_neg c1, if_neg c2] at e; omega
theorem rgl_all {A : rn_L} {s v : Nat} (hs : s < A.flatten.length) (hv : v < A.flatten.length) (hc : rn_c A v = rn_c A s) : v ∈ rgl A s := by
  obtain ⟨h1, h2, h3⟩ := rn_c_in A s hs
  obtain ⟨g1, g2, g3⟩ := rn_c_in A v hv
  rw [hc] at g2 g3
  unfold rgl
  by_cases h : s ≤ v
  · refine List.mem_map.mpr ⟨v - s, List.mem_range.mpr (by unfold rlen; omega), ?_⟩
    unfold rv
    rw [if_pos (by omega)]
    omega
  · refine List.mem_map.mpr ⟨v + rlen A (rn_c A s) - s, List.mem_range.mpr (by unfold rlen; omega), ?_⟩
    unfold rv
    rw [if_neg (by unfold rlen; omega)]
    unfold rlen
    omega
theorem rgl_c {A : rn_L} {s v : Nat} (hs : s < A.flatten.length) (h : v ∈ rgl A s) : rn_c A v = rn_c A s ∧ v < A.flatten.length := by
  obtain ⟨j, hj, e⟩ := rgl_mem h
  rw [e]
  exact ⟨rv_c hs hj, rv_lt hs hj⟩
/-- starts that stand in different components -/
def tS (A : rn_L) (S : List Nat) : Prop := (S.map (rn_c A)).Nodup ∧ ∀ s, s ∈ S → s < A.flatten.length
theorem vsO_in {A : rn_L} {S : List Nat} (h : tS A S) {v : Nat} (hv : v ∈ vsO A S) : v < A.flatten.length ∧ rn_c A v ∈ S.map (rn_c A) := by
  unfold vsO at hv
  obtain ⟨l, hl, hvl⟩ := List.mem_flatten.mp hv
  obtain ⟨s, hs, e⟩ := List.mem_map.mp hl
  rw [← e] at hvl
  obtain ⟨h1, h2⟩ := rgl_c (h.2 s hs) hvl
  exact ⟨h2, List.mem_map.mpr ⟨s, hs, h1.symm⟩⟩
theorem vsO_of {A : rn_L} {S : List Nat} (h : tS A S) {v : Nat} (hv : v < A.flatten.length) (hc : rn_c A v ∈ S.map (rn_c A)) : v ∈ vsO A S := by
  obtain ⟨s, hs, e⟩ := List.mem_map.mp hc
  exact vsO_mem hs (rgl_all (h.2 s hs) hv e.symm)
theorem vsO_nd {A : rn_L} : ∀ {S : List Nat}, tS A S → (vsO A S).Nodup
  | [], _ => List.nodup_nil
  | s :: S, h => by
    obtain ⟨h1, h2⟩ := h
    rw [List.map_cons, List.nodup_cons] at h1
    have hS : tS A S := ⟨h1.2, fun t ht => h2 t (List.mem_cons_of_mem _ ht)⟩
    have ih := vsO_nd hS
    have e : vsO A (s :: S) = rgl A s ++ vsO A S := by
      unfold vsO
      rw [List.map_cons, List.flatten_cons]
    rw [e, List.nodup_append]
    refine ⟨rgl_nd (h2 s List.mem_cons_self), ih, fun a ha b hb e => ?_⟩
    have c1 := (rgl_c (h2 s List.mem_cons_self) ha).1
    have c2 := (vsO_in hS hb).2
    rw [← e, c1] at c2
    exact h1.1 c2
theorem nxS_step {A : rn_L} {S : List Nat} {w : Nat} (hd : rn_ok A.flatten) (h : tS A S) (hn : nxS A S = some w) : tS A (S ++ [w]) ∧ gn A S (rn_c A w) = false ∧ ∃ c, c ∈ S.map (rn_c A) ∧ rn_adj A c (rn_c A w) := by
  unfold nxS at hn
  rw [Option.map_eq_some_iff] at hn
  obtain ⟨v, h1, h2⟩ := hn
  have h3 := List.find?_some h1
  have hv := vsO_in h (fm_mem _ (List.mem_of_find?_eq_some h1))
  have hm := mtf_mt hd hv.1
  rw [h2] at hm h3
  have hg : gn A S (rn_c A w) = false := by
    cases hb : gn A S (rn_c A w) with
    | false => rfl
    | true => rw [hb] at h3; cases h3
  refine ⟨⟨?_, fun t ht => ?_⟩, hg, rn_c A v, hv.2, v, w, hm, rfl, rfl⟩
  · rw [List.map_append, List.nodup_append]
    refine ⟨h.1, by simp, fun a ha b hb e => ?_⟩
    have eb : b = rn_c A w := by simpa using hb
    unfold gn at hg
    rw [decide_eq_false_iff_not] at hg
    exact hg (by rw [← eb, ← e]; exact ha)
  · rw [List.mem_append] at ht
    rcases ht with ht | ht
    · exact h.2 t ht
    · have : t = w := by simpa using ht
      rw [this]
      exact (rn_mt_lt hm).2
theorem rem_zero {g : Nat → Bool} : ∀ n, rem g (fun _ => 1) n = 0 → ∀ c, c < n → g c = true
  | 0, _, c, hc => by omega
  | n + 1, h, c, hc => by
    unfold rem at h
    by_cases hcn : c = n
    · rw [hcn]
      cases hg : g n with
      | true => rfl
      | false => rw [hg] at h; simp at h
    · exact rem_zero n (by omega) c (by omega)
theorem trF_all {A : rn_L} {s0 : Nat} (hd : rn_ok A.flatten) : ∀ (f : Nat) (S : List Nat), tS A S → rem (gn A S) (fun _ => 1) A.length ≤ f → s0 ∈ S → (∀ t, t ∈ S → rn_con A (rn_c A s0) (rn_c A t)) → tS A (trF A f S) ∧ nxS A (trF A f S) = none ∧ s0 ∈ trF A f S ∧ ∀ t, t ∈ trF A f S → rn_con A (rn_c A s0) (rn_c A t) := by
  intro f
  induction f with
  | zero =>
    intro S hS hr h0 hc
    cases hx : nxS A S with
    | none => rw [trF_none hx]; exact ⟨hS, hx, h0, hc⟩
    | some w =>
      obtain ⟨h1, h2, -⟩ := nxS_step hd hS hx
      have hw : w < A.flatten.length := h1.2 w (by simp)
      have := rem_zero (g := gn A S) A.length (by omega) (rn_c A w) (rn_c_in A w hw).1
      rw [h2] at this
      cases this
  | succ f ih =>
    intro S hS hr h0 hc
    cases hx : nxS A S with
    | none => rw [trF_none hx]; exact ⟨hS, hx, h0, hc⟩
    | some w =>
      obtain ⟨h1, h2, c, h3, h4⟩ := nxS_step hd hS hx
      have hw : w < A.flatten.length := h1.2 w (by simp)
      have r := rem_st (f := fun _ => 1) h2 (fun b => gn_app (A := A) (S := S) (w := w) (b := b)) A.length (rn_c_in A w hw).1
      have r' : rem (gn A (S ++ [w])) (fun _ => 1) A.length + 1 = rem (gn A S) (fun _ => 1) A.length := r
      rw [trF_some hx]
      refine ih (S ++ [w]) h1 (by omega) (List.mem_append_left _ h0) (fun t ht => ?_)
      rw [List.mem_append] at ht
      rcases ht with ht | ht
      · exact hc t ht
      · have e : t = w := by simpa using ht
        rw [e]
        obtain ⟨t9, h8, h9⟩ := List.mem_map.mp h3
        have := hc t9 h8
        rw [h9] at this
        exact this.st h4
theorem trS_all {A : rn_L} {s : Nat} (hd : rn_ok A.flatten) (hs : s < A.flatten.length) : tS A (trS A s) ∧ nxS A (trS A s) = none ∧ s ∈ trS A s ∧ ∀ t, t ∈ trS A s → rn_con A (rn_c A s) (rn_c A t) := by
  refine trF_all hd A.length [s] ⟨by simp, fun t ht => ?_⟩ ?_ (by simp) (fun t ht => ?_)
  · have : t = s := by simpa using ht
    rw [this]; exact hs
  · have : ∀ (g : Nat → Bool) n, rem g (fun _ => 1) n ≤ n := by
      intro g n
      induction n with
      | zero => exact Nat.le_refl _
      | succ n ih =>
        unfold rem
        by_cases h : g n = true
        · rw [if_pos h]; omega
        · rw [if_neg h]; omega
    exact this _ _
  · have : t = s := by simpa using ht
    rw [this]; exact rn_con.rf
/-- nothing leads out -/
theorem nxS_cl {A : rn_L} {S : List Nat} {v : Nat} (hd : rn_ok A.flatten) (h : tS A S) (hn : nxS A S = none) (hv : v ∈ vsO A S) : mtf A v ∈ vsO A S := by
  unfold nxS at hn
  rw [Option.map_eq_none_iff, List.find?_eq_none] at hn
  have hvl := (vsO_in h hv).1
  have hm := mtf_mt hd hvl
  have hml := (rn_mt_lt hm).2
  obtain ⟨u, h1, h2⟩ := List.mem_map.mp ((fm_cr (A := A) (vsO A S)).mpr (List.mem_map.mpr ⟨v, hv, rfl⟩))
  by_cases huv : u = v
  · have h9 := hn u h1
    rw [huv] at h9
    have hg : gn A S (rn_c A (mtf A v)) = true := by
      cases hb : gn A S (rn_c A (mtf A v)) with
      | true => rfl
      | false => rw [hb] at h9; exact absurd rfl h9
    unfold gn at hg
    rw [decide_eq_true_iff] at hg
    exact vsO_of h hml hg
  · have hul := (vsO_in h (fm_mem _ h1)).1
    have : rn_mt A.flatten v u := ⟨fun e => huv e.symm, _, _, vAt_of hvl, vAt_of hul, h2.symm⟩
    rw [mtf_eq hd this]
    exact fm_mem _ h1
theorem con_in {A : rn_L} {S : List Nat} {a b : Nat} (hd : rn_ok A.flatten) (h : tS A S) (hn : nxS A S = none) (ha : a ∈ S.map (rn_c A)) (hc : rn_con A a b) : b ∈ S.map (rn_c A) := by
  refine hc (fun x => x ∈ S.map (rn_c A)) ha (fun x y hx hxy => ?_)
  obtain ⟨v, w, hm, e1, e2⟩ := hxy
  have hv : v ∈ vsO A S := vsO_of h (rn_mt_lt hm).1 (by rw [e1]; exact hx)
  have hw := nxS_cl hd h hn hv
  rw [mtf_eq hd hm] at hw
  rw [← e2]
  exact (vsO_in h hw).2
/-- the parts: marks of the components -/
def mk (A : rn_L) (m : Nat → Nat) (P : Nat) : Prop := (∀ c, c < A.length → m c < P) ∧ (∀ a b, rn_adj A a b → m a = m b) ∧ (∀ a b, a < A.length → b < A.length → m a = m b → rn_con A a b) ∧ ∀ p, p < P → ∃ c, c < A.length ∧ m c = p
theorem mk_con {A : rn_L} {m : Nat → Nat} {P a b : Nat} (h : mk A m P) (hc : rn_con A a b) : m a = m b := hc (fun x => m a = m x) rfl (fun x y hx hxy => hx.trans (h.2.1 x y hxy))
/-- the components of the walk from s are those of its part -/
theorem trS_part {A : rn_L} {m : Nat → Nat} {P s c : Nat} (hd : rn_ok A.flatten) (hk : mk A m P) (hs : s < A.flatten.length) (hc : c < A.length) : c ∈ (trS A s).map (rn_c A) ↔ m c = m (rn_c A s) := by
  obtain ⟨h1, h2, h3, h4⟩ := trS_all hd hs
  constructor
  · intro h
    obtain ⟨t, ht, e⟩ := List.mem_map.mp h
    rw [← e]
    exact (mk_con hk (h4 t ht)).symm
  · intro h
    exact con_in hd h1 h2 (List.mem_map.mpr ⟨s, h3, rfl⟩) (hk.2.2.1 _ _ (rn_c_in A s hs).1 hc h.symm)
def cpl (A : rn_L) (m : Nat → Nat) (p : Nat) : List Nat := (List.range A.length).filter (fun c => decide (m c = p))
theorem nodup_filter {α : Type} {l : List α} {p : α → Bool} (h : l.Nodup) : (l.filter p).Nodup := List.Nodup.sublist List.filter_sublist h
theorem trS_len {A : rn_L} {m : Nat → Nat} {P s : Nat} (hd : rn_ok A.flatten) (hk : mk A m P) (hs : s < A.flatten.length) : (trS A s).length = (cpl A m (m (rn_c A s))).length ∧ (vsO A (trS A s)).length = (pvl A m (m (rn_c A s)) A.flatten.length).length := by
  obtain ⟨h1, h2, h3, h4⟩ := trS_all hd hs
  constructor
  · rw [← List.length_map (as := trS A s) (rn_c A)]
    refine nodup_eq h1.1 (nodup_filter List.nodup_range) (fun c => ?_)
    unfold cpl
    rw [List.mem_filter, List.mem_range, decide_eq_true_iff]
    constructor
    · intro h
      obtain ⟨t, ht, e⟩ := List.mem_map.mp h
      have hc : c < A.length := by rw [← e]; exact (rn_c_in A t (h1.2 t ht)).1
      exact ⟨hc, (trS_part hd hk hs hc).mp h⟩
    · intro h
      exact (trS_part hd hk hs h.1).mpr h.2
  · refine nodup_eq (vsO_nd h1) (nodup_filter List.nodup_range) (fun v => ?_)
    unfold pvl
    rw [List.mem_filter, List.mem_range, decide_eq_true_iff]
    constructor
    · intro h
      obtain ⟨g1, g2⟩ := vsO_in h1 h
      exact ⟨g1, (trS_part hd hk hs (rn_c_in A v g1).1).mp g2⟩
    · intro h
      exact vsO_of h1 h.1 ((trS_part hd hk hs (rn_c_in A v h.1).1).mpr h.2)
theorem tks_len {A : rn_L} {sg : Nat → Bool} {vs : List Nat} : ∀ S, (tks A sg vs S).length = (vsO A S).length + S.length
  | [] => rfl
  | s :: S => by
    have ih := tks_len (A := A) (sg := sg) (vs := vs) S
    unfold tks vsO at ih ⊢
    rw [List.map_cons, List.flatten_cons, List.map_cons, List.flatten_cons, List.length_append, List.length_append, ih, List.length_append, List.length_map, List.length_cons]
    simp
    omega
/-! sums -/
def sN (f : Nat → Nat) : Nat → Nat
  | 0 => 0
  | n + 1 => sN f n + f n
theorem sN_le {f g : Nat → Nat} : ∀ n, (∀ p, p < n → f p ≤ g p) → sN f n ≤ sN g n
  | 0, _ => Nat.le_refl _
  | n + 1, h => Nat.add_le_add (sN_le n (fun p hp => h p (by omega))) (h n (by omega))
theorem sN_congr {f g : Nat → Nat} : ∀ n, (∀ p, p < n → f p = g p) → sN f n = sN g n
  | 0, _ => rfl
  | n + 1, h => by
    unfold sN
    rw [sN_congr n (fun p hp => h p (by omega)), h n (by omega)]
theorem sN_add {f g : Nat → Nat} : ∀ n, sN (fun p => f p + g p) n = sN f n + sN g n
  | 0 => rfl
  | n + 1 => by
    unfold sN
    rw [sN_add n]
    omega
theorem sN_ind {q : Nat} : ∀ n, sN (fun p => if q = p then 1 else 0) n = if q < n then 1 else 0
  | 0 => by simp [sN]
  | n + 1 => by
    unfold sN
    rw [sN_ind n]
    by_cases h1 : q < n
    · rw [if_pos h1, if_neg (by omega), if_pos (by omega)]
    · by_cases h2 : q = n
      · rw [if_neg h1, if_pos h2, if_pos (by omega)]
      · rw [if_neg h1, if_neg h2, if_neg (by omega)]
theorem sN_fib {g : Nat → Nat} {P : Nat} : ∀ n, (∀ v, v < n → g v < P) → sN (fun p => ((List.range n).filter (fun v => decide (g v = p))).length) P = n
  | 0, _ => by
    have : ∀ P, sN (fun p => ((List.range 0).filter (fun v => decide (g v = p))).length) P = 0 := by
      intro P
      induction P with
      | zero => rfl
      | succ P ih => unfold sN; rw [ih]; rfl
    exact this P
  | n + 1, h => by
    have ih := sN_fib n (fun v hv => h v (by omega))
    have e : sN (fun p => ((List.range (n + 1)).filter (fun v => decide (g v = p))).length) P = sN (fun p => ((List.range n).filter (fun v => decide (g v = p))).length + if g n = p then 1 else 0) P := by
      refine sN_congr P (fun p _ => ?_)
      show ((List.range (n + 1)).filter (fun v => decide (g v = p))).length = _
      rw [List.range_succ, List.filter_append, List.length_append]
      by_cases hg : g n = p <;> simp [hg]
    rw [e, sN_add, ih, sN_ind, if_pos (h n (by omega))]
/-! nets whose crossings are 0 .. c - 1, each once over and once under -/
def wkF (F : List (Nat × Nat)) : Prop := F.Nodup ∧ ∀ p : Nat × Nat, p ∈ F → p.1 < 40 ∧ p.2 < 2 ∧ (p.1, 1 - p.2) ∈ F
def okF (F : List (Nat × Nat)) (c : Nat) : Prop := F.Nodup ∧ ∀ p : Nat × Nat, p ∈ F ↔ p.1 < c ∧ p.2 < 2
theorem okF_wk {F : List (Nat × Nat)} {c : Nat} (hc : c ≤ 40) (h : okF F c) : wkF F := by
  refine ⟨h.1, fun p hp => ?_⟩
  obtain ⟨h1, h2⟩ := (h.2 p).mp hp
  exact ⟨by omega, h2, (h.2 _).mpr ⟨h1, by show 1 - p.2 < 2; omega⟩⟩
theorem nodup_at {α : Type} {F : List α} (hn : F.Nodup) {v w : Nat} {p : α} (h1 : F[v]? = some p) (h2 : F[w]? = some p) : v = w := by
  obtain ⟨a1, a2⟩ := List.getElem?_eq_some_iff.mp h1
  obtain ⟨b1, b2⟩ := List.getElem?_eq_some_iff.mp h2
  exact (List.getElem_inj hn).mp (a2.trans b2.symm)
theorem wkF_ok {F : List (Nat × Nat)} (h : wkF F) : rn_ok F := by
  have key : ∀ (v w : Nat) (p q : Nat × Nat), v ≠ w → F[v]? = some p → F[w]? = some q → p.1 = q.1 → q = (p.1, 1 - p.2) := by
    intro v w p q hvw hp hq he
    obtain ⟨-, p2, -⟩ := h.2 p (List.mem_of_getElem? hp)
    obtain ⟨-, q2, -⟩ := h.2 q (List.mem_of_getElem? hq)
    have hne : p.2 ≠ q.2 := fun e => hvw (nodup_at h.1 hp (by rw [hq]; exact congrArg some (Prod.ext he.symm e.symm)))
    exact Prod.ext he.symm (by show q.2 = 1 - p.2; omega)
  refine ⟨⟨fun v w w' h1 h2 => ?_, fun v p hp => ?_⟩, fun v hv => ?_⟩
  · obtain ⟨n1, p, q, a1, a2, a3⟩ := h1
    obtain ⟨n2, p', q', b1, b2, b3⟩ := h2
    rw [a1] at b1
    cases b1
    have e1 := key v w p q n1 a1 a2 a3
    have e2 := key v w' p q' n2 a1 b2 b3
    rw [e1] at a2
    rw [e2] at b2
    exact nodup_at h.1 a2 b2
  · obtain ⟨h1, h2, -⟩ := h.2 p (List.mem_of_getElem? hp)
    exact ⟨h1, h2⟩
  · have hp := List.getElem?_eq_getElem hv
    obtain ⟨h1, h2, h3⟩ := h.2 F[v] (List.getElem_mem hv)
    obtain ⟨w, hw, e⟩ := List.getElem_of_mem h3
    refine ⟨w, fun e9 => ?_, F[v], F[w], hp, List.getElem?_eq_getElem hw, by rw [e]⟩
    subst e9
    have := congrArg Prod.snd e
    have h9 : F[v].2 = 1 - F[v].2 := this
    omega
theorem okF_len {F : List (Nat × Nat)} {c : Nat} (h : okF F c) : F.length = 2 * c := by
  have e : ∀ c, ((List.range c).flatMap (fun x => [(x, 0), (x, 1)])).length = 2 * c := by
    intro c
    induction c with
    | zero => rfl
    | succ c ih => rw [List.range_succ, List.flatMap_append, List.length_append, ih]; simp; omega
  have nd : ∀ c, ((List.range c).flatMap (fun x => [(x, 0), (x, 1)])).Nodup := by
    intro c
    induction c with
    | zero => exact List.nodup_nil
    | succ c ih =>
      rw [List.range_succ, List.flatMap_append, List.nodup_append]
      refine ⟨ih, by simp, fun a ha b hb e => ?_⟩
      rw [List.mem_flatMap] at ha
      obtain ⟨x, hx, ha⟩ := ha
      have hx := List.mem_range.mp hx
      have h1 : a.1 = x := by
        simp at ha
        rcases ha with ha | ha <;> rw [ha]
      have h2 : b.1 = c := by
        simp at hb
        rcases hb with hb | hb <;> rw [hb]
      rw [e] at h1
      omega
  rw [← e c]
  refine nodup_eq h.1 (nd c) (fun p => ?_)
  rw [h.2 p, List.mem_flatMap]
  constructor
  · intro ⟨h1, h2⟩
    refine ⟨p.1, List.mem_range.mpr h1, ?_⟩
    obtain ⟨x, u⟩ := p
    have : u = 0 ∨ u = 1 := by have : u < 2 := h2; omega
    rcases this with e | e <;> simp [e]
  · intro ⟨x, hx, hp⟩
    have hx := List.mem_range.mp hx
    simp at hp
    rcases hp with hp | hp <;> rw [hp] <;> exact ⟨hx, by simp⟩
/-- the net that a walk writes down -/
def rnv (A : rn_L) (vs : List Nat) (v : Nat) : Nat × Nat := (num A vs (crs A v) - 1, uns A v)
def rnN (A : rn_L) (vs S : List Nat) : rn_L := S.map (fun s => (rgl A s).map (rnv A vs))
def rnG (A : rn_L) (sg : Nat → Bool) (vs : List Nat) (y : Nat) : Bool := sg (crs A (((fm A vs)[y]?).getD 0))
theorem rnN_fl {A : rn_L} {vs : List Nat} : ∀ S, (rnN A vs S).flatten = (vsO A S).map (rnv A vs)
  | [] => rfl
  | s :: S => by
    have ih := rnN_fl (A := A) (vs := vs) S
    unfold rnN vsO at ih ⊢
    rw [List.map_cons, List.flatten_cons, ih, List.map_cons, List.flatten_cons, List.map_append]
theorem rnN_len {A : rn_L} {vs S : List Nat} : (rnN A vs S).length = S.length := by
  unfold rnN
  rw [List.length_map]
theorem rnG_at {A : rn_L} {sg : Nat → Bool} {vs : List Nat} {v : Nat} (hv : v ∈ vs) : rnG A sg vs (num A vs (crs A v) - 1) = sg (crs A v) := by
  obtain ⟨u, h1, h2⟩ := num_at (A := A) (vs := vs) (x := crs A v) (List.mem_map.mpr ⟨v, hv, rfl⟩)
  unfold rnG
  rw [h1]
  show sg (crs A u) = _
  rw [h2]
theorem tkv_rnv {A : rn_L} {sg : Nat → Bool} {vs : List Nat} {v : Nat} (hv : v ∈ vs) : tkv (rnG A sg vs) (rnv A vs v) = tkn A sg vs v := by
  have h1 : 0 < num A vs (crs A v) := by unfold num; omega
  unfold tkv tkn rnv
  rw [rnG_at hv]
  show 4 * (num A vs (crs A v) - 1 + 1) + _ + _ = _
  rw [Nat.sub_add_cancel h1]
theorem tks_tk {A : rn_L} {sg : Nat → Bool} {vs : List Nat} : ∀ S, (∀ v, v ∈ vsO A S → v ∈ vs) → tks A sg vs S = tk (rnG A sg vs) (rnN A vs S)
  | [], _ => rfl
  | s :: S, h => by
    have e : vsO A (s :: S) = rgl A s ++ vsO A S := by
      unfold vsO
      rw [List.map_cons, List.flatten_cons]
    rw [e] at h
    have ih := tks_tk (sg := sg) S (fun v hv => h v (List.mem_append_right _ hv))
    unfold tks tk rnN tkc at ih ⊢
    rw [List.map_cons, List.flatten_cons, ih, List.map_cons, List.map_cons, List.flatten_cons, List.map_map (l := rgl A s)]
    have e2 : (rgl A s).map (tkn A sg vs) = (rgl A s).map (tkv (rnG A sg vs) ∘ rnv A vs) := List.map_congr_left (fun v hv => (tkv_rnv (h v (List.mem_append_left _ hv))).symm)
    rw [e2]
/-- the walk's net is one with crossings 0 .. -/
theorem rnN_ok {A : rn_L} {S : List Nat} (hF : wkF A.flatten) (h : tS A S) (hn : nxS A S = none) : okF (rnN A (vsO A S) S).flatten (fm A (vsO A S)).length := by
  have hd := wkF_ok hF
  rw [rnN_fl]
  have hmem : ∀ v, v ∈ vsO A S → vAt A v ∈ A.flatten := fun v hv => List.mem_of_getElem? (vAt_of (vsO_in h hv).1)
  have inj : ∀ v w, v ∈ vsO A S → w ∈ vsO A S → crs A v = crs A w → uns A v = uns A w → v = w := by
    intro v w hv hw e1 e2
    refine nodup_at hF.1 (vAt_of (vsO_in h hv).1) ?_
    rw [vAt_of (vsO_in h hw).1]
    exact congrArg some (Prod.ext e1.symm e2.symm)
  have numi : ∀ v w, v ∈ vsO A S → w ∈ vsO A S → num A (vsO A S) (crs A v) = num A (vsO A S) (crs A w) → crs A v = crs A w := by
    intro v w hv hw e
    obtain ⟨u, h1, h2⟩ := num_at (A := A) (vs := vsO A S) (x := crs A v) (List.mem_map.mpr ⟨v, hv, rfl⟩)
    obtain ⟨u', h3, h4⟩ := num_at (A := A) (vs := vsO A S) (x := crs A w) (List.mem_map.mpr ⟨w, hw, rfl⟩)
    rw [e, h3] at h1
    cases h1
    rw [← h2, ← h4]
  have npos : ∀ v, 0 < num A (vsO A S) (crs A v) := fun v => by unfold num; omega
  refine ⟨nodup_map (vsO_nd h) (fun v w hv hw e => ?_), fun p => ?_⟩
  · have e1 : (rnv A (vsO A S) v).1 = (rnv A (vsO A S) w).1 := congrArg Prod.fst e
    have e2 : (rnv A (vsO A S) v).2 = (rnv A (vsO A S) w).2 := congrArg Prod.snd e
    unfold rnv at e1 e2
    have e1 : num A (vsO A S) (crs A v) - 1 = num A (vsO A S) (crs A w) - 1 := e1
    have := npos v
    have := npos w
    exact inj v w hv hw (numi v w hv hw (by omega)) e2
  · constructor
    · intro hp
      obtain ⟨v, hv, e⟩ := List.mem_map.mp hp
      rw [← e]
      have h1 := num_le (A := A) (vs := vsO A S) (x := crs A v) (List.mem_map.mpr ⟨v, hv, rfl⟩)
      have := npos v
      refine ⟨?_, (hF.2 _ (hmem v hv)).2.1⟩
      show num A (vsO A S) (crs A v) - 1 < _
      omega
    · intro ⟨h1, h2⟩
      obtain ⟨u, hu⟩ : ∃ u, (fm A (vsO A S))[p.1]? = some u := ⟨_, List.getElem?_eq_getElem h1⟩
      have hn1 := num_of hu
      have huv := fm_mem _ (List.mem_of_getElem? hu)
      obtain ⟨g1, g2, g3⟩ := hF.2 _ (hmem u huv)
      by_cases hp : p.2 = uns A u
      · refine List.mem_map.mpr ⟨u, huv, Prod.ext ?_ hp.symm⟩
        show num A (vsO A S) (crs A u) - 1 = p.1
        rw [hn1]
        rfl
      · have hmv := nxS_cl hd h hn huv
        have hm := mtf_mt hd (vsO_in h huv).1
        obtain ⟨n1, q, r, a1, a2, a3⟩ := hm
        rw [vAt_of (vsO_in h huv).1] at a1
        cases a1
        have e2 : vAt A (mtf A u) = r := vAt_eq a2
        have ec : crs A (mtf A u) = crs A u := by
          unfold crs
          rw [e2, a3]
        have hg := hF.2 _ (hmem _ hmv)
        have hun : uns A (mtf A u) = p.2 := by
          have h5 : uns A (mtf A u) < 2 := hg.2.1
          have h6 : uns A u < 2 := g2
          have h7 : uns A (mtf A u) ≠ uns A u := fun e => n1 (inj u (mtf A u) huv hmv ec.symm e.symm)
          omega
        refine List.mem_map.mpr ⟨mtf A u, hmv, Prod.ext ?_ hun⟩
        show num A (vsO A S) (crs A (mtf A u)) - 1 = p.1
        rw [ec, hn1]
        rfl
/-! the parts' rows, put one behind another -/
def rlt (a b : Nat × List Nat) : Bool := decide (a.1 < b.1) || (decide (a.1 = b.1) && lxb a.2 b.2)
def rwA (A : rn_L) (sg : Nat → Bool) (m : Nat → Nat) (R : List (Nat × List Nat)) (p : Nat) : List (Nat × List Nat) := match lsC A sg (pvl A m p A.flatten.length) with
  | none => R
  | some T => R ++ [((pvl A m p A.flatten.length).length, T)]
def rwL (A : rn_L) (sg : Nat → Bool) (m : Nat → Nat) (P : Nat) : List (Nat × List Nat) := (List.range P).foldl (rwA A sg m) []
def cir (A : rn_L) (m : Nat → Nat) : Nat → Nat
  | 0 => 0
  | p + 1 => cir A m p + if pvl A m p A.flatten.length = [] then 1 else 0
theorem rwL_s {A : rn_L} {sg : Nat → Bool} {m : Nat → Nat} {P : Nat} : rwL A sg m (P + 1) = rwA A sg m (rwL A sg m P) P := by
  unfold rwL
  rw [List.range_succ, List.foldl_append]
  rfl
theorem lsC_nil {A : rn_L} {sg : Nat → Bool} : lsC A sg [] = none := rfl
theorem lsC_ne {A : rn_L} {sg : Nat → Bool} {vs : List Nat} (h : vs ≠ []) : ∃ T, lsC A sg vs = some T := by
  cases hl : lsC A sg vs with
  | none => exact absurd (lsC_none hl) h
  | some T => exact ⟨T, rfl⟩
theorem rwL_len {A : rn_L} {sg : Nat → Bool} {m : Nat → Nat} : ∀ P, (rwL A sg m P).length + cir A m P = P
  | 0 => rfl
  | P + 1 => by
    have ih := rwL_len (A := A) (sg := sg) (m := m) P
    rw [rwL_s]
    unfold rwA cir
    by_cases h : pvl A m P A.flatten.length = []
    · rw [h, lsC_nil, if_pos rfl]
      show (rwL A sg m P).length + _ = _
      omega
    · obtain ⟨T, hT⟩ := lsC_ne (sg := sg) h
      rw [hT, if_neg h]
      show (rwL A sg m P ++ [_]).length + _ = _
      rw [List.length_append]
      simp
      omega
theorem rwL_mem {A : rn_L} {sg : Nat → Bool} {m : Nat → Nat} {r : Nat × List Nat} : ∀ P, r ∈ rwL A sg m P → ∃ p v, p < P ∧ v < A.flatten.length ∧ m (rn_c A v) = p ∧ r = ((pvl A m p A.flatten.length).length, cdv A sg v)
  | 0, h => by simp [rwL] at h
  | P + 1, h => by
    rw [rwL_s] at h
    unfold rwA at h
    cases hl : lsC A sg (pvl A m P A.flatten.length) with
    | none =>
      rw [hl] at h
      obtain ⟨p, v, h1, h2⟩ := rwL_mem P h
      exact ⟨p, v, by omega, h2⟩
    | some T =>
      rw [hl] at h
      have h : r ∈ rwL A sg m P ++ [((pvl A m P A.flatten.length).length, T)] := h
      rw [List.mem_append] at h
      rcases h with h | h
      · obtain ⟨p, v, h1, h2⟩ := rwL_mem P h
        exact ⟨p, v, by omega, h2⟩
      · have e : r = ((pvl A m P A.flatten.length).length, T) := by simpa using h
        obtain ⟨v, hv, eT⟩ := lsC_mem _ hl
        unfold pvl at hv
        rw [List.mem_filter, List.mem_range, decide_eq_true_iff] at hv
        exact ⟨P, v, by omega, hv.1, hv.2, by rw [e, eT]⟩
theorem cdv_len {A : rn_L} {sg : Nat → Bool} {m : Nat → Nat} {P v : Nat} (hd : rn_ok A.flatten) (hk : mk A m P) (hv : v < A.flatten.length) : (cdv A sg v).length = (pvl A m (m (rn_c A v)) A.flatten.length).length + (cpl A m (m (rn_c A v))).length := by
  obtain ⟨h1, h2⟩ := trS_len hd hk hv
  unfold cdv
  rw [tks_len, h1, h2]
/-- a part without visits is one circle -/
theorem cpl_one {A : rn_L} {m : Nat → Nat} {P p : Nat} (hk : mk A m P) (hp : p < P) (h : pvl A m p A.flatten.length = []) : (cpl A m p).length = 1 := by
  obtain ⟨c, hc, hm⟩ := hk.2.2.2 p hp
  have key : ∀ b, b < A.length → m b = p → b = c := by
    intro b hb hmb
    have hcon := hk.2.2.1 c b hc hb (hm.trans hmb.symm)
    refine hcon (fun x => x = c) rfl (fun x y hx hxy => ?_)
    obtain ⟨v, w, hmt, e1, e2⟩ := hxy
    exfalso
    have hvp : v ∈ pvl A m p A.flatten.length := by
      unfold pvl
      rw [List.mem_filter, List.mem_range, decide_eq_true_iff]
      exact ⟨(rn_mt_lt hmt).1, by rw [e1, hx, hm]⟩
    rw [h] at hvp
    cases hvp
  have : (cpl A m p).length = [c].length := by
    refine nodup_eq (nodup_filter List.nodup_range) (by simp) (fun b => ?_)
    unfold cpl
    rw [List.mem_filter, List.mem_range, decide_eq_true_iff, List.mem_singleton]
    exact ⟨fun h9 => key b h9.1 h9.2, fun h9 => by rw [h9]; exact ⟨hc, hm⟩⟩
  exact this
theorem rwL_sum {A : rn_L} {sg : Nat → Bool} {m : Nat → Nat} {P : Nat} (hd : rn_ok A.flatten) (hk : mk A m P) : ∀ p, p ≤ P → ((rwL A sg m p).map (fun r => r.2.length)).sum + cir A m p = sN (fun q => (pvl A m q A.flatten.length).length + (cpl A m q).length) p ∧ ((rwL A sg m p).map (fun r => r.1)).sum = sN (fun q => (pvl A m q A.flatten.length).length) p
  | 0, _ => ⟨rfl, rfl⟩
  | p + 1, hp => by
    obtain ⟨ih, ih2⟩ := rwL_sum hd hk p (by omega)
    rw [rwL_s]
    unfold rwA cir sN
    by_cases h : pvl A m p A.flatten.length = []
    · have := cpl_one hk (by omega) h
      rw [h, lsC_nil, if_pos rfl, this]
      show ((rwL A sg m p).map (fun r => r.2.length)).sum + _ = _ ∧ ((rwL A sg m p).map (fun r => r.1)).sum = _
      rw [ih2]
      simp only [List.length_nil]
      omega
    · obtain ⟨T, hT⟩ := lsC_ne (sg := sg) h
      obtain ⟨v, hv, eT⟩ := lsC_mem _ hT
      unfold pvl at hv
      rw [List.mem_filter, List.mem_range, decide_eq_true_iff] at hv
      have hl := cdv_len (sg := sg) hd hk hv.1
      rw [hv.2, ← eT] at hl
      rw [hT, if_neg h]
      show ((rwL A sg m p ++ [((pvl A m p A.flatten.length).length, T)]).map (fun r => r.2.length)).sum + _ = _ ∧ ((rwL A sg m p ++ [((pvl A m p A.flatten.length).length, T)]).map (fun r => r.1)).sum = _
      rw [List.map_append, List.sum_append, List.map_append, List.sum_append, ih2]
      simp only [List.map_cons, List.map_nil, List.sum_cons, List.sum_nil]
      omega
theorem rwL_tot {A : rn_L} {sg : Nat → Bool} {m : Nat → Nat} {P : Nat} (hd : rn_ok A.flatten) (hk : mk A m P) : ((rwL A sg m P).map (fun r => r.2.length)).sum + cir A m P = A.flatten.length + A.length ∧ ((rwL A sg m P).map (fun r => r.1)).sum = A.flatten.length := by
  obtain ⟨h1, h2⟩ := rwL_sum (sg := sg) hd hk P (Nat.le_refl _)
  have e1 : sN (fun q => (pvl A m q A.flatten.length).length) P = A.flatten.length := sN_fib (g := fun v => m (rn_c A v)) _ (fun v hv => hk.1 _ (rn_c_in A v hv).1)
  have e2 : sN (fun q => (cpl A m q).length) P = A.length := sN_fib (g := m) _ (fun c hc => hk.1 c hc)
  rw [h1, h2, sN_add, e1, e2]
  exact ⟨rfl, rfl⟩
/-! the order in which the rows are put -/
def rAt (R : List (Nat × List Nat)) (p : Nat) : Nat × List Nat := (R[p]?).getD (0, [])
theorem rAt_of {R : List (Nat × List Nat)} {p : Nat} (h : p < R.length) : R[p]? = some (rAt R p) := by
  unfold rAt
  rw [List.getElem?_eq_getElem h]
  rfl
def pkA (R : List (Nat × List Nat)) (w : Nat → Bool) (l : Option Nat) (p : Nat) : Option Nat := if w p then l else match l with
  | none => some p
  | some q => if rlt (rAt R p) (rAt R q) then some p else some q
def pk1 (R : List (Nat × List Nat)) (w : Nat → Bool) (k : Nat) : Option Nat := (List.range k).foldl (pkA R w) none
theorem pk1_s {R : List (Nat × List Nat)} {w : Nat → Bool} {k : Nat} : pk1 R w (k + 1) = pkA R w (pk1 R w k) k := by
  unfold pk1
  rw [List.range_succ, List.foldl_append]
  rfl
theorem pk1_in {R : List (Nat × List Nat)} {w : Nat → Bool} {q : Nat} : ∀ k, pk1 R w k = some q → q < k ∧ w q = false
  | 0, h => by simp [pk1] at h
  | k + 1, h => by
    rw [pk1_s] at h
    unfold pkA at h
    cases hw : w k with
    | true =>
      rw [hw] at h
      obtain ⟨h1, h2⟩ := pk1_in k h
      exact ⟨by omega, h2⟩
    | false =>
      rw [hw] at h
      cases hp : pk1 R w k with
      | none =>
        rw [hp] at h
        have h : some k = some q := h
        cases h
        exact ⟨by omega, hw⟩
      | some q9 =>
        rw [hp] at h
        have h : (if rlt (rAt R k) (rAt R q9) then some k else some q9) = some q := h
        obtain ⟨h1, h2⟩ := pk1_in k hp
        by_cases hr : rlt (rAt R k) (rAt R q9) = true
        · rw [if_pos hr] at h
          cases h
          exact ⟨by omega, hw⟩
        · rw [if_neg hr] at h
          cases h
          exact ⟨by omega, h2⟩
theorem pk1_none {R : List (Nat × List Nat)} {w : Nat → Bool} : ∀ k, pk1 R w k = none → ∀ p, p < k → w p = true
  | 0, _, p, hp => by omega
  | k + 1, h, p, hp => by
    rw [pk1_s] at h
    unfold pkA at h
    cases hw : w k with
    | true =>
      rw [hw] at h
      by_cases hpk : p = k
      · rw [hpk]; exact hw
      · exact pk1_none k h p (by omega)
    | false =>
      rw [hw] at h
      cases hp9 : pk1 R w k with
      | none => rw [hp9] at h; cases h
      | some q =>
        rw [hp9] at h
        have h : (if rlt (rAt R k) (rAt R q) then some k else some q) = none := h
        by_cases hr : rlt (rAt R k) (rAt R q) = true
        · rw [if_pos hr] at h; cases h
        · rw [if_neg hr] at h; cases h
def sel (R : List (Nat × List Nat)) : Nat → (Nat → Bool) → List Nat
  | 0, _ => []
  | k + 1, w => match pk1 R w R.length with
    | none => []
    | some p => p :: sel R k (fun i => w i || decide (i = p))
def sft (b : Nat) (T : List Nat) : List Nat := T.map (fun t => if t = 0 then 0 else t + 4 * b)
def pkT (R : List (Nat × List Nat)) : Nat → List Nat → List Nat
  | _, [] => []
  | b, p :: ps => sft b (rAt R p).2 ++ pkT R (b + (rAt R p).1 / 2) ps
/-- what pack writes -/
def pkR (A : rn_L) (sg : Nat → Bool) (m : Nat → Nat) (P : Nat) : List Nat := pkT (rwL A sg m P) 0 (sel (rwL A sg m P) (rwL A sg m P).length (fun _ => false)) ++ List.replicate (cir A m P) 0
theorem sel_some {R : List (Nat × List Nat)} {w : Nat → Bool} {k p : Nat} (h : pk1 R w R.length = some p) : sel R (k + 1) w = p :: sel R k (fun i => w i || decide (i = p)) := by
  show (match pk1 R w R.length with | none => [] | some p => p :: sel R k (fun i => w i || decide (i = p))) = _
  rw [h]
/-- sums over what is not written yet -/
theorem rem_sum {R : List (Nat × List Nat)} (f : Nat × List Nat → Nat) : rem (fun _ => false) (fun p => f (rAt R p)) R.length = (R.map f).sum := by
  have key : ∀ n, n ≤ R.length → rem (fun _ => false) (fun p => f (rAt R p)) n = ((R.take n).map f).sum := by
    intro n
    induction n with
    | zero => intro _; rfl
    | succ n ih =>
      intro hn
      unfold rem
      rw [ih (by omega), List.take_succ_eq_append_getElem (by omega), List.map_append, List.sum_append]
      have : rAt R n = R[n] := by
        unfold rAt
        rw [List.getElem?_eq_getElem (by omega)]
        rfl
      rw [this]
      simp
  rw [key _ (Nat.le_refl _), List.take_length]
theorem sel_sum {R : List (Nat × List Nat)} (f : Nat × List Nat → Nat) : ∀ (k : Nat) (w : Nat → Bool), rem w (fun _ => 1) R.length = k → ((sel R k w).map (fun p => f (rAt R p))).sum = rem w (fun p => f (rAt R p)) R.length ∧ (∀ p, p ∈ sel R k w → p < R.length) := by
  intro k
  induction k with
  | zero =>
    intro w hw
    have h0 := rem_zero (g := w) R.length hw
    have : ∀ n, n ≤ R.length → rem w (fun p => f (rAt R p)) n = 0 := by
      intro n
      induction n with
      | zero => intro _; rfl
      | succ n ih =>
        intro hn
        unfold rem
        rw [ih (by omega), h0 n (by omega)]
        rfl
    refine ⟨by rw [this _ (Nat.le_refl _)]; rfl, fun p hp => by cases hp⟩
  | succ k ih =>
    intro w hw
    cases hp : pk1 R w R.length with
    | none =>
      have h0 := pk1_none R.length hp
      have : ∀ n, n ≤ R.length → rem w (fun _ => 1) n = 0 := by
        intro n
        induction n with
        | zero => intro _; rfl
        | succ n ih =>
          intro hn
          unfold rem
          rw [ih (by omega), h0 n (by omega)]
          rfl
      have := this _ (Nat.le_refl _)
      omega
    | some p =>
      obtain ⟨h1, h2⟩ := pk1_in R.length hp
      have r1 := rem_st (g' := fun i => w i || decide (i = p)) (f := fun _ => 1) h2 (fun b => rfl) R.length h1
      have r1' : rem (fun i => w i || decide (i = p)) (fun _ => 1) R.length + 1 = rem w (fun _ => 1) R.length := r1
      have r2 := rem_st (g' := fun i => w i || decide (i = p)) (f := fun p => f (rAt R p)) h2 (fun b => rfl) R.length h1
      obtain ⟨g1, g2⟩ := ih (fun i => w i || decide (i = p)) (by omega)
      rw [sel_some hp, List.map_cons, List.sum_cons, g1]
      refine ⟨by omega, fun q hq => ?_⟩
      rw [List.mem_cons] at hq
      rcases hq with hq | hq
      · rw [hq]; exact h1
      · exact g2 q hq
theorem sft_len {b : Nat} {T : List Nat} : (sft b T).length = T.length := by
  unfold sft
  rw [List.length_map]
theorem pkT_len {R : List (Nat × List Nat)} : ∀ (ps : List Nat) (b : Nat), (pkT R b ps).length = (ps.map (fun p => (rAt R p).2.length)).sum
  | [], _ => rfl
  | p :: ps, b => by
    unfold pkT
    rw [List.length_append, sft_len, pkT_len ps, List.map_cons, List.sum_cons]
/-! the whole row is that of a net -/
def okB (F : List (Nat × Nat)) (b c : Nat) : Prop := F.Nodup ∧ ∀ p : Nat × Nat, p ∈ F ↔ b ≤ p.1 ∧ p.1 < b + c ∧ p.2 < 2
def shN (b : Nat) (A : rn_L) : rn_L := A.map (fun B => B.map (fun p => (p.1 + b, p.2)))
theorem shN_fl {b : Nat} : ∀ A : rn_L, (shN b A).flatten = A.flatten.map (fun p => (p.1 + b, p.2))
  | [] => rfl
  | B :: A => by
    have ih := shN_fl (b := b) A
    unfold shN at ih ⊢
    rw [List.map_cons, List.flatten_cons, ih, List.flatten_cons, List.map_append]
theorem sft_tk {b : Nat} {sg : Nat → Bool} : ∀ A : rn_L, sft b (tk sg A) = tk (fun x => sg (x - b)) (shN b A)
  | [] => rfl
  | B :: A => by
    have ih := sft_tk (b := b) (sg := sg) A
    have e : shN b (B :: A) = B.map (fun p => (p.1 + b, p.2)) :: shN b A := rfl
    rw [e, tk_cons, tk_cons, ← ih]
    unfold sft
    rw [List.map_append, List.map_cons, List.map_map, List.map_map]
    congr 1
    refine List.map_congr_left (fun p _ => ?_)
    show (if tkv sg p = 0 then 0 else tkv sg p + 4 * b) = tkv (fun x => sg (x - b)) (p.1 + b, p.2)
    have h0 : tkv sg p ≠ 0 := by unfold tkv; omega
    rw [if_neg h0]
    unfold tkv
    show _ = 4 * (p.1 + b + 1) + 2 * p.2 + if sg (p.1 + b - b) then 1 else 0
    rw [Nat.add_sub_cancel]
    omega
theorem tk_congr {sg sg' : Nat → Bool} : ∀ A : rn_L, (∀ p : Nat × Nat, p ∈ A.flatten → sg p.1 = sg' p.1) → tk sg A = tk sg' A
  | [], _ => rfl
  | B :: A, h => by
    rw [List.flatten_cons] at h
    rw [tk_cons, tk_cons, tk_congr A (fun p hp => h p (List.mem_append_right _ hp))]
    congr 1
    refine List.map_congr_left (fun p hp => ?_)
    unfold tkv
    rw [h p (List.mem_append_left _ hp)]
theorem okF_sh {A : rn_L} {b c : Nat} (h : okF A.flatten c) : okB (shN b A).flatten b c := by
  rw [shN_fl]
  refine ⟨nodup_map h.1 (fun p q _ _ e => ?_), fun p => ?_⟩
  · have e1 : p.1 + b = q.1 + b := (Prod.mk.inj e).1
    have e2 : p.2 = q.2 := (Prod.mk.inj e).2
    exact Prod.ext (by omega) e2
  · rw [List.mem_map]
    constructor
    · intro ⟨q, hq, e⟩
      obtain ⟨h1, h2⟩ := (h.2 q).mp hq
      rw [← e]
      exact ⟨by show b ≤ q.1 + b; omega, by show q.1 + b < b + c; omega, h2⟩
    · intro ⟨h1, h2, h3⟩
      exact ⟨(p.1 - b, p.2), (h.2 _).mpr ⟨by show p.1 - b < c; omega, h3⟩, Prod.ext (by show p.1 - b + b = p.1; omega) rfl⟩
theorem okB_app {F G : List (Nat × Nat)} {b c d : Nat} (h1 : okB F b c) (h2 : okB G (b + c) d) : okB (F ++ G) b (c + d) := by
  refine ⟨?_, fun p => ?_⟩
  · rw [List.nodup_append]
    refine ⟨h1.1, h2.1, fun p hp q hq e => ?_⟩
    have a1 := (h1.2 p).mp hp
    have a2 := (h2.2 q).mp hq
    rw [← e] at a2
    omega
  · rw [List.mem_append, h1.2, h2.2]
    omega
/-- rows of nets give a row of a net -/
theorem pkT_ok {R : List (Nat × List Nat)} (hR : ∀ r, r ∈ R → ∃ (A : rn_L) (sg : Nat → Bool) (c : Nat), r.2 = tk sg A ∧ okF A.flatten c ∧ r.1 = 2 * c) : ∀ (ps : List Nat) (b : Nat), (∀ p, p ∈ ps → p < R.length) → ∃ (A : rn_L) (sg : Nat → Bool) (c : Nat), pkT R b ps = tk sg A ∧ okB A.flatten b c ∧ 2 * c = (ps.map (fun p => (rAt R p).1)).sum
  | [], b, _ => ⟨[], fun _ => false, 0, rfl, ⟨List.nodup_nil, fun p => ⟨fun h => by simp at h, fun h => by omega⟩⟩, rfl⟩
  | p :: ps, b, h => by
    have hp := h p List.mem_cons_self
    have hm : rAt R p ∈ R := List.mem_of_getElem? (rAt_of hp)
    obtain ⟨A1, sg1, c1, e1, o1, l1⟩ := hR _ hm
    have hb : (rAt R p).1 / 2 = c1 := by omega
    obtain ⟨A2, sg2, c2, e2, o2, l2⟩ := pkT_ok hR ps (b + c1) (fun q hq => h q (List.mem_cons_of_mem _ hq))
    have o1' := okF_sh (b := b) o1
    refine ⟨shN b A1 ++ A2, fun x => if x < b + c1 then sg1 (x - b) else sg2 x, c1 + c2, ?_, ?_, ?_⟩
    · unfold pkT
      rw [hb, e1, e2, sft_tk, tk_app]
      congr 1
      · refine tk_congr _ (fun q hq => ?_)
        have := (o1'.2 q).mp hq
        show sg1 (q.1 - b) = if q.1 < b + c1 then sg1 (q.1 - b) else sg2 q.1
        rw [if_pos this.2.1]
      · refine tk_congr _ (fun q hq => ?_)
        have := (o2.2 q).mp hq
        show sg2 q.1 = if q.1 < b + c1 then sg1 (q.1 - b) else sg2 q.1
        rw [if_neg (by omega)]
    · rw [List.flatten_append]
      exact okB_app o1' o2
    · rw [List.map_cons, List.sum_cons, ← l2]
      omega
theorem tk_nil {sg : Nat → Bool} : ∀ k, tk sg (List.replicate k []) = List.replicate k 0
  | 0 => rfl
  | k + 1 => by
    rw [List.replicate_succ, tk_cons, tk_nil k]
    rfl
theorem fl_nil : ∀ k, (List.replicate k ([] : List (Nat × Nat))).flatten = []
  | 0 => rfl
  | k + 1 => by
    rw [List.replicate_succ, List.flatten_cons, fl_nil k]
    rfl
/-- pack makes the row of a net -/
theorem pkR_ok {A : rn_L} {sg : Nat → Bool} {m : Nat → Nat} {P : Nat} (hF : wkF A.flatten) (hk : mk A m P) : ∃ (A' : rn_L) (sg' : Nat → Bool) (c : Nat), pkR A sg m P = tk sg' A' ∧ okF A'.flatten c ∧ 2 * c = A.flatten.length ∧ A'.length = A.length := by
  have hd := wkF_ok hF
  have hR : ∀ r, r ∈ rwL A sg m P → ∃ (A1 : rn_L) (sg1 : Nat → Bool) (c : Nat), r.2 = tk sg1 A1 ∧ okF A1.flatten c ∧ r.1 = 2 * c := by
    intro r hr
    obtain ⟨p, v, h1, h2, h3, h4⟩ := rwL_mem P hr
    obtain ⟨t1, t2, t3, t4⟩ := trS_all hd h2
    have ok := rnN_ok hF t1 t2
    refine ⟨_, rnG A sg (vsO A (trS A v)), _, ?_, ok, ?_⟩
    · rw [h4]
      exact tks_tk _ (fun v hv => hv)
    · rw [h4, ← h3]
      show (pvl A m (m (rn_c A v)) A.flatten.length).length = _
      rw [← (trS_len hd hk h2).2, ← okF_len ok, rnN_fl, List.length_map]
  have h0 : rem (fun _ => false) (fun _ => 1) (rwL A sg m P).length = (rwL A sg m P).length := rem_1 _
  obtain ⟨s1, s2⟩ := sel_sum (R := rwL A sg m P) (fun r => r.1) _ (fun _ => false) h0
  obtain ⟨s3, -⟩ := sel_sum (R := rwL A sg m P) (fun r => r.2.length) _ (fun _ => false) h0
  obtain ⟨A1, sg1, c, e, o, l⟩ := pkT_ok hR _ 0 s2
  obtain ⟨t1, t2⟩ := rwL_tot (sg := sg) hd hk
  have hlen := congrArg List.length e
  rw [pkT_len, s3, rem_sum (fun r => r.2.length), tk_len] at hlen
  rw [s1, rem_sum (fun r => r.1), t2] at l
  have oF : okF A1.flatten c := ⟨o.1, fun p => by rw [o.2]; omega⟩
  have hl1 := okF_len oF
  refine ⟨A1 ++ List.replicate (cir A m P) [], sg1, c, ?_, ?_, l, ?_⟩
  · unfold pkR
    rw [tk_app, tk_nil, ← e]
  · rw [List.flatten_append, fl_nil, List.append_nil]
    exact oF
  · rw [List.length_append, List.length_replicate]
    omega
