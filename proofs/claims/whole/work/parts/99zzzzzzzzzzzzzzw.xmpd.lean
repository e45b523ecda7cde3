/-! maps: colourings of the visits of a net -/
def at9 (L : List Nat) (b : Nat) : Nat := (L[b]?).getD 0
def tb9 (n : Nat) (f : Nat → Nat) : List Nat := (List.range n).map f
def cl9 (g : Nat) (op : Nat → Nat → Nat → Nat) (c : Nat) (S : ow_NP) (D : Nat → Bool) (L : List Nat) : Prop := L.length = 2 * c ∧ (∀ w, w < 2 * c → at9 L w < g ∧ (D w = false → at9 L w = 0)) ∧ ∀ x, x < c → D (2 * x) = true → at9 L (2 * x) = at9 L (S.2 (2 * x)) ∧ at9 L (2 * x + 1) = op x (at9 L (2 * x)) (at9 L (S.2 (2 * x + 1)))
def dC9 (c : Nat) (S : ow_NP) (D : Nat → Bool) : Prop := (∀ w, w < 2 * c → D (S.2 w) = D w) ∧ ∀ x, x < c → D (2 * x + 1) = D (2 * x)
def us9 (c : Nat) (D : Nat → Bool) (lab : Nat → Nat) (b : Nat) : Prop := ∃ w, w < 2 * c ∧ D w = true ∧ lab w = b
def ar9 (g : Nat) (op : Nat → Nat → Nat → Nat) (n c : Nat) (S : ow_NP) (D : Nat → Bool) (lab : Nat → Nat) (L : List Nat) : Prop := L.length = n ∧ (∀ b, b < n → at9 L b < g ∧ (¬ us9 c D lab b → at9 L b = 0)) ∧ ∀ x, x < c → D (2 * x) = true → at9 L (lab (2 * x + 1)) = op x (at9 L (lab (2 * x))) (at9 L (lab (S.2 (2 * x + 1))))
def lb9 (n c : Nat) (S : ow_NP) (lab : Nat → Nat) : Prop := (∀ w, w < 2 * c → lab w < n) ∧ (∀ x, x < c → lab (2 * x) = lab (S.2 (2 * x))) ∧ ∀ h : Nat → Nat, (∀ x, x < c → h (2 * x) = h (S.2 (2 * x))) → ∀ v w, v < 2 * c → w < 2 * c → lab v = lab w → h v = h w
def pd9 (f : Nat → Nat) : Nat → Nat
  | 0 => 1
  | p + 1 => pd9 f p * f p
section XMD
theorem tb9_len {n : Nat} {f : Nat → Nat} : (tb9 n f).length = n := by
  unfold tb9
  rw [List.length_map, List.length_range]
theorem tb9_at {n b : Nat} {f : Nat → Nat} (hb : b < n) : at9 (tb9 n f) b = f b := by
  unfold at9 tb9
  rw [List.getElem?_map, List.getElem?_range hb]
  rfl
theorem at9_ext {L M : List Nat} {n : Nat} (h1 : L.length = n) (h2 : M.length = n) (h : ∀ b, b < n → at9 L b = at9 M b) : L = M := by
  refine List.ext_getElem (by omega) (fun i i1 i2 => ?_)
  have := h i (by omega)
  unfold at9 at this
  rw [List.getElem?_eq_getElem i1, List.getElem?_eq_getElem i2] at this
  exact this
theorem sm9_c {k : Nat} : ∀ n, sm9 (fun _ => k) n = n * k
  | 0 => (Nat.zero_mul _).symm
  | n + 1 => by
    show sm9 (fun _ => k) n + k = _
    rw [sm9_c n, Nat.succ_mul]
theorem cnt_mul {α β : Type} {Φ : α → Prop} {Ψ : β → Prop} {n k : Nat} (h : cnt9 Φ n) (h' : cnt9 Ψ k) : cnt9 (fun p : α × β => Φ p.1 ∧ Ψ p.2) (n * k) := by
  obtain ⟨l, a1, a2, a3⟩ := h
  rw [← sm9_c n]
  have key := cnt_sm (Φ := fun i (p : α × β) => l[i]? = some p.1 ∧ Ψ p.2) (f := fun _ => k) (fun L p q h1 h2 => ?_) n (fun p hp => ?_)
  · refine cnt_cg (fun L => ?_) key
    constructor
    · rintro ⟨p, p1, p2, p3⟩
      exact ⟨(a2 _).mp (List.mem_of_getElem? p2), p3⟩
    · rintro ⟨p1, p2⟩
      obtain ⟨i, i1, i2⟩ := List.getElem_of_mem ((a2 _).mpr p1)
      exact ⟨i, by omega, by rw [List.getElem?_eq_getElem i1, i2], p2⟩
  · exact (List.getElem?_inj (List.getElem?_eq_some_iff.mp h1.1).1 a1).mp (h1.1.trans h2.1.symm)
  · have hp : p < l.length := by omega
    refine cnt_bij (fun b => (l[p], b)) (fun x hx => ⟨List.getElem?_eq_getElem hp, hx⟩) (fun x y _ _ e => (Prod.mk.inj e).2) (fun y hy => ⟨y.2, hy.2, ?_⟩) h'
    have := hy.1
    rw [List.getElem?_eq_getElem hp] at this
    exact Prod.ext (Option.some.inj this) rfl
variable {g c n : Nat} {op : Nat → Nat → Nat → Nat} {S : ow_NP} {D : Nat → Bool}
theorem cl9_cg {D' : Nat → Bool} {op' : Nat → Nat → Nat → Nat} (h : ∀ w, w < 2 * c → D w = D' w) (ho : ∀ x a b, x < c → op x a b = op' x a b) {L : List Nat} (hL : cl9 g op c S D L) : cl9 g op' c S D' L := by
  refine ⟨hL.1, fun w hw => ⟨(hL.2.1 w hw).1, fun e => (hL.2.1 w hw).2 (by rw [h w hw]; exact e)⟩, fun x hx e => ?_⟩
  have := hL.2.2 x hx (by rw [h _ (by omega)]; exact e)
  rw [ho x _ _ hx] at this
  exact this
/-- colourings of arcs and of visits -/
theorem ar_cl {lab : Nat → Nat} {N : Nat} (hv : vn c S) (hD : dC9 c S D) (hl : lb9 n c S lab) (hg : 0 < g) (h : cnt9 (ar9 g op n c S D lab) N) : cnt9 (cl9 g op c S D) N := by
  obtain ⟨l1, l2, l3⟩ := hl
  have f1 : ∀ (L : List Nat) w, w < 2 * c → at9 (tb9 (2 * c) (fun w => if D w = true then at9 L (lab w) else 0)) w = if D w = true then at9 L (lab w) else 0 := fun L w hw => tb9_at hw
  refine cnt_bij (fun L => tb9 (2 * c) (fun w => if D w = true then at9 L (lab w) else 0)) (fun L hL => ⟨tb9_len, fun w hw => ?_, fun x hx e => ?_⟩) (fun L M hL hM e => ?_) (fun H hH => ?_) h
  · rw [f1 L w hw]
    by_cases d : D w = true
    · rw [if_pos d]
      exact ⟨(hL.2.1 _ (l1 w hw)).1, fun e => by rw [e] at d; cases d⟩
    · rw [if_neg d]
      exact ⟨hg, fun _ => rfl⟩
  · have s0 := (hv (2 * x) (by omega)).2.1
    have s1 := (hv (2 * x + 1) (by omega)).2.1
    have d1 : D (2 * x + 1) = true := (hD.2 x hx).trans e
    have d2 : D (S.2 (2 * x)) = true := (hD.1 _ (by omega)).trans e
    have d3 : D (S.2 (2 * x + 1)) = true := (hD.1 _ (by omega)).trans d1
    rw [f1 L _ (by omega), f1 L _ s0, f1 L _ (by omega), f1 L _ s1, if_pos e, if_pos d1, if_pos d2, if_pos d3]
    exact ⟨by rw [l2 x hx], hL.2.2 x hx e⟩
  · refine at9_ext hL.1 hM.1 (fun b hb => ?_)
    by_cases u : us9 c D lab b
    · obtain ⟨w, w1, w2, w3⟩ := u
      have e2 := congrArg (fun H => at9 H w) e
      rw [f1 L w w1, f1 M w w1, if_pos w2, if_pos w2, w3] at e2
      exact e2
    · rw [(hL.2.1 b hb).2 u, (hM.2.1 b hb).2 u]
  · have hh : ∀ x, x < c → at9 H (2 * x) = at9 H (S.2 (2 * x)) := fun x hx => by
      by_cases d : D (2 * x) = true
      · exact (hH.2.2 x hx d).1
      · have d : D (2 * x) = false := by simpa using d
        rw [(hH.2.1 _ (by omega)).2 d, (hH.2.1 _ (hv (2 * x) (by omega)).2.1).2 ((hD.1 _ (by omega)).trans d)]
    have cn := l3 (at9 H) hh
    obtain ⟨k, hk⟩ : ∃ k : Nat → Nat, ∀ b, (us9 c D lab b → ∃ w, w < 2 * c ∧ D w = true ∧ lab w = b ∧ k b = at9 H w) ∧ (¬ us9 c D lab b → k b = 0) := by
      refine Classical.axiomOfChoice (r := fun b q => (us9 c D lab b → ∃ w, w < 2 * c ∧ D w = true ∧ lab w = b ∧ q = at9 H w) ∧ (¬ us9 c D lab b → q = 0)) (fun b => ?_)
      by_cases u : us9 c D lab b
      · obtain ⟨w, w1, w2, w3⟩ := id u
        exact ⟨at9 H w, fun _ => ⟨w, w1, w2, w3, rfl⟩, fun h9 => absurd u h9⟩
      · exact ⟨0, fun h9 => absurd h9 u, fun _ => rfl⟩
    have kl : ∀ w, w < 2 * c → D w = true → k (lab w) = at9 H w := fun w hw d => by
      obtain ⟨w', w1, w2, w3, w4⟩ := (hk (lab w)).1 ⟨w, hw, d, rfl⟩
      rw [w4]
      exact cn w' w w1 hw w3
    refine ⟨tb9 n k, ⟨tb9_len, fun b hb => ?_, fun x hx e => ?_⟩, at9_ext tb9_len hH.1 (fun w hw => ?_)⟩
    · rw [tb9_at hb]
      refine ⟨?_, (hk b).2⟩
      by_cases u : us9 c D lab b
      · obtain ⟨w, w1, w2, w3, w4⟩ := (hk b).1 u
        rw [w4]
        exact (hH.2.1 w w1).1
      · rw [(hk b).2 u]
        exact hg
    · have s1 := (hv (2 * x + 1) (by omega)).2.1
      have d1 : D (2 * x + 1) = true := (hD.2 x hx).trans e
      have d3 : D (S.2 (2 * x + 1)) = true := (hD.1 _ (by omega)).trans d1
      rw [tb9_at (l1 _ (by omega)), tb9_at (l1 _ (by omega)), tb9_at (l1 _ s1), kl _ (by omega) d1, kl _ (by omega) e, kl _ s1 d3]
      exact (hH.2.2 x hx e).2
    · rw [f1 _ w hw]
      by_cases d : D w = true
      · rw [if_pos d, tb9_at (l1 w hw), kl w hw d]
      · rw [if_neg d, (hH.2.1 w hw).2 (by simpa using d)]
/-- two parts are coloured one by one -/
theorem cl_or {D1 D2 : Nat → Bool} {N1 N2 : Nat} (hv : vn c S) (h1 : dC9 c S D1) (h2 : dC9 c S D2) (hd : ∀ w, w < 2 * c → D1 w = true → D2 w = true → False) (k1 : cnt9 (cl9 g op c S D1) N1) (k2 : cnt9 (cl9 g op c S D2) N2) (hg : 0 < g) : cnt9 (cl9 g op c S (fun w => D1 w || D2 w)) (N1 * N2) := by
  have f1 : ∀ (f : Nat → Nat) w, w < 2 * c → at9 (tb9 (2 * c) f) w = f w := fun f w hw => tb9_at hw
  refine cnt_bij (fun p : List Nat × List Nat => tb9 (2 * c) (fun w => if D1 w = true then at9 p.1 w else at9 p.2 w)) (fun p hp => ⟨tb9_len, fun w hw => ?_, fun x hx e => ?_⟩) (fun p q hp hq e => ?_) (fun H hH => ?_) (cnt_mul k1 k2)
  · rw [f1 _ w hw]
    by_cases d : D1 w = true
    · rw [if_pos d]
      refine ⟨(hp.1.2.1 w hw).1, fun e => ?_⟩
      have e : (D1 w || D2 w) = false := e
      rw [d] at e
      cases e
    · rw [if_neg d]
      refine ⟨(hp.2.2.1 w hw).1, fun e => (hp.2.2.1 w hw).2 ?_⟩
      exact (Bool.or_eq_false_iff.mp e).2
  · have s0 := (hv (2 * x) (by omega)).2.1
    have s1 := (hv (2 * x + 1) (by omega)).2.1
    rw [f1 _ _ (by omega), f1 _ _ s0, f1 _ _ (by omega), f1 _ _ s1, h1.1 _ (by omega), h1.1 _ (by omega), h1.2 x hx]
    by_cases d : D1 (2 * x) = true
    · rw [if_pos d, if_pos d, if_pos d, if_pos d]
      exact hp.1.2.2 x hx d
    · rw [if_neg d, if_neg d, if_neg d, if_neg d]
      refine hp.2.2.2 x hx ?_
      rcases (Bool.or_eq_true _ _).mp e with h9 | h9
      · exact absurd h9 d
      · exact h9
  · have e2 : ∀ w, w < 2 * c → (if D1 w = true then at9 p.1 w else at9 p.2 w) = if D1 w = true then at9 q.1 w else at9 q.2 w := fun w hw => by
      have e3 := congrArg (fun H => at9 H w) e
      rw [f1 _ w hw, f1 _ w hw] at e3
      exact e3
    refine Prod.ext (at9_ext hp.1.1 hq.1.1 (fun w hw => ?_)) (at9_ext hp.2.1 hq.2.1 (fun w hw => ?_))
    · have e4 := e2 w hw
      by_cases d : D1 w = true
      · rw [if_pos d, if_pos d] at e4
        exact e4
      · have d : D1 w = false := by simpa using d
        rw [(hp.1.2.1 w hw).2 d, (hq.1.2.1 w hw).2 d]
    · have e4 := e2 w hw
      by_cases d : D1 w = true
      · have d2 : D2 w = false := by
          cases h9 : D2 w
          · rfl
          · exact absurd (hd w hw d h9) id
        rw [(hp.2.2.1 w hw).2 d2, (hq.2.2.1 w hw).2 d2]
      · rw [if_neg d, if_neg d] at e4
        exact e4
  · have hr : ∀ D' : Nat → Bool, dC9 c S D' → (∀ w, w < 2 * c → D' w = true → (D1 w || D2 w) = true) → cl9 g op c S D' (tb9 (2 * c) (fun w => if D' w = true then at9 H w else 0)) := by
      intro D' hD' hs
      refine ⟨tb9_len, fun w hw => ?_, fun x hx e => ?_⟩
      · rw [f1 _ w hw]
        by_cases d : D' w = true
        · rw [if_pos d]
          exact ⟨(hH.2.1 w hw).1, fun e => by rw [d] at e; cases e⟩
        · rw [if_neg d]
          exact ⟨hg, fun _ => rfl⟩
      · have s0 := (hv (2 * x) (by omega)).2.1
        have s1 := (hv (2 * x + 1) (by omega)).2.1
        rw [f1 _ _ (by omega), f1 _ _ s0, f1 _ _ (by omega), f1 _ _ s1, hD'.1 _ (by omega), hD'.1 _ (by omega), hD'.2 x hx, if_pos e, if_pos e, if_pos e, if_pos e]
        exact hH.2.2 x hx (hs _ (by omega) e)
    refine ⟨(tb9 (2 * c) (fun w => if D1 w = true then at9 H w else 0), tb9 (2 * c) (fun w => if D2 w = true then at9 H w else 0)), ⟨hr D1 h1 (fun w _ d => by rw [d]; rfl), hr D2 h2 (fun w _ d => by rw [d, Bool.or_true])⟩, at9_ext tb9_len hH.1 (fun w hw => ?_)⟩
    rw [f1 _ w hw]
    dsimp only
    rw [f1 _ w hw, f1 _ w hw]
    by_cases d : D1 w = true
    · rw [if_pos d, if_pos d]
    · rw [if_neg d]
      by_cases d2 : D2 w = true
      · rw [if_pos d2]
      · rw [if_neg d2]
        refine ((hH.2.1 w hw).2 ?_).symm
        show (D1 w || D2 w) = false
        rw [show D1 w = false by simpa using d, show D2 w = false by simpa using d2]
        rfl
/-- all parts -/
theorem cl_prod {pr : Nat → Nat} {P : Nat} {f : Nat → Nat} (hv : vn c S) (hg : 0 < g) (hp : ∀ w, w < 2 * c → pr w < P ∧ pr (S.2 w) = pr w) (hx : ∀ x, x < c → pr (2 * x + 1) = pr (2 * x)) (hN : ∀ p, p < P → cnt9 (cl9 g op c S (fun w => decide (pr w = p))) (f p)) : cnt9 (cl9 g op c S (fun _ => true)) (pd9 f P) := by
  have key : ∀ p, p ≤ P → cnt9 (cl9 g op c S (fun w => decide (pr w < p))) (pd9 f p) := by
    intro p
    induction p with
    | zero =>
      intro _
      refine cnt_1 (L0 := tb9 (2 * c) (fun _ => 0)) (fun L => ⟨fun hL => at9_ext hL.1 tb9_len (fun w hw => ?_), fun e => ?_⟩)
      · rw [(hL.2.1 w hw).2 (decide_eq_false (Nat.not_lt_zero _)), tb9_at hw]
      · rw [e]
        refine ⟨tb9_len, fun w hw => ?_, fun x _ h9 => absurd (of_decide_eq_true h9) (Nat.not_lt_zero _)⟩
        rw [tb9_at hw]
        exact ⟨hg, fun _ => rfl⟩
    | succ p ih =>
      intro h9
      have := cl_or (D1 := fun w => decide (pr w < p)) (D2 := fun w => decide (pr w = p)) hv ⟨fun w hw => by dsimp only; rw [(hp w hw).2], fun x hx9 => by dsimp only; rw [hx x hx9]⟩ ⟨fun w hw => by dsimp only; rw [(hp w hw).2], fun x hx9 => by dsimp only; rw [hx x hx9]⟩ (fun w _ a b => by have := of_decide_eq_true a; have := of_decide_eq_true b; omega) (ih (by omega)) (hN p (by omega)) hg
      have eD : ∀ w, (decide (pr w < p) || decide (pr w = p)) = decide (pr w < p + 1) := fun w => by
        rw [← Bool.decide_or]
        exact decide_eq_decide.mpr (by omega)
      exact cnt_cg (fun L => ⟨fun h => cl9_cg (fun w _ => eD w) (fun _ _ _ _ => rfl) h, fun h => cl9_cg (fun w _ => (eD w).symm) (fun _ _ _ _ => rfl) h⟩) this
  exact cnt_cg (fun L => ⟨fun h => cl9_cg (fun w hw => decide_eq_true (hp w hw).1) (fun _ _ _ _ => rfl) h, fun h => cl9_cg (fun w hw => (decide_eq_true (hp w hw).1).symm) (fun _ _ _ _ => rfl) h⟩) (key P (Nat.le_refl _))
end XMD
