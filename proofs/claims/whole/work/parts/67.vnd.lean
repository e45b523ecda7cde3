/-! valid nets on any set of visits, and what the steps of moves do to them -/
def vD (D : Nat → Prop) (S : ow_NP) : Prop := ∀ k, D k → D (S.1 k) ∧ D (S.2 k) ∧ S.2 (S.1 k) = k ∧ S.1 (S.2 k) = k
theorem vD_vn {c : Nat} {S : ow_NP} : vD (fun k => k < 2 * c) S ↔ vn c S := Iff.rfl
theorem vD_cg {D E : Nat → Prop} {S : ow_NP} (h : vD D S) (he : ∀ k, E k ↔ D k) : vD E S := fun k hk => by
  obtain ⟨h1, h2, h3, h4⟩ := h k ((he k).mp hk)
  exact ⟨(he _).mpr h1, (he _).mpr h2, h3, h4⟩
theorem vD_inj {D : Nat → Prop} {S : ow_NP} (h : vD D S) {a b : Nat} (ha : D a) (hb : D b) (e : S.1 a = S.1 b) : a = b := by
  rw [← (h a ha).2.2.1, e, (h b hb).2.2.1]
theorem vD_inj2 {D : Nat → Prop} {S : ow_NP} (h : vD D S) {a b : Nat} (ha : D a) (hb : D b) (e : S.2 a = S.2 b) : a = b := by
  rw [← (h a ha).2.2.2, e, (h b hb).2.2.2]
theorem put_1 (S : ow_NP) (a v k : Nat) : (np_putBehind S a v).1 k = if k = v then S.1 a else if k = a then v else S.1 k := rfl
theorem put_2 (S : ow_NP) (a v k : Nat) : (np_putBehind S a v).2 k = if k = S.1 a then v else if k = v then a else S.2 k := rfl
theorem vD_put {D : Nat → Prop} {S : ow_NP} (h : vD D S) {a v : Nat} (ha : D a) (hv : ¬ D v) : vD (fun k => D k ∨ k = v) (np_putBehind S a v) := by
  have hav : ¬ a = v := fun e => hv (by rw [← e]; exact ha)
  have hna : ¬ v = S.1 a := fun e => hv (by rw [e]; exact (h a ha).1)
  have n1 : (np_putBehind S a v).1 v = S.1 a := by rw [put_1, if_pos rfl]
  have n2 : (np_putBehind S a v).1 a = v := by rw [put_1, if_neg hav, if_pos rfl]
  have n3 : ∀ k, ¬ k = v → ¬ k = a → (np_putBehind S a v).1 k = S.1 k := fun k x y => by rw [put_1, if_neg x, if_neg y]
  have p1 : (np_putBehind S a v).2 (S.1 a) = v := by rw [put_2, if_pos rfl]
  have p2 : (np_putBehind S a v).2 v = a := by rw [put_2, if_neg hna, if_pos rfl]
  have p3 : ∀ k, ¬ k = S.1 a → ¬ k = v → (np_putBehind S a v).2 k = S.2 k := fun k x y => by rw [put_2, if_neg x, if_neg y]
  intro k hk
  have hx : (D ((np_putBehind S a v).1 k) ∨ (np_putBehind S a v).1 k = v) ∧ (np_putBehind S a v).2 ((np_putBehind S a v).1 k) = k := by
    by_cases e1 : k = v
    · rw [e1, n1, p1]; exact ⟨Or.inl (h a ha).1, rfl⟩
    · by_cases e2 : k = a
      · rw [e2, n2, p2]; exact ⟨Or.inr rfl, rfl⟩
      · have hk := hk.resolve_right e1
        rw [n3 k e1 e2, p3 _ (fun e => e2 (vD_inj h hk ha e)) (fun e => hv (by rw [← e]; exact (h k hk).1))]
        exact ⟨Or.inl (h k hk).1, (h k hk).2.2.1⟩
  have hy : (D ((np_putBehind S a v).2 k) ∨ (np_putBehind S a v).2 k = v) ∧ (np_putBehind S a v).1 ((np_putBehind S a v).2 k) = k := by
    by_cases e1 : k = v
    · rw [e1, p2, n2]; exact ⟨Or.inl ha, rfl⟩
    · by_cases e2 : k = S.1 a
      · rw [e2, p1, n1]; exact ⟨Or.inr rfl, rfl⟩
      · have hk := hk.resolve_right e1
        rw [p3 k e2 e1, n3 _ (fun e => hv (by rw [← e]; exact (h k hk).2.1)) (fun e => e2 (by rw [← e, (h k hk).2.2.2]))]
        exact ⟨Or.inl (h k hk).2.1, (h k hk).2.2.2⟩
  exact ⟨hx.1, hy.1, hx.2, hy.2⟩
theorem nl_1 (S : ow_NP) (v w k : Nat) : (nl S v w).1 k = if k = v then w else S.1 k := rfl
theorem nl_2 (S : ow_NP) (v w k : Nat) : (nl S v w).2 k = if k = w then v else S.2 k := rfl
theorem vD_open {D : Nat → Prop} {S : ow_NP} (h : vD D S) {v : Nat} (hv : ¬ D v) : vD (fun k => D k ∨ k = v) (nl S v v) := by
  have n1 : (nl S v v).1 v = v := if_pos rfl
  have p1 : (nl S v v).2 v = v := if_pos rfl
  have n3 : ∀ k, ¬ k = v → (nl S v v).1 k = S.1 k := fun k x => if_neg x
  have p3 : ∀ k, ¬ k = v → (nl S v v).2 k = S.2 k := fun k x => if_neg x
  intro k hk
  by_cases e1 : k = v
  · rw [e1, n1, p1, n1]
    exact ⟨Or.inr rfl, Or.inr rfl, rfl, rfl⟩
  · have hk : D k := hk.resolve_right e1
    rw [n3 k e1, p3 k e1, p3 _ (fun e => hv (by rw [← e]; exact (h k hk).1)), n3 _ (fun e => hv (by rw [← e]; exact (h k hk).2.1))]
    exact ⟨Or.inl (h k hk).1, Or.inl (h k hk).2.1, (h k hk).2.2.1, (h k hk).2.2.2⟩
theorem vD_cut {D : Nat → Prop} {S : ow_NP} (h : vD D S) {v : Nat} (hv : D v) : vD (fun k => D k ∧ k ≠ v) (np_cut S v) := by
  unfold np_cut
  split
  · rename_i e
    intro k hk
    obtain ⟨h1, h2, h3, h4⟩ := h k hk.1
    refine ⟨⟨h1, fun e2 => hk.2 ?_⟩, ⟨h2, fun e2 => hk.2 ?_⟩, h3, h4⟩
    · rw [← h3, e2]
      have := (h v hv).2.2.1
      rw [e] at this; exact this
    · rw [← h4, e2, e]
  · rename_i e
    have e' : ¬ S.2 v = v := fun q => e (by have := (h v hv).2.2.2; rw [q] at this; exact this)
    intro k hk
    obtain ⟨h1, h2, h3, h4⟩ := h k hk.1
    rw [nl_1, nl_2, nl_1, nl_2]
    by_cases e1 : k = S.2 v
    · rw [if_pos e1, if_pos rfl]
      refine ⟨⟨(h v hv).1, e⟩, ?_, e1.symm, ?_⟩
      · by_cases e3 : k = S.1 v
        · rw [if_pos e3]; exact ⟨(h v hv).2.1, e'⟩
        · rw [if_neg e3]
          refine ⟨h2, fun q => e3 ?_⟩
          rw [← h4, q]
      · by_cases e3 : k = S.1 v
        · rw [if_pos e3, if_pos rfl, e3]
        · rw [if_neg e3, if_neg (fun q => hk.2 (by rw [← h4, q, (h v hv).2.2.2])), h4]
    · rw [if_neg e1, if_neg (fun q => hk.2 (vD_inj h hk.1 hv q))]
      refine ⟨⟨h1, fun q => e1 (by rw [← h3, q])⟩, ?_, h3, ?_⟩
      · by_cases e3 : k = S.1 v
        · rw [if_pos e3]; exact ⟨(h v hv).2.1, e'⟩
        · rw [if_neg e3]
          refine ⟨h2, fun q => e3 ?_⟩
          rw [← h4, q]
      · by_cases e3 : k = S.1 v
        · rw [if_pos e3, if_pos rfl, e3]
        · rw [if_neg e3, if_neg (fun q => hk.2 (by rw [← h4, q, (h v hv).2.2.2])), h4]
/-- a visit gets another name -/
theorem vD_rename {D : Nat → Prop} {S : ow_NP} (h : vD D S) {v n : Nat} (hv : D v) (hn : ¬ D n) : vD (fun k => (D k ∧ k ≠ v) ∨ k = n) (np_rename S v n) := by
  unfold np_rename
  split
  · rename_i e
    have hc := vD_cut h hv
    rw [np_cut, if_pos e] at hc
    exact vD_open hc (fun q => hn q.1)
  · rename_i e
    have e' : ¬ S.2 v = v := fun q => e (by have := (h v hv).2.2.2; rw [q] at this; exact this)
    have hs : (nl S (S.2 v) n).1 v = S.1 v := by rw [nl_1, if_neg (fun q => e' q.symm)]
    rw [hs]
    have w1 : ¬ n = S.2 v := fun q => hn (by rw [q]; exact (h v hv).2.1)
    have w2 : ¬ n = S.1 v := fun q => hn (by rw [q]; exact (h v hv).1)
    have n1 : (nl (nl S (S.2 v) n) n (S.1 v)).1 n = S.1 v := if_pos rfl
    have n2 : (nl (nl S (S.2 v) n) n (S.1 v)).1 (S.2 v) = n := by rw [nl_1, if_neg (fun q => w1 q.symm), nl_1, if_pos rfl]
    have n3 : ∀ k, ¬ k = n → ¬ k = S.2 v → (nl (nl S (S.2 v) n) n (S.1 v)).1 k = S.1 k := fun k x y => by rw [nl_1, if_neg x, nl_1, if_neg y]
    have p1 : (nl (nl S (S.2 v) n) n (S.1 v)).2 (S.1 v) = n := if_pos rfl
    have p2 : (nl (nl S (S.2 v) n) n (S.1 v)).2 n = S.2 v := by rw [nl_2, if_neg w2, nl_2, if_pos rfl]
    have p3 : ∀ k, ¬ k = n → ¬ k = S.1 v → (nl (nl S (S.2 v) n) n (S.1 v)).2 k = S.2 k := fun k x y => by rw [nl_2, if_neg y, nl_2, if_neg x]
    intro k hk
    have hx : ((D ((nl (nl S (S.2 v) n) n (S.1 v)).1 k) ∧ (nl (nl S (S.2 v) n) n (S.1 v)).1 k ≠ v) ∨ (nl (nl S (S.2 v) n) n (S.1 v)).1 k = n) ∧ (nl (nl S (S.2 v) n) n (S.1 v)).2 ((nl (nl S (S.2 v) n) n (S.1 v)).1 k) = k := by
      by_cases e1 : k = n
      · rw [e1, n1, p1]; exact ⟨Or.inl ⟨(h v hv).1, e⟩, rfl⟩
      · by_cases e2 : k = S.2 v
        · rw [e2, n2, p2]; exact ⟨Or.inr rfl, rfl⟩
        · have hk := hk.resolve_right e1
          obtain ⟨h1, h2, h3, h4⟩ := h k hk.1
          rw [n3 k e1 e2, p3 _ (fun q => hn (by rw [← q]; exact h1)) (fun q => hk.2 (vD_inj h hk.1 hv q))]
          exact ⟨Or.inl ⟨h1, fun q => e2 (by rw [← h3, q])⟩, h3⟩
    have hy : ((D ((nl (nl S (S.2 v) n) n (S.1 v)).2 k) ∧ (nl (nl S (S.2 v) n) n (S.1 v)).2 k ≠ v) ∨ (nl (nl S (S.2 v) n) n (S.1 v)).2 k = n) ∧ (nl (nl S (S.2 v) n) n (S.1 v)).1 ((nl (nl S (S.2 v) n) n (S.1 v)).2 k) = k := by
      by_cases e1 : k = n
      · rw [e1, p2, n2]; exact ⟨Or.inl ⟨(h v hv).2.1, e'⟩, rfl⟩
      · by_cases e2 : k = S.1 v
        · rw [e2, p1, n1]; exact ⟨Or.inr rfl, rfl⟩
        · have hk := hk.resolve_right e1
          obtain ⟨h1, h2, h3, h4⟩ := h k hk.1
          rw [p3 k e1 e2, n3 _ (fun q => hn (by rw [← q]; exact h2)) (fun q => hk.2 (vD_inj2 h hk.1 hv q))]
          exact ⟨Or.inl ⟨h2, fun q => e2 (by rw [← h4, q])⟩, h4⟩
    exact ⟨hx.1, hy.1, hx.2, hy.2⟩
theorem vn_rm {c x : Nat} {S : ow_NP} (h : vn (c + 1) S) (hx : x ≤ c) : vn c (np_rmS S x c) := by
  have h1 := vD_cut (vD_cut (vD_vn.mpr h) (v := 2 * x) (by omega)) (v := 2 * x + 1) (by omega)
  unfold np_rmS
  split
  · rename_i e
    exact vD_vn.mp (vD_cg h1 (fun k => by omega))
  · rename_i e
    have h2 := vD_rename h1 (v := 2 * c) (n := 2 * x) (by omega) (by omega)
    have h3 := vD_rename h2 (v := 2 * c + 1) (n := 2 * x + 1) (by omega) (by omega)
    exact vD_vn.mp (vD_cg h3 (fun k => by omega))
theorem np_sw_v (v w : Nat) : np_sw v v w = w := if_pos rfl
theorem np_sw_w (v w : Nat) : np_sw w v w = v := by
  unfold np_sw
  split
  · rename_i e
    exact e
  · exact if_pos rfl
theorem np_sw_o {v w a : Nat} (h1 : ¬ a = v) (h2 : ¬ a = w) : np_sw a v w = a := by
  unfold np_sw
  rw [if_neg h1, if_neg h2]
theorem np_sw_i (v w a : Nat) : np_sw (np_sw a v w) v w = a := by
  by_cases e1 : a = v
  · rw [e1, np_sw_v, np_sw_w]
  · by_cases e2 : a = w
    · rw [e2, np_sw_w, np_sw_v]
    · rw [np_sw_o e1 e2, np_sw_o e1 e2]
theorem np_sw_D {D : Nat → Prop} {v w a : Nat} (hv : D v) (hw : D w) (ha : D a) : D (np_sw a v w) := by
  unfold np_sw
  split
  · exact hw
  · split
    · exact hv
    · exact ha
theorem np_sw_e {v w a b : Nat} : a = np_sw b v w ↔ np_sw a v w = b := ⟨fun h => by rw [h, np_sw_i], fun h => by rw [← h, np_sw_i]⟩
/-- swapped places: the net, with two visits renamed -/
theorem np_swap_1 {D : Nat → Prop} {S : ow_NP} (h : vD D S) {v w : Nat} (hv : D v) (hw : D w) {k : Nat} (hk : D k) : (np_swap S v w).1 k = np_sw (S.1 (np_sw k v w)) v w := by
  show (if k = v then np_sw (S.1 w) v w else if k = np_sw (S.2 w) v w then v else if k = w then np_sw (S.1 v) v w else if k = np_sw (S.2 v) v w then w else S.1 k) = _
  by_cases e1 : k = v
  · rw [if_pos e1, e1, np_sw_v]
  · rw [if_neg e1]
    by_cases e2 : k = np_sw (S.2 w) v w
    · rw [if_pos e2, np_sw_e.mp e2, (h w hw).2.2.2, np_sw_w]
    · rw [if_neg e2]
      by_cases e3 : k = w
      · rw [if_pos e3, e3, np_sw_w]
      · rw [if_neg e3]
        by_cases e4 : k = np_sw (S.2 v) v w
        · rw [if_pos e4, np_sw_e.mp e4, (h v hv).2.2.2, np_sw_v]
        · rw [if_neg e4, np_sw_o e1 e3]
          have e5 : np_sw k v w = k := np_sw_o e1 e3
          rw [np_sw_o]
          · intro q
            exact e4 (np_sw_e.mpr (by rw [e5, ← (h k hk).2.2.1, q]))
          · intro q
            exact e2 (np_sw_e.mpr (by rw [e5, ← (h k hk).2.2.1, q]))
theorem np_swap_2 {D : Nat → Prop} {S : ow_NP} (h : vD D S) {v w : Nat} (hv : D v) (hw : D w) {k : Nat} (hk : D k) : (np_swap S v w).2 k = np_sw (S.2 (np_sw k v w)) v w := by
  show (if k = np_sw (S.1 w) v w then v else if k = v then np_sw (S.2 w) v w else if k = np_sw (S.1 v) v w then w else if k = w then np_sw (S.2 v) v w else S.2 k) = _
  by_cases e1 : k = np_sw (S.1 w) v w
  · rw [if_pos e1, np_sw_e.mp e1, (h w hw).2.2.1, np_sw_w]
  · rw [if_neg e1]
    by_cases e2 : k = v
    · rw [if_pos e2, e2, np_sw_v]
    · rw [if_neg e2]
      by_cases e3 : k = np_sw (S.1 v) v w
      · rw [if_pos e3, np_sw_e.mp e3, (h v hv).2.2.1, np_sw_v]
      · rw [if_neg e3]
        by_cases e4 : k = w
        · rw [if_pos e4, e4, np_sw_w]
        · rw [if_neg e4, np_sw_o e2 e4]
          have e5 : np_sw k v w = k := np_sw_o e2 e4
          rw [np_sw_o]
          · intro q
            exact e3 (np_sw_e.mpr (by rw [e5, ← (h k hk).2.2.2, q]))
          · intro q
            exact e1 (np_sw_e.mpr (by rw [e5, ← (h k hk).2.2.2, q]))
theorem vD_swap {D : Nat → Prop} {S : ow_NP} (h : vD D S) {v w : Nat} (hv : D v) (hw : D w) : vD D (np_swap S v w) := by
  intro k hk
  have hsk := np_sw_D (a := k) hv hw hk
  obtain ⟨h1, h2, h3, h4⟩ := h _ hsk
  have d1 := np_sw_D hv hw h1
  have d2 := np_sw_D hv hw h2
  rw [np_swap_1 h hv hw hk, np_swap_2 h hv hw hk, np_swap_2 h hv hw d1, np_swap_1 h hv hw d2, np_sw_i, np_sw_i, h3, h4, np_sw_i]
  exact ⟨d1, d2, rfl, rfl⟩
theorem vn_copy {Q R : ow_NT} (h : vn R.1 R.2.2.1) : vn R.1 (nt_copy Q R).2.2.1 := by
  have key : ∀ (f g : Nat → Nat) (k : Nat), k < 2 * R.1 → va_cpy f g 0 0 (2 * R.1) k = f k := fun f g k hk => by
    rw [pk_cpy_in (Nat.zero_le k) (by omega), Nat.zero_add, Nat.sub_zero]
  intro k hk
  obtain ⟨h1, h2, h3, h4⟩ := h k hk
  show va_cpy _ _ 0 0 _ k < _ ∧ va_cpy _ _ 0 0 _ k < _ ∧ va_cpy R.2.2.1.2 _ 0 0 _ (va_cpy R.2.2.1.1 _ 0 0 _ k) = k ∧ va_cpy R.2.2.1.1 _ 0 0 _ (va_cpy R.2.2.1.2 _ 0 0 _ k) = k
  rw [key _ _ k hk, key _ _ k hk, key _ _ _ h1, key _ _ _ h2]
  exact ⟨h1, h2, h3, h4⟩
theorem vD_pair {D : Nat → Prop} {Q : ow_NT} (h : vD D Q.2.2.1) {af : Option Nat} {f g : Nat} (ha : ∀ a, af = some a → D a) (hf : ¬ D f) (hg : ¬ D g) (hfg : ¬ f = g) : vD (fun k => (D k ∨ k = f) ∨ k = g) (nt_pair Q af f g).2.2.1 := by
  cases af with
  | none => exact vD_put (vD_open h hf) (Or.inr rfl) (fun q => q.elim hg (fun e => hfg e.symm))
  | some a => exact vD_put (vD_put h (ha a rfl) hf) (Or.inr rfl) (fun q => q.elim hg (fun e => hfg e.symm))
