/-! two: three letters: R3 -/
section XTWD
variable {n g x y w : Nat} {A B : wd9}
theorem nm3 {a b c : Nat × Nat} {z : Nat} : z ∈ nmz (B ++ a :: b :: c :: A) ↔ z = a.2 ∨ z = b.2 ∨ z = c.2 ∨ z ∈ nmz (B ++ A) := by
  rw [nm_a, nm_a, List.mem_append, List.mem_append, show nmz (a :: b :: c :: A) = a.2 :: b.2 :: c.2 :: nmz A from rfl, List.mem_cons, List.mem_cons, List.mem_cons]
  constructor
  · rintro (h | h | h | h | h)
    · exact Or.inr (Or.inr (Or.inr (Or.inl h)))
    · exact Or.inl h
    · exact Or.inr (Or.inl h)
    · exact Or.inr (Or.inr (Or.inl h))
    · exact Or.inr (Or.inr (Or.inr (Or.inr h)))
  · rintro (h | h | h | h | h)
    · exact Or.inr (Or.inl h)
    · exact Or.inr (Or.inr (Or.inl h))
    · exact Or.inr (Or.inr (Or.inr (Or.inl h)))
    · exact Or.inl h
    · exact Or.inr (Or.inr (Or.inr (Or.inr h)))
/-- what three letters that differ stand apart from -/
theorem ok3 {a b c : Nat × Nat} (h : okw n (B ++ a :: b :: c :: A)) : (c.2 ≠ b.2 ∧ c.2 ≠ a.2 ∧ b.2 ≠ a.2) ∧ (a.2 ∉ nmz A ∧ a.2 ∉ nmz B) ∧ (b.2 ∉ nmz A ∧ b.2 ∉ nmz B) ∧ (c.2 ∉ nmz A ∧ c.2 ∉ nmz B) ∧ okw n (B ++ A) := by
  obtain ⟨h1, h2, h3⟩ := okw_d (g := a.1) (x := a.2) h
  obtain ⟨k1, k2, k3⟩ := okw_d (g := b.1) (x := b.2) h3
  obtain ⟨j1, j2, j3⟩ := okw_d (g := c.1) (x := c.2) k3
  refine ⟨⟨fun h9 => k1 (by rw [← h9]; exact List.mem_cons_self), fun h9 => h1 (by rw [← h9]; exact List.mem_cons_of_mem _ List.mem_cons_self), fun h9 => h1 (by rw [← h9]; exact List.mem_cons_self)⟩, ⟨fun h9 => h1 (List.mem_cons_of_mem _ (List.mem_cons_of_mem _ h9)), h2⟩, ⟨fun h9 => k1 (List.mem_cons_of_mem _ h9), k2⟩, ⟨j1, j2⟩, j3⟩
theorem r3_ok (h : okw n (B ++ (g + 1, x) :: (g, y) :: (g + 1, w) :: A)) : okw n (B ++ (g, w) :: (g + 1, y) :: (g, x) :: A) := by
  have h9 := h.1 (g + 1, x) (List.mem_append_right _ List.mem_cons_self)
  have h9 : g + 1 + 1 < n := h9
  refine ⟨fun l hl => ?_, ?_⟩
  · rcases List.mem_append.mp hl with h1 | h1
    · exact h.1 l (List.mem_append_left _ h1)
    · rcases List.mem_cons.mp h1 with h2 | h2
      · rw [h2]
        show g + 1 < n
        omega
      · rcases List.mem_cons.mp h2 with h3 | h3
        · rw [h3]
          exact h9
        · rcases List.mem_cons.mp h3 with h4 | h4
          · rw [h4]
            show g + 1 < n
            omega
          · exact h.1 l (List.mem_append_right _ (List.mem_cons_of_mem _ (List.mem_cons_of_mem _ (List.mem_cons_of_mem _ h4))))
  · have e1 : nmz (B ++ (g, w) :: (g + 1, y) :: (g, x) :: A) = nmz B ++ w :: y :: x :: nmz A := nm_a
    have e2 : nmz (B ++ (g + 1, x) :: (g, y) :: (g + 1, w) :: A) = nmz B ++ x :: y :: w :: nmz A := nm_a
    have hp : (nmz B ++ w :: y :: x :: nmz A).Perm (nmz B ++ x :: y :: w :: nmz A) := by
      refine List.perm_iff_count.mpr (fun t => ?_)
      simp only [List.count_append, List.count_cons]
      omega
    rw [e1]
    have h2 := h.2
    rw [e2] at h2
    exact hp.nodup_iff.mpr h2
theorem r3_tk (hxy : x ≠ y) (hxw : x ≠ w) (hyw : y ≠ w) (p : tk9) : tkz n (B ++ (g, w) :: (g + 1, y) :: (g, x) :: A) p ↔ tkz n (B ++ (g + 1, x) :: (g, y) :: (g + 1, w) :: A) (t3z x y w p) := by
  have m1 : ∀ z, z ∈ nmz (B ++ (g, w) :: (g + 1, y) :: (g, x) :: A) ↔ z = w ∨ z = y ∨ z = x ∨ z ∈ nmz (B ++ A) := fun z => nm3
  have m2 : ∀ z, z ∈ nmz (B ++ (g + 1, x) :: (g, y) :: (g + 1, w) :: A) ↔ z = x ∨ z = y ∨ z = w ∨ z ∈ nmz (B ++ A) := fun z => nm3
  have yes : ∀ z i, (z = x ∨ z = y ∨ z = w) → i < 2 → tkz n (B ++ (g, w) :: (g + 1, y) :: (g, x) :: A) (z, i) ∧ tkz n (B ++ (g + 1, x) :: (g, y) :: (g + 1, w) :: A) (z, i) := fun z i hz hi => by
    refine ⟨Or.inr ⟨hi, (m1 z).mpr ?_⟩, Or.inr ⟨hi, (m2 z).mpr ?_⟩⟩
    · rcases hz with h | h | h
      · exact Or.inr (Or.inr (Or.inl h))
      · exact Or.inr (Or.inl h)
      · exact Or.inl h
    · rcases hz with h | h | h
      · exact Or.inl h
      · exact Or.inr (Or.inl h)
      · exact Or.inr (Or.inr (Or.inl h))
  have fin : ∀ a i b j, p = (a, i) → t3z x y w p = (b, j) → (a = x ∨ a = y ∨ a = w) → (b = x ∨ b = y ∨ b = w) → i < 2 → j < 2 → (tkz n (B ++ (g, w) :: (g + 1, y) :: (g, x) :: A) p ↔ tkz n (B ++ (g + 1, x) :: (g, y) :: (g + 1, w) :: A) (t3z x y w p)) := fun a i b j e1 e2 ha hb hi hj => by
    rw [e2, e1]
    exact ⟨fun _ => (yes b j hb hj).2, fun _ => (yes a i ha hi).1⟩
  rcases t3_cs (x := x) (y := y) (w := w) p with h | h | h | h | h | h | ⟨h1, h2, h3⟩
  · exact fin x 1 y 1 h (by rw [h, t3_x1]) (Or.inl rfl) (Or.inr (Or.inl rfl)) (by omega) (by omega)
  · exact fin x 0 w 1 h (by rw [h, t3_x0]) (Or.inl rfl) (Or.inr (Or.inr rfl)) (by omega) (by omega)
  · exact fin y 1 x 1 h (by rw [h, t3_y1 hxy]) (Or.inr (Or.inl rfl)) (Or.inl rfl) (by omega) (by omega)
  · exact fin y 0 w 0 h (by rw [h, t3_y0 hxy hyw]) (Or.inr (Or.inl rfl)) (Or.inr (Or.inr rfl)) (by omega) (by omega)
  · exact fin w 1 x 0 h (by rw [h, t3_w1 hxw hyw]) (Or.inr (Or.inr rfl)) (Or.inl rfl) (by omega) (by omega)
  · exact fin w 0 y 0 h (by rw [h, t3_w0 hxw]) (Or.inr (Or.inr rfl)) (Or.inr (Or.inl rfl)) (by omega) (by omega)
  · rw [t3_n h1 h2 h3]
    obtain ⟨a, i⟩ := p
    constructor
    · rintro (h | ⟨h, h4⟩)
      · exact Or.inl h
      · refine Or.inr ⟨h, (m2 a).mpr ?_⟩
        rcases (m1 a).mp h4 with h5 | h5 | h5 | h5
        · exact Or.inr (Or.inr (Or.inl h5))
        · exact Or.inr (Or.inl h5)
        · exact Or.inl h5
        · exact Or.inr (Or.inr (Or.inr h5))
    · rintro (h | ⟨h, h4⟩)
      · exact Or.inl h
      · refine Or.inr ⟨h, (m1 a).mpr ?_⟩
        rcases (m2 a).mp h4 with h5 | h5 | h5 | h5
        · exact Or.inr (Or.inr (Or.inl h5))
        · exact Or.inr (Or.inl h5)
        · exact Or.inl h5
        · exact Or.inr (Or.inr (Or.inr h5))
/- r3_V (to be written): for all k, B, A, L with (B ++ (g+1,x) :: (g,y) :: (g+1,w) :: A).length = k, okw, orz n .. L, PhZ of the shorter ones:
   exists L1 with orz n (B ++ (g,w) :: (g+1,y) :: (g,x) :: A) L1 and for all ov with lay (ov x) (ov y) (ov w): vlz (Gz n W2) L ov = vlz (Gz n W1) L1 ov.
   Proof: rotA for (y,1), (w,1), (w,0) (their next ones by t3_sg's sub-lines: (x,1), (x,0), (y,0)); L1 := map t3z; adz_k three times gives a, b, c;
   gd_p1 for L, gd_p2 for L1 (its place k holds t3z of what L has there); skein of both (vlz_sk); Gz equal:
   z = x: rz_F with swz y w; z = w: rz_F with swz x y; z = y: r2_V twice; others: PhZ + induction; lay_go, then skR_eq over nmz (B ++ A). -/
end XTWD
