section
/-! 99zzzzzzzzzzzzzzzzm.xtwc -/
/-! two: three letters: the values -/
section XTWC
variable {n g x y w : Nat} {W A B : wd9} {L : List (List tk9)}
theorem nd_pos {l : List tk9} {i j : Nat} {p : tk9} (hn : l.Nodup) (h1 : l[i]? = some p) (h2 : l[j]? = some p) : i = j := by
  obtain ⟨a1, a2⟩ := List.getElem?_eq_some_iff.mp h1
  obtain ⟨b1, b2⟩ := List.getElem?_eq_some_iff.mp h2
  have hp := List.pairwise_iff_getElem.mp hn
  rcases Nat.lt_trichotomy i j with h | h | h
  · exact absurd (a2.trans b2.symm) (hp i j a1 b1 h)
  · exact h
  · exact absurd (b2.trans a2.symm) (hp j i b1 a1 h)
/-- the first visit, by places -/
theorem pos_fv {z j i1 i0 : Nat} (hL : orz n W L) (h : fvz L.flatten z j) (h1 : L.flatten[i1]? = some (z, 1)) (h0 : L.flatten[i0]? = some (z, 0)) : (j = 1 ↔ i1 < i0) := by
  obtain ⟨a, c, e, h2, h3⟩ := h
  have hj : L.flatten[a.length]? = some (z, j) := by
    rw [e, List.getElem?_append_right (Nat.le_refl _), Nat.sub_self]
    rfl
  have big : ∀ k i, L.flatten[k]? = some (z, i) → i ≠ 2 → a.length ≤ k := fun k i hk hi => by
    rcases Nat.lt_or_ge k a.length with h9 | h9
    · exfalso
      rw [e, List.getElem?_append_left h9] at hk
      rcases h3 _ (List.mem_of_getElem? hk) with h8 | h8
      · exact hi h8
      · exact h8 rfl
    · exact h9
  have b1 := big i1 1 h1 (by decide)
  have b0 := big i0 0 h0 (by decide)
  have hne : i1 ≠ i0 := fun h9 => by
    rw [h9, h0] at h1
    exact absurd (Prod.mk.inj (Option.some.inj h1)).2 (by decide)
  constructor
  · intro e1
    rw [e1] at hj
    have := nd_pos hL.2.1 hj h1
    omega
  · intro hlt
    have hm : (z, j) ∈ L.flatten := List.mem_of_getElem? hj
    rcases (hL.2.2 _).mp hm with ⟨h9, -⟩ | ⟨h9, -⟩
    · exact absurd h9 h2
    · have h9 : j < 2 := h9
      rcases (show j = 0 ∨ j = 1 by omega) with e1 | e1
      · rw [e1] at hj
        have := nd_pos hL.2.1 hj h0
        omega
      · exact e1
theorem tkp_ex {p : tk9} (h : p ∈ L.flatten) : ∃ k : Nat, L.flatten[k]? = some p := List.getElem?_of_mem h
theorem gd_p1 {ov : Nat → Bool} {z i1 i0 : Nat} (hL : orz n W L) (hg : gdz L ov) (h1 : L.flatten[i1]? = some (z, 1)) (h0 : L.flatten[i0]? = some (z, 0)) : ov z = decide (i1 < i0) := by
  obtain ⟨j, hj⟩ := fv_ex (i := 1) (List.mem_of_getElem? h1) (by decide)
  rw [hg z j hj]
  exact decide_eq_decide.mpr (pos_fv hL hj h1 h0)
theorem gd_p2 {ov : Nat → Bool} (hL : orz n W L) (h : ∀ z i1 i0 : Nat, L.flatten[i1]? = some (z, 1) → L.flatten[i0]? = some (z, 0) → ov z = decide (i1 < i0)) : gdz L ov := fun z j hj => by
  have hz : z ∈ nmz W := fs_nm hL (p := (z, decide (j = 1))) (fsz_m.mpr ⟨List.not_mem_nil, j, hj, rfl⟩)
  obtain ⟨i1, h1⟩ := tkp_ex ((hL.2.2 (z, 1)).mpr (Or.inr ⟨by omega, hz⟩))
  obtain ⟨i0, h0⟩ := tkp_ex ((hL.2.2 (z, 0)).mpr (Or.inr ⟨by omega, hz⟩))
  rw [h z i1 i0 h1 h0]
  exact (decide_eq_decide.mpr (pos_fv hL hj h1 h0)).symm
/-- layered -/
def lay (a b c : Bool) : Prop := a = c → b = a
theorem lay_st : ∀ a b c a' b' c' : Bool, (a = c → b = a) → (a' = c' → b' = a') → ¬ (a = a' ∧ b = b' ∧ c = c') → (a ≠ a' ∧ ((!a) = c → b = !a)) ∨ (b ≠ b' ∧ (a = c → (!b) = a)) ∨ (c ≠ c' ∧ (a = (!c) → b = a)) := by
  intro a b c a' b' c'
  cases a <;> cases b <;> cases c <;> cases a' <;> cases b' <;> cases c' <;> simp
/-- from one layered pattern to another -/
theorem lay_go {D : (Nat → Bool) → Prop} (hxy : x ≠ y) (hxw : x ≠ w) (hyw : y ≠ w) (hD : ∀ ov z, z = x ∨ z = y ∨ z = w → lay (ov x) (ov y) (ov w) → lay (flz ov z x) (flz ov z y) (flz ov z w) → D ov → D (flz ov z)) (ov1 : Nat → Bool) (h1 : lay (ov1 x) (ov1 y) (ov1 w)) : ∀ (m : Nat) (ov : Nat → Bool), (if ov x = ov1 x then 0 else 1) + (if ov y = ov1 y then 0 else 1) + (if ov w = ov1 w then 0 else 1) ≤ m → lay (ov x) (ov y) (ov w) → D ov → (∀ z, z ≠ x → z ≠ y → z ≠ w → ov z = ov1 z) → D ov1 := by
  intro m
  induction m with
  | zero =>
    intro ov hm hl hd ho
    have e : ov = ov1 := funext (fun z => by
      by_cases zx : z = x
      · rw [zx]
        by_cases c : ov x = ov1 x
        · exact c
        · rw [if_neg c] at hm
          omega
      · by_cases zy : z = y
        · rw [zy]
          by_cases c : ov y = ov1 y
          · exact c
          · rw [if_neg c] at hm
            omega
        · by_cases zw : z = w
          · rw [zw]
            by_cases c : ov w = ov1 w
            · exact c
            · rw [if_neg c] at hm
              omega
          · exact ho z zx zy zw)
    rw [← e]
    exact hd
  | succ m ih =>
    intro ov hm hl hd ho
    by_cases c : ov x = ov1 x ∧ ov y = ov1 y ∧ ov w = ov1 w
    · exact ih ov (by rw [if_pos c.1, if_pos c.2.1, if_pos c.2.2]; omega) hl hd ho
    · have fx : flz ov x x = !ov x := flz_at ov x
      have fy : flz ov y y = !ov y := flz_at ov y
      have fw : flz ov w w = !ov w := flz_at ov w
      have nn : ∀ a b : Bool, a ≠ b → (!a) = b := fun a b => by cases a <;> cases b <;> simp
      rcases lay_st _ _ _ _ _ _ hl h1 c with ⟨d1, d2⟩ | ⟨d1, d2⟩ | ⟨d1, d2⟩
      · have l2 : lay (flz ov x x) (flz ov x y) (flz ov x w) := by
          rw [fx, flz_ot (Ne.symm hxy), flz_ot (Ne.symm hxw)]
          exact d2
        refine ih (flz ov x) ?_ l2 (hD ov x (Or.inl rfl) hl l2 hd) (fun z zx zy zw => by rw [flz_ot zx]; exact ho z zx zy zw)
        rw [fx, flz_ot (Ne.symm hxy), flz_ot (Ne.symm hxw), if_pos (nn _ _ d1)]
        rw [if_neg d1] at hm
        omega
      · have l2 : lay (flz ov y x) (flz ov y y) (flz ov y w) := by
          rw [fy, flz_ot hxy, flz_ot (Ne.symm hyw)]
          exact d2
        refine ih (flz ov y) ?_ l2 (hD ov y (Or.inr (Or.inl rfl)) hl l2 hd) (fun z zx zy zw => by rw [flz_ot zy]; exact ho z zx zy zw)
        rw [fy, flz_ot hxy, flz_ot (Ne.symm hyw), if_pos (nn _ _ d1)]
        rw [if_neg d1] at hm
        omega
      · have l2 : lay (flz ov w x) (flz ov w y) (flz ov w w) := by
          rw [fw, flz_ot hxw, flz_ot hyw]
          exact d2
        refine ih (flz ov w) ?_ l2 (hD ov w (Or.inr (Or.inr rfl)) hl l2 hd) (fun z zx zy zw => by rw [flz_ot zw]; exact ho z zx zy zw)
        rw [fw, flz_ot hxw, flz_ot hyw, if_pos (nn _ _ d1)]
        rw [if_neg d1] at hm
        omega
end XTWC
end
section
/-! 99zzzzzzzzzzzzzzzzn.xtwd -/
/-! two: three letters: R3 -/
section XTWD
variable {n g x y w : Nat} {A B : wd9}
theorem nm3 {a b c : Nat × Nat} {z : Nat} : z ∈ nmz (B ++ a :: b :: c :: A) ↔ z = a.2 ∨ z = b.2 ∨ z = c.2 ∨ z ∈ nmz (B ++ A) := by
  rw [nm_a, nm_a, List.mem_append, List.mem_append, show nmz (a :: b :: c :: A) = a.2 :: b.2 :: c.2 :: nmz A from rfl, List.mem_cons, List.mem_cons, List.mem_cons]
  constructor
  · rintro (h | h | h | h | h)
    · exact Or.inr (Or.inr (Or.inr (Or.inl h)))
    · exact Or.inl h
    · exact Or.inr (Or.inl h)
    · exact Or.inr (Or.inr (Or.inl h))
    · exact Or.inr (Or.inr (Or.inr (Or.inr h)))
  · rintro (h | h | h | h | h)
    · exact Or.inr (Or.inl h)
    · exact Or.inr (Or.inr (Or.inl h))
    · exact Or.inr (Or.inr (Or.inr (Or.inl h)))
    · exact Or.inl h
    · exact Or.inr (Or.inr (Or.inr (Or.inr h)))
/-- what three letters that differ stand apart from -/
theorem ok3 {a b c : Nat × Nat} (h : okw n (B ++ a :: b :: c :: A)) : (c.2 ≠ b.2 ∧ c.2 ≠ a.2 ∧ b.2 ≠ a.2) ∧ (a.2 ∉ nmz A ∧ a.2 ∉ nmz B) ∧ (b.2 ∉ nmz A ∧ b.2 ∉ nmz B) ∧ (c.2 ∉ nmz A ∧ c.2 ∉ nmz B) ∧ okw n (B ++ A) := by
  obtain ⟨h1, h2, h3⟩ := okw_d (g := a.1) (x := a.2) h
  obtain ⟨k1, k2, k3⟩ := okw_d (g := b.1) (x := b.2) h3
  obtain ⟨j1, j2, j3⟩ := okw_d (g := c.1) (x := c.2) k3
  refine ⟨⟨fun h9 => k1 (by rw [← h9]; exact List.mem_cons_self), fun h9 => h1 (by rw [← h9]; exact List.mem_cons_of_mem _ List.mem_cons_self), fun h9 => h1 (by rw [← h9]; exact List.mem_cons_self)⟩, ⟨fun h9 => h1 (List.mem_cons_of_mem _ (List.mem_cons_of_mem _ h9)), h2⟩, ⟨fun h9 => k1 (List.mem_cons_of_mem _ h9), k2⟩, ⟨j1, j2⟩, j3⟩
theorem r3_ok (h : okw n (B ++ (g + 1, x) :: (g, y) :: (g + 1, w) :: A)) : okw n (B ++ (g, w) :: (g + 1, y) :: (g, x) :: A) := by
  have h9 := h.1 (g + 1, x) (List.mem_append_right _ List.mem_cons_self)
  have h9 : g + 1 + 1 < n := h9
  refine ⟨fun l hl => ?_, ?_⟩
  · rcases List.mem_append.mp hl with h1 | h1
    · exact h.1 l (List.mem_append_left _ h1)
    · rcases List.mem_cons.mp h1 with h2 | h2
      · rw [h2]
        show g + 1 < n
        omega
      · rcases List.mem_cons.mp h2 with h3 | h3
        · rw [h3]
          exact h9
        · rcases List.mem_cons.mp h3 with h4 | h4
          · rw [h4]
            show g + 1 < n
            omega
          · exact h.1 l (List.mem_append_right _ (List.mem_cons_of_mem _ (List.mem_cons_of_mem _ (List.mem_cons_of_mem _ h4))))
  · have e1 : nmz (B ++ (g, w) :: (g + 1, y) :: (g, x) :: A) = nmz B ++ w :: y :: x :: nmz A := nm_a
    have e2 : nmz (B ++ (g + 1, x) :: (g, y) :: (g + 1, w) :: A) = nmz B ++ x :: y :: w :: nmz A := nm_a
    have hp : (nmz B ++ w :: y :: x :: nmz A).Perm (nmz B ++ x :: y :: w :: nmz A) := by
      refine List.perm_iff_count.mpr (fun t => ?_)
      simp only [List.count_append, List.count_cons]
      omega
    rw [e1]
    have h2 := h.2
    rw [e2] at h2
    exact hp.nodup_iff.mpr h2
theorem r3_tk (hxy : x ≠ y) (hxw : x ≠ w) (hyw : y ≠ w) (p : tk9) : tkz n (B ++ (g, w) :: (g + 1, y) :: (g, x) :: A) p ↔ tkz n (B ++ (g + 1, x) :: (g, y) :: (g + 1, w) :: A) (t3z x y w p) := by
  have m1 : ∀ z, z ∈ nmz (B ++ (g, w) :: (g + 1, y) :: (g, x) :: A) ↔ z = w ∨ z = y ∨ z = x ∨ z ∈ nmz (B ++ A) := fun z => nm3
  have m2 : ∀ z, z ∈ nmz (B ++ (g + 1, x) :: (g, y) :: (g + 1, w) :: A) ↔ z = x ∨ z = y ∨ z = w ∨ z ∈ nmz (B ++ A) := fun z => nm3
  have yes : ∀ z i, (z = x ∨ z = y ∨ z = w) → i < 2 → tkz n (B ++ (g, w) :: (g + 1, y) :: (g, x) :: A) (z, i) ∧ tkz n (B ++ (g + 1, x) :: (g, y) :: (g + 1, w) :: A) (z, i) := fun z i hz hi => by
    refine ⟨Or.inr ⟨hi, (m1 z).mpr ?_⟩, Or.inr ⟨hi, (m2 z).mpr ?_⟩⟩
    · rcases hz with h | h | h
      · exact Or.inr (Or.inr (Or.inl h))
      · exact Or.inr (Or.inl h)
      · exact Or.inl h
    · rcases hz with h | h | h
      · exact Or.inl h
      · exact Or.inr (Or.inl h)
      · exact Or.inr (Or.inr (Or.inl h))
  have fin : ∀ a i b j, p = (a, i) → t3z x y w p = (b, j) → (a = x ∨ a = y ∨ a = w) → (b = x ∨ b = y ∨ b = w) → i < 2 → j < 2 → (tkz n (B ++ (g, w) :: (g + 1, y) :: (g, x) :: A) p ↔ tkz n (B ++ (g + 1, x) :: (g, y) :: (g + 1, w) :: A) (t3z x y w p)) := fun a i b j e1 e2 ha hb hi hj => by
    rw [e2, e1]
    exact ⟨fun _ => (yes b j hb hj).2, fun _ => (yes a i ha hi).1⟩
  rcases t3_cs (x := x) (y := y) (w := w) p with h | h | h | h | h | h | ⟨h1, h2, h3⟩
  · exact fin x 1 y 1 h (by rw [h, t3_x1]) (Or.inl rfl) (Or.inr (Or.inl rfl)) (by omega) (by omega)
  · exact fin x 0 w 1 h (by rw [h, t3_x0]) (Or.inl rfl) (Or.inr (Or.inr rfl)) (by omega) (by omega)
  · exact fin y 1 x 1 h (by rw [h, t3_y1 hxy]) (Or.inr (Or.inl rfl)) (Or.inl rfl) (by omega) (by omega)
  · exact fin y 0 w 0 h (by rw [h, t3_y0 hxy hyw]) (Or.inr (Or.inl rfl)) (Or.inr (Or.inr rfl)) (by omega) (by omega)
  · exact fin w 1 x 0 h (by rw [h, t3_w1 hxw hyw]) (Or.inr (Or.inr rfl)) (Or.inl rfl) (by omega) (by omega)
  · exact fin w 0 y 0 h (by rw [h, t3_w0 hxw]) (Or.inr (Or.inr rfl)) (Or.inr (Or.inl rfl)) (by omega) (by omega)
  · rw [t3_n h1 h2 h3]
    obtain ⟨a, i⟩ := p
    constructor
    · rintro (h | ⟨h, h4⟩)
      · exact Or.inl h
      · refine Or.inr ⟨h, (m2 a).mpr ?_⟩
        rcases (m1 a).mp h4 with h5 | h5 | h5 | h5
        · exact Or.inr (Or.inr (Or.inl h5))
        · exact Or.inr (Or.inl h5)
        · exact Or.inl h5
        · exact Or.inr (Or.inr (Or.inr h5))
    · rintro (h | ⟨h, h4⟩)
      · exact Or.inl h
      · refine Or.inr ⟨h, (m1 a).mpr ?_⟩
        rcases (m2 a).mp h4 with h5 | h5 | h5 | h5
        · exact Or.inr (Or.inr (Or.inl h5))
        · exact Or.inr (Or.inl h5)
        · exact Or.inl h5
        · exact Or.inr (Or.inr (Or.inr h5))
/- r3_V (to be written): for all k, B, A, L with (B ++ (g+1,x) :: (g,y) :: (g+1,w) :: A).length = k, okw, orz n .. L, PhZ of the shorter ones:
   exists L1 with orz n (B ++ (g,w) :: (g+1,y) :: (g,x) :: A) L1 and for all ov with lay (ov x) (ov y) (ov w): vlz (Gz n W2) L ov = vlz (Gz n W1) L1 ov.
   Proof: rotA for (y,1), (w,1), (w,0) (their next ones by t3_sg's sub-lines: (x,1), (x,0), (y,0)); L1 := map t3z; adz_k three times gives a, b, c;
   gd_p1 for L, gd_p2 for L1 (its place k holds t3z of what L has there); skein of both (vlz_sk); Gz equal:
   z = x: rz_F with swz y w; z = w: rz_F with swz x y; z = y: r2_V twice; others: PhZ + induction; lay_go, then skR_eq over nmz (B ++ A). -/
end XTWD
end
section
/-! 99zzzzzzzzzzzzzzzzo.xtwe -/
/-! two: three letters: R3, the values -/
section XTWE
variable {n g x y w : Nat} {W W1 W2 V A B : wd9} {L M : List (List tk9)}
theorem sg_vB {V : wd9} {p q : tk9} (h : sgm V p = q) (hq : q.2 ≠ 2) : ∀ {B : wd9}, p.1 ∉ nmz B → sgm (B ++ V) p = q
  | [], _ => h
  | l :: B, hp => by
    have hl : p.1 ≠ l.2 := fun h9 => hp (by rw [h9]; exact List.mem_cons_self)
    show sgm (l :: (B ++ V)) p = q
    rw [sgm_o (fun h9 => hl (by rw [h9])) (fun h9 => hl (by rw [h9])), sg_vB h hq (fun h9 => hp (List.mem_cons_of_mem _ h9))]
    exact thz_v hq
theorem r3_gd {ov : Nat → Bool} {a b c : Nat} (hxy : x ≠ y) (hxw : x ≠ w) (hyw : y ≠ w) (hM : orz n W M) (hM1 : orz n W1 (M.map (List.map (t3z x y w)))) (a1 : M.flatten[a]? = some (y, 1)) (a2 : M.flatten[a + 1]? = some (x, 1)) (b1 : M.flatten[b]? = some (w, 1)) (b2 : M.flatten[b + 1]? = some (x, 0)) (c1 : M.flatten[c]? = some (w, 0)) (c2 : M.flatten[c + 1]? = some (y, 0)) (hg : gdz M ov) : gdz (M.map (List.map (t3z x y w))) ov ∧ lay (ov x) (ov y) (ov w) := by
  have ox : ov x = decide (a + 1 < b + 1) := gd_p1 hM hg a2 b2
  have oy : ov y = decide (a < c + 1) := gd_p1 hM hg a1 c2
  have ow : ov w = decide (b < c) := gd_p1 hM hg b1 c1
  have ne : ∀ (i j : Nat) (p q : tk9), M.flatten[i]? = some p → M.flatten[j]? = some q → p ≠ q → i ≠ j := fun i j p q h1 h2 h3 h4 => h3 (by
    rw [h4, h2] at h1
    exact (Option.some.inj h1).symm)
  have n1 : a ≠ c := ne a c _ _ a1 c1 (mk_ne hyw)
  have n2 : a + 1 ≠ c := ne _ _ _ _ a2 c1 (mk_ne hxw)
  have mp : ∀ (i : Nat) (p : tk9), M.flatten[i]? = some p → (M.map (List.map (t3z x y w))).flatten[i]? = some (t3z x y w p) := fun i p h => by
    rw [cj_fl, List.getElem?_map, h]
    rfl
  have pm : ∀ (i : Nat) (p : tk9), (M.map (List.map (t3z x y w))).flatten[i]? = some p → M.flatten[i]? = some (t3z x y w p) := fun i p h => by
    rw [cj_fl, List.getElem?_map] at h
    cases hi : M.flatten[i]? with
    | none =>
      rw [hi] at h
      cases h
    | some q =>
      rw [hi] at h
      have h : some (t3z x y w q) = some p := h
      rw [← Option.some.inj h, t3_i hxy hxw hyw]
  constructor
  · refine gd_p2 hM1 (fun z i1 i0 h1 h0 => ?_)
    have h1 := pm _ _ h1
    have h0 := pm _ _ h0
    by_cases zx : z = x
    · rw [zx] at h1 h0 ⊢
      rw [t3_x1] at h1
      rw [t3_x0] at h0
      have e1 := nd_pos hM.2.1 h1 a1
      have e0 := nd_pos hM.2.1 h0 b1
      rw [ox, e1, e0]
      exact decide_eq_decide.mpr (by omega)
    · by_cases zy : z = y
      · rw [zy] at h1 h0 ⊢
        rw [t3_y1 hxy] at h1
        rw [t3_y0 hxy hyw] at h0
        have e1 := nd_pos hM.2.1 h1 a2
        have e0 := nd_pos hM.2.1 h0 c1
        rw [oy, e1, e0]
        exact decide_eq_decide.mpr (by omega)
      · by_cases zw : z = w
        · rw [zw] at h1 h0 ⊢
          rw [t3_w1 hxw hyw] at h1
          rw [t3_w0 hxw] at h0
          have e1 := nd_pos hM.2.1 h1 b2
          have e0 := nd_pos hM.2.1 h0 c2
          rw [ow, e1, e0]
          exact decide_eq_decide.mpr (by omega)
        · rw [t3_o (p := (z, 1)) zx zy zw] at h1
          rw [t3_o (p := (z, 0)) zx zy zw] at h0
          exact gd_p1 hM hg h1 h0
  · intro h
    rw [ox, ow] at h
    have h := decide_eq_decide.mp h
    rw [ox, oy]
    exact decide_eq_decide.mpr (by omega)
theorem lay_x : ∀ a b c : Bool, (a = c → b = a) → ((!a) = c → b = !a) → b = c := by
  intro a b c
  cases a <;> cases b <;> cases c <;> simp
theorem lay_w : ∀ a b c : Bool, (a = c → b = a) → (a = (!c) → b = a) → a = b := by
  intro a b c
  cases a <;> cases b <;> cases c <;> simp
theorem lay_y : ∀ a b c : Bool, (a = c → b = a) → (a = c → (!b) = a) → a ≠ c := by
  intro a b c
  cases a <;> cases b <;> cases c <;> simp
theorem u01 : ∀ p q : Bool, (if p = q then 0 else 1 : Nat) ≤ 1 := by
  intro p q
  cases p <;> cases q <;> decide
theorem r3_core (hxy : x ≠ y) (hxw : x ≠ w) (hyw : y ≠ w) (ho2 : okw n W2) (ho1 : okw n W1) (m2 : ∀ z, z ∈ nmz W2 ↔ z = x ∨ z = y ∨ z = w ∨ z ∈ nmz V) (m1 : ∀ z, z ∈ nmz W1 ↔ z = w ∨ z = y ∨ z = x ∨ z ∈ nmz V) (vx : x ∉ nmz V) (vy : y ∉ nmz V) (vw : w ∉ nmz V) (ts : ∀ p, sgm W1 (t3z x y w p) = t3z x y w (sgm W2 p)) (tt : ∀ p, tkz n W1 p ↔ tkz n W2 (t3z x y w p)) (s1 : sgm W2 (y, 1) = (x, 1)) (s2 : sgm W2 (w, 1) = (x, 0)) (s3 : sgm W2 (w, 0) = (y, 0)) (hP : ∀ z, z ∈ nmz W2 → PhZ n (dlz z W2)) (hL : orz n W2 L) (gx : ∀ o : Nat → Bool, o y = o w → Fz n (dlz x W2) o = Fz n (dlz x W1) o) (gw : ∀ o : Nat → Bool, o x = o y → Fz n (dlz w W2) o = Fz n (dlz w W1) o) (gy : ∀ o : Nat → Bool, o x ≠ o w → Fz n (dlz y W2) o = Fz n (dlz y W1) o) (gz : ∀ (z : Nat) (o : Nat → Bool), z ∈ nmz V → lay (o x) (o y) (o w) → Fz n (dlz z W2) o = Fz n (dlz z W1) o) : ∃ L1, orz n W1 L1 ∧ ∀ ov : Nat → Bool, lay (ov x) (ov y) (ov w) → vlz (Gz n W2) L ov = vlz (Gz n W1) L1 ov := by
  have n2 : ∀ z, (z = x ∨ z = y ∨ z = w) → z ∈ nmz W2 := fun z hz => (m2 z).mpr (by
    rcases hz with h | h | h
    · exact Or.inl h
    · exact Or.inr (Or.inl h)
    · exact Or.inr (Or.inr (Or.inl h)))
  have n1 : ∀ z, (z = x ∨ z = y ∨ z = w) → z ∈ nmz W1 := fun z hz => (m1 z).mpr (by
    rcases hz with h | h | h
    · exact Or.inr (Or.inr (Or.inl h))
    · exact Or.inr (Or.inl h)
    · exact Or.inl h)
  have tok : ∀ (z i : Nat), (z = x ∨ z = y ∨ z = w) → i < 2 → ∀ L, orz n W2 L → ((z, i) : tk9) ∈ L.flatten := fun z i hz hi L hL => (hL.2.2 _).mpr (Or.inr ⟨hi, n2 z hz⟩)
  obtain ⟨La, ha1, ha2, ha3, ha4, -⟩ := rotA (u := (y, 1)) ho2 hP hL (tok y 1 (Or.inr (Or.inl rfl)) (by omega) L hL) (by rw [s1]; exact mk_ne hxy)
  rw [s1] at ha4
  obtain ⟨Lb, hb1, hb2, hb3, hb4, hb5⟩ := rotA (u := (w, 1)) ho2 hP ha1 (tok w 1 (Or.inr (Or.inr rfl)) (by omega) La ha1) (by rw [s2]; exact mk_ne hxw)
  rw [s2] at hb4
  obtain ⟨M, hc1, hc2, hc3, hc4, hc5⟩ := rotA (u := (w, 0)) ho2 hP hb1 (tok w 0 (Or.inr (Or.inr rfl)) (by omega) Lb hb1) (by rw [s3]; exact mk_ne hyw)
  rw [s3] at hc4
  obtain ⟨a, a1, a2⟩ := adz_k (hc5 _ _ (mk_ne hxw) (hb5 _ _ (mk_ne hxw) ha4))
  obtain ⟨b, b1, b2⟩ := adz_k (hc5 _ _ (mk_ne hxw) hb4)
  obtain ⟨c, c1, c2⟩ := adz_k hc4
  have hM1 : orz n W1 (M.map (List.map (t3z x y w))) := cj_or (t3_i hxy hxw hyw) ts tt hc1
  refine ⟨_, hM1, fun ov hov => ?_⟩
  rw [ha2 ov, hb2 ov, hc2 ov]
  have sk2 := vlz_sk (sk_W ho2 hc1) hc1
  have sk1 := vlz_sk (sk_W ho1 hM1) hM1
  obtain ⟨ov0, g0, e0⟩ := gd_ex hc1 ov
  obtain ⟨g9, l0⟩ := r3_gd hxy hxw hyw hc1 hM1 a1 a2 b1 b2 c1 c2 g0
  have d0 : vlz (Gz n W2) M ov0 = vlz (Gz n W1) (M.map (List.map (t3z x y w))) ov0 := by
    rw [vlz_g g0, vlz_g g9, List.length_map]
  obtain ⟨ov1, k1, k2⟩ : ∃ ov1 : Nat → Bool, (∀ z, (z = x ∨ z = y ∨ z = w) → ov1 z = ov z) ∧ ∀ z, ¬ (z = x ∨ z = y ∨ z = w) → ov1 z = ov0 z := ⟨fun z => if z = x ∨ z = y ∨ z = w then ov z else ov0 z, fun z h => if_pos h, fun z h => if_neg h⟩
  have l1 : lay (ov1 x) (ov1 y) (ov1 w) := by
    rw [k1 x (Or.inl rfl), k1 y (Or.inr (Or.inl rfl)), k1 w (Or.inr (Or.inr rfl))]
    exact hov
  have d1 : vlz (Gz n W2) M ov1 = vlz (Gz n W1) (M.map (List.map (t3z x y w))) ov1 := by
    refine lay_go (D := fun ov => vlz (Gz n W2) M ov = vlz (Gz n W1) (M.map (List.map (t3z x y w))) ov) hxy hxw hyw (fun o z hz h1 h2 h3 => ?_) ov1 l1 3 ov0 (Nat.add_le_add (Nat.add_le_add (u01 _ _) (u01 _ _)) (u01 _ _)) l0 d0 (fun z zx zy zw => (k2 z (fun h9 => h9.elim zx (fun h8 => h8.elim zy zw))).symm)
    have h3 : vlz (Gz n W2) M o = vlz (Gz n W1) (M.map (List.map (t3z x y w))) o := h3
    show vlz (Gz n W2) M (flz o z) = vlz (Gz n W1) (M.map (List.map (t3z x y w))) (flz o z)
    have q2 := sk2 (flz o z) z (n2 z hz)
    have q1 := sk1 (flz o z) z (n1 z hz)
    rw [flz_2] at q2 q1
    rw [q2, q1, h3]
    refine congrArg _ ?_
    show Fz n (dlz z W2) (flz o z) = Fz n (dlz z W1) (flz o z)
    have h1 : o x = o w → o y = o x := h1
    have h2 : flz o z x = flz o z w → flz o z y = flz o z x := h2
    rcases hz with h | h | h
    · rw [h] at h2 ⊢
      rw [flz_at, flz_ot (Ne.symm hxy), flz_ot (Ne.symm hxw)] at h2
      exact gx _ (by rw [flz_ot (Ne.symm hxy), flz_ot (Ne.symm hxw)]; exact lay_x _ _ _ h1 h2)
    · rw [h] at h2 ⊢
      rw [flz_at, flz_ot hxy, flz_ot (Ne.symm hyw)] at h2
      exact gy _ (by rw [flz_ot hxy, flz_ot (Ne.symm hyw)]; exact lay_y _ _ _ h1 h2)
    · rw [h] at h2 ⊢
      rw [flz_at, flz_ot hxw, flz_ot hyw] at h2
      exact gw _ (by rw [flz_ot hxw, flz_ot hyw]; exact lay_w _ _ _ h1 h2)
  refine skR_eq (R := fun o => lay (o x) (o y) (o w)) (G := Gz n W2) (nmz V) (fun o z hR hz => ?_) (fun o z hR hz => sk2 o z ((m2 z).mpr (Or.inr (Or.inr (Or.inr hz))))) (fun o z hR hz => ?_) ov ov1 l1 (fun z hz => ?_) d1
  · show lay (flz o z x) (flz o z y) (flz o z w)
    rw [flz_ot (fun h9 => vx (by rw [h9]; exact hz)), flz_ot (fun h9 => vy (by rw [h9]; exact hz)), flz_ot (fun h9 => vw (by rw [h9]; exact hz))]
    exact hR
  · have q1 := sk1 o z ((m1 z).mpr (Or.inr (Or.inr (Or.inr hz))))
    exact q1.trans (congrArg (skz (o z) _) (gz z o hz hR).symm)
  · by_cases h : z = x ∨ z = y ∨ z = w
    · exact (k1 z h).symm
    · rw [k2 z h]
      refine e0 z (fun h9 => ?_)
      rcases (m2 z).mp h9 with h8 | h8 | h8 | h8
      · exact h (Or.inl h8)
      · exact h (Or.inr (Or.inl h8))
      · exact h (Or.inr (Or.inr h8))
      · exact hz h8
theorem r3_V : ∀ (k : Nat) (B A : wd9) (L : List (List tk9)), (B ++ (g + 1, x) :: (g, y) :: (g + 1, w) :: A).length = k → okw n (B ++ (g + 1, x) :: (g, y) :: (g + 1, w) :: A) → orz n (B ++ (g + 1, x) :: (g, y) :: (g + 1, w) :: A) L → (∀ V, V.length < k → okw n V → PhZ n V) → ∃ L1, orz n (B ++ (g, w) :: (g + 1, y) :: (g, x) :: A) L1 ∧ ∀ ov : Nat → Bool, lay (ov x) (ov y) (ov w) → vlz (Gz n (B ++ (g + 1, x) :: (g, y) :: (g + 1, w) :: A)) L ov = vlz (Gz n (B ++ (g, w) :: (g + 1, y) :: (g, x) :: A)) L1 ov
  | 0, B, A, L, hk, _, _, _ => by
    rw [List.length_append] at hk
    simp at hk
  | k + 1, B, A, L, hk, ho, hL, hP => by
    obtain ⟨⟨hwy, hwx, hyx⟩, ⟨hxA, hxB⟩, ⟨hyA, hyB⟩, ⟨hwA, hwB⟩, hoB⟩ := ok3 ho
    have hwy : w ≠ y := hwy
    have hwx : w ≠ x := hwx
    have hyx : y ≠ x := hyx
    have hxA : x ∉ nmz A := hxA
    have hxB : x ∉ nmz B := hxB
    have hyA : y ∉ nmz A := hyA
    have hyB : y ∉ nmz B := hyB
    have hwA : w ∉ nmz A := hwA
    have hwB : w ∉ nmz B := hwB
    have hxy : x ≠ y := Ne.symm hyx
    have hxw : x ≠ w := Ne.symm hwx
    have hyw : y ≠ w := Ne.symm hwy
    have ho1 := r3_ok ho
    have hts := fun p => t3_sg (g := g) hxy hxw hyw hxA hyA hwA hxB hyB hwB p
    have hti := t3_i hxy hxw hyw
    have htk := fun p => r3_tk (n := n) (g := g) (A := A) (B := B) hxy hxw hyw p
    have hL1 := cj_or hti hts htk hL
    have m2 : ∀ z, z ∈ nmz (B ++ (g + 1, x) :: (g, y) :: (g + 1, w) :: A) ↔ z = x ∨ z = y ∨ z = w ∨ z ∈ nmz (B ++ A) := fun z => nm3
    have m1 : ∀ z, z ∈ nmz (B ++ (g, w) :: (g + 1, y) :: (g, x) :: A) ↔ z = w ∨ z = y ∨ z = x ∨ z ∈ nmz (B ++ A) := fun z => nm3
    have vn : ∀ z, z ∉ nmz A → z ∉ nmz B → z ∉ nmz (B ++ A) := fun z h1 h2 h9 => by
      rw [nm_a] at h9
      exact (List.mem_append.mp h9).elim h2 h1
    have el : (B ++ A).length + 3 = k + 1 := by
      rw [← hk, List.length_append, List.length_append, List.length_cons, List.length_cons, List.length_cons]
      omega
    have l2 : ∀ a b : Nat × Nat, (B ++ a :: b :: A).length = k := fun a b => by
      rw [List.length_append] at el ⊢
      rw [List.length_cons, List.length_cons]
      omega
    have hPd : ∀ z, z ∈ nmz (B ++ (g + 1, x) :: (g, y) :: (g + 1, w) :: A) → PhZ n (dlz z (B ++ (g + 1, x) :: (g, y) :: (g + 1, w) :: A)) := fun z hz => hP _ (by rw [← hk]; exact dlz_lt hz) (ok_dl ho)
    have cc : ∀ (z : Nat) (l : Nat × Nat) (V : wd9), l.2 ≠ z → dlz z (l :: V) = l :: dlz z V := fun z l V h => dlz_c h
    have dx2 : dlz x (B ++ (g + 1, x) :: (g, y) :: (g + 1, w) :: A) = B ++ (g, y) :: (g + 1, w) :: A := by
      rw [dlz_a, dlz_x, cc x (g, y) _ hyx, cc x (g + 1, w) _ hwx, dlz_n hxA, dlz_n hxB]
    have dx1 : dlz x (B ++ (g, w) :: (g + 1, y) :: (g, x) :: A) = B ++ (g, w) :: (g + 1, y) :: A := by
      rw [dlz_a, cc x (g, w) _ hwx, cc x (g + 1, y) _ hyx, dlz_x, dlz_n hxA, dlz_n hxB]
    have dy2 : dlz y (B ++ (g + 1, x) :: (g, y) :: (g + 1, w) :: A) = B ++ (g + 1, x) :: (g + 1, w) :: A := by
      rw [dlz_a, cc y (g + 1, x) _ hxy, dlz_x, cc y (g + 1, w) _ hwy, dlz_n hyA, dlz_n hyB]
    have dy1 : dlz y (B ++ (g, w) :: (g + 1, y) :: (g, x) :: A) = B ++ (g, w) :: (g, x) :: A := by
      rw [dlz_a, cc y (g, w) _ hwy, dlz_x, cc y (g, x) _ hxy, dlz_n hyA, dlz_n hyB]
    have dw2 : dlz w (B ++ (g + 1, x) :: (g, y) :: (g + 1, w) :: A) = B ++ (g + 1, x) :: (g, y) :: A := by
      rw [dlz_a, cc w (g + 1, x) _ hxw, cc w (g, y) _ hyw, dlz_x, dlz_n hwA, dlz_n hwB]
    have dw1 : dlz w (B ++ (g, w) :: (g + 1, y) :: (g, x) :: A) = B ++ (g + 1, y) :: (g, x) :: A := by
      rw [dlz_a, dlz_x, cc w (g + 1, y) _ hyw, cc w (g, x) _ hxw, dlz_n hwA, dlz_n hwB]
    have Y1 : sgm ((g + 1, x) :: (g, y) :: (g + 1, w) :: A) (y, 1) = (x, 1) := by
      rw [sgm_o (mk_ne hyx) (mk_ne hyx), show sgm ((g, y) :: (g + 1, w) :: A) (y, 1) = (g + 1, 2) from sgm_1 (l := (g, y))]
      exact thz_1 (g + 1) x
    have W1 : sgm ((g + 1, x) :: (g, y) :: (g + 1, w) :: A) (w, 1) = (x, 0) := by
      rw [sgm_o (mk_ne hwx) (mk_ne hwx), sgm_o (mk_ne hwy) (mk_ne hwy), show sgm ((g + 1, w) :: A) (w, 1) = (g + 2, 2) from sgm_1 (l := (g + 1, w)), thz_o (g := g) (x := y) (p := (g + 2, 2)) (mk_ne (by omega)) (mk_ne (by omega))]
      exact thz_0 (g + 1) x
    have W0 : sgm ((g + 1, x) :: (g, y) :: (g + 1, w) :: A) (w, 0) = (y, 0) := by
      rw [sgm_o (mk_ne hwx) (mk_ne hwx), sgm_o (mk_ne hwy) (mk_ne hwy), show sgm ((g + 1, w) :: A) (w, 0) = (g + 1, 2) from sgm_0 (l := (g + 1, w)), thz_0 g y]
      exact thz_v (show (0 : Nat) ≠ 2 by decide)
    -- a renaming of two
    have ren : ∀ (a b g1 g2 : Nat) (o : Nat → Bool), a ≠ b → a ∉ nmz A → a ∉ nmz B → b ∉ nmz A → b ∉ nmz B → o a = o b → okw n (B ++ (g1, a) :: (g2, b) :: A) → (∃ L, orz n (B ++ (g1, a) :: (g2, b) :: A) L) → Fz n (B ++ (g1, a) :: (g2, b) :: A) o = Fz n (B ++ (g1, b) :: (g2, a) :: A) o := fun a b g1 g2 o hab aA aB bA bB hoo hok hex => by
      have er : rnW (swz a b) (B ++ (g1, a) :: (g2, b) :: A) = B ++ (g1, b) :: (g2, a) :: A := by
        have e1 : rnW (swz a b) (B ++ (g1, a) :: (g2, b) :: A) = rnW (swz a b) B ++ (g1, swz a b a) :: (g2, swz a b b) :: rnW (swz a b) A := List.map_append
        rw [e1, rnW_n aB bB, rnW_n aA bA, swz_1, swz_2]
      rw [← er]
      refine (rz_F (swz_i a b) k (B ++ (g1, a) :: (g2, b) :: A) o o (l2 _ _) hok hex (fun V hV => hP V (by omega)) (fun z hz9 => ?_)).symm
      by_cases za : z = a
      · rw [za, swz_1, hoo]
      · by_cases zb : z = b
        · rw [zb, swz_2, hoo]
        · rw [swz_o za zb]
    refine r3_core hxy hxw hyw ho ho1 m2 m1 (vn x hxA hxB) (vn y hyA hyB) (vn w hwA hwB) hts htk (sg_vB Y1 (show (1 : Nat) ≠ 2 by decide) hyB) (sg_vB W1 (show (0 : Nat) ≠ 2 by decide) hwB) (sg_vB W0 (show (0 : Nat) ≠ 2 by decide) hwB) hPd hL (fun o hoo => ?_) (fun o hoo => ?_) (fun o hoo => ?_) (fun z o hz9 hoo => ?_)
    · have q1 := ok_dl (x := x) ho
      have q2 := orz_dl ho hL ((m2 x).mpr (Or.inl rfl))
      rw [dx2] at q1 q2
      rw [dx2, dx1]
      exact ren y w g (g + 1) o hyw hyA hyB hwA hwB hoo q1 q2
    · have q1 := ok_dl (x := w) ho
      have q2 := orz_dl ho hL ((m2 w).mpr (Or.inr (Or.inr (Or.inl rfl))))
      rw [dw2] at q1 q2
      rw [dw2, dw1]
      exact ren x y (g + 1) g o hxy hxA hxB hyA hyB hoo q1 q2
    · have q1 := ok_dl (x := y) ho
      obtain ⟨Ly, q2⟩ := orz_dl ho hL ((m2 y).mpr (Or.inr (Or.inl rfl)))
      rw [dy2] at q1 q2
      have q3 := ok_dl (x := y) ho1
      obtain ⟨Lz, q4⟩ := orz_dl ho1 hL1 ((m1 y).mpr (Or.inr (Or.inl rfl)))
      rw [dy1] at q3 q4
      have hP2 : ∀ V, V.length < k → okw n V → PhZ n V := fun V hV => hP V (by omega)
      rw [dy2, dy1, ← hP _ (by rw [l2]; omega) q1 Ly o q2, ← hP _ (by rw [l2]; omega) q3 Lz o q4, r2_V k B A Ly (l2 _ _) q1 q2 hP2 o (Ne.symm hoo), r2_V k B A Lz (l2 _ _) q3 q4 hP2 o hoo]
    · have zx : x ≠ z := fun h9 => vn x hxA hxB (by rw [h9]; exact hz9)
      have zy : y ≠ z := fun h9 => vn y hyA hyB (by rw [h9]; exact hz9)
      have zw : w ≠ z := fun h9 => vn w hwA hwB (by rw [h9]; exact hz9)
      have z2 := (m2 z).mpr (Or.inr (Or.inr (Or.inr hz9)))
      obtain ⟨Lz, hLz⟩ := orz_dl ho hL z2
      have hl := len_dl ho z2
      have hoz := ok_dl (x := z) ho
      have e2 : dlz z (B ++ (g + 1, x) :: (g, y) :: (g + 1, w) :: A) = dlz z B ++ (g + 1, x) :: (g, y) :: (g + 1, w) :: dlz z A := by
        rw [dlz_a, cc z (g + 1, x) _ zx, cc z (g, y) _ zy, cc z (g + 1, w) _ zw]
      have e1 : dlz z (B ++ (g, w) :: (g + 1, y) :: (g, x) :: A) = dlz z B ++ (g, w) :: (g + 1, y) :: (g, x) :: dlz z A := by
        rw [dlz_a, cc z (g, w) _ zw, cc z (g + 1, y) _ zy, cc z (g, x) _ zx]
      have ho1z := ok_dl (x := z) ho1
      have hl1 := len_dl ho1 ((m1 z).mpr (Or.inr (Or.inr (Or.inr hz9))))
      have hl3 : (B ++ (g, w) :: (g + 1, y) :: (g, x) :: A).length = k + 1 := by
        rw [← hk, List.length_append, List.length_append]
        rfl
      rw [e2] at hLz hl hoz
      rw [e1] at ho1z hl1
      rw [e2, e1]
      obtain ⟨L1, j1, j2⟩ := r3_V k (dlz z B) (dlz z A) Lz (by omega) hoz hLz (fun V hV => hP V (by omega))
      rw [← hP _ (by omega) hoz Lz o hLz, ← hP _ (by omega) ho1z L1 o j1]
      exact j2 o hoo
/-- PhZ goes over -/
theorem r3_P (ho : okw n (B ++ (g + 1, x) :: (g, y) :: (g + 1, w) :: A)) (hP : ∀ V, V.length < (B ++ (g + 1, x) :: (g, y) :: (g + 1, w) :: A).length → okw n V → PhZ n V) (h : PhZ n (B ++ (g, w) :: (g + 1, y) :: (g, x) :: A)) : PhZ n (B ++ (g + 1, x) :: (g, y) :: (g + 1, w) :: A) := fun L ov hL => by
  rw [Fz_e ho hL]
  have hO := orc_o hL
  obtain ⟨L1, a1, a2⟩ := r3_V _ B A L rfl ho hL hP
  obtain ⟨L2, b1, b2⟩ := r3_V _ B A _ rfl ho hO hP
  have hG := sk_W ho hL
  have l9 : lay ((fun z => if z = y then ov x else ov z) x) ((fun z => if z = y then ov x else ov z) y) ((fun z => if z = y then ov x else ov z) w) := fun _ => by
    show (if y = y then ov x else ov y) = (if x = y then ov x else ov x)
    rw [if_pos rfl]
    split
    · rfl
    · rfl
  refine skA_eq _ (vlz_sk hG hL) (vlz_sk hG hO) ov (fun z => if z = y then ov x else ov z) (fun z hz => ?_) ?_
  · have zy : z ≠ y := fun h9 => hz (by
      rw [h9]
      exact nm3.mpr (Or.inr (Or.inl rfl)))
    exact (if_neg zy).symm
  · rw [a2 _ l9, b2 _ l9, h L1 _ a1, h L2 _ b1]
theorem r2_P (ho : okw n (B ++ (g, y) :: (g, x) :: A)) (hP : ∀ V, V.length < (B ++ (g, y) :: (g, x) :: A).length → okw n V → PhZ n V) : PhZ n (B ++ (g, y) :: (g, x) :: A) := fun L ov hL => by
  rw [Fz_e ho hL]
  have hO := orc_o hL
  have hG := sk_W ho hL
  obtain ⟨hxy, -⟩ := s2_adj ho
  have l9 : (fun z => if z = y then !ov x else ov z) x ≠ (fun z => if z = y then !ov x else ov z) y := by
    show (if x = y then !ov x else ov x) ≠ (if y = y then !ov x else ov y)
    rw [if_pos rfl, if_neg hxy]
    cases ov x <;> decide
  refine skA_eq _ (vlz_sk hG hL) (vlz_sk hG hO) ov (fun z => if z = y then !ov x else ov z) (fun z hz => ?_) ?_
  · have zy : z ≠ y := fun h9 => hz (by
      rw [h9, nm_a]
      exact List.mem_append_right _ List.mem_cons_self)
    exact (if_neg zy).symm
  · rw [r2_V _ B A L rfl ho hL hP _ l9, r2_V _ B A _ rfl ho hO hP _ l9]
theorem cr_P (h1n : 1 ≤ n) (ho : okw n W) (ho1 : okw (n + 1) W) (h1 : ∀ V, V.length < W.length → okw (n + 1) V → PhZ (n + 1) V) (h2 : ∀ V, V.length ≤ W.length → okw n V → PhZ n V) : PhZ (n + 1) W := fun L ov hL => by
  rw [Fz_e ho1 hL, cr_V h1n _ W L ov rfl ho ho1 hL h1 h2, cr_V h1n _ W _ ov rfl ho ho1 (orc_o hL) h1 h2]
theorem r1_P (hob : okw (g + 1) (B ++ A)) (ho : okw (g + 2) (B ++ (g, x) :: A)) (h1 : ∀ V, V.length < (B ++ (g, x) :: A).length → okw (g + 2) V → PhZ (g + 2) V) (h2 : ∀ V, V.length ≤ (B ++ (g, x) :: A).length → okw (g + 1) V → PhZ (g + 1) V) : PhZ (g + 2) (B ++ (g, x) :: A) := fun L ov hL => by
  rw [Fz_e ho hL, r1_V _ B A L rfl hob ho hL h1 h2, r1_V _ B A _ rfl hob ho (orc_o hL) h1 h2]
end XTWE
end
section
/-! 99zzzzzzzzzzzzzzzzp.xtwf -/
/-! two: letters far apart -/
section XTWF
variable {n g h x y : Nat} {W W' A B U U' : wd9} {L : List (List tk9)}
theorem sg_cg (hU : ∀ p, sgm U p = sgm U' p) : ∀ (B : wd9) (p : tk9), sgm (B ++ U) p = sgm (B ++ U') p
  | [], p => hU p
  | l :: B, p => by
    show sgm (l :: (B ++ U)) p = sgm (l :: (B ++ U')) p
    by_cases h1 : p = (l.2, 1)
    · rw [h1, sgm_1, sgm_1]
    · by_cases h0 : p = (l.2, 0)
      · rw [h0, sgm_0, sgm_0]
      · rw [sgm_o h1 h0, sgm_o h1 h0, sg_cg hU B p]
theorem th_c1 (hf : g + 1 < h ∨ h + 1 < g) : thz h y (g, 2) = (g, 2) ∧ thz h y (g + 1, 2) = (g + 1, 2) := ⟨thz_o (g := h) (x := y) (p := (g, 2)) (mk_ne (by omega)) (mk_ne (by omega)), thz_o (g := h) (x := y) (p := (g + 1, 2)) (mk_ne (by omega)) (mk_ne (by omega))⟩
theorem th_cm (hf : g + 1 < h ∨ h + 1 < g) (q : tk9) : thz g x (thz h y q) = thz h y (thz g x q) := by
  have f1 := th_c1 (y := y) hf
  have f2 := th_c1 (g := h) (h := g) (y := x) (Or.symm hf)
  have v1 : ∀ (a b i : Nat) (z : Nat), i ≠ 2 → thz a b (z, i) = (z, i) := fun a b i z hi => thz_v (p := (z, i)) hi
  by_cases c0 : q = (g, 2)
  · rw [c0, f1.1, thz_1, v1 _ _ _ _ (by decide)]
  · by_cases c1 : q = (g + 1, 2)
    · rw [c1, f1.2, thz_0, v1 _ _ _ _ (by decide)]
    · by_cases c2 : q = (h, 2)
      · rw [c2, f2.1, thz_1, v1 _ _ _ _ (by decide)]
      · by_cases c3 : q = (h + 1, 2)
        · rw [c3, f2.2, thz_0, v1 _ _ _ _ (by decide)]
        · rw [thz_o c2 c3, thz_o c0 c1, thz_o c2 c3]
theorem sg_cm (hf : g + 1 < h ∨ h + 1 < g) (hxy : x ≠ y) (p : tk9) : sgm ((g, x) :: (h, y) :: A) p = sgm ((h, y) :: (g, x) :: A) p := by
  have hyx := Ne.symm hxy
  have f1 := th_c1 (y := y) hf
  have f2 := th_c1 (g := h) (h := g) (y := x) (Or.symm hf)
  have L1 : sgm ((g, x) :: (h, y) :: A) (x, 1) = (g + 1, 2) := sgm_1 (l := (g, x))
  have L0 : sgm ((g, x) :: (h, y) :: A) (x, 0) = (g, 2) := sgm_0 (l := (g, x))
  have R1 : sgm ((h, y) :: (g, x) :: A) (y, 1) = (h + 1, 2) := sgm_1 (l := (h, y))
  have R0 : sgm ((h, y) :: (g, x) :: A) (y, 0) = (h, 2) := sgm_0 (l := (h, y))
  have L3 : sgm ((g, x) :: (h, y) :: A) (y, 1) = (h + 1, 2) := by
    rw [sgm_o (mk_ne hyx) (mk_ne hyx), show sgm ((h, y) :: A) (y, 1) = (h + 1, 2) from sgm_1 (l := (h, y))]
    exact f2.2
  have L2 : sgm ((g, x) :: (h, y) :: A) (y, 0) = (h, 2) := by
    rw [sgm_o (mk_ne hyx) (mk_ne hyx), show sgm ((h, y) :: A) (y, 0) = (h, 2) from sgm_0 (l := (h, y))]
    exact f2.1
  have R3 : sgm ((h, y) :: (g, x) :: A) (x, 1) = (g + 1, 2) := by
    rw [sgm_o (mk_ne hxy) (mk_ne hxy), show sgm ((g, x) :: A) (x, 1) = (g + 1, 2) from sgm_1 (l := (g, x))]
    exact f1.2
  have R2 : sgm ((h, y) :: (g, x) :: A) (x, 0) = (g, 2) := by
    rw [sgm_o (mk_ne hxy) (mk_ne hxy), show sgm ((g, x) :: A) (x, 0) = (g, 2) from sgm_0 (l := (g, x))]
    exact f1.1
  by_cases c0 : p = (x, 1)
  · rw [c0, L1, R3]
  · by_cases c1 : p = (x, 0)
    · rw [c1, L0, R2]
    · by_cases c2 : p = (y, 1)
      · rw [c2, L3, R1]
      · by_cases c3 : p = (y, 0)
        · rw [c3, L2, R0]
        · rw [sgm_o (l := (g, x)) c0 c1, sgm_o (l := (h, y)) c2 c3, sgm_o (l := (h, y)) c2 c3, sgm_o (l := (g, x)) c0 c1]
          exact th_cm hf _
theorem cm_or (hs : ∀ p, sgm W p = sgm W' p) (hn : ∀ z, z ∈ nmz W ↔ z ∈ nmz W') (hL : orz n W L) : orz n W' L := by
  refine ⟨fun c hc => ?_, hL.2.1, fun p => ?_⟩
  · rw [← funext hs]
    exact hL.1 c hc
  · rw [hL.2.2]
    exact ⟨fun h9 => h9.elim Or.inl (fun h8 => Or.inr ⟨h8.1, (hn _).mp h8.2⟩), fun h9 => h9.elim Or.inl (fun h8 => Or.inr ⟨h8.1, (hn _).mpr h8.2⟩)⟩
theorem ok_pm (hp : W.Perm W') (ho : okw n W) : okw n W' := ⟨fun l hl => ho.1 l (hp.mem_iff.mpr hl), (hp.map Prod.snd).nodup_iff.mp ho.2⟩
theorem nm_pm (hp : W.Perm W') (z : Nat) : z ∈ nmz W ↔ z ∈ nmz W' := (hp.map Prod.snd).mem_iff
theorem cm_pm : (B ++ (g, x) :: (h, y) :: A).Perm (B ++ (h, y) :: (g, x) :: A) := List.Perm.append_left B (List.Perm.swap _ _ _)
theorem cm_ne (ho : okw n (B ++ (g, x) :: (h, y) :: A)) : x ≠ y ∧ (x ∉ nmz A ∧ x ∉ nmz B) ∧ y ∉ nmz A ∧ y ∉ nmz B := by
  obtain ⟨h1, h2, h3⟩ := okw_d ho
  obtain ⟨k1, k2, -⟩ := okw_d h3
  exact ⟨fun h9 => h1 (by rw [h9]; exact List.mem_cons_self), ⟨fun h9 => h1 (List.mem_cons_of_mem _ h9), h2⟩, k1, k2⟩
theorem cm_V (hf : g + 1 < h ∨ h + 1 < g) : ∀ (k : Nat) (B A : wd9) (L : List (List tk9)), (B ++ (g, x) :: (h, y) :: A).length = k → okw n (B ++ (g, x) :: (h, y) :: A) → orz n (B ++ (g, x) :: (h, y) :: A) L → (∀ V, V.length < k → okw n V → PhZ n V) → ∀ ov : Nat → Bool, vlz (Gz n (B ++ (g, x) :: (h, y) :: A)) L ov = vlz (Gz n (B ++ (h, y) :: (g, x) :: A)) L ov
  | 0, B, A, L, hk, _, _, _, _ => by
    rw [List.length_append] at hk
    simp at hk
  | k + 1, B, A, L, hk, ho, hL, hP, ov => by
    obtain ⟨hxy, ⟨hxA, hxB⟩, hyA, hyB⟩ := cm_ne ho
    have hyx := Ne.symm hxy
    have cc : ∀ (z : Nat) (l : Nat × Nat) (V : wd9), l.2 ≠ z → dlz z (l :: V) = l :: dlz z V := fun z l V h => dlz_c h
    unfold vlz
    refine goz_cg (S := nmz (B ++ (g, x) :: (h, y) :: A)) (fun z hz o o' hoo => ?_) _ ov ov (fun p hp => fs_nm hL hp) (fun _ _ => rfl)
    show Fz n (dlz z (B ++ (g, x) :: (h, y) :: A)) o = Fz n (dlz z (B ++ (h, y) :: (g, x) :: A)) o'
    obtain ⟨Lz, hLz⟩ := orz_dl ho hL hz
    have hoz := ok_dl (x := z) ho
    rw [Fz_cg hoz hLz (fun t ht => hoo t (nm_dl.mp ht).1)]
    by_cases zx : z = x
    · rw [zx, dlz_a, dlz_a, dlz_x, cc x (h, y) _ hyx, cc x (h, y) _ hyx, dlz_x]
    · by_cases zy : z = y
      · rw [zy, dlz_a, dlz_a, dlz_x, cc y (g, x) _ hxy, cc y (g, x) _ hxy, dlz_x]
      · have e1 : dlz z (B ++ (g, x) :: (h, y) :: A) = dlz z B ++ (g, x) :: (h, y) :: dlz z A := by
          rw [dlz_a, cc z (g, x) _ (Ne.symm zx), cc z (h, y) _ (Ne.symm zy)]
        have e2 : dlz z (B ++ (h, y) :: (g, x) :: A) = dlz z B ++ (h, y) :: (g, x) :: dlz z A := by
          rw [dlz_a, cc z (h, y) _ (Ne.symm zy), cc z (g, x) _ (Ne.symm zx)]
        have hl := len_dl ho hz
        rw [e1] at hLz hoz hl
        have hoz2 : okw n (dlz z B ++ (h, y) :: (g, x) :: dlz z A) := ok_pm cm_pm hoz
        have hLz2 : orz n (dlz z B ++ (h, y) :: (g, x) :: dlz z A) Lz := cm_or (sg_cg (sg_cm hf hxy) _) (nm_pm cm_pm) hLz
        have hl2 : (dlz z B ++ (h, y) :: (g, x) :: dlz z A).length = (dlz z B ++ (g, x) :: (h, y) :: dlz z A).length := by
          rw [List.length_append, List.length_append]
          rfl
        rw [e1, e2, ← hP _ (by omega) hoz Lz o' hLz, ← hP _ (by omega) hoz2 Lz o' hLz2]
        exact cm_V hf k (dlz z B) (dlz z A) Lz (by omega) hoz hLz (fun V hV => hP V (by omega)) o'
theorem cm_P (hf : g + 1 < h ∨ h + 1 < g) (ho : okw n (B ++ (g, x) :: (h, y) :: A)) (hP : ∀ V, V.length < (B ++ (g, x) :: (h, y) :: A).length → okw n V → PhZ n V) (h0 : PhZ n (B ++ (h, y) :: (g, x) :: A)) : PhZ n (B ++ (g, x) :: (h, y) :: A) := fun L ov hL => by
  have hO := orc_o hL
  obtain ⟨hxy, -⟩ := cm_ne ho
  have tr : ∀ L, orz n (B ++ (g, x) :: (h, y) :: A) L → orz n (B ++ (h, y) :: (g, x) :: A) L := fun L h9 => cm_or (sg_cg (sg_cm hf hxy) _) (nm_pm cm_pm) h9
  rw [Fz_e ho hL, cm_V hf _ B A L rfl ho hL hP, cm_V hf _ B A _ rfl ho hO hP, h0 L ov (tr L hL), h0 _ ov (tr _ hO)]
end XTWF
end
section
/-! 99zzzzzzzzzzzzzzzzq.xtwg -/
/-! two: every word -/
def tpz (k : Nat) (U : wd9) : Nat := (U.filter (fun l => decide (l.1 = k))).length
section XTWG
variable {n k : Nat} {W U V : wd9} {Pr : wd9 → Prop}
theorem tpz_a : tpz k (U ++ V) = tpz k U + tpz k V := by
  unfold tpz
  rw [List.filter_append, List.length_append]
theorem tpz_y {a : Nat} : tpz k ((k, a) :: U) = tpz k U + 1 := by
  unfold tpz
  rw [List.filter_cons_of_pos (by simp), List.length_cons]
theorem tpz_o {l : Nat × Nat} (h : l.1 ≠ k) : tpz k (l :: U) = tpz k U := by
  unfold tpz
  rw [List.filter_cons_of_neg (by simp [h])]
theorem tpz_n : ∀ {U : wd9}, (∀ l, l ∈ U → l.1 ≠ k) → tpz k U = 0
  | [], _ => rfl
  | l :: U, h => by
    rw [tpz_o (h l List.mem_cons_self)]
    exact tpz_n (fun m hm => h m (List.mem_cons_of_mem _ hm))
theorem tpz_0 : ∀ {U : wd9}, tpz k U = 0 → ∀ l, l ∈ U → l.1 ≠ k
  | [], _, l, hl => absurd hl List.not_mem_nil
  | (t, a) :: U, h, l, hl => by
    by_cases c : t = k
    · rw [c, tpz_y] at h
      omega
    · rw [tpz_o (l := (t, a)) c] at h
      rcases List.mem_cons.mp hl with h1 | h1
      · rw [h1]
        exact c
      · exact tpz_0 h l h1
theorem tpz_s : ∀ {U : wd9}, tpz k U ≠ 0 → ∃ U1 a U2, U = U1 ++ (k, a) :: U2 ∧ ∀ l, l ∈ U1 → l.1 ≠ k
  | [], h => absurd rfl h
  | (t, a) :: U, h => by
    by_cases c : t = k
    · exact ⟨[], a, U, by rw [c]; rfl, fun l hl => absurd hl List.not_mem_nil⟩
    · rw [tpz_o (l := (t, a)) c] at h
      obtain ⟨U1, b, U2, e, h1⟩ := tpz_s h
      refine ⟨(t, a) :: U1, b, U2, by rw [e]; rfl, fun l hl => ?_⟩
      rcases List.mem_cons.mp hl with h2 | h2
      · rw [h2]
        exact c
      · exact h1 l h2
theorem tpz_2 (h : ¬ tpz k U ≤ 1) : ∃ U1 a M b U2, U = U1 ++ (k, a) :: (M ++ (k, b) :: U2) ∧ ∀ l, l ∈ M → l.1 ≠ k := by
  obtain ⟨U1, a, V, e, h1⟩ := tpz_s (U := U) (k := k) (by omega)
  have h2 : tpz k V ≠ 0 := by
    rw [e, tpz_a, tpz_y, tpz_n h1] at h
    omega
  obtain ⟨M, b, U2, e2, h3⟩ := tpz_s h2
  exact ⟨U1, a, M, b, U2, by rw [e, e2], h3⟩
theorem fr_r {l0 : Nat × Nat} (hf : ∀ (B A : wd9) (l l' : Nat × Nat), l.1 + 1 < l'.1 ∨ l'.1 + 1 < l.1 → Pr (B ++ l' :: l :: A) → Pr (B ++ l :: l' :: A)) : ∀ (M B A : wd9), (∀ l, l ∈ M → l.1 + 1 < l0.1) → Pr (B ++ (M ++ l0 :: A)) → Pr (B ++ l0 :: (M ++ A))
  | [], _, _, _, h => h
  | l :: M, B, A, hM, h => by
    have h1 := fr_r hf M (B ++ [l]) A (fun m hm => hM m (List.mem_cons_of_mem _ hm)) (by rw [List.append_assoc]; exact h)
    rw [List.append_assoc] at h1
    exact hf B (M ++ A) l0 l (Or.inr (hM l List.mem_cons_self)) h1
theorem fr_l {l0 : Nat × Nat} (hf : ∀ (B A : wd9) (l l' : Nat × Nat), l.1 + 1 < l'.1 ∨ l'.1 + 1 < l.1 → Pr (B ++ l' :: l :: A) → Pr (B ++ l :: l' :: A)) : ∀ (M B A : wd9), (∀ l, l ∈ M → l.1 + 1 < l0.1) → Pr (B ++ l0 :: (M ++ A)) → Pr (B ++ (M ++ l0 :: A))
  | [], _, _, _, h => h
  | l :: M, B, A, hM, h => by
    have h1 : Pr (B ++ l :: l0 :: (M ++ A)) := hf B (M ++ A) l l0 (Or.inl (hM l List.mem_cons_self)) h
    have h2 := fr_l hf M (B ++ [l]) A (fun m hm => hM m (List.mem_cons_of_mem _ hm)) (by rw [List.append_assoc]; exact h1)
    rw [List.append_assoc] at h2
    exact h2
theorem wd_l (hf : ∀ (B A : wd9) (l l' : Nat × Nat), l.1 + 1 < l'.1 ∨ l'.1 + 1 < l.1 → Pr (B ++ l' :: l :: A) → Pr (B ++ l :: l' :: A)) (h3 : ∀ (B A : wd9) (g x y w : Nat), Pr (B ++ (g, w) :: (g + 1, y) :: (g, x) :: A) → Pr (B ++ (g + 1, x) :: (g, y) :: (g + 1, w) :: A)) (h2 : ∀ (B A : wd9) (g x y : Nat), Pr (B ++ (g, y) :: (g, x) :: A)) : ∀ (k m : Nat) (U B A : wd9), tpz k U ≤ m → (∀ l, l ∈ U → l.1 ≤ k) → (∀ U' : wd9, (∀ l, l ∈ U' → l.1 ≤ k) → tpz k U' ≤ 1 → Pr (B ++ (U' ++ A))) → Pr (B ++ (U ++ A)) := by
  intro k
  induction k with
  | zero =>
    intro m U B A hm hU hfin
    by_cases c : tpz 0 U ≤ 1
    · exact hfin U hU c
    · obtain ⟨U1, a, M, b, U2, rfl, hM⟩ := tpz_2 c
      cases M with
      | nil =>
        have h9 := h2 (B ++ U1) (U2 ++ A) 0 b a
        simp only [List.append_assoc, List.cons_append, List.nil_append] at h9 ⊢
        exact h9
      | cons l M =>
        exfalso
        have q1 := hM l List.mem_cons_self
        have q2 := hU l (List.mem_append_right _ (List.mem_cons_of_mem _ List.mem_cons_self))
        omega
  | succ k ihk =>
    intro m
    induction m with
    | zero =>
      intro U B A hm hU hfin
      exact hfin U hU (by omega)
    | succ m ihm =>
      intro U B A hm hU hfin
      by_cases c : tpz (k + 1) U ≤ 1
      · exact hfin U hU c
      · obtain ⟨U1, a, M, b, U2, rfl, hM⟩ := tpz_2 c
        have hMk : ∀ l, l ∈ M → l.1 ≤ k := fun l hl => by
          have q1 := hM l hl
          have q2 := hU l (List.mem_append_right _ (List.mem_cons_of_mem _ (List.mem_append_left _ hl)))
          omega
        have lt : ∀ V : wd9, (∀ l, l ∈ V → l.1 ≤ k) → tpz k V = 0 → ∀ l, l ∈ V → l.1 + 1 < k + 1 := fun V q1 q0 l hl => by
          have q2 := q1 l hl
          have q3 := tpz_0 q0 l hl
          omega
        have key : Pr ((B ++ (U1 ++ [(k + 1, a)])) ++ (M ++ ((k + 1, b) :: (U2 ++ A)))) := by
          refine ihk (tpz k M) M _ _ (Nat.le_refl _) hMk (fun M' hM1 hM2 => ?_)
          by_cases c0 : tpz k M' = 0
          · have h9 := fr_r (l0 := (k + 1, a)) hf M' (B ++ U1) ((k + 1, b) :: (U2 ++ A)) (lt M' hM1 c0) (by
              have h8 := h2 ((B ++ U1) ++ M') (U2 ++ A) (k + 1) b a
              simp only [List.append_assoc] at h8 ⊢
              exact h8)
            simp only [List.append_assoc, List.cons_append, List.nil_append] at h9 ⊢
            exact h9
          · obtain ⟨M1, cc, M2, rfl, q1⟩ := tpz_s c0
            have t1 : tpz k M1 = 0 := tpz_n q1
            have t2 : tpz k M2 = 0 := by
              rw [tpz_a, tpz_y] at hM2
              omega
            have p1 : ∀ l, l ∈ M1 → l.1 ≤ k := fun l hl => hM1 l (List.mem_append_left _ hl)
            have p2 : ∀ l, l ∈ M2 → l.1 ≤ k := fun l hl => hM1 l (List.mem_append_right _ (List.mem_cons_of_mem _ hl))
            have z : ∀ V : wd9, (∀ l, l ∈ V → l.1 ≤ k) → tpz (k + 1) V = 0 := fun V hV => tpz_n (fun l hl => by
              have := hV l hl
              omega)
            have w1 := ihm (U1 ++ (M1 ++ (k, b) :: (k + 1, cc) :: (k, a) :: (M2 ++ U2))) B A (by
              rw [tpz_a, tpz_y, tpz_a, tpz_y, z M hMk] at hm
              rw [tpz_a, tpz_a, tpz_o (l := (k, b)) (show k ≠ k + 1 by omega), tpz_y, tpz_o (l := (k, a)) (show k ≠ k + 1 by omega), tpz_a, z M1 p1, z M2 p2]
              omega) (fun l hl => by
              rcases List.mem_append.mp hl with q2 | q2
              · exact hU l (List.mem_append_left _ q2)
              · rcases List.mem_append.mp q2 with q3 | q3
                · have := p1 l q3
                  omega
                · rcases List.mem_cons.mp q3 with q4 | q4
                  · rw [q4]
                    exact Nat.le_succ k
                  · rcases List.mem_cons.mp q4 with q5 | q5
                    · rw [q5]
                      exact Nat.le_refl _
                    · rcases List.mem_cons.mp q5 with q6 | q6
                      · rw [q6]
                        exact Nat.le_succ k
                      · rcases List.mem_append.mp q6 with q7 | q7
                        · have := p2 l q7
                          omega
                        · exact hU l (List.mem_append_right _ (List.mem_cons_of_mem _ (List.mem_append_right _ (List.mem_cons_of_mem _ q7))))) hfin
            have w2 := h3 (B ++ (U1 ++ M1)) (M2 ++ (U2 ++ A)) k a cc b (by
              simp only [List.append_assoc, List.cons_append] at w1 ⊢
              exact w1)
            have w3 := fr_l (l0 := (k + 1, b)) hf M2 (B ++ (U1 ++ (M1 ++ [(k + 1, a), (k, cc)]))) (U2 ++ A) (lt M2 p2 t2) (by
              simp only [List.append_assoc, List.cons_append, List.nil_append] at w2 ⊢
              exact w2)
            have w4 := fr_r (l0 := (k + 1, a)) hf M1 (B ++ U1) ((k, cc) :: (M2 ++ (k + 1, b) :: (U2 ++ A))) (lt M1 p1 t1) (by
              simp only [List.append_assoc, List.cons_append, List.nil_append] at w3 ⊢
              exact w3)
            simp only [List.append_assoc, List.cons_append, List.nil_append] at w4 ⊢
            exact w4
        simp only [List.append_assoc, List.cons_append, List.nil_append] at key ⊢
        exact key
theorem fln_tk : ∀ {L : List (List tk9)}, (∀ c, c ∈ L → c ≠ []) → L.length ≤ L.flatten.length
  | [], _ => Nat.le_refl 0
  | c :: L, h => by
    have h1 := fln_tk (L := L) (fun d hd => h d (List.mem_cons_of_mem _ hd))
    have h2 : c.length ≠ 0 := fun h9 => h c List.mem_cons_self (List.length_eq_zero_iff.mp h9)
    rw [List.flatten_cons, List.length_append, List.length_cons]
    omega
theorem or_ne {L : List (List tk9)} (hL : orz n W L) : ∀ c, c ∈ L → c ≠ [] := fun c hc h9 => by
  obtain ⟨p, r, e, -⟩ := hL.1 c hc
  rw [h9] at e
  cases e
theorem ph_tr (hn : n ≤ 1) (ho : okw n W) : PhZ n W := fun L ov hL => by
  have hW : nmz W = [] := by
    cases W with
    | nil => rfl
    | cons l W =>
      have := ho.1 l List.mem_cons_self
      omega
  have len : ∀ L, orz n W L → vlz (Gz n W) L ov = lfz 0 := fun L hL => by
    have g9 : gdz L ov := fun x i hx => by
      have h9 := fs_nm hL (p := (x, decide (i = 1))) (fsz_m.mpr ⟨List.not_mem_nil, i, hx, rfl⟩)
      rw [hW] at h9
      exact absurd h9 List.not_mem_nil
    rw [vlz_g g9]
    have h1 := fln_tk (or_ne hL)
    have h2 : L.flatten.length ≤ 1 := by
      have hm : ∀ p, p ∈ L.flatten → p = (0, 2) := fun p hp => by
        rcases (hL.2.2 p).mp hp with ⟨h3, h4⟩ | ⟨-, h3⟩
        · obtain ⟨a, i⟩ := p
          have h3 : i = 2 := h3
          have h4 : a < n := h4
          rw [h3, show a = 0 by omega]
        · rw [hW] at h3
          exact absurd h3 List.not_mem_nil
      have hn := hL.2.1
      generalize L.flatten = l at hm hn
      match l, hm, hn with
      | [], _, _ => exact Nat.zero_le _
      | [a], _, _ => exact Nat.le_refl _
      | a :: b :: l, hm, hn =>
        exfalso
        have e1 := hm a List.mem_cons_self
        have e2 := hm b (List.mem_cons_of_mem _ List.mem_cons_self)
        exact (List.nodup_cons.mp hn).1 (by rw [e1, ← e2]; exact List.mem_cons_self)
    rw [show L.length - 1 = 0 by omega]
  rw [Fz_e ho hL, len L hL, len _ (orc_o hL)]
theorem ph_all : ∀ (n : Nat) (W : wd9), okw n W → PhZ n W
  | 0, W, ho => ph_tr (by omega) ho
  | 1, W, ho => ph_tr (by omega) ho
  | g + 2, W, ho => by
    have ihn := ph_all (g + 1)
    have main : ∀ (K : Nat) (W : wd9), W.length = K → okw (g + 2) W → PhZ (g + 2) W := by
      intro K
      induction K using Nat.strongRecOn with
      | ind K ih =>
        have hP : ∀ V : wd9, V.length < K → okw (g + 2) V → PhZ (g + 2) V := fun V hV => ih _ hV V rfl
        intro W hK ho
        have key := wd_l (Pr := fun W => W.length = K → okw (g + 2) W → PhZ (g + 2) W) (fun B A l l' hll h0 hk hok => by
          have e : (B ++ l' :: l :: A).length = (B ++ l :: l' :: A).length := by
            rw [List.length_append, List.length_append]
            rfl
          exact cm_P (g := l.1) (h := l'.1) (x := l.2) (y := l'.2) hll hok (by rw [show (B ++ (l.1, l.2) :: (l'.1, l'.2) :: A).length = K from hk]; exact hP) (h0 (e.trans hk) (ok_pm (cm_pm (g := l.1) (h := l'.1) (x := l.2) (y := l'.2)) hok))) (fun B A g' x y w h0 hk hok => by
          have e : (B ++ (g', w) :: (g' + 1, y) :: (g', x) :: A).length = (B ++ (g' + 1, x) :: (g', y) :: (g' + 1, w) :: A).length := by
            rw [List.length_append, List.length_append]
            rfl
          exact r3_P hok (by rw [hk]; exact hP) (h0 (e.trans hk) (r3_ok hok))) (fun B A g' x y hk hok => r2_P hok (by rw [hk]; exact hP)) g (tpz g W) W [] [] (Nat.le_refl _) (fun l hl => by
          have := ho.1 l hl
          omega) (fun U hU1 hU2 hk hok => by
          rw [List.nil_append, List.append_nil] at hk hok ⊢
          by_cases c0 : tpz g U = 0
          · have hok2 : okw (g + 1) U := ⟨fun l hl => by
              have q1 := hU1 l hl
              have q2 := tpz_0 c0 l hl
              omega, hok.2⟩
            exact cr_P (n := g + 1) (by omega) hok2 hok (by rw [hk]; exact hP) (fun V _ hV => ihn V hV)
          · obtain ⟨B, x, A, rfl, q1⟩ := tpz_s c0
            have t2 : tpz g A = 0 := by
              rw [tpz_a, tpz_y] at hU2
              omega
            obtain ⟨-, -, hd⟩ := okw_d hok
            have hok2 : okw (g + 1) (B ++ A) := ⟨fun l hl => by
              rcases List.mem_append.mp hl with q2 | q2
              · have q3 := hU1 l (List.mem_append_left _ q2)
                have q4 := q1 l q2
                omega
              · have q3 := hU1 l (List.mem_append_right _ (List.mem_cons_of_mem _ q2))
                have q4 := tpz_0 t2 l q2
                omega, hd.2⟩
            exact r1_P hok2 hok (by rw [hk]; exact hP) (fun V _ hV => ihn V hV))
        rw [List.nil_append, List.append_nil] at key
        exact key hK ho
    exact main _ W rfl ho
end XTWG
end
section
/-! 99zzzzzzzzzzzzzzzzr.xtwh -/
/-! two: lists of visits that show a closed braid -/
def trz (ov : Nat → Bool) (p : tk9) : Nat × Nat := (p.1, if decide (p.2 = 1) = ov p.1 then 0 else 1)
def pjz (ov : Nat → Bool) (e : List tk9) : List (Nat × Nat) := (e.filter (fun p => decide (p.2 ≠ 2))).map (trz ov)
def bdz (n : Nat) (W : wd9) (ov : Nat → Bool) (A : rn_L) (sg : Nat → Bool) : Prop := okw n W ∧ (∃ L, orz n W L ∧ A = L.map (pjz ov)) ∧ ∀ x, x ∈ nmz W → sg x = !ov x
section XTWH
variable {n : Nat} {W : wd9} {ov sg : Nat → Bool} {A : rn_L} {L : List (List tk9)}
theorem pjz_a (a b : List tk9) : pjz ov (a ++ b) = pjz ov a ++ pjz ov b := by
  unfold pjz
  rw [List.filter_append, List.map_append]
theorem pjz_m {p : tk9} {r : List tk9} (h : p.2 = 2) : pjz ov (p :: r) = pjz ov r := by
  unfold pjz
  rw [List.filter_cons_of_neg (by simp [h])]
theorem pjz_v {p : tk9} {r : List tk9} (h : p.2 ≠ 2) : pjz ov (p :: r) = trz ov p :: pjz ov r := by
  unfold pjz
  rw [List.filter_cons_of_pos (by simp [h]), List.map_cons]
theorem pjz_sp {p : Nat × Nat} {Y : List (Nat × Nat)} : ∀ {e : List tk9} {X : List (Nat × Nat)}, pjz ov e = X ++ p :: Y → ∃ a u b, e = a ++ u :: b ∧ u.2 ≠ 2 ∧ pjz ov a = X ∧ trz ov u = p ∧ pjz ov b = Y
  | [], X, h => by
    have h9 := congrArg List.length h
    rw [List.length_append] at h9
    simp [pjz] at h9
  | u :: e, X, h => by
    by_cases c : u.2 = 2
    · rw [pjz_m c] at h
      obtain ⟨a, t, b, h1, h2, h3, h4, h5⟩ := pjz_sp h
      exact ⟨u :: a, t, b, by rw [h1]; rfl, h2, by rw [pjz_m c]; exact h3, h4, h5⟩
    · rw [pjz_v c] at h
      cases X with
      | nil =>
        obtain ⟨e1, e2⟩ := List.cons.inj h
        exact ⟨[], u, e, rfl, c, rfl, e1, e2⟩
      | cons x X =>
        obtain ⟨e1, e2⟩ := List.cons.inj h
        obtain ⟨a, t, b, h1, h2, h3, h4, h5⟩ := pjz_sp e2
        exact ⟨u :: a, t, b, by rw [h1]; rfl, h2, by rw [pjz_v c, e1, h3], h4, h5⟩
theorem mp_sp {c : List (Nat × Nat)} {Q : rn_L} {f : List tk9 → List (Nat × Nat)} : ∀ {L : List (List tk9)} {P : rn_L}, P ++ c :: Q = L.map f → ∃ L1 e L2, L = L1 ++ e :: L2 ∧ L1.map f = P ∧ f e = c ∧ L2.map f = Q
  | [], P, h => by
    have h9 := congrArg List.length h
    rw [List.length_append] at h9
    simp at h9
  | e :: L, P, h => by
    cases P with
    | nil =>
      obtain ⟨e1, e2⟩ := List.cons.inj h
      exact ⟨[], e, L, rfl, rfl, e1.symm, e2.symm⟩
    | cons x P =>
      obtain ⟨e1, e2⟩ := List.cons.inj h
      obtain ⟨L1, e', L2, h1, h2, h3, h4⟩ := mp_sp e2
      exact ⟨e :: L1, e', L2, by rw [h1]; rfl, by rw [List.map_cons, h2, e1], h3, h4⟩
theorem pj_fl : ∀ (L : List (List tk9)), (L.map (pjz ov)).flatten = pjz ov L.flatten
  | [] => rfl
  | c :: L => by
    rw [List.map_cons, List.flatten_cons, List.flatten_cons, pjz_a, pj_fl L]
theorem pj_mem {e : List tk9} {q : Nat × Nat} : q ∈ pjz ov e ↔ ∃ p, p ∈ e ∧ p.2 ≠ 2 ∧ trz ov p = q := by
  unfold pjz
  rw [List.mem_map]
  constructor
  · rintro ⟨p, h1, h2⟩
    obtain ⟨h3, h4⟩ := List.mem_filter.mp h1
    exact ⟨p, h3, of_decide_eq_true h4, h2⟩
  · rintro ⟨p, h1, h2, h3⟩
    exact ⟨p, List.mem_filter.mpr ⟨h1, decide_eq_true h2⟩, h3⟩
/-- two ends of one crossing -/
theorem trz_2 {u t : tk9} {x : Nat} (hu : u.2 < 2) (ht : t.2 < 2) (h : trz ov u = (x, 0) ∧ trz ov t = (x, 1) ∨ trz ov u = (x, 1) ∧ trz ov t = (x, 0)) : ∃ i, i < 2 ∧ u = (x, i) ∧ t = (x, 1 - i) := by
  obtain ⟨a, i⟩ := u
  obtain ⟨b, j⟩ := t
  have hu : i < 2 := hu
  have ht : j < 2 := ht
  have ha : a = x := by
    rcases h with ⟨h1, -⟩ | ⟨h1, -⟩
    · exact (Prod.mk.inj h1).1
    · exact (Prod.mk.inj h1).1
  have hb : b = x := by
    rcases h with ⟨-, h1⟩ | ⟨-, h1⟩
    · exact (Prod.mk.inj h1).1
    · exact (Prod.mk.inj h1).1
  subst ha
  subst hb
  refine ⟨i, hu, rfl, ?_⟩
  have hne : i ≠ j := fun h9 => by
    rw [h9] at h
    rcases h with ⟨h1, h2⟩ | ⟨h1, h2⟩
    · rw [h1] at h2
      exact absurd (Prod.mk.inj h2).2 (by decide)
    · rw [h1] at h2
      exact absurd (Prod.mk.inj h2).2 (by decide)
  rw [show j = 1 - i by omega]
theorem or_2 (hL : orz n W L) {u : tk9} (hu : u ∈ L.flatten) (h2 : u.2 ≠ 2) : u.2 < 2 ∧ u.1 ∈ nmz W := by
  rcases (hL.2.2 _).mp hu with ⟨h3, -⟩ | h3
  · exact absurd h3 h2
  · exact h3
theorem smV_cs {v w : Nat} (hvw : v < w) (hw : w < A.flatten.length) : (∃ P X Y Z Po, A = P ++ (X ++ vAt A v :: (Y ++ vAt A w :: Z)) :: Po ∧ smV A v w = P ++ (X ++ Z) :: Po ++ [Y]) ∨ ∃ P X X' Mi V V' Po, A = P ++ (X ++ vAt A v :: X') :: (Mi ++ (V ++ vAt A w :: V') :: Po) ∧ smV A v w = P ++ (((X ++ V') ++ V) ++ X') :: (Mi ++ Po) := by
  obtain ⟨c1, c2, c3⟩ := rn_c_in A v (by omega)
  obtain ⟨j1, j2, j3⟩ := rn_c_in A w hw
  unfold smV
  generalize rn_c A v = c at c1 c2 c3
  generalize rn_c A w = J at j1 j2 j3
  have eA : A = ((cps A 0 c).map (List.map (vAt A))) ++ ((seg (rn_b A c) (rn_b A (c + 1))).map (vAt A)) :: ((cps A (c + 1) A.length).map (List.map (vAt A))) := by
    conv => lhs; rw [← cps_all (A := A)]
    rw [cps_app (Nat.zero_le c) (show c ≤ A.length by omega), cps_cons c1, List.map_append, List.map_cons]
  have eL : seg (rn_b A c) (rn_b A (c + 1)) = seg (rn_b A c) v ++ v :: seg (v + 1) (rn_b A (c + 1)) := by
    rw [seg_app c2 (Nat.le_of_lt c3), seg_cons c3]
  unfold smC
  by_cases hone : w < rn_b A (c + 1)
  · rw [if_pos hone]
    have eL2 : seg (v + 1) (rn_b A (c + 1)) = seg (v + 1) w ++ w :: seg (w + 1) (rn_b A (c + 1)) := by
      rw [seg_app (show v + 1 ≤ w by omega) (Nat.le_of_lt hone), seg_cons hone]
    rw [eL, eL2, List.map_append, List.map_cons, List.map_append, List.map_cons] at eA
    refine Or.inl ⟨_, _, _, _, _, eA, ?_⟩
    rw [List.map_append, List.map_append, List.map_append, List.map_cons, List.map_cons, List.map_nil, List.map_append]
    rw [show ∀ (a : rn_L) (b : List vT) (d e : rn_L), a ++ [b] ++ d ++ e = a ++ b :: d ++ e from fun a b d e => by simp]
  · rw [if_neg hone]
    have hcJ : c < J := by
      rcases Nat.lt_or_ge c J with h9 | h9
      · exact h9
      · have := rn_b_mono2 (A := A) (show J + 1 ≤ c + 1 by omega)
        omega
    have eP : cps A (c + 1) A.length = cps A (c + 1) J ++ seg (rn_b A J) (rn_b A (J + 1)) :: cps A (J + 1) A.length := by
      rw [cps_app (show c + 1 ≤ J by omega) (show J ≤ A.length by omega), cps_cons j1]
    have eM : seg (rn_b A J) (rn_b A (J + 1)) = seg (rn_b A J) w ++ w :: seg (w + 1) (rn_b A (J + 1)) := by
      rw [seg_app j2 (Nat.le_of_lt j3), seg_cons j3]
    rw [eL, eP, eM, List.map_append, List.map_cons, List.map_append, List.map_cons, List.map_append, List.map_cons] at eA
    refine Or.inr ⟨_, _, _, _, _, _, _, eA, ?_⟩
    rw [List.map_append, List.map_append, List.map_append, List.map_cons, List.map_nil, List.map_append, List.map_append, List.map_append]
    rw [show ∀ (a : rn_L) (b : List vT) (d e : rn_L), a ++ [b] ++ d ++ e = a ++ b :: (d ++ e) from fun a b d e => by simp]
theorem bd_sm {v w x : Nat} (h : bdz n W ov A sg) (hvw : v < w) (hw : w < A.flatten.length) (hx : vAt A v = (x, 0) ∧ vAt A w = (x, 1) ∨ vAt A v = (x, 1) ∧ vAt A w = (x, 0)) : bdz n (dlz x W) ov (smV A v w) sg := by
  obtain ⟨ho, ⟨L, hL, eA⟩, hs⟩ := h
  refine ⟨ok_dl ho, ?_, fun y hy => hs y (nm_dl.mp hy).1⟩
  rcases smV_cs hvw hw with ⟨P, X, Y, Z, Po, e1, e2⟩ | ⟨P, X, X', Mi, V, V', Po, e1, e2⟩
  · obtain ⟨L1, e, L2, rfl, q1, q2, q3⟩ := mp_sp (e1.symm.trans eA)
    obtain ⟨a, u, r, rfl, u2, p1, p2, p3⟩ := pjz_sp q2
    obtain ⟨b, t, c, rfl, t2, p4, p5, p6⟩ := pjz_sp p3
    have mu : u ∈ (L1 ++ (a ++ u :: (b ++ t :: c)) :: L2).flatten := List.mem_flatten.mpr ⟨_, List.mem_append_right _ List.mem_cons_self, List.mem_append_right _ List.mem_cons_self⟩
    have mt : t ∈ (L1 ++ (a ++ u :: (b ++ t :: c)) :: L2).flatten := List.mem_flatten.mpr ⟨_, List.mem_append_right _ List.mem_cons_self, List.mem_append_right _ (List.mem_cons_of_mem _ (List.mem_append_right _ List.mem_cons_self))⟩
    obtain ⟨u3, u4⟩ := or_2 hL mu u2
    obtain ⟨t3, -⟩ := or_2 hL mt t2
    rw [← p2, ← p5] at hx
    obtain ⟨i, hi, rfl, rfl⟩ := trz_2 u3 t3 hx
    obtain ⟨A9, B9, g, eW⟩ := nm_ex (show x ∈ nmz W from u4)
    rw [eW] at ho hL
    obtain ⟨hxA, hxB, -⟩ := okw_d ho
    have k := orz_s1 ho hi hL
    refine ⟨L1 ++ (a ++ c) :: L2 ++ [b], ?_, ?_⟩
    · rw [eW, dlz_e hxA hxB]
      refine orz_p ?_ k
      rw [List.append_assoc]
      refine List.Perm.append_left _ ?_
      rw [List.cons_append]
      refine List.Perm.cons _ ?_
      exact List.perm_append_comm
    · rw [e2, List.map_append, List.map_append, List.map_cons, pjz_a, q1, q3, p1, p6]
      show _ = P ++ (X ++ Z) :: Po ++ [pjz ov b]
      rw [p4]
  · obtain ⟨L1, e, L2, rfl, q1, q2, q3⟩ := mp_sp (e1.symm.trans eA)
    obtain ⟨M2, e', L3, rfl, r1, r2, r3⟩ := mp_sp q3.symm
    obtain ⟨a1, u, a2, rfl, u2, p1, p2, p3⟩ := pjz_sp q2
    obtain ⟨b1, t, b2, rfl, t2, p4, p5, p6⟩ := pjz_sp r2
    have mu : u ∈ (L1 ++ (a1 ++ u :: a2) :: (M2 ++ (b1 ++ t :: b2) :: L3)).flatten := List.mem_flatten.mpr ⟨_, List.mem_append_right _ List.mem_cons_self, List.mem_append_right _ List.mem_cons_self⟩
    have mt : t ∈ (L1 ++ (a1 ++ u :: a2) :: (M2 ++ (b1 ++ t :: b2) :: L3)).flatten := List.mem_flatten.mpr ⟨_, List.mem_append_right _ (List.mem_cons_of_mem _ (List.mem_append_right _ List.mem_cons_self)), List.mem_append_right _ List.mem_cons_self⟩
    obtain ⟨u3, u4⟩ := or_2 hL mu u2
    obtain ⟨t3, -⟩ := or_2 hL mt t2
    rw [← p2, ← p5] at hx
    obtain ⟨i, hi, rfl, rfl⟩ := trz_2 u3 t3 hx
    obtain ⟨A9, B9, g, eW⟩ := nm_ex (show x ∈ nmz W from u4)
    rw [eW] at ho hL
    obtain ⟨hxA, hxB, -⟩ := okw_d ho
    have k := orz_s2 ho hi hL
    refine ⟨L1 ++ (a1 ++ (b2 ++ (b1 ++ a2))) :: (M2 ++ L3), ?_, ?_⟩
    · rw [eW, dlz_e hxA hxB]
      exact k
    · rw [e2, List.map_append, List.map_cons, List.map_append, pjz_a, pjz_a, pjz_a, q1, r1, r3, p1, p3, p4, p6, List.append_assoc, List.append_assoc]
theorem trz_fl (x : Nat) (p : tk9) : trz (flz ov x) p = flp (fun y => decide (y = x)) (trz ov p) := by
  unfold flp
  by_cases c : p.1 = x
  · rw [if_pos (show decide ((trz ov p).1 = x) = true from decide_eq_true c)]
    unfold trz
    show (p.1, if decide (p.2 = 1) = flz ov x p.1 then 0 else 1) = (p.1, 1 - if decide (p.2 = 1) = ov p.1 then 0 else 1)
    rw [c, flz_at]
    cases decide (p.2 = 1) <;> cases ov x <;> rfl
  · rw [if_neg (show ¬ decide ((trz ov p).1 = x) = true from fun h9 => c (of_decide_eq_true h9))]
    unfold trz
    rw [flz_ot c]
theorem pjz_fl (x : Nat) (e : List tk9) : pjz (flz ov x) e = (pjz ov e).map (flp (fun y => decide (y = x))) := by
  unfold pjz
  rw [List.map_map]
  exact List.map_congr_left (fun p _ => trz_fl x p)
theorem bd_ch (x : Nat) (h : bdz n W ov A sg) : bdz n W (flz ov x) (chA A x) (chS sg x) := by
  obtain ⟨ho, ⟨L, hL, eA⟩, hs⟩ := h
  refine ⟨ho, ⟨L, hL, ?_⟩, fun y hy => ?_⟩
  · unfold chA
    rw [eA, List.map_map]
    exact List.map_congr_left (fun e _ => (pjz_fl x e).symm)
  · show (if y = x then !sg y else sg y) = !(if y = x then !ov y else ov y)
    rw [hs y hy]
    split
    · rfl
    · rfl
theorem bd_nm (h : bdz n W ov A sg) {p : Nat × Nat} (hp : p ∈ A.flatten) : p.1 ∈ nmz W := by
  obtain ⟨ho, ⟨L, hL, eA⟩, hs⟩ := h
  rw [eA, pj_fl] at hp
  obtain ⟨u, h1, h2, h3⟩ := pj_mem.mp hp
  rw [← h3]
  exact (or_2 hL h1 h2).2
/-- met over first everywhere: circles apart -/
theorem bd_lf (h : bdz n W ov A sg) (hg : gPre A A.flatten.length) : Fz n W ov = lfz (A.length - 1) := by
  obtain ⟨ho, ⟨L, hL, eA⟩, hs⟩ := h
  have g9 : gdz L ov := fun x i hx => by
    obtain ⟨a, c, e, h2, h3⟩ := hx
    have e1 : A.flatten = pjz ov a ++ trz ov (x, i) :: pjz ov c := by
      rw [eA, pj_fl, e, pjz_a, pjz_v (p := (x, i)) h2]
    have at0 : vAt A (pjz ov a).length = trz ov (x, i) := by
      unfold vAt
      rw [e1, List.getElem?_append_right (Nat.le_refl _), Nat.sub_self]
      rfl
    have lt : (pjz ov a).length < A.flatten.length := by
      rw [e1, List.length_append, List.length_cons]
      omega
    have h4 := hg _ lt lt (fun w hw h9 => by
      unfold crs at h9
      rw [at0] at h9
      have hm : vAt A w ∈ pjz ov a := by
        unfold vAt
        rw [e1, List.getElem?_append_left hw, List.getElem?_eq_getElem hw]
        exact List.getElem_mem hw
      obtain ⟨u, k1, k2, k3⟩ := pj_mem.mp hm
      rcases h3 u k1 with k4 | k4
      · exact k2 k4
      · rw [← k3] at h9
        exact k4 h9)
    unfold uns at h4
    rw [at0] at h4
    have h4 : (if decide (i = 1) = ov x then 0 else 1) = 0 := h4
    by_cases c9 : decide (i = 1) = ov x
    · exact c9.symm
    · rw [if_neg c9] at h4
      exact absurd h4 (by decide)
  rw [← ph_all n W ho L ov hL, vlz_g g9, eA, List.length_map]
theorem bd_sk (h : bdz n W ov A sg) {x : Nat} (hx : x ∈ nmz W) : Fz n W ov = skz (ov x) (Fz n W (flz ov x)) (Fz n (dlz x W) ov) := by
  obtain ⟨ho, ⟨L, hL, -⟩, -⟩ := h
  exact sk_F ho hL ov x hx
end XTWH
end
section
/-! 99zzzzzzzzzzzzzzzzs.xtwi -/
/-! two: the closed braid's own order -/
def wdN (w ν : Nat → Nat) : Nat → wd9
  | 0 => []
  | l + 1 => (w l, ν l) :: wdN w ν l
def rtk (w ν : Nat → Nat) (s : Nat) : Nat → List tk9
  | 0 => []
  | i + 1 => if psn w s i = w i ∨ psn w s i = w i + 1 then rtk w ν s i ++ [(ν i, if psn w s i = w i then 1 else 0)] else rtk w ν s i
def rgT (w ν : Nat → Nat) (l : Nat) (R : List Nat) : List tk9 := R.flatMap (fun s => (s, 2) :: rtk w ν s l)
def nmf (ν : Nat → Nat) (p : Nat × Nat) : Nat × Nat := (ν p.1, p.2)
section XTWI
variable {w ν : Nat → Nat} {lp ov : Nat → Bool} {s n l : Nat}
theorem rtk_on {i : Nat} (h : onL w s i) : rtk w ν s (i + 1) = rtk w ν s i ++ [(ν i, if psn w s i = w i then 1 else 0)] := if_pos h
theorem rtk_off {i : Nat} (h : ¬ onL w s i) : rtk w ν s (i + 1) = rtk w ν s i := if_neg h
theorem wdN_nm {x : Nat} : ∀ {l : Nat}, x ∈ nmz (wdN w ν l) ↔ ∃ k, k < l ∧ x = ν k
  | 0 => ⟨fun h => absurd h List.not_mem_nil, fun ⟨k, h, _⟩ => absurd h (Nat.not_lt_zero _)⟩
  | l + 1 => by
    show x ∈ ν l :: nmz (wdN w ν l) ↔ _
    rw [List.mem_cons, wdN_nm]
    constructor
    · rintro (h | ⟨k, h1, h2⟩)
      · exact ⟨l, Nat.lt_succ_self l, h⟩
      · exact ⟨k, by omega, h2⟩
    · rintro ⟨k, h1, h2⟩
      by_cases c : k = l
      · exact Or.inl (by rw [h2, c])
      · exact Or.inr ⟨k, by omega, h2⟩
theorem rtk_mem {p : tk9} : ∀ {i : Nat}, p ∈ rtk w ν s i ↔ ∃ k, k < i ∧ onL w s k ∧ p = (ν k, if psn w s k = w k then 1 else 0)
  | 0 => ⟨fun h => absurd h List.not_mem_nil, fun ⟨k, h, _⟩ => absurd h (Nat.not_lt_zero _)⟩
  | i + 1 => by
    by_cases h : onL w s i
    · rw [rtk_on h, List.mem_append, rtk_mem, List.mem_singleton]
      constructor
      · rintro (⟨k, h1, h2⟩ | e)
        · exact ⟨k, by omega, h2⟩
        · exact ⟨i, Nat.lt_succ_self _, h, e⟩
      · rintro ⟨k, h1, h2, h3⟩
        by_cases c : k = i
        · rw [c] at h3
          exact Or.inr h3
        · exact Or.inl ⟨k, by omega, h2, h3⟩
    · rw [rtk_off h, rtk_mem]
      constructor
      · rintro ⟨k, h1, h2⟩
        exact ⟨k, by omega, h2⟩
      · rintro ⟨k, h1, h2, h3⟩
        by_cases c : k = i
        · rw [c] at h2
          exact absurd h2 h
        · exact ⟨k, by omega, h2, h3⟩
theorem okN : ∀ {l : Nat}, (∀ i, i < l → w i + 1 < n) → (∀ i j, i < l → j < l → ν i = ν j → i = j) → okw n (wdN w ν l)
  | 0, _, _ => ⟨fun m hm => absurd hm List.not_mem_nil, List.nodup_nil⟩
  | l + 1, hw, hν => by
    have ih := okN (l := l) (fun i hi => hw i (by omega)) (fun i j hi hj => hν i j (by omega) (by omega))
    refine ⟨fun m hm => ?_, ?_⟩
    · rcases List.mem_cons.mp hm with h | h
      · rw [h]
        exact hw l (Nat.lt_succ_self l)
      · exact ih.1 m h
    · show (ν l :: nmz (wdN w ν l)).Nodup
      refine List.nodup_cons.mpr ⟨fun h => ?_, ih.2⟩
      obtain ⟨k, h1, h2⟩ := wdN_nm.mp h
      have := hν l k (Nat.lt_succ_self l) (by omega) h2
      omega
theorem pth_th {W : wd9} {g x : Nat} : ∀ {r : List tk9} {p q : tk9}, pth (sgm W) p r q → nov x p → (∀ t, t ∈ r → nov x t ∧ t.2 ≠ 2) → pth (sgm ((g, x) :: W)) p r (thz g x q)
  | [], p, q, h, hp, _ => by
    have h : sgm W p = q := h
    show sgm ((g, x) :: W) p = thz g x q
    rw [sgm_o (l := (g, x)) hp.1 hp.2, h]
  | a :: r, p, q, h, hp, hr => by
    have ha := hr a List.mem_cons_self
    refine ⟨?_, pth_th h.2 ha.1 (fun t ht => hr t (List.mem_cons_of_mem _ ht))⟩
    rw [sgm_o (l := (g, x)) hp.1 hp.2, h.1]
    exact thz_v ha.2
theorem rt_pth : ∀ i, (∀ j k, j < i → k < i → ν j = ν k → j = k) → pth (sgm (wdN w ν i)) (s, 2) (rtk w ν s i) (psn w s i, 2)
  | 0, _ => rfl
  | i + 1, hν => by
    have ih := rt_pth i (fun j k hj hk => hν j k (by omega) (by omega))
    have nv9 : ∀ t, t ∈ rtk w ν s i → nov (ν i) t ∧ t.2 ≠ 2 := fun t ht => by
      obtain ⟨k, hk, -, rfl⟩ := rtk_mem.mp ht
      refine ⟨nov_n (fun h9 => ?_), ?_⟩
      · have := hν k i (by omega) (by omega) h9
        omega
      · show (if psn w s k = w k then 1 else 0) ≠ 2
        split
        · decide
        · decide
    have h1 := pth_th (g := w i) (x := ν i) ih nov_m nv9
    show pth (sgm ((w i, ν i) :: wdN w ν i)) (s, 2) (rtk w ν s (i + 1)) (psn w s (i + 1), 2)
    by_cases h : onL w s i
    · rw [rtk_on h]
      have e2 : psn w s (i + 1) = sw2 (w i) (w i + 1) (psn w s i) := rfl
      by_cases c : psn w s i = w i
      · rw [if_pos c]
        rw [c, thz_1] at h1
        refine pth_a.mpr ⟨h1, ?_⟩
        show sgm ((w i, ν i) :: wdN w ν i) (ν i, 1) = (psn w s (i + 1), 2)
        rw [e2, c]
        unfold sw2
        rw [if_pos rfl]
        exact sgm_1 (l := (w i, ν i))
      · have c2 : psn w s i = w i + 1 := h.elim (fun h9 => absurd h9 c) id
        rw [if_neg c]
        rw [c2, thz_0] at h1
        refine pth_a.mpr ⟨h1, ?_⟩
        show sgm ((w i, ν i) :: wdN w ν i) (ν i, 0) = (psn w s (i + 1), 2)
        rw [e2, c2]
        unfold sw2
        rw [if_neg (by omega), if_pos rfl]
        exact sgm_0 (l := (w i, ν i))
    · rw [rtk_off h, (rnL_off (lp := fun _ => true) h).2]
      rw [thz_o (p := (psn w s i, 2)) (mk_ne (fun h9 => h (Or.inl h9))) (mk_ne (fun h9 => h (Or.inr h9)))] at h1
      exact h1
theorem rg_pth (hν : ∀ j k, j < l → k < l → ν j = ν k → j = k) : ∀ (R : List Nat) (c a : Nat), (∀ X c' d Y, c :: R = X ++ c' :: d :: Y → psn w c' l = d) → (∀ X c', c :: R = X ++ [c'] → psn w c' l = a) → ∃ r, rgT w ν l (c :: R) = (c, 2) :: r ∧ pth (sgm (wdN w ν l)) (c, 2) r (a, 2)
  | [], c, a, _, h2 => by
    refine ⟨rtk w ν c l, ?_, ?_⟩
    · unfold rgT
      rw [List.flatMap_cons]
      show ((c, 2) :: rtk w ν c l) ++ [] = _
      rw [List.append_nil]
    · have h9 := rt_pth (s := c) (w := w) l hν
      rw [h2 [] c rfl] at h9
      exact h9
  | d :: R, c, a, h1, h2 => by
    obtain ⟨r, e, hp⟩ := rg_pth hν R d a (fun X c' d' Y e => h1 (c :: X) c' d' Y (by rw [e]; rfl)) (fun X c' e => h2 (c :: X) c' (by rw [e]; rfl))
    refine ⟨rtk w ν c l ++ (d, 2) :: r, ?_, pth_a.mpr ⟨?_, hp⟩⟩
    · show rgT w ν l (c :: d :: R) = _
      unfold rgT at e ⊢
      rw [List.flatMap_cons, e]
      rfl
    · have h9 := rt_pth (s := c) (w := w) l hν
      rw [h1 [] c d R rfl] at h9
      exact h9
theorem rgT_fl : ∀ Rs : List (List Nat), (Rs.map (rgT w ν l)).flatten = rgT w ν l Rs.flatten
  | [] => rfl
  | R :: Rs => by
    rw [List.map_cons, List.flatten_cons, List.flatten_cons, rgT_fl Rs]
    unfold rgT
    rw [List.flatMap_append]
theorem rgT_mem {R : List Nat} {p : tk9} : p ∈ rgT w ν l R ↔ ∃ s, s ∈ R ∧ (p = (s, 2) ∨ p ∈ rtk w ν s l) := by
  unfold rgT
  rw [List.mem_flatMap]
  exact ⟨fun ⟨s, h1, h2⟩ => ⟨s, h1, List.mem_cons.mp h2⟩, fun ⟨s, h1, h2⟩ => ⟨s, h1, List.mem_cons.mpr h2⟩⟩
theorem rtk_2 {p : tk9} {i : Nat} (h : p ∈ rtk w ν s i) : p.2 < 2 := by
  obtain ⟨k, -, -, rfl⟩ := rtk_mem.mp h
  show (if psn w s k = w k then 1 else 0) < 2
  split
  · decide
  · decide
theorem rtk_nd : ∀ i, (∀ j k, j < i → k < i → ν j = ν k → j = k) → (rtk w ν s i).Nodup
  | 0, _ => List.nodup_nil
  | i + 1, hν => by
    have ih := rtk_nd i (fun j k hj hk => hν j k (by omega) (by omega))
    by_cases h : onL w s i
    · rw [rtk_on h]
      refine List.nodup_append.mpr ⟨ih, List.nodup_cons.mpr ⟨List.not_mem_nil, List.nodup_nil⟩, fun a ha b hb e => ?_⟩
      obtain ⟨k, hk, -, rfl⟩ := rtk_mem.mp ha
      rw [List.mem_singleton.mp hb] at e
      have := hν k i (by omega) (by omega) (Prod.mk.inj e).1
      omega
    · rw [rtk_off h]
      exact ih
theorem rtk_uni {t : Nat} {p : tk9} (hν : ∀ j k, j < l → k < l → ν j = ν k → j = k) (h1 : p ∈ rtk w ν s l) (h2 : p ∈ rtk w ν t l) : s = t := by
  obtain ⟨k, k1, k2, k3⟩ := rtk_mem.mp h1
  obtain ⟨j, j1, j2, j3⟩ := rtk_mem.mp h2
  rw [k3] at j3
  obtain ⟨e1, e2⟩ := Prod.mk.inj j3
  have e := hν k j k1 j1 e1
  subst e
  refine psn_inj (w := w) k ?_
  by_cases c : psn w s k = w k
  · by_cases d : psn w t k = w k
    · rw [c, d]
    · rw [if_pos c, if_neg d] at e2
      exact absurd e2 (by decide)
  · by_cases d : psn w t k = w k
    · rw [if_neg c, if_pos d] at e2
      exact absurd e2 (by decide)
    · rcases k2 with k2 | k2
      · exact absurd k2 c
      · rcases j2 with j2 | j2
        · exact absurd j2 d
        · rw [k2, j2]
theorem rgT_nd (hν : ∀ j k, j < l → k < l → ν j = ν k → j = k) : ∀ {R : List Nat}, R.Nodup → (rgT w ν l R).Nodup
  | [], _ => List.nodup_nil
  | a :: R, h => by
    obtain ⟨h1, h2⟩ := List.nodup_cons.mp h
    have e : rgT w ν l (a :: R) = ((a, 2) :: rtk w ν a l) ++ rgT w ν l R := by
      unfold rgT
      rw [List.flatMap_cons]
    rw [e]
    refine List.nodup_append.mpr ⟨List.nodup_cons.mpr ⟨fun h9 => absurd (rtk_2 h9) (Nat.lt_irrefl 2), rtk_nd l hν⟩, rgT_nd hν h2, fun p hp q hq e => ?_⟩
    rw [← e] at hq
    obtain ⟨t, ht, hq2⟩ := rgT_mem.mp hq
    rcases List.mem_cons.mp hp with hp | hp
    · rcases hq2 with hq2 | hq2
      · rw [hp] at hq2
        have := (Prod.mk.inj hq2).1
        exact h1 (by rw [this]; exact ht)
      · have := rtk_2 hq2
        rw [hp] at this
        exact absurd this (Nat.lt_irrefl 2)
    · rcases hq2 with hq2 | hq2
      · have := rtk_2 hp
        rw [hq2] at this
        exact absurd this (Nat.lt_irrefl 2)
      · have := rtk_uni hν hp hq2
        exact h1 (by rw [this]; exact ht)
/-- the closed braid has an order -/
theorem cl_orz {Rs : List (List Nat)} (hw : ∀ i, i < l → w i + 1 < n) (hν : ∀ i j, i < l → j < l → ν i = ν j → i = j) (hQ : clQ w n l Rs) (hall : ∀ s, s < n → s ∈ Rs.flatten) : orz n (wdN w ν l) (Rs.map (rgT w ν l)) := by
  refine ⟨fun c hc => ?_, ?_, fun p => ?_⟩
  · obtain ⟨R, hR, rfl⟩ := List.mem_map.mp hc
    obtain ⟨hne, j, h1, h2, h3, h4⟩ := hQ.2.2 R hR
    cases R with
    | nil => exact absurd rfl hne
    | cons c R =>
      have e := h4 c R rfl
      obtain ⟨r, e1, hp⟩ := rg_pth (w := w) hν R c j h1 h2
      rw [← e] at hp
      exact ⟨(c, 2), r, e1, hp⟩
  · rw [rgT_fl]
    exact rgT_nd hν hQ.1
  · rw [rgT_fl, rgT_mem]
    constructor
    · rintro ⟨s, h1, h2 | h2⟩
      · rw [h2]
        exact Or.inl ⟨rfl, hQ.2.1 s h1⟩
      · refine Or.inr ⟨rtk_2 h2, ?_⟩
        obtain ⟨k, k1, -, k3⟩ := rtk_mem.mp h2
        rw [k3]
        exact wdN_nm.mpr ⟨k, k1, rfl⟩
    · rintro (⟨h1, h2⟩ | ⟨h1, h2⟩)
      · obtain ⟨a, i⟩ := p
        have h1 : i = 2 := h1
        exact ⟨a, hall a h2, Or.inl (by rw [h1])⟩
      · obtain ⟨k, k1, k2⟩ := wdN_nm.mp h2
        obtain ⟨a, i⟩ := p
        have h1 : i < 2 := h1
        have k2 : a = ν k := k2
        have hk := hw k k1
        rcases (show i = 1 ∨ i = 0 by omega) with e | e
        · obtain ⟨s, s1, s2⟩ := psn_sur k (w k) (by omega) (fun j hj => hw j (by omega))
          refine ⟨s, hall s s1, Or.inr (rtk_mem.mpr ⟨k, k1, Or.inl s2, ?_⟩)⟩
          rw [if_pos s2, k2, e]
        · obtain ⟨s, s1, s2⟩ := psn_sur k (w k + 1) hk (fun j hj => hw j (by omega))
          refine ⟨s, hall s s1, Or.inr (rtk_mem.mpr ⟨k, k1, Or.inr s2, ?_⟩)⟩
          rw [if_neg (by omega), k2, e]
theorem pj_rt : ∀ i, (∀ k, k < i → ov (ν k) = lp k) → pjz ov (rtk w ν s i) = (rnL w lp s i).map (nmf ν)
  | 0, _ => rfl
  | i + 1, h => by
    have ih := pj_rt i (fun k hk => h k (by omega))
    by_cases c : onL w s i
    · rw [rtk_on c, rnL_on c, pjz_a, List.map_append, ih]
      refine congrArg _ ?_
      rw [pjz_v (p := (ν i, if psn w s i = w i then 1 else 0)) (by show (if psn w s i = w i then 1 else 0) ≠ 2; split <;> decide)]
      show [(ν i, if decide ((if psn w s i = w i then 1 else 0) = 1) = ov (ν i) then 0 else 1)] = [(ν i, ubn w lp s i)]
      unfold ubn
      rw [h i (Nat.lt_succ_self i)]
      by_cases d : psn w s i = w i
      · rw [if_pos d, decide_eq_true d, decide_eq_true rfl]
      · rw [if_neg d, decide_eq_false d, decide_eq_false (by decide)]
    · rw [rtk_off c, (rnL_off (lp := lp) c).1]
      exact ih
theorem pj_rg (h : ∀ k, k < l → ov (ν k) = lp k) : ∀ R : List Nat, pjz ov (rgT w ν l R) = (R.flatMap (fun s => rnL w lp s l)).map (nmf ν)
  | [] => rfl
  | a :: R => by
    have e : rgT w ν l (a :: R) = ((a, 2) :: rtk w ν a l) ++ rgT w ν l R := by
      unfold rgT
      rw [List.flatMap_cons]
    rw [e, pjz_a, pjz_m (p := (a, 2)) rfl, pj_rt l h, pj_rg h R, List.flatMap_cons, List.map_append]
theorem cl_bdz {Rs : List (List Nat)} {sg : Nat → Bool} (hw : ∀ i, i < l → w i + 1 < n) (hν : ∀ i j, i < l → j < l → ν i = ν j → i = j) (hQ : clQ w n l Rs) (hall : ∀ s, s < n → s ∈ Rs.flatten) (ho : ∀ k, k < l → ov (ν k) = lp k) (hs : ∀ k, k < l → sg (ν k) = !lp k) : bdz n (wdN w ν l) ov ((rgS w lp l Rs).map (List.map (nmf ν))) sg := by
  refine ⟨okN hw hν, ⟨_, cl_orz hw hν hQ hall, ?_⟩, fun x hx => ?_⟩
  · unfold rgS
    rw [List.map_map, List.map_map]
    exact List.map_congr_left (fun R _ => (pj_rg ho R).symm)
  · obtain ⟨k, k1, rfl⟩ := wdN_nm.mp hx
    rw [hs k k1, ho k k1]
end XTWI
end
