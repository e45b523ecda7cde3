/-! two: orders of a closed braid: turned, permuted, smoothed -/
section XTW3
variable {n : Nat} {W A B : wd9} {L L' P Q M : List (List tk9)}
theorem orz_of (h : orz n W L) (hc : ∀ c, c ∈ L' → cyz (sgm W) c) (hp : L'.flatten.Perm L.flatten) : orz n W L' := ⟨hc, hp.nodup_iff.mpr h.2.1, fun p => hp.mem_iff.trans (h.2.2 p)⟩
theorem orz_t {a b : List tk9} (h : orz n W (P ++ (a ++ b) :: Q)) : orz n W (P ++ (b ++ a) :: Q) := by
  refine orz_of h (fun c hc => ?_) ?_
  · rcases List.mem_append.mp hc with h1 | h1
    · exact h.1 c (List.mem_append_left _ h1)
    · rcases List.mem_cons.mp h1 with h3 | h3
      · rw [h3]
        exact cyz_r (h.1 _ (List.mem_append_right _ List.mem_cons_self))
      · exact h.1 c (List.mem_append_right _ (List.mem_cons_of_mem _ h3))
  · refine List.perm_iff_count.mpr (fun t => ?_)
    simp only [List.flatten_append, List.flatten_cons, List.count_append]
    omega
theorem orz_p (hp : L'.Perm L) (h : orz n W L) : orz n W L' := orz_of h (fun c hc => h.1 c (hp.mem_iff.mp hc)) hp.flatten
theorem nm_a : nmz (B ++ A) = nmz B ++ nmz A := List.map_append
theorem okw_d {g x : Nat} (h : okw n (B ++ (g, x) :: A)) : x ∉ nmz A ∧ x ∉ nmz B ∧ okw n (B ++ A) := by
  obtain ⟨h1, h2⟩ := h
  rw [nm_a] at h2
  have e : nmz ((g, x) :: A) = x :: nmz A := rfl
  rw [e] at h2
  obtain ⟨k1, k2, k3⟩ := List.nodup_append.mp h2
  refine ⟨(List.nodup_cons.mp k2).1, fun h9 => k3 x h9 x List.mem_cons_self rfl, fun l hl => h1 l ?_, ?_⟩
  · rcases List.mem_append.mp hl with h9 | h9
    · exact List.mem_append_left _ h9
    · exact List.mem_append_right _ (List.mem_cons_of_mem _ h9)
  · rw [nm_a]
    exact List.nodup_append.mpr ⟨k1, (List.nodup_cons.mp k2).2, fun a ha b hb => k3 a ha b (List.mem_cons_of_mem _ hb)⟩
theorem tkz_d {g x : Nat} {p : tk9} (hA : x ∉ nmz A) (hB : x ∉ nmz B) : tkz n (B ++ A) p ↔ tkz n (B ++ (g, x) :: A) p ∧ nov x p := by
  have e : ∀ y, y ∈ nmz (B ++ (g, x) :: A) ↔ y = x ∨ y ∈ nmz (B ++ A) := fun y => by
    rw [nm_a, nm_a, List.mem_append, List.mem_append, show nmz ((g, x) :: A) = x :: nmz A from rfl, List.mem_cons]
    constructor
    · rintro (h | h | h)
      · exact Or.inr (Or.inl h)
      · exact Or.inl h
      · exact Or.inr (Or.inr h)
    · rintro (h | h | h)
      · exact Or.inr (Or.inl h)
      · exact Or.inl h
      · exact Or.inr (Or.inr h)
  have hx : x ∉ nmz (B ++ A) := fun h9 => by
    rw [nm_a] at h9
    exact (List.mem_append.mp h9).elim hB hA
  obtain ⟨y, i⟩ := p
  constructor
  · rintro (⟨h1, h2⟩ | ⟨h1, h2⟩)
    · have h1 : i = 2 := h1
      subst h1
      exact ⟨Or.inl ⟨rfl, h2⟩, nov_m⟩
    · exact ⟨Or.inr ⟨h1, (e y).mpr (Or.inr h2)⟩, nov_n (fun h9 => hx (by rw [← h9]; exact h2))⟩
  · rintro ⟨⟨h1, h2⟩ | ⟨h1, h2⟩, h3⟩
    · exact Or.inl ⟨h1, h2⟩
    · refine Or.inr ⟨h1, ?_⟩
      rcases (e y).mp h2 with h4 | h4
      · exfalso
        have h1 : i < 2 := h1
        rcases (show i = 0 ∨ i = 1 by omega) with rfl | rfl
        · exact h3.2 (by rw [h4])
        · exact h3.1 (by rw [h4])
      · exact h4
theorem pth_d {g x : Nat} (hA : x ∉ nmz A) (hB : x ∉ nmz B) : ∀ {r : List tk9} {p q : tk9}, pth (sgm (B ++ (g, x) :: A)) p r q → nov x p → (∀ t, t ∈ r → nov x t) → pth (sgm (B ++ A)) p r (exz (sgm (B ++ (g, x) :: A)) x q)
  | [], p, q, h, hp, _ => by
    have h : sgm (B ++ (g, x) :: A) p = q := h
    show sgm (B ++ A) p = _
    rw [sgm_d (g := g) hA hB hp, h]
  | a :: r, p, q, h, hp, hr => by
    refine ⟨?_, pth_d hA hB h.2 (hr a List.mem_cons_self) (fun t ht => hr t (List.mem_cons_of_mem _ ht))⟩
    rw [sgm_d (g := g) hA hB hp, h.1, exz_o (hr a List.mem_cons_self)]
theorem cyz_d {g x : Nat} {c : List tk9} (hA : x ∉ nmz A) (hB : x ∉ nmz B) (h : cyz (sgm (B ++ (g, x) :: A)) c) (hn : ∀ t, t ∈ c → nov x t) : cyz (sgm (B ++ A)) c := by
  obtain ⟨p, r, rfl, hp⟩ := h
  have hp0 := hn p List.mem_cons_self
  have := pth_d hA hB hp hp0 (fun t ht => hn t (List.mem_cons_of_mem _ ht))
  rw [exz_o hp0] at this
  exact ⟨p, r, rfl, this⟩
theorem orz_d {g x : Nat} (ho : okw n (B ++ (g, x) :: A)) (h : orz n (B ++ (g, x) :: A) L) (hp : L.flatten.Perm ((x, 1) :: (x, 0) :: L'.flatten)) (hc : ∀ c, c ∈ L' → cyz (sgm (B ++ A)) c) : orz n (B ++ A) L' := by
  obtain ⟨hA, hB, -⟩ := okw_d ho
  have hn := hp.nodup_iff.mp h.2.1
  rw [List.nodup_cons, List.nodup_cons] at hn
  refine ⟨hc, hn.2.2, fun p => ?_⟩
  rw [tkz_d (g := g) hA hB, ← h.2.2 p, hp.mem_iff, List.mem_cons, List.mem_cons]
  constructor
  · intro h9
    exact ⟨Or.inr (Or.inr h9), fun h8 => hn.1 (by rw [← h8]; exact List.mem_cons_of_mem _ h9), fun h8 => hn.2.1 (by rw [← h8]; exact h9)⟩
  · rintro ⟨h9 | h9 | h9, k1, k2⟩
    · exact absurd h9 k1
    · exact absurd h9 k2
    · exact h9
/-- who isn't in the two ends of x -/
theorem nov_in {g x i : Nat} {a b : List tk9} (hi : i < 2) (h : (a ++ (x, i) :: b).Nodup) (h2 : (x, 1 - i) ∉ a ++ b) : ∀ t, t ∈ a ++ b → nov x t := fun t ht => by
  have h3 : (x, i) ∉ a ++ b := fun h9 => by
    obtain ⟨k1, k2, k3⟩ := List.nodup_append.mp h
    rcases List.mem_append.mp h9 with h8 | h8
    · exact k3 _ h8 _ List.mem_cons_self rfl
    · exact (List.nodup_cons.mp k2).1 h8
  rcases (show i = 0 ∨ i = 1 by omega) with rfl | rfl
  · exact ⟨fun h9 => h2 (by rw [h9] at ht; exact ht), fun h9 => h3 (by rw [h9] at ht; exact ht)⟩
  · exact ⟨fun h9 => h3 (by rw [h9] at ht; exact ht), fun h9 => h2 (by rw [h9] at ht; exact ht)⟩
theorem prm_x {x i : Nat} {l : List tk9} (hi : i < 2) : ((x, i) :: (x, 1 - i) :: l).Perm ((x, 1) :: (x, 0) :: l) := by
  rcases (show i = 0 ∨ i = 1 by omega) with rfl | rfl
  · exact List.Perm.swap _ _ _
  · exact List.Perm.refl _
/-- smoothed within a component -/
theorem orz_s1 {g x i : Nat} {X Y Z : List tk9} (ho : okw n (B ++ (g, x) :: A)) (hi : i < 2) (h : orz n (B ++ (g, x) :: A) (P ++ (X ++ (x, i) :: (Y ++ (x, 1 - i) :: Z)) :: Q)) : orz n (B ++ A) (P ++ (X ++ Z) :: Y :: Q) := by
  obtain ⟨hA, hB, -⟩ := okw_d ho
  have hp : (P ++ (X ++ (x, i) :: (Y ++ (x, 1 - i) :: Z)) :: Q).flatten.Perm ((x, i) :: (x, 1 - i) :: (P ++ (X ++ Z) :: Y :: Q).flatten) := by
    refine List.perm_iff_count.mpr (fun t => ?_)
    simp only [List.flatten_append, List.flatten_cons, List.count_append, List.count_cons]
    omega
  have hn := (hp.trans (prm_x hi)).nodup_iff.mp h.2.1
  have nv : ∀ t, t ∈ (P ++ (X ++ Z) :: Y :: Q).flatten → nov x t := fun t ht => by
    rw [List.nodup_cons, List.nodup_cons] at hn
    exact ⟨fun h8 => hn.1 (by rw [← h8]; exact List.mem_cons_of_mem _ ht), fun h8 => hn.2.1 (by rw [← h8]; exact ht)⟩
  have nc : ∀ c, c ∈ P ++ (X ++ Z) :: Y :: Q → ∀ t, t ∈ c → nov x t := fun c hc t ht => nv t (List.mem_flatten.mpr ⟨c, hc, ht⟩)
  have h0 := h.1 _ (List.mem_append_right P List.mem_cons_self)
  have h1 : cyz (sgm (B ++ (g, x) :: A)) ((x, i) :: (Y ++ (x, 1 - i) :: (Z ++ X))) := by
    have := cyz_r h0
    simpa only [List.cons_append, List.append_assoc] using this
  obtain ⟨p, r, e, hq⟩ := h1
  obtain ⟨rfl, rfl⟩ := List.cons.inj e
  obtain ⟨q1, q2⟩ := pth_a.mp hq
  have mY : ∀ t, t ∈ Y → nov x t := nc Y (List.mem_append_right _ (List.mem_cons_of_mem _ List.mem_cons_self))
  have mX : ∀ t, t ∈ Z ++ X → nov x t := fun t ht => nc (X ++ Z) (List.mem_append_right _ List.mem_cons_self) t (by
    rcases List.mem_append.mp ht with h9 | h9
    · exact List.mem_append_right _ h9
    · exact List.mem_append_left _ h9)
  have part : ∀ {j : Nat} {c : List tk9}, j < 2 → pth (sgm (B ++ (g, x) :: A)) (x, j) c (x, 1 - j) → (∀ t, t ∈ c → nov x t) → cyz (sgm (B ++ A)) c := by
    intro j c hj hc hcn
    cases c with
    | nil =>
      exfalso
      have := sgm_x (A := A) (g := g) hj hB
      rw [show sgm (B ++ (g, x) :: A) (x, j) = (x, 1 - j) from hc] at this
      rcases (show j = 0 ∨ j = 1 by omega) with rfl | rfl
      · exact this.1 rfl
      · exact this.2 rfl
    | cons a c =>
      have h3 := pth_d hA hB hc.2 (hcn a List.mem_cons_self) (fun t ht => hcn t (List.mem_cons_of_mem _ ht))
      rw [exz_i (by omega), show 1 - (1 - j) = j by omega, hc.1] at h3
      exact ⟨a, c, rfl, h3⟩
  refine orz_d ho h (hp.trans (prm_x hi)) (fun c hc => ?_)
  rcases List.mem_append.mp hc with h9 | h9
  · exact cyz_d hA hB (h.1 c (List.mem_append_left _ h9)) (nc c hc)
  · rcases List.mem_cons.mp h9 with h8 | h8
    · rw [h8]
      exact cyz_r (part (j := 1 - i) (by omega) (by rw [show 1 - (1 - i) = i by omega]; exact q2) mX)
    · rcases List.mem_cons.mp h8 with h7 | h7
      · rw [h7]
        exact part hi q1 mY
      · exact cyz_d hA hB (h.1 c (List.mem_append_right _ (List.mem_cons_of_mem _ h7))) (nc c hc)
/-- smoothed between two components -/
theorem orz_s2 {g x i : Nat} {a1 a2 b1 b2 : List tk9} (ho : okw n (B ++ (g, x) :: A)) (hi : i < 2) (h : orz n (B ++ (g, x) :: A) (P ++ (a1 ++ (x, i) :: a2) :: (M ++ (b1 ++ (x, 1 - i) :: b2) :: Q))) : orz n (B ++ A) (P ++ (a1 ++ (b2 ++ (b1 ++ a2))) :: (M ++ Q)) := by
  obtain ⟨hA, hB, -⟩ := okw_d ho
  have hp : (P ++ (a1 ++ (x, i) :: a2) :: (M ++ (b1 ++ (x, 1 - i) :: b2) :: Q)).flatten.Perm ((x, i) :: (x, 1 - i) :: (P ++ (a1 ++ (b2 ++ (b1 ++ a2))) :: (M ++ Q)).flatten) := by
    refine List.perm_iff_count.mpr (fun t => ?_)
    simp only [List.flatten_append, List.flatten_cons, List.count_append, List.count_cons]
    omega
  have hn := (hp.trans (prm_x hi)).nodup_iff.mp h.2.1
  have nv : ∀ t, t ∈ (P ++ (a1 ++ (b2 ++ (b1 ++ a2))) :: (M ++ Q)).flatten → nov x t := fun t ht => by
    rw [List.nodup_cons, List.nodup_cons] at hn
    exact ⟨fun h8 => hn.1 (by rw [← h8]; exact List.mem_cons_of_mem _ ht), fun h8 => hn.2.1 (by rw [← h8]; exact ht)⟩
  have nc : ∀ c, c ∈ P ++ (a1 ++ (b2 ++ (b1 ++ a2))) :: (M ++ Q) → ∀ t, t ∈ c → nov x t := fun c hc t ht => nv t (List.mem_flatten.mpr ⟨c, hc, ht⟩)
  have nm : ∀ t, t ∈ a1 ++ (b2 ++ (b1 ++ a2)) → nov x t := nc _ (List.mem_append_right _ List.mem_cons_self)
  have h1 : cyz (sgm (B ++ (g, x) :: A)) ((x, i) :: (a2 ++ a1)) := cyz_r (h.1 _ (List.mem_append_right P List.mem_cons_self))
  have h2 : cyz (sgm (B ++ (g, x) :: A)) ((x, 1 - i) :: (b2 ++ b1)) := cyz_r (h.1 _ (List.mem_append_right P (List.mem_cons_of_mem _ (List.mem_append_right M List.mem_cons_self))))
  have m1 : ∀ t, t ∈ a2 ++ a1 → nov x t := fun t ht => nm t (by
    simp only [List.mem_append] at ht ⊢
    rcases ht with h9 | h9
    · exact Or.inr (Or.inr (Or.inr h9))
    · exact Or.inl h9)
  have m2 : ∀ t, t ∈ b2 ++ b1 → nov x t := fun t ht => nm t (by
    simp only [List.mem_append] at ht ⊢
    rcases ht with h9 | h9
    · exact Or.inr (Or.inl h9)
    · exact Or.inr (Or.inr (Or.inl h9)))
  generalize ea : a2 ++ a1 = a at h1 m1
  generalize eb : b2 ++ b1 = b at h2 m2
  obtain ⟨p, r, e, q1⟩ := h1
  obtain ⟨rfl, rfl⟩ := List.cons.inj e
  obtain ⟨p, r, e, q2⟩ := h2
  obtain ⟨rfl, rfl⟩ := List.cons.inj e
  have ne : ∀ {j : Nat} {c : List tk9}, j < 2 → pth (sgm (B ++ (g, x) :: A)) (x, j) c (x, j) → ∃ t c', c = t :: c' := by
    intro j c hj hc
    cases c with
    | nil =>
      exfalso
      have := sgm_x (A := A) (g := g) hj hB
      rw [show sgm (B ++ (g, x) :: A) (x, j) = (x, j) from hc] at this
      rcases (show j = 0 ∨ j = 1 by omega) with rfl | rfl
      · exact this.2 rfl
      · exact this.1 rfl
    | cons t c => exact ⟨t, c, rfl⟩
  obtain ⟨t1, c1, rfl⟩ := ne hi q1
  obtain ⟨t2, c2, rfl⟩ := ne (by omega) q2
  have k1 := pth_d hA hB q1.2 (m1 t1 List.mem_cons_self) (fun t ht => m1 t (List.mem_cons_of_mem _ ht))
  have k2 := pth_d hA hB q2.2 (m2 t2 List.mem_cons_self) (fun t ht => m2 t (List.mem_cons_of_mem _ ht))
  rw [exz_i hi, q2.1] at k1
  rw [exz_i (by omega), show 1 - (1 - i) = i by omega, q1.1] at k2
  have hnew : cyz (sgm (B ++ A)) ((a2 ++ a1) ++ (b2 ++ b1)) := by
    rw [ea, eb]
    exact ⟨t1, c1 ++ t2 :: c2, rfl, pth_a.mpr ⟨k1, k2⟩⟩
  refine orz_d ho h (hp.trans (prm_x hi)) (fun c hc => ?_)
  rcases List.mem_append.mp hc with h9 | h9
  · exact cyz_d hA hB (h.1 c (List.mem_append_left _ h9)) (nc c hc)
  · rcases List.mem_cons.mp h9 with h8 | h8
    · rw [h8]
      have := cyz_r (a := a2) (b := a1 ++ (b2 ++ b1)) (by simpa only [List.append_assoc] using hnew)
      simpa only [List.append_assoc] using this
    · refine cyz_d hA hB (h.1 c (List.mem_append_right _ (List.mem_cons_of_mem _ ?_))) (nc c hc)
      rcases List.mem_append.mp h8 with h7 | h7
      · exact List.mem_append_left _ h7
      · exact List.mem_append_right _ (List.mem_cons_of_mem _ h7)
end XTW3
