/-! two: the closed braid's own order -/
def wdN (w ν : Nat → Nat) : Nat → wd9
  | 0 => []
  | l + 1 => (w l, ν l) :: wdN w ν l
def rtk (w ν : Nat → Nat) (s : Nat) : Nat → List tk9
  | 0 => []
  | i + 1 => if psn w s i = w i ∨ psn w s i = w i + 1 then rtk w ν s i ++ [(ν i, if psn w s i = w i then 1 else 0)] else rtk w ν s i
def rgT (w ν : Nat → Nat) (l : Nat) (R : List Nat) : List tk9 := R.flatMap (fun s => (s, 2) :: rtk w ν s l)
def nmf (ν : Nat → Nat) (p : Nat × Nat) : Nat × Nat := (ν p.1, p.2)
section XTWI
variable {w ν : Nat → Nat} {lp ov : Nat → Bool} {s n l : Nat}
theorem rtk_on {i : Nat} (h : onL w s i) : rtk w ν s (i + 1) = rtk w ν s i ++ [(ν i, if psn w s i = w i then 1 else 0)] := if_pos h
theorem rtk_off {i : Nat} (h : ¬ onL w s i) : rtk w ν s (i + 1) = rtk w ν s i := if_neg h
theorem wdN_nm {x : Nat} : ∀ {l : Nat}, x ∈ nmz (wdN w ν l) ↔ ∃ k, k < l ∧ x = ν k
  | 0 => ⟨fun h => absurd h List.not_mem_nil, fun ⟨k, h, _⟩ => absurd h (Nat.not_lt_zero _)⟩
  | l + 1 => by
    show x ∈ ν l :: nmz (wdN w ν l) ↔ _
    rw [List.mem_cons, wdN_nm]
    constructor
    · rintro (h | ⟨k, h1, h2⟩)
      · exact ⟨l, Nat.lt_succ_self l, h⟩
      · exact ⟨k, by omega, h2⟩
    · rintro ⟨k, h1, h2⟩
      by_cases c : k = l
      · exact Or.inl (by rw [h2, c])
      · exact Or.inr ⟨k, by omega, h2⟩
theorem rtk_mem {p : tk9} : ∀ {i : Nat}, p ∈ rtk w ν s i ↔ ∃ k, k < i ∧ onL w s k ∧ p = (ν k, if psn w s k = w k then 1 else 0)
  | 0 => ⟨fun h => absurd h List.not_mem_nil, fun ⟨k, h, _⟩ => absurd h (Nat.not_lt_zero _)⟩
  | i + 1 => by
    by_cases h : onL w s i
    · rw [rtk_on h, List.mem_append, rtk_mem, List.mem_singleton]
      constructor
      · rintro (⟨k, h1, h2⟩ | e)
        · exact ⟨k, by omega, h2⟩
        · exact ⟨i, Nat.lt_succ_self _, h, e⟩
      · rintro ⟨k, h1, h2, h3⟩
        by_cases c : k = i
        · rw [c] at h3
          exact Or.inr h3
        · exact Or.inl ⟨k, by omega, h2, h3⟩
    · rw [rtk_off h, rtk_mem]
      constructor
      · rintro ⟨k, h1, h2⟩
        exact ⟨k, by omega, h2⟩
      · rintro ⟨k, h1, h2, h3⟩
        by_cases c : k = i
        · rw [c] at h2
          exact absurd h2 h
        · exact ⟨k, by omega, h2, h3⟩
theorem okN : ∀ {l : Nat}, (∀ i, i < l → w i + 1 < n) → (∀ i j, i < l → j < l → ν i = ν j → i = j) → okw n (wdN w ν l)
  | 0, _, _ => ⟨fun m hm => absurd hm List.not_mem_nil, List.nodup_nil⟩
  | l + 1, hw, hν => by
    have ih := okN (l := l) (fun i hi => hw i (by omega)) (fun i j hi hj => hν i j (by omega) (by omega))
    refine ⟨fun m hm => ?_, ?_⟩
    · rcases List.mem_cons.mp hm with h | h
      · rw [h]
        exact hw l (Nat.lt_succ_self l)
      · exact ih.1 m h
    · show (ν l :: nmz (wdN w ν l)).Nodup
      refine List.nodup_cons.mpr ⟨fun h => ?_, ih.2⟩
      obtain ⟨k, h1, h2⟩ := wdN_nm.mp h
      have := hν l k (Nat.lt_succ_self l) (by omega) h2
      omega
theorem pth_th {W : wd9} {g x : Nat} : ∀ {r : List tk9} {p q : tk9}, pth (sgm W) p r q → nov x p → (∀ t, t ∈ r → nov x t ∧ t.2 ≠ 2) → pth (sgm ((g, x) :: W)) p r (thz g x q)
  | [], p, q, h, hp, _ => by
    have h : sgm W p = q := h
    show sgm ((g, x) :: W) p = thz g x q
    rw [sgm_o (l := (g, x)) hp.1 hp.2, h]
  | a :: r, p, q, h, hp, hr => by
    have ha := hr a List.mem_cons_self
    refine ⟨?_, pth_th h.2 ha.1 (fun t ht => hr t (List.mem_cons_of_mem _ ht))⟩
    rw [sgm_o (l := (g, x)) hp.1 hp.2, h.1]
    exact thz_v ha.2
theorem rt_pth : ∀ i, (∀ j k, j < i → k < i → ν j = ν k → j = k) → pth (sgm (wdN w ν i)) (s, 2) (rtk w ν s i) (psn w s i, 2)
  | 0, _ => rfl
  | i + 1, hν => by
    have ih := rt_pth i (fun j k hj hk => hν j k (by omega) (by omega))
    have nv9 : ∀ t, t ∈ rtk w ν s i → nov (ν i) t ∧ t.2 ≠ 2 := fun t ht => by
      obtain ⟨k, hk, -, rfl⟩ := rtk_mem.mp ht
      refine ⟨nov_n (fun h9 => ?_), ?_⟩
      · have := hν k i (by omega) (by omega) h9
        omega
      · show (if psn w s k = w k then 1 else 0) ≠ 2
        split
        · decide
        · decide
    have h1 := pth_th (g := w i) (x := ν i) ih nov_m nv9
    show pth (sgm ((w i, ν i) :: wdN w ν i)) (s, 2) (rtk w ν s (i + 1)) (psn w s (i + 1), 2)
    by_cases h : onL w s i
    · rw [rtk_on h]
      have e2 : psn w s (i + 1) = sw2 (w i) (w i + 1) (psn w s i) := rfl
      by_cases c : psn w s i = w i
      · rw [if_pos c]
        rw [c, thz_1] at h1
        refine pth_a.mpr ⟨h1, ?_⟩
        show sgm ((w i, ν i) :: wdN w ν i) (ν i, 1) = (psn w s (i + 1), 2)
        rw [e2, c]
        unfold sw2
        rw [if_pos rfl]
        exact sgm_1 (l := (w i, ν i))
      · have c2 : psn w s i = w i + 1 := h.elim (fun h9 => absurd h9 c) id
        rw [if_neg c]
        rw [c2, thz_0] at h1
        refine pth_a.mpr ⟨h1, ?_⟩
        show sgm ((w i, ν i) :: wdN w ν i) (ν i, 0) = (psn w s (i + 1), 2)
        rw [e2, c2]
        unfold sw2
        rw [if_neg (by omega), if_pos rfl]
        exact sgm_0 (l := (w i, ν i))
    · rw [rtk_off h, (rnL_off (lp := fun _ => true) h).2]
      rw [thz_o (p := (psn w s i, 2)) (mk_ne (fun h9 => h (Or.inl h9))) (mk_ne (fun h9 => h (Or.inr h9)))] at h1
      exact h1
theorem rg_pth (hν : ∀ j k, j < l → k < l → ν j = ν k → j = k) : ∀ (R : List Nat) (c a : Nat), (∀ X c' d Y, c :: R = X ++ c' :: d :: Y → psn w c' l = d) → (∀ X c', c :: R = X ++ [c'] → psn w c' l = a) → ∃ r, rgT w ν l (c :: R) = (c, 2) :: r ∧ pth (sgm (wdN w ν l)) (c, 2) r (a, 2)
  | [], c, a, _, h2 => by
    refine ⟨rtk w ν c l, ?_, ?_⟩
    · unfold rgT
      rw [List.flatMap_cons]
      show ((c, 2) :: rtk w ν c l) ++ [] = _
      rw [List.append_nil]
    · have h9 := rt_pth (s := c) (w := w) l hν
      rw [h2 [] c rfl] at h9
      exact h9
  | d :: R, c, a, h1, h2 => by
    obtain ⟨r, e, hp⟩ := rg_pth hν R d a (fun X c' d' Y e => h1 (c :: X) c' d' Y (by rw [e]; rfl)) (fun X c' e => h2 (c :: X) c' (by rw [e]; rfl))
    refine ⟨rtk w ν c l ++ (d, 2) :: r, ?_, pth_a.mpr ⟨?_, hp⟩⟩
    · show rgT w ν l (c :: d :: R) = _
      unfold rgT at e ⊢
      rw [List.flatMap_cons, e]
      rfl
    · have h9 := rt_pth (s := c) (w := w) l hν
      rw [h1 [] c d R rfl] at h9
      exact h9
theorem rgT_fl : ∀ Rs : List (List Nat), (Rs.map (rgT w ν l)).flatten = rgT w ν l Rs.flatten
  | [] => rfl
  | R :: Rs => by
    rw [List.map_cons, List.flatten_cons, List.flatten_cons, rgT_fl Rs]
    unfold rgT
    rw [List.flatMap_append]
theorem rgT_mem {R : List Nat} {p : tk9} : p ∈ rgT w ν l R ↔ ∃ s, s ∈ R ∧ (p = (s, 2) ∨ p ∈ rtk w ν s l) := by
  unfold rgT
  rw [List.mem_flatMap]
  exact ⟨fun ⟨s, h1, h2⟩ => ⟨s, h1, List.mem_cons.mp h2⟩, fun ⟨s, h1, h2⟩ => ⟨s, h1, List.mem_cons.mpr h2⟩⟩
theorem rtk_2 {p : tk9} {i : Nat} (h : p ∈ rtk w ν s i) : p.2 < 2 := by
  obtain ⟨k, -, -, rfl⟩ := rtk_mem.mp h
  show (if psn w s k = w k then 1 else 0) < 2
  split
  · decide
  · decide
theorem rtk_nd : ∀ i, (∀ j k, j < i → k < i → ν j = ν k → j = k) → (rtk w ν s i).Nodup
  | 0, _ => List.nodup_nil
  | i + 1, hν => by
    have ih := rtk_nd i (fun j k hj hk => hν j k (by omega) (by omega))
    by_cases h : onL w s i
    · rw [rtk_on h]
      refine List.nodup_append.mpr ⟨ih, List.nodup_cons.mpr ⟨List.not_mem_nil, List.nodup_nil⟩, fun a ha b hb e => ?_⟩
      obtain ⟨k, hk, -, rfl⟩ := rtk_mem.mp ha
      rw [List.mem_singleton.mp hb] at e
      have := hν k i (by omega) (by omega) (Prod.mk.inj e).1
      omega
    · rw [rtk_off h]
      exact ih
theorem rtk_uni {t : Nat} {p : tk9} (hν : ∀ j k, j < l → k < l → ν j = ν k → j = k) (h1 : p ∈ rtk w ν s l) (h2 : p ∈ rtk w ν t l) : s = t := by
  obtain ⟨k, k1, k2, k3⟩ := rtk_mem.mp h1
  obtain ⟨j, j1, j2, j3⟩ := rtk_mem.mp h2
  rw [k3] at j3
  obtain ⟨e1, e2⟩ := Prod.mk.inj j3
  have e := hν k j k1 j1 e1
  subst e
  refine psn_inj (w := w) k ?_
  by_cases c : psn w s k = w k
  · by_cases d : psn w t k = w k
    · rw [c, d]
    · rw [if_pos c, if_neg d] at e2
      exact absurd e2 (by decide)
  · by_cases d : psn w t k = w k
    · rw [if_neg c, if_pos d] at e2
      exact absurd e2 (by decide)
    · rcases k2 with k2 | k2
      · exact absurd k2 c
      · rcases j2 with j2 | j2
        · exact absurd j2 d
        · rw [k2, j2]
theorem rgT_nd (hν : ∀ j k, j < l → k < l → ν j = ν k → j = k) : ∀ {R : List Nat}, R.Nodup → (rgT w ν l R).Nodup
  | [], _ => List.nodup_nil
  | a :: R, h => by
    obtain ⟨h1, h2⟩ := List.nodup_cons.mp h
    have e : rgT w ν l (a :: R) = ((a, 2) :: rtk w ν a l) ++ rgT w ν l R := by
      unfold rgT
      rw [List.flatMap_cons]
    rw [e]
    refine List.nodup_append.mpr ⟨List.nodup_cons.mpr ⟨fun h9 => absurd (rtk_2 h9) (Nat.lt_irrefl 2), rtk_nd l hν⟩, rgT_nd hν h2, fun p hp q hq e => ?_⟩
    rw [← e] at hq
    obtain ⟨t, ht, hq2⟩ := rgT_mem.mp hq
    rcases List.mem_cons.mp hp with hp | hp
    · rcases hq2 with hq2 | hq2
      · rw [hp] at hq2
        have := (Prod.mk.inj hq2).1
        exact h1 (by rw [this]; exact ht)
      · have := rtk_2 hq2
        rw [hp] at this
        exact absurd this (Nat.lt_irrefl 2)
    · rcases hq2 with hq2 | hq2
      · have := rtk_2 hp
        rw [hq2] at this
        exact absurd this (Nat.lt_irrefl 2)
      · have := rtk_uni hν hp hq2
        exact h1 (by rw [this]; exact ht)
/-- the closed braid has an order -/
theorem cl_orz {Rs : List (List Nat)} (hw : ∀ i, i < l → w i + 1 < n) (hν : ∀ i j, i < l → j < l → ν i = ν j → i = j) (hQ : clQ w n l Rs) (hall : ∀ s, s < n → s ∈ Rs.flatten) : orz n (wdN w ν l) (Rs.map (rgT w ν l)) := by
  refine ⟨fun c hc => ?_, ?_, fun p => ?_⟩
  · obtain ⟨R, hR, rfl⟩ := List.mem_map.mp hc
    obtain ⟨hne, j, h1, h2, h3, h4⟩ := hQ.2.2 R hR
    cases R with
    | nil => exact absurd rfl hne
    | cons c R =>
      have e := h4 c R rfl
      obtain ⟨r, e1, hp⟩ := rg_pth (w := w) hν R c j h1 h2
      rw [← e] at hp
      exact ⟨(c, 2), r, e1, hp⟩
  · rw [rgT_fl]
    exact rgT_nd hν hQ.1
  · rw [rgT_fl, rgT_mem]
    constructor
    · rintro ⟨s, h1, h2 | h2⟩
      · rw [h2]
        exact Or.inl ⟨rfl, hQ.2.1 s h1⟩
      · refine Or.inr ⟨rtk_2 h2, ?_⟩
        obtain ⟨k, k1, -, k3⟩ := rtk_mem.mp h2
        rw [k3]
        exact wdN_nm.mpr ⟨k, k1, rfl⟩
    · rintro (⟨h1, h2⟩ | ⟨h1, h2⟩)
      · obtain ⟨a, i⟩ := p
        have h1 : i = 2 := h1
        exact ⟨a, hall a h2, Or.inl (by rw [h1])⟩
      · obtain ⟨k, k1, k2⟩ := wdN_nm.mp h2
        obtain ⟨a, i⟩ := p
        have h1 : i < 2 := h1
        have k2 : a = ν k := k2
        have hk := hw k k1
        rcases (show i = 1 ∨ i = 0 by omega) with e | e
        · obtain ⟨s, s1, s2⟩ := psn_sur k (w k) (by omega) (fun j hj => hw j (by omega))
          refine ⟨s, hall s s1, Or.inr (rtk_mem.mpr ⟨k, k1, Or.inl s2, ?_⟩)⟩
          rw [if_pos s2, k2, e]
        · obtain ⟨s, s1, s2⟩ := psn_sur k (w k + 1) hk (fun j hj => hw j (by omega))
          refine ⟨s, hall s s1, Or.inr (rtk_mem.mpr ⟨k, k1, Or.inr s2, ?_⟩)⟩
          rw [if_neg (by omega), k2, e]
theorem pj_rt : ∀ i, (∀ k, k < i → ov (ν k) = lp k) → pjz ov (rtk w ν s i) = (rnL w lp s i).map (nmf ν)
  | 0, _ => rfl
  | i + 1, h => by
    have ih := pj_rt i (fun k hk => h k (by omega))
    by_cases c : onL w s i
    · rw [rtk_on c, rnL_on c, pjz_a, List.map_append, ih]
      refine congrArg _ ?_
      rw [pjz_v (p := (ν i, if psn w s i = w i then 1 else 0)) (by show (if psn w s i = w i then 1 else 0) ≠ 2; split <;> decide)]
      show [(ν i, if decide ((if psn w s i = w i then 1 else 0) = 1) = ov (ν i) then 0 else 1)] = [(ν i, ubn w lp s i)]
      unfold ubn
      rw [h i (Nat.lt_succ_self i)]
      by_cases d : psn w s i = w i
      · rw [if_pos d, decide_eq_true d, decide_eq_true rfl]
      · rw [if_neg d, decide_eq_false d, decide_eq_false (by decide)]
    · rw [rtk_off c, (rnL_off (lp := lp) c).1]
      exact ih
theorem pj_rg (h : ∀ k, k < l → ov (ν k) = lp k) : ∀ R : List Nat, pjz ov (rgT w ν l R) = (R.flatMap (fun s => rnL w lp s l)).map (nmf ν)
  | [] => rfl
  | a :: R => by
    have e : rgT w ν l (a :: R) = ((a, 2) :: rtk w ν a l) ++ rgT w ν l R := by
      unfold rgT
      rw [List.flatMap_cons]
    rw [e, pjz_a, pjz_m (p := (a, 2)) rfl, pj_rt l h, pj_rg h R, List.flatMap_cons, List.map_append]
theorem cl_bdz {Rs : List (List Nat)} {sg : Nat → Bool} (hw : ∀ i, i < l → w i + 1 < n) (hν : ∀ i j, i < l → j < l → ν i = ν j → i = j) (hQ : clQ w n l Rs) (hall : ∀ s, s < n → s ∈ Rs.flatten) (ho : ∀ k, k < l → ov (ν k) = lp k) (hs : ∀ k, k < l → sg (ν k) = !lp k) : bdz n (wdN w ν l) ov ((rgS w lp l Rs).map (List.map (nmf ν))) sg := by
  refine ⟨okN hw hν, ⟨_, cl_orz hw hν hQ hall, ?_⟩, fun x hx => ?_⟩
  · unfold rgS
    rw [List.map_map, List.map_map]
    exact List.map_congr_left (fun R _ => (pj_rg ho R).symm)
  · obtain ⟨k, k1, rfl⟩ := wdN_nm.mp hx
    rw [hs k k1, ho k k1]
end XTWI
