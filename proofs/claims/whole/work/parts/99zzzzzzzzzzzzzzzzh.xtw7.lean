/-! two: names do not matter -/
theorem skR_eq {V V' : (Nat → Bool) → pz9} {G : Nat → (Nat → Bool) → pz9} {R : (Nat → Bool) → Prop} : ∀ (S : List Nat), (∀ ov y, R ov → y ∈ S → R (flz ov y)) → (∀ ov y, R ov → y ∈ S → V ov = skz (ov y) (V (flz ov y)) (G y ov)) → (∀ ov y, R ov → y ∈ S → V' ov = skz (ov y) (V' (flz ov y)) (G y ov)) → ∀ ov ov0 : Nat → Bool, R ov0 → (∀ x, x ∉ S → ov x = ov0 x) → V ov0 = V' ov0 → V ov = V' ov
  | [], _, _, _, ov, ov0, _, h, e => by
    have : ov = ov0 := funext (fun x => h x List.not_mem_nil)
    rw [this]
    exact e
  | y :: S, hR, h1, h2, ov, ov0, r0, h, e => by
    have s0 : ∀ ov x, R ov → x ∈ S → R (flz ov x) := fun ov x r hx => hR ov x r (List.mem_cons_of_mem _ hx)
    have s1 : ∀ ov x, R ov → x ∈ S → V ov = skz (ov x) (V (flz ov x)) (G x ov) := fun ov x r hx => h1 ov x r (List.mem_cons_of_mem _ hx)
    have s2 : ∀ ov x, R ov → x ∈ S → V' ov = skz (ov x) (V' (flz ov x)) (G x ov) := fun ov x r hx => h2 ov x r (List.mem_cons_of_mem _ hx)
    by_cases c : ov y = ov0 y
    · refine skR_eq S s0 s1 s2 ov ov0 r0 (fun x hx => ?_) e
      by_cases ex : x = y
      · rw [ex]
        exact c
      · exact h x (fun h9 => (List.mem_cons.mp h9).elim ex hx)
    · refine skR_eq S s0 s1 s2 ov (flz ov0 y) (hR _ _ r0 List.mem_cons_self) (fun x hx => ?_) ?_
      · by_cases ex : x = y
        · rw [ex, flz_at]
          revert c
          cases ov y <;> cases ov0 y <;> decide
        · rw [flz_ot ex]
          exact h x (fun h9 => (List.mem_cons.mp h9).elim ex hx)
      · have k1 := h1 ov0 y r0 List.mem_cons_self
        have k2 := h2 ov0 y r0 List.mem_cons_self
        rw [e, k2] at k1
        exact (skz_inj k1).symm
/-- a renaming, by a map that is its own inverse -/
def rnT (ρ : Nat → Nat) (p : tk9) : tk9 := if p.2 = 2 then p else (ρ p.1, p.2)
def rnW (ρ : Nat → Nat) (W : wd9) : wd9 := W.map (fun l => (l.1, ρ l.2))
section XTW7
variable {ρ : Nat → Nat} {n : Nat} {W : wd9} {L : List (List tk9)}
theorem rnT_m {t : Nat} : rnT ρ (t, 2) = (t, 2) := if_pos rfl
theorem rnT_v {x i : Nat} (h : i ≠ 2) : rnT ρ (x, i) = (ρ x, i) := if_neg h
theorem rnT_2 {p : tk9} : (rnT ρ p).2 = p.2 := by
  unfold rnT
  split
  · rfl
  · rfl
theorem rnT_i (hρ : ∀ x, ρ (ρ x) = x) (p : tk9) : rnT ρ (rnT ρ p) = p := by
  obtain ⟨x, i⟩ := p
  by_cases h : i = 2
  · rw [h, rnT_m, rnT_m]
  · rw [rnT_v h, rnT_v h, hρ]
theorem rnT_j (hρ : ∀ x, ρ (ρ x) = x) {p q : tk9} (h : rnT ρ p = rnT ρ q) : p = q := by
  rw [← rnT_i hρ p, h, rnT_i hρ]
theorem rz_th (hρ : ∀ x, ρ (ρ x) = x) (g x : Nat) (p : tk9) : thz g (ρ x) (rnT ρ p) = rnT ρ (thz g x p) := by
  by_cases h1 : p = (g, 2)
  · rw [h1, rnT_m, thz_1, thz_1, rnT_v (by decide)]
  · by_cases h2 : p = (g + 1, 2)
    · rw [h2, rnT_m, thz_0, thz_0, rnT_v (by decide)]
    · rw [thz_o h1 h2, thz_o (fun h9 => h1 (rnT_j hρ (h9.trans rnT_m.symm))) (fun h9 => h2 (rnT_j hρ (h9.trans rnT_m.symm)))]
theorem rz_sg (hρ : ∀ x, ρ (ρ x) = x) : ∀ (W : wd9) (p : tk9), sgm (rnW ρ W) (rnT ρ p) = rnT ρ (sgm W p)
  | [], _ => rfl
  | l :: W, p => by
    have e : rnW ρ (l :: W) = (l.1, ρ l.2) :: rnW ρ W := rfl
    rw [e]
    by_cases h1 : p = (l.2, 1)
    · rw [h1, sgm_1, rnT_m, rnT_v (by decide)]
      exact sgm_1 (l := (l.1, ρ l.2))
    · by_cases h0 : p = (l.2, 0)
      · rw [h0, sgm_0, rnT_m, rnT_v (by decide)]
        exact sgm_0 (l := (l.1, ρ l.2))
      · rw [sgm_o h1 h0, sgm_o (l := (l.1, ρ l.2)) (fun h9 => h1 (rnT_j hρ (h9.trans (rnT_v (by decide)).symm))) (fun h9 => h0 (rnT_j hρ (h9.trans (rnT_v (by decide)).symm))), rz_sg hρ W p]
        exact rz_th hρ l.1 l.2 _
theorem rz_pt (hρ : ∀ x, ρ (ρ x) = x) : ∀ {r : List tk9} {p q : tk9}, pth (sgm W) p r q → pth (sgm (rnW ρ W)) (rnT ρ p) (r.map (rnT ρ)) (rnT ρ q)
  | [], p, q, h => by
    have h : sgm W p = q := h
    show sgm (rnW ρ W) (rnT ρ p) = rnT ρ q
    rw [rz_sg hρ, h]
  | a :: r, p, q, h => ⟨by rw [rz_sg hρ, h.1], rz_pt hρ h.2⟩
theorem rz_nm : nmz (rnW ρ W) = (nmz W).map ρ := by
  unfold nmz rnW
  rw [List.map_map, List.map_map]
  rfl
theorem rz_mem (hρ : ∀ x, ρ (ρ x) = x) {x : Nat} : ρ x ∈ nmz (rnW ρ W) ↔ x ∈ nmz W := by
  rw [rz_nm]
  constructor
  · intro h
    obtain ⟨y, h1, h2⟩ := List.mem_map.mp h
    rw [← hρ x, ← h2, hρ]
    exact h1
  · intro h
    exact List.mem_map.mpr ⟨x, h, rfl⟩
theorem rz_ok (hρ : ∀ x, ρ (ρ x) = x) (h : okw n W) : okw n (rnW ρ W) := by
  refine ⟨fun l hl => ?_, ?_⟩
  · obtain ⟨l0, h1, rfl⟩ := List.mem_map.mp hl
    exact h.1 l0 h1
  · rw [rz_nm]
    exact List.Pairwise.map ρ (fun a b hab h9 => hab (by rw [← hρ a, h9, hρ])) h.2
theorem fl_mp : ∀ (L : List (List tk9)), (L.map (List.map (rnT ρ))).flatten = L.flatten.map (rnT ρ)
  | [] => rfl
  | c :: L => by
    rw [List.map_cons, List.flatten_cons, List.flatten_cons, List.map_append, fl_mp]
theorem rz_or (hρ : ∀ x, ρ (ρ x) = x) (h : orz n W L) : orz n (rnW ρ W) (L.map (List.map (rnT ρ))) := by
  refine ⟨fun c hc => ?_, ?_, fun p => ?_⟩
  · obtain ⟨c0, h1, rfl⟩ := List.mem_map.mp hc
    obtain ⟨p, r, rfl, hp⟩ := h.1 c0 h1
    exact ⟨rnT ρ p, r.map (rnT ρ), rfl, rz_pt hρ hp⟩
  · rw [fl_mp]
    exact List.Pairwise.map (rnT ρ) (fun a b hab h9 => hab (rnT_j hρ h9)) h.2.1
  · rw [fl_mp]
    have e : p ∈ L.flatten.map (rnT ρ) ↔ rnT ρ p ∈ L.flatten := by
      constructor
      · intro h9
        obtain ⟨q, h1, h2⟩ := List.mem_map.mp h9
        rw [← h2, rnT_i hρ]
        exact h1
      · intro h9
        exact List.mem_map.mpr ⟨_, h9, rnT_i hρ p⟩
    rw [e, h.2.2]
    obtain ⟨x, i⟩ := p
    by_cases hi : i = 2
    · rw [hi, rnT_m]
      exact ⟨fun h9 => h9.elim Or.inl (fun h8 => absurd h8.1 (Nat.lt_irrefl 2)), fun h9 => h9.elim Or.inl (fun h8 => absurd h8.1 (Nat.lt_irrefl 2))⟩
    · rw [rnT_v hi]
      have em : ρ x ∈ nmz W ↔ x ∈ nmz (rnW ρ W) := by
        rw [← rz_mem hρ (W := W) (x := ρ x), hρ]
      exact ⟨fun h9 => h9.elim (fun h8 => absurd h8.1 hi) (fun h8 => Or.inr ⟨h8.1, em.mp h8.2⟩), fun h9 => h9.elim (fun h8 => absurd h8.1 hi) (fun h8 => Or.inr ⟨h8.1, em.mpr h8.2⟩)⟩
theorem rz_fs (hρ : ∀ x, ρ (ρ x) = x) : ∀ (l : List tk9) (met : List Nat), fsz (met.map ρ) (l.map (rnT ρ)) = (fsz met l).map (fun p => (ρ p.1, p.2))
  | [], _ => rfl
  | p :: r, met => by
    rw [List.map_cons]
    have em : ∀ x, ρ x ∈ met.map ρ ↔ x ∈ met := fun x => by
      constructor
      · intro h
        obtain ⟨y, h1, h2⟩ := List.mem_map.mp h
        rw [← hρ x, ← h2, hρ]
        exact h1
      · intro h
        exact List.mem_map.mpr ⟨x, h, rfl⟩
    by_cases c2 : p.2 = 2
    · rw [fsz_k (Or.inl c2), fsz_k (Or.inl (rnT_2.trans c2))]
      exact rz_fs hρ r met
    · have e1 : rnT ρ p = (ρ p.1, p.2) := if_neg c2
      by_cases c : p.1 ∈ met
      · rw [fsz_k (Or.inr c), e1, fsz_k (Or.inr ((em p.1).mpr c))]
        exact rz_fs hρ r met
      · rw [fsz_f (fun h9 => h9.elim c2 c), e1, fsz_f (p := (ρ p.1, p.2)) (fun h9 => h9.elim c2 (fun h8 => c ((em p.1).mp h8))), List.map_cons]
        exact congrArg _ (rz_fs hρ r (p.1 :: met))
theorem rz_go (hρ : ∀ x, ρ (ρ x) = x) {P : pz9} {G G' : Nat → (Nat → Bool) → pz9} {S : List Nat} (hG : ∀ x, x ∈ S → ∀ o o' : Nat → Bool, (∀ y, y ∈ S → o' (ρ y) = o y) → G' (ρ x) o' = G x o) : ∀ (l : List (Nat × Bool)) (ov ov' : Nat → Bool), (∀ p, p ∈ l → p.1 ∈ S) → (∀ y, y ∈ S → ov' (ρ y) = ov y) → goz P G' (l.map (fun p => (ρ p.1, p.2))) ov' = goz P G l ov
  | [], _, _, _, _ => rfl
  | p :: r, ov, ov', hS, h => by
    have hp := hS p List.mem_cons_self
    have hr : ∀ q, q ∈ r → q.1 ∈ S := fun q hq => hS q (List.mem_cons_of_mem _ hq)
    have e1 : ov' (ρ p.1) = ov p.1 := h _ hp
    rw [List.map_cons]
    by_cases c : p.2 = ov p.1
    · rw [goz_g c, goz_g (p := (ρ p.1, p.2)) (c.trans e1.symm)]
      exact rz_go hρ hG r ov ov' hr h
    · rw [goz_b c, goz_b (p := (ρ p.1, p.2)) (fun h9 => c (h9.trans e1))]
      show skz (ov' (ρ p.1)) (goz P G' (r.map (fun p => (ρ p.1, p.2))) (flz ov' (ρ p.1))) (G' (ρ p.1) ov') = _
      rw [e1, hG p.1 hp ov ov' h, rz_go hρ hG r (flz ov p.1) (flz ov' (ρ p.1)) hr (fun y hy => ?_)]
      by_cases e : y = p.1
      · rw [e, flz_at, flz_at, e1]
      · rw [flz_ot e, flz_ot (fun h9 => e (by rw [← hρ y, h9, hρ])), h y hy]
theorem rz_dl (hρ : ∀ x, ρ (ρ x) = x) (x : Nat) : ∀ (W : wd9), dlz (ρ x) (rnW ρ W) = rnW ρ (dlz x W)
  | [] => rfl
  | l :: W => by
    have ih := rz_dl hρ x W
    unfold dlz rnW at ih ⊢
    rw [List.map_cons]
    by_cases c : l.2 = x
    · rw [List.filter_cons_of_neg (by simp [c]), List.filter_cons_of_neg (by simp [c])]
      exact ih
    · have c' : ρ l.2 ≠ ρ x := fun h9 => c (by rw [← hρ l.2, h9, hρ])
      rw [List.filter_cons_of_pos (by simp [c']), List.filter_cons_of_pos (by simp [c]), List.map_cons]
      exact congrArg _ ih
theorem rz_len : (rnW ρ W).length = W.length := List.length_map _
/-- NAMES DO NOT MATTER, where the value is one -/
theorem rz_F (hρ : ∀ x, ρ (ρ x) = x) : ∀ (k : Nat) (W : wd9) (ov ov' : Nat → Bool), W.length = k → okw n W → (∃ L, orz n W L) → (∀ V, V.length ≤ k → okw n V → PhZ n V) → (∀ y, y ∈ nmz W → ov' (ρ y) = ov y) → Fz n (rnW ρ W) ov' = Fz n W ov
  | 0, W, ov, ov', hk, ho, ⟨L, hL⟩, hP, h => by
    rw [← hP W (by omega) ho L ov hL, ← hP (rnW ρ W) (by rw [rz_len]; omega) (rz_ok hρ ho) _ ov' (rz_or hρ hL)]
    unfold vlz
    have e0 : fsz [] (L.map (List.map (rnT ρ))).flatten = (fsz [] L.flatten).map (fun p => (ρ p.1, p.2)) := by
      rw [fl_mp]
      exact rz_fs hρ L.flatten []
    rw [e0, List.length_map]
    exact rz_go hρ (S := nmz W) (fun x hx => by rw [nm_0 hk] at hx; exact absurd hx List.not_mem_nil) _ ov ov' (fun p hp => fs_nm hL hp) h
  | k + 1, W, ov, ov', hk, ho, ⟨L, hL⟩, hP, h => by
    rw [← hP W (by omega) ho L ov hL, ← hP (rnW ρ W) (by rw [rz_len]; omega) (rz_ok hρ ho) _ ov' (rz_or hρ hL)]
    unfold vlz
    have e0 : fsz [] (L.map (List.map (rnT ρ))).flatten = (fsz [] L.flatten).map (fun p => (ρ p.1, p.2)) := by
      rw [fl_mp]
      exact rz_fs hρ L.flatten []
    rw [e0, List.length_map]
    refine rz_go hρ (S := nmz W) (fun x hx o o' hoo => ?_) _ ov ov' (fun p hp => fs_nm hL hp) h
    unfold Gz
    rw [rz_dl hρ]
    exact rz_F hρ k (dlz x W) o o' (by have := len_dl ho hx; omega) (ok_dl ho) (orz_dl ho hL hx) (fun V hV => hP V (by omega)) (fun y hy => hoo y (nm_dl.mp hy).1)
end XTW7
