/-! two: a track that no letter touches; a track that one letter touches -/
section XTWA
variable {n g x : Nat} {W A B : wd9} {L L' P Q : List (List tk9)}
theorem fs_mk {t : Nat} : ∀ {a b : List tk9} {met : List Nat}, fsz met (a ++ (t, 2) :: b) = fsz met (a ++ b)
  | [], b, met => fsz_k (Or.inl rfl)
  | p :: a, b, met => by
    rw [List.cons_append, List.cons_append]
    by_cases c : p.2 = 2 ∨ p.1 ∈ met
    · rw [fsz_k c, fsz_k c]
      exact fs_mk
    · rw [fsz_f c, fsz_f c, fs_mk]
theorem go_cr {P : pz9} {G G' : Nat → (Nat → Bool) → pz9} {S : List Nat} (hG : ∀ x, x ∈ S → ∀ o, G' x o = crz (G x o)) : ∀ (l : List (Nat × Bool)) (ov : Nat → Bool), (∀ p, p ∈ l → p.1 ∈ S) → goz (crz P) G' l ov = crz (goz P G l ov)
  | [], _, _ => rfl
  | p :: r, ov, hS => by
    have hr : ∀ q, q ∈ r → q.1 ∈ S := fun q hq => hS q (List.mem_cons_of_mem _ hq)
    by_cases c : p.2 = ov p.1
    · rw [goz_g c, goz_g c]
      exact go_cr hG r ov hr
    · rw [goz_b c, goz_b c, hG p.1 (hS p List.mem_cons_self), go_cr hG r _ hr, crz_sk]
theorem sg_fix : ∀ {W : wd9}, (∀ l, l ∈ W → l.1 + 1 < n) → sgm W (n, 2) = (n, 2)
  | [], _ => rfl
  | l :: W, h => by
    have hl := h l List.mem_cons_self
    rw [sgm_o (fun h9 => by have := (Prod.mk.inj h9).2; omega) (fun h9 => by have := (Prod.mk.inj h9).2; omega), sg_fix (fun m hm => h m (List.mem_cons_of_mem _ hm))]
    exact thz_o (fun h9 => by have := (Prod.mk.inj h9).1; omega) (fun h9 => by have := (Prod.mk.inj h9).1; omega)
/-- the track's own component -/
theorem or_c1 (ho : okw n W) (hL : orz (n + 1) W L) : ∃ P Q, L = P ++ [(n, 2)] :: Q := by
  have m : (n, 2) ∈ L.flatten := (hL.2.2 _).mpr (Or.inl ⟨rfl, by show n < n + 1; omega⟩)
  obtain ⟨c, hc, hu⟩ := List.mem_flatten.mp m
  obtain ⟨P, Q, rfl⟩ := spl_m hc
  obtain ⟨a, b, rfl⟩ := spl_m hu
  refine ⟨P, Q, ?_⟩
  have h1 := orz_t hL
  obtain ⟨p, r, e, hp⟩ := h1.1 _ (List.mem_append_right P List.mem_cons_self)
  rw [List.cons_append] at e h1
  obtain ⟨rfl, e2⟩ := List.cons.inj e
  cases r with
  | nil =>
    obtain ⟨rfl, rfl⟩ := List.append_eq_nil_iff.mp e2
    rfl
  | cons t r =>
    exfalso
    have h2 := hp.1
    rw [sg_fix ho.1] at h2
    have hn := h1.2.1
    rw [List.flatten_append, List.flatten_cons, e2, ← h2] at hn
    have k1 := (List.nodup_append.mp (List.nodup_append.mp hn).2.1).1
    exact (List.nodup_cons.mp k1).1 List.mem_cons_self
theorem or_c2 (hL : orz (n + 1) W (P ++ [(n, 2)] :: Q)) : orz n W (P ++ Q) := by
  have hp : (P ++ [(n, 2)] :: Q).flatten.Perm ((n, 2) :: (P ++ Q).flatten) := by
    rw [List.flatten_append, List.flatten_cons, List.flatten_append]
    exact List.perm_middle
  have hn := hp.nodup_iff.mp hL.2.1
  rw [List.nodup_cons] at hn
  refine ⟨fun c hc => hL.1 c ?_, hn.2, fun p => ?_⟩
  · rcases List.mem_append.mp hc with h9 | h9
    · exact List.mem_append_left _ h9
    · exact List.mem_append_right _ (List.mem_cons_of_mem _ h9)
  · have e := hL.2.2 p
    rw [hp.mem_iff, List.mem_cons] at e
    obtain ⟨a, i⟩ := p
    constructor
    · intro h9
      rcases e.mp (Or.inr h9) with ⟨h1, h2⟩ | h1
      · refine Or.inl ⟨h1, ?_⟩
        have h1 : i = 2 := h1
        have h2 : a < n + 1 := h2
        show a < n
        rcases (show a < n ∨ a = n by omega) with h3 | h3
        · exact h3
        · exact absurd (by rw [← h3, ← h1]; exact h9) hn.1
      · exact Or.inr h1
    · intro h9
      have h8 : tkz (n + 1) W (a, i) := by
        rcases h9 with ⟨h1, h2⟩ | h1
        · have h2 : a < n := h2
          exact Or.inl ⟨h1, by show a < n + 1; omega⟩
        · exact Or.inr h1
      rcases e.mpr h8 with h1 | h1
      · exfalso
        obtain ⟨rfl, rfl⟩ := Prod.mk.inj h1
        rcases h9 with ⟨-, h2⟩ | ⟨h2, -⟩
        · exact Nat.lt_irrefl _ h2
        · exact Nat.lt_irrefl _ h2
      · exact h1
theorem cr_V (h1n : 1 ≤ n) : ∀ (k : Nat) (W : wd9) (L : List (List tk9)) (ov : Nat → Bool), W.length = k → okw n W → okw (n + 1) W → orz (n + 1) W L → (∀ V, V.length < k → okw (n + 1) V → PhZ (n + 1) V) → (∀ V, V.length ≤ k → okw n V → PhZ n V) → vlz (Gz (n + 1) W) L ov = crz (Fz n W ov) := by
  intro k
  induction k with
  | zero =>
    intro W L ov hk ho ho1 hL h1 h2
    obtain ⟨P, Q, rfl⟩ := or_c1 ho hL
    have hL2 := or_c2 hL
    rw [← h2 W (by omega) ho _ ov hL2]
    have ne : 1 ≤ (P ++ Q).length := by
      have m : (0, 2) ∈ (P ++ Q).flatten := (hL2.2.2 _).mpr (Or.inl ⟨rfl, h1n⟩)
      obtain ⟨c, hc, -⟩ := List.mem_flatten.mp m
      exact List.length_pos_of_mem hc
    unfold vlz
    have e1 : fsz [] (P ++ [(n, 2)] :: Q).flatten = fsz [] (P ++ Q).flatten := by
      rw [List.flatten_append, List.flatten_cons, List.flatten_append]
      exact fs_mk
    have e2 : (P ++ [(n, 2)] :: Q).length - 1 = ((P ++ Q).length - 1) + 1 := by
      rw [List.length_append] at ne ⊢
      rw [List.length_append, List.length_cons]
      omega
    rw [e1, e2, lfz_s]
    exact go_cr (S := nmz W) (fun x hx => by rw [nm_0 hk] at hx; exact absurd hx List.not_mem_nil) _ ov (fun p hp => fs_nm hL2 hp)
  | succ k ih =>
    intro W L ov hk ho ho1 hL h1 h2
    obtain ⟨P, Q, rfl⟩ := or_c1 ho hL
    have hL2 := or_c2 hL
    rw [← h2 W (by omega) ho _ ov hL2]
    have ne : 1 ≤ (P ++ Q).length := by
      have m : (0, 2) ∈ (P ++ Q).flatten := (hL2.2.2 _).mpr (Or.inl ⟨rfl, h1n⟩)
      obtain ⟨c, hc, -⟩ := List.mem_flatten.mp m
      exact List.length_pos_of_mem hc
    unfold vlz
    have e1 : fsz [] (P ++ [(n, 2)] :: Q).flatten = fsz [] (P ++ Q).flatten := by
      rw [List.flatten_append, List.flatten_cons, List.flatten_append]
      exact fs_mk
    have e2 : (P ++ [(n, 2)] :: Q).length - 1 = ((P ++ Q).length - 1) + 1 := by
      rw [List.length_append] at ne ⊢
      rw [List.length_append, List.length_cons]
      omega
    rw [e1, e2, lfz_s]
    refine go_cr (S := nmz W) (fun x hx o => ?_) _ ov (fun p hp => fs_nm hL2 hp)
    obtain ⟨Lx, hLx⟩ := orz_dl ho1 hL hx
    have hl := len_dl ho1 hx
    show Fz (n + 1) (dlz x W) o = crz (Fz n (dlz x W) o)
    rw [← h1 (dlz x W) (by omega) (ok_dl ho1) Lx o hLx]
    exact ih (dlz x W) Lx o (by omega) (ok_dl ho) (ok_dl ho1) hLx (fun V hV => h1 V (by omega)) (fun V hV => h2 V (by omega))
/-- one letter at the last track: a loop -/
theorem s1_st : ∀ {B : wd9}, (∀ l, l ∈ B → l.1 + 1 < g + 1) → (∀ l, l ∈ A → l.1 + 1 < g + 1) → x ∉ nmz B → sgm (B ++ (g, x) :: A) (x, 1) = (g + 1, 2) ∧ sgm (B ++ (g, x) :: A) (g + 1, 2) = (x, 0)
  | [], _, hA, _ => by
    refine ⟨sgm_1 (l := (g, x)), ?_⟩
    show sgm ((g, x) :: A) (g + 1, 2) = (x, 0)
    rw [sgm_o (fun h9 => by have := (Prod.mk.inj h9).2; omega) (fun h9 => by have := (Prod.mk.inj h9).2; omega), sg_fix hA]
    exact thz_0 g x
  | l :: B, hB, hA, hx => by
    have hl : x ≠ l.2 := fun h9 => hx (by rw [h9]; exact List.mem_cons_self)
    have hl1 := hB l List.mem_cons_self
    obtain ⟨i1, i2⟩ := s1_st (fun m hm => hB m (List.mem_cons_of_mem _ hm)) hA (fun h9 => hx (List.mem_cons_of_mem _ h9))
    constructor
    · show sgm (l :: (B ++ (g, x) :: A)) (x, 1) = _
      rw [sgm_o (fun h9 => hl (Prod.mk.inj h9).1) (fun h9 => hl (Prod.mk.inj h9).1), i1]
      exact thz_o (fun h9 => by have := (Prod.mk.inj h9).1; omega) (fun h9 => by have := (Prod.mk.inj h9).1; omega)
    · show sgm (l :: (B ++ (g, x) :: A)) (g + 1, 2) = _
      rw [sgm_o (fun h9 => by have := (Prod.mk.inj h9).2; omega) (fun h9 => by have := (Prod.mk.inj h9).2; omega), i2]
      exact thz_v (show (0 : Nat) ≠ 2 by decide)
theorem r1_V : ∀ (k : Nat) (B A : wd9) (L : List (List tk9)), (B ++ (g, x) :: A).length = k → okw (g + 1) (B ++ A) → okw (g + 2) (B ++ (g, x) :: A) → orz (g + 2) (B ++ (g, x) :: A) L → (∀ V, V.length < k → okw (g + 2) V → PhZ (g + 2) V) → (∀ V, V.length ≤ k → okw (g + 1) V → PhZ (g + 1) V) → ∀ ov : Nat → Bool, vlz (Gz (g + 2) (B ++ (g, x) :: A)) L ov = Fz (g + 1) (B ++ A) ov
  | 0, B, A, L, hk, _, _, _, _, _, _ => by
    rw [List.length_append] at hk
    simp at hk
  | k + 1, B, A, L, hk, hob, ho, hL, h1, h2, ov => by
    obtain ⟨hxA, hxB, ho2⟩ := okw_d ho
    have mx : x ∈ nmz (B ++ (g, x) :: A) := by
      rw [nm_a]
      exact List.mem_append_right _ List.mem_cons_self
    have dx : dlz x (B ++ (g, x) :: A) = B ++ A := dlz_e hxA hxB
    have hlx := len_dl ho mx
    rw [dx] at hlx
    have hx' : x ∉ nmz (B ++ A) := fun h9 => by
      rw [nm_a] at h9
      exact (List.mem_append.mp h9).elim hxB hxA
    obtain ⟨s1, s2⟩ := s1_st (x := x) (fun l hl => hob.1 l (List.mem_append_left _ hl)) (fun l hl => hob.1 l (List.mem_append_right _ hl)) hxB
    have hPd : ∀ z, z ∈ nmz (B ++ (g, x) :: A) → PhZ (g + 2) (dlz z (B ++ (g, x) :: A)) := fun z hz => h1 _ (by rw [← hk]; exact dlz_lt hz) (ok_dl ho)
    have m1 : (x, 1) ∈ L.flatten := (hL.2.2 _).mpr (Or.inr ⟨by omega, mx⟩)
    obtain ⟨c, hc, hu⟩ := List.mem_flatten.mp m1
    obtain ⟨P, Q, rfl⟩ := spl_m hc
    obtain ⟨a, b, rfl⟩ := spl_m hu
    rw [bs_r ho (sk_W ho hL) hPd a ((x, 1) :: b) hL ov]
    have hL1 := orz_t hL
    have h3 := hL1.1 _ (List.mem_append_right P List.mem_cons_self)
    rw [List.cons_append] at hL1 h3 ⊢
    generalize b ++ a = c at hL1 h3 ⊢
    obtain ⟨p, r, e, hp⟩ := h3
    obtain ⟨rfl, rfl⟩ := List.cons.inj e
    cases c with
    | nil =>
      have h9 : sgm (B ++ (g, x) :: A) (x, 1) = (x, 1) := hp
      rw [s1] at h9
      exact absurd (Prod.mk.inj h9).2 (by decide)
    | cons t c =>
      have h9 : sgm (B ++ (g, x) :: A) (x, 1) = t := hp.1
      rw [s1] at h9
      subst h9
      have hp := hp.2
      cases c with
      | nil =>
        have h9 : sgm (B ++ (g, x) :: A) (g + 1, 2) = (x, 1) := hp
        rw [s2] at h9
        exact absurd (Prod.mk.inj h9).2 (by decide)
      | cons t c =>
        have h9 : sgm (B ++ (g, x) :: A) (g + 1, 2) = t := hp.1
        rw [s2] at h9
        subst h9
        have k1 := orz_s1 (X := []) (Y := [(g + 1, 2)]) (Z := c) (i := 1) ho (by omega) hL1
        rw [List.nil_append] at k1
        have k2 : orz (g + 1) (B ++ A) (P ++ c :: Q) := by
          have e9 : P ++ c :: [(g + 1, 2)] :: Q = (P ++ [c]) ++ [(g + 1, 2)] :: Q := by
            rw [List.append_assoc]
            rfl
          rw [e9] at k1
          have := or_c2 k1
          rw [List.append_assoc] at this
          exact this
        have hG := sk_W ho hL1
        have hsk := vlz_sk hG hL1
        obtain ⟨ov0, g0, e0⟩ := gd_ex k2 ov
        have nx : slz x P.flatten = [] := slz_n (fun q hq => sl_nil k2 hx' q (by rw [List.flatten_append]; exact List.mem_append_left _ hq))
        have fx : (slz x (P ++ ((x, 1) :: (g + 1, 2) :: (x, 0) :: c) :: Q).flatten).head? = some (x, 1) := by
          rw [List.flatten_append, List.flatten_cons, slz_a, nx, List.nil_append, slz_a, slz_y (by omega)]
          rfl
        have gd9 : ∀ o : Nat → Bool, (∀ z, z ≠ x → o z = ov0 z) → o x = true → gdz (P ++ ((x, 1) :: (g + 1, 2) :: (x, 0) :: c) :: Q) o := fun o q1 q2 => gd_of (fun z j hj => by
          by_cases zx : z = x
          · subst zx
            rw [fx] at hj
            rw [← (Prod.mk.inj (Option.some.inj hj)).2, q2]
            rfl
          · rw [q1 z zx]
            refine gd_at g0 ?_
            have ox : ∀ i r, slz z ((x, i) :: r) = slz z r := fun i r => slz_o (Or.inr (Ne.symm zx))
            have om : ∀ t r, slz z ((t, 2) :: r) = slz z r := fun t r => slz_o (Or.inl rfl)
            simp only [List.flatten_append, List.flatten_cons, slz_a, ox, om] at hj ⊢
            exact hj)
        have len : (P ++ ((x, 1) :: (g + 1, 2) :: (x, 0) :: c) :: Q).length = (P ++ c :: Q).length := by
          simp only [List.length_append, List.length_cons]
        refine skR_eq (R := fun _ => True) (G := fun z ov => Fz (g + 1) (dlz z (B ++ A)) ov) (nmz (B ++ A)) (fun _ _ _ _ => trivial) (fun o z _ hz9 => ?_) (fun o z _ hz9 => ?_) ov ov0 trivial e0 ?_
        · have zx : x ≠ z := fun h9 => hx' (by rw [h9]; exact hz9)
          have mz : z ∈ nmz (B ++ (g, x) :: A) := by
            rw [nm_a] at hz9 ⊢
            rcases List.mem_append.mp hz9 with h9 | h9
            · exact List.mem_append_left _ h9
            · exact List.mem_append_right _ (List.mem_cons_of_mem _ h9)
          have := hsk o z mz
          rw [this]
          congr 1
          obtain ⟨Lz, hLz⟩ := orz_dl ho hL1 mz
          have hl := len_dl ho mz
          have hoz := ok_dl (x := z) ho
          show Fz (g + 2) (dlz z (B ++ (g, x) :: A)) o = Fz (g + 1) (dlz z (B ++ A)) o
          rw [← hPd z mz Lz o hLz]
          have ed : dlz z (B ++ (g, x) :: A) = dlz z B ++ (g, x) :: dlz z A := by
            rw [dlz_a, dlz_c (show (g, x).2 ≠ z from zx)]
          rw [ed] at hLz hl hoz ⊢
          rw [r1_V k (dlz z B) (dlz z A) Lz (by omega) (by rw [← dlz_a]; exact ok_dl hob) hoz hLz (fun V hV => h1 V (by omega)) (fun V hV => h2 V (by omega)) o, ← dlz_a]
        · exact sk_F hob k2 o z hz9
        · have e1 : Fz (g + 1) (B ++ A) ov0 = lfz ((P ++ c :: Q).length - 1) := by
            rw [← h2 (B ++ A) (by omega) hob _ ov0 k2, vlz_g g0]
          rw [e1]
          by_cases c9 : ov0 x = true
          · rw [vlz_g (gd9 ov0 (fun _ _ => rfl) c9), len]
          · have c8 : ov0 x = false := by
              revert c9
              cases ov0 x <;> decide
            rw [hsk ov0 x mx, vlz_g (gd9 (flz ov0 x) (fun z hz => flz_ot hz) (by rw [flz_at, c8]; rfl)), len, show Gz (g + 2) (B ++ (g, x) :: A) x ov0 = Fz (g + 2) (dlz x (B ++ (g, x) :: A)) ov0 from rfl, dx, ← h1 (B ++ A) (by omega) ho2 _ ov0 k1, cr_V (by omega) k (B ++ A) _ ov0 (by omega) hob ho2 k1 (fun V hV => h1 V (by omega)) (fun V hV => h2 V (by omega)), e1]
            exact skz_lp _ _
end XTWA
