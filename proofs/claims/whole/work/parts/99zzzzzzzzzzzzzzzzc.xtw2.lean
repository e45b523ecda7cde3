/-! two: closed braids as cycles of visits and marks; what a letter less does -/
abbrev tk9 : Type := Nat × Nat
/-- letters (place, name), the last one first; (x, 1) is the visit of x that comes from the left, (x, 0) from the right, (t, 2) the mark of track t where the braid is closed -/
abbrev wd9 : Type := List (Nat × Nat)
def thz (g x : Nat) (p : tk9) : tk9 := if p = (g, 2) then (x, 1) else if p = (g + 1, 2) then (x, 0) else p
def sgm : wd9 → tk9 → tk9
  | [], p => p
  | l :: W, p => if p = (l.2, 1) then (l.1 + 1, 2) else if p = (l.2, 0) then (l.1, 2) else thz l.1 l.2 (sgm W p)
def nmz (W : wd9) : List Nat := W.map Prod.snd
def tkz (n : Nat) (W : wd9) (p : tk9) : Prop := p.2 = 2 ∧ p.1 < n ∨ p.2 < 2 ∧ p.1 ∈ nmz W
def okw (n : Nat) (W : wd9) : Prop := (∀ l, l ∈ W → l.1 + 1 < n) ∧ (nmz W).Nodup
def pth (s : tk9 → tk9) : tk9 → List tk9 → tk9 → Prop
  | p, [], q => s p = q
  | p, a :: r, q => s p = a ∧ pth s a r q
def cyz (s : tk9 → tk9) (c : List tk9) : Prop := ∃ p r, c = p :: r ∧ pth s p r p
/-- an order of the closed braid: its components, each from some base -/
def orz (n : Nat) (W : wd9) (L : List (List tk9)) : Prop := (∀ c, c ∈ L → cyz (sgm W) c) ∧ L.flatten.Nodup ∧ ∀ p, p ∈ L.flatten ↔ tkz n W p
theorem pth_a {s : tk9 → tk9} : ∀ {r : List tk9} {p a q : tk9} {r' : List tk9}, pth s p (r ++ a :: r') q ↔ pth s p r a ∧ pth s a r' q
  | [], _, _, _, _ => Iff.rfl
  | b :: r, p, a, q, r' => by
    show s p = b ∧ pth s b (r ++ a :: r') q ↔ (s p = b ∧ pth s b r a) ∧ pth s a r' q
    rw [pth_a, and_assoc]
theorem pth_h {s : tk9 → tk9} {p q : tk9} {a : tk9} {r : List tk9} (h : pth s p (a :: r) q) : s p = a := h.1
theorem cyz_r {s : tk9 → tk9} {a b : List tk9} (h : cyz s (a ++ b)) : cyz s (b ++ a) := by
  cases a with
  | nil =>
    rw [List.nil_append] at h
    rw [List.append_nil]
    exact h
  | cons p r =>
    cases b with
    | nil =>
      rw [List.append_nil] at h
      exact h
    | cons q t =>
      obtain ⟨p', r', e, hp⟩ := h
      obtain ⟨rfl, rfl⟩ := List.cons.inj e
      obtain ⟨h1, h2⟩ := pth_a.mp hp
      exact ⟨q, t ++ p :: r, rfl, pth_a.mpr ⟨h2, h1⟩⟩
section XTW2
variable {n : Nat} {W A B : wd9}
theorem thz_v {g x : Nat} {p : tk9} (h : p.2 ≠ 2) : thz g x p = p := by
  have h1 : p ≠ (g, 2) := fun h9 => h (by rw [h9])
  have h2 : p ≠ (g + 1, 2) := fun h9 => h (by rw [h9])
  unfold thz
  rw [if_neg h1, if_neg h2]
theorem thz_1 (g x : Nat) : thz g x (g, 2) = (x, 1) := if_pos rfl
theorem thz_0 (g x : Nat) : thz g x (g + 1, 2) = (x, 0) := by
  unfold thz
  rw [if_neg (fun h9 => by have := (Prod.mk.inj h9).1; omega), if_pos rfl]
theorem thz_o {g x : Nat} {p : tk9} (h1 : p ≠ (g, 2)) (h2 : p ≠ (g + 1, 2)) : thz g x p = p := by
  unfold thz
  rw [if_neg h1, if_neg h2]
theorem sgm_1 {l : Nat × Nat} : sgm (l :: W) (l.2, 1) = (l.1 + 1, 2) := if_pos rfl
theorem sgm_0 {l : Nat × Nat} : sgm (l :: W) (l.2, 0) = (l.1, 2) := by
  show (if ((l.2, 0) : tk9) = (l.2, 1) then _ else _) = _
  rw [if_neg (fun h9 => by have := (Prod.mk.inj h9).2; omega), if_pos rfl]
theorem sgm_o {l : Nat × Nat} {p : tk9} (h1 : p ≠ (l.2, 1)) (h0 : p ≠ (l.2, 0)) : sgm (l :: W) p = thz l.1 l.2 (sgm W p) := by
  show (if p = (l.2, 1) then _ else _) = _
  rw [if_neg h1, if_neg h0]
/-- visits of another letter -/
def nov (x : Nat) (p : tk9) : Prop := p ≠ (x, 1) ∧ p ≠ (x, 0)
theorem nov_m {x t : Nat} : nov x (t, 2) := ⟨fun h9 => by have := (Prod.mk.inj h9).2; omega, fun h9 => by have := (Prod.mk.inj h9).2; omega⟩
theorem nov_n {x y i : Nat} (h : y ≠ x) : nov x (y, i) := ⟨fun h9 => h (Prod.mk.inj h9).1, fun h9 => h (Prod.mk.inj h9).1⟩
theorem nov_t {g y x : Nat} {p : tk9} (h : y ≠ x) (hp : nov x p) : nov x (thz g y p) := by
  by_cases h1 : p = (g, 2)
  · rw [h1, thz_1]
    exact nov_n h
  · by_cases h2 : p = (g + 1, 2)
    · rw [h2, thz_0]
      exact nov_n h
    · rw [thz_o h1 h2]
      exact hp
/-- a letter that isn't there is never met -/
theorem sgm_n {x : Nat} : ∀ {W : wd9} {p : tk9}, x ∉ nmz W → nov x p → nov x (sgm W p)
  | [], _, _, h => h
  | l :: W, p, hx, hp => by
    have hl : l.2 ≠ x := fun h9 => hx (by rw [← h9]; exact List.mem_cons_self)
    have hW : x ∉ nmz W := fun h9 => hx (List.mem_cons_of_mem _ h9)
    by_cases h1 : p = (l.2, 1)
    · rw [h1, sgm_1]
      exact nov_m
    · by_cases h0 : p = (l.2, 0)
      · rw [h0, sgm_0]
        exact nov_m
      · rw [sgm_o h1 h0]
        exact nov_t hl (sgm_n hW hp)
/-- from a letter one doesn't come to it at once: the mark lies between -/
theorem sgm_x {g x i : Nat} (hi : i < 2) : ∀ {B : wd9}, x ∉ nmz B → nov x (sgm (B ++ (g, x) :: A) (x, i))
  | [], _ => by
    rcases (show i = 0 ∨ i = 1 by omega) with rfl | rfl
    · show nov x (sgm ((g, x) :: A) ((g, x).2, 0))
      rw [sgm_0]
      exact nov_m
    · show nov x (sgm ((g, x) :: A) ((g, x).2, 1))
      rw [sgm_1]
      exact nov_m
  | l :: B, hx => by
    have hl : l.2 ≠ x := fun h9 => hx (by rw [← h9]; exact List.mem_cons_self)
    have hB : x ∉ nmz B := fun h9 => hx (List.mem_cons_of_mem _ h9)
    show nov x (sgm (l :: (B ++ (g, x) :: A)) (x, i))
    rw [sgm_o (fun h9 => hl (Prod.mk.inj h9).1.symm) (fun h9 => hl (Prod.mk.inj h9).1.symm)]
    exact nov_t hl (sgm_x hi hB)
/-- the letter x taken away: who came to one of its visits goes on behind the other -/
def exz (s : tk9 → tk9) (x : Nat) (p : tk9) : tk9 := if p = (x, 1) then s (x, 0) else if p = (x, 0) then s (x, 1) else p
theorem exz_o {s : tk9 → tk9} {x : Nat} {p : tk9} (h : nov x p) : exz s x p = p := by
  unfold exz
  rw [if_neg h.1, if_neg h.2]
theorem exz_i {s : tk9 → tk9} {x i : Nat} (hi : i < 2) : exz s x (x, i) = s (x, 1 - i) := by
  unfold exz
  rcases (show i = 0 ∨ i = 1 by omega) with rfl | rfl
  · rw [if_neg (fun h9 => by have := (Prod.mk.inj h9).2; omega), if_pos rfl]
  · rw [if_pos rfl]
theorem sgm_d {g x : Nat} (hA : x ∉ nmz A) : ∀ {B : wd9} {p : tk9}, x ∉ nmz B → nov x p → sgm (B ++ A) p = exz (sgm (B ++ (g, x) :: A)) x (sgm (B ++ (g, x) :: A) p)
  | [], p, _, hp => by
    have e : sgm ((g, x) :: A) p = thz g x (sgm A p) := sgm_o hp.1 hp.2
    show sgm A p = exz (sgm ((g, x) :: A)) x (sgm ((g, x) :: A) p)
    rw [e]
    have hn := sgm_n hA hp
    by_cases h1 : sgm A p = (g, 2)
    · rw [h1, thz_1, exz_i (by omega)]
      show (g, 2) = sgm ((g, x) :: A) ((g, x).2, 0)
      rw [sgm_0]
    · by_cases h2 : sgm A p = (g + 1, 2)
      · rw [h2, thz_0, exz_i (by omega)]
        show (g + 1, 2) = sgm ((g, x) :: A) ((g, x).2, 1)
        rw [sgm_1]
      · rw [thz_o h1 h2, exz_o hn]
  | l :: B, p, hx, hp => by
    have hl : l.2 ≠ x := fun h9 => hx (by rw [← h9]; exact List.mem_cons_self)
    have hB : x ∉ nmz B := fun h9 => hx (List.mem_cons_of_mem _ h9)
    show sgm (l :: (B ++ A)) p = exz (sgm (l :: (B ++ (g, x) :: A))) x (sgm (l :: (B ++ (g, x) :: A)) p)
    by_cases h1 : p = (l.2, 1)
    · rw [h1, sgm_1, sgm_1, exz_o nov_m]
    · by_cases h0 : p = (l.2, 0)
      · rw [h0, sgm_0, sgm_0, exz_o nov_m]
      · rw [sgm_o h1 h0, sgm_o h1 h0, sgm_d hA hB hp]
        generalize sgm (B ++ (g, x) :: A) p = q
        have ex : ∀ i, sgm (l :: (B ++ (g, x) :: A)) (x, i) = thz l.1 l.2 (sgm (B ++ (g, x) :: A) (x, i)) := fun i => sgm_o (fun h9 => hl (Prod.mk.inj h9).1.symm) (fun h9 => hl (Prod.mk.inj h9).1.symm)
        by_cases q1 : q = (x, 1)
        · rw [q1, exz_i (by omega), thz_v (p := (x, 1)) (show (1 : Nat) ≠ 2 by decide), exz_i (by omega), ex]
        · by_cases q0 : q = (x, 0)
          · rw [q0, exz_i (by omega), thz_v (p := (x, 0)) (show (0 : Nat) ≠ 2 by decide), exz_i (by omega), ex]
          · rw [exz_o ⟨q1, q0⟩, exz_o (nov_t hl ⟨q1, q0⟩)]
end XTW2
