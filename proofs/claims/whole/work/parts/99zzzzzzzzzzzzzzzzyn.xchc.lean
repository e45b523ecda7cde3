-- CHAIN: lists of generators; other gaps
section XCHI
theorem en_li (P : gn9 → Prop) : ∀ L : List gn9, ∃ E N, en9 (fun γ => γ ∈ L ∧ P γ) E N
  | [] => ⟨fun _ => (fun _ => false, fun _ => false), 0, fun i j h => absurd h (Nat.not_lt_zero _), fun γ => ⟨fun h => absurd h.1 List.not_mem_nil, fun ⟨i, h, _⟩ => absurd h (Nat.not_lt_zero _)⟩⟩
  | a :: L => by
    obtain ⟨E, N, h1, h2⟩ := en_li P L
    by_cases c : P a ∧ ¬ a ∈ L
    · have lo : ∀ i, i < N → (fun i => if i < N then E i else a) i = E i := fun i hi => if_pos hi
      have hi : (fun i => if i < N then E i else a) N = a := if_neg (Nat.lt_irrefl N)
      refine ⟨fun i => if i < N then E i else a, N + 1, fun i j h3 h4 h5 => ?_, fun γ => ⟨fun h => ?_, fun ⟨i, h3, h4⟩ => ?_⟩⟩
      · by_cases ei : i < N
        · by_cases ej : j < N
          · rw [lo i ei, lo j ej] at h5
            exact h1 i j ei ej h5
          · rw [lo i ei, show j = N by omega, hi] at h5
            exact absurd ((h2 a).mpr ⟨i, ei, h5.symm⟩).1 c.2
        · by_cases ej : j < N
          · rw [lo j ej, show i = N by omega, hi] at h5
            exact absurd ((h2 a).mpr ⟨j, ej, h5⟩).1 c.2
          · omega
      · rcases List.mem_cons.mp h.1 with e | e
        · exact ⟨N, by omega, by rw [hi, e]⟩
        · obtain ⟨i, i1, i2⟩ := (h2 γ).mp ⟨e, h.2⟩
          exact ⟨i, by omega, by rw [lo i i1, i2]⟩
      · by_cases ei : i < N
        · rw [lo i ei] at h4
          have := (h2 γ).mpr ⟨i, ei, h4⟩
          exact ⟨List.mem_cons_of_mem _ this.1, this.2⟩
        · rw [show i = N by omega, hi] at h4
          rw [h4]
          exact ⟨List.mem_cons_self, c.1⟩
    · refine ⟨E, N, h1, fun γ => ⟨fun h => ?_, fun h => ?_⟩⟩
      · rcases List.mem_cons.mp h.1 with e | e
        · by_cases c2 : a ∈ L
          · exact (h2 γ).mp ⟨e ▸ c2, h.2⟩
          · exact absurd ⟨e ▸ h.2, c2⟩ c
        · exact (h2 γ).mp ⟨e, h.2⟩
      · have := (h2 γ).mpr h
        exact ⟨List.mem_cons_of_mem _ this.1, this.2⟩
def alF9 : Nat → List (Nat → Bool)
  | 0 => [fun _ => false]
  | n + 1 => alF9 n ++ (alF9 n).map (fun s => on9 s n)
theorem alF_in : ∀ {n : Nat} {s : Nat → Bool}, (∀ y, n ≤ y → s y = false) → s ∈ alF9 n
  | 0, s, h => by
    rw [show s = fun _ => false from funext (fun y => h y (Nat.zero_le y))]
    exact List.mem_singleton.mpr rfl
  | n + 1, s, h => by
    by_cases c : s n = true
    · refine List.mem_append.mpr (Or.inr (List.mem_map.mpr ⟨off9 s n, alF_in (fun y hy => ?_), on_off c⟩))
      by_cases e : y = n
      · rw [e, off_x]
      · rw [off_o e]
        exact h y (by omega)
    · refine List.mem_append.mpr (Or.inl (alF_in (fun y hy => ?_)))
      by_cases e : y = n
      · rw [e]
        cases h9 : s n
        · rfl
        · exact absurd h9 c
      · exact h y (by omega)
theorem en_ex {P : gn9 → Prop} {n V : Nat} (h : ∀ γ, P γ → (∀ y, n ≤ y → γ.1 y = false) ∧ ∀ g, V ≤ g → γ.2 g = false) : ∃ E N, en9 P E N := by
  obtain ⟨E, N, h1, h2⟩ := en_li P ((alF9 n).flatMap (fun s => (alF9 V).map (fun m => (s, m))))
  refine ⟨E, N, h1, fun γ => ⟨fun h9 => (h2 γ).mp ⟨?_, h9⟩, fun h9 => ((h2 γ).mpr h9).2⟩⟩
  obtain ⟨a, b⟩ := h γ h9
  exact List.mem_flatMap.mpr ⟨γ.1, alF_in a, List.mem_map.mpr ⟨γ.2, alF_in b, rfl⟩⟩
theorem cn_le : ∀ {V V' : Nat} {P P' : Nat → Prop} (f : Nat → Nat), (∀ i, i < V → P i → f i < V' ∧ P' (f i)) → (∀ i j, i < V → j < V → P i → P j → f i = f j → i = j) → cn9 P V ≤ cn9 P' V'
  | 0, V', P, P', f, _, _ => Nat.zero_le _
  | V + 1, V', P, P', f, h1, h2 => by
    by_cases c : P V
    · rw [cn_y c]
      obtain ⟨q1, q2⟩ := h1 V (by omega) c
      have e := cn_one (P := fun i => P' i ∧ i ≠ f V) (Q := P') (a := f V) q1 (fun h9 => h9.2 rfl) (fun i _ => by
        constructor
        · intro h9
          by_cases e : i = f V
          · exact Or.inr e
          · exact Or.inl ⟨h9, e⟩
        · rintro (h9 | h9)
          · exact h9.1
          · rw [h9]
            exact q2)
      have := cn_le (V := V) (V' := V') (P := P) (P' := fun i => P' i ∧ i ≠ f V) f (fun i hi hp => ⟨(h1 i (by omega) hp).1, (h1 i (by omega) hp).2, fun h9 => by
        have := h2 i V (by omega) (by omega) hp c h9
        omega⟩) (fun i j hi hj => h2 i j (by omega) (by omega))
      omega
    · rw [cn_n c]
      exact cn_le f (fun i hi => h1 i (by omega)) (fun i j hi hj => h2 i j (by omega) (by omega))
end XCHI
section XCHJ
variable {n V V' k : Nat} {G G' : Nat → Prop} {P1 P2 P3 P1' P2' P3' : Nat → Nat} {rel rel' : (Nat → Bool) → Nat → Nat → Prop} {d : Int} {p b : Int}
theorem Sg_en (hC : cu9 n V G P1 P2 P3 rel) : fi9 (Sg9 n V G rel k d) := fun r => en_ex (n := n) (V := V) (fun γ hγ => ⟨hγ.1, fun g hg => hγ.2.1 g (fun h9 => by
  have := hC.2.2.1 g h9
  omega)⟩)
/-- as many loops -/
theorem cls_ph {R R' : Nat → Nat → Prop} {Q Q' : Nat → Prop} {φ : Nat → Nat} (hR : eqv9 R) (hR' : eqv9 R') (hV : ∀ g, G g → g < V) (hV' : ∀ g, G' g → g < V') (h1 : ∀ g, G' g → G (φ g)) (h2 : ∀ g h, G' g → G' h → (R' g h ↔ R (φ g) (φ h))) (h3 : ∀ g, G g → ∃ g', G' g' ∧ R g (φ g')) (hQ : ∀ g h, R g h → (Q g ↔ Q h)) (hq : ∀ g, G' g → (Q' g ↔ Q (φ g))) : cls9 R G V Q = cls9 R' G' V' Q' := by
  refine Nat.le_antisymm ?_ ?_
  · -- to the least of the loop there
    have ch : ∀ g, ∃ l, G g → ld9 R' G' l ∧ R g (φ l) := fun g => by
      by_cases c : G g
      · obtain ⟨g', a1, a2⟩ := h3 g c
        obtain ⟨l, l1, l2, -⟩ := ld_ex hR' g' a1
        exact ⟨l, fun _ => ⟨l1, hR.2.2 _ _ _ a2 (hR.2.1 _ _ ((h2 l g' l1.1 a1).mp l2))⟩⟩
      · exact ⟨0, fun h9 => absurd h9 c⟩
    refine cn_le (fun g => (ch g).choose) (fun g _ hg => ?_) (fun g h _ _ hg hh e => ?_)
    · obtain ⟨l1, l2⟩ := (ch g).choose_spec hg.1.1
      exact ⟨hV' _ l1.1, l1, (hq _ l1.1).mpr ((hQ _ _ l2).mp hg.2)⟩
    · obtain ⟨l1, l2⟩ := (ch g).choose_spec hg.1.1
      obtain ⟨m1, m2⟩ := (ch h).choose_spec hh.1.1
      have e : (ch g).choose = (ch h).choose := e
      rw [e] at l2
      exact ld_un hR hg.1 hh.1 (hR.2.2 _ _ _ l2 (hR.2.1 _ _ m2))
  · have ch : ∀ g, ∃ l, G' g → ld9 R G l ∧ R l (φ g) := fun g => by
      by_cases c : G' g
      · obtain ⟨l, l1, l2, -⟩ := ld_ex hR (φ g) (h1 g c)
        exact ⟨l, fun _ => ⟨l1, l2⟩⟩
      · exact ⟨0, fun h9 => absurd h9 c⟩
    refine cn_le (fun g => (ch g).choose) (fun g _ hg => ?_) (fun g h _ _ hg hh e => ?_)
    · obtain ⟨l1, l2⟩ := (ch g).choose_spec hg.1.1
      exact ⟨hV _ l1.1, l1, (hQ _ _ l2).mpr ((hq _ hg.1.1).mp hg.2)⟩
    · obtain ⟨l1, l2⟩ := (ch g).choose_spec hg.1.1
      obtain ⟨m1, m2⟩ := (ch h).choose_spec hh.1.1
      have e : (ch g).choose = (ch h).choose := e
      rw [e] at l2
      exact ld_un hR' hg.1 hh.1 ((h2 g h hg.1.1 hh.1.1).mpr (hR.2.2 _ _ _ (hR.2.1 _ _ l2) m2))
/-- the gaps G' for the gaps G -/
def phi9 (n : Nat) (G G' : Nat → Prop) (P1 P2 P3 P1' P2' P3' : Nat → Nat) (rel rel' : (Nat → Bool) → Nat → Nat → Prop) (φ : Nat → Nat) : Prop := (∀ g, G' g → G (φ g)) ∧ ∀ s, (∀ y, n ≤ y → s y = false) → (∀ g h, G' g → G' h → (rel' s g h ↔ rel s (φ g) (φ h))) ∧ (∀ g, G g → ∃ g', G' g' ∧ rel s g (φ g')) ∧ ∀ x, x < n → rel s (P1 x) (φ (P1' x)) ∧ rel s (P2 x) (φ (P2' x)) ∧ rel s (P3 x) (φ (P3' x))
noncomputable def kph9 (G' : Nat → Prop) (φ : Nat → Nat) (γ : gn9) : gn9 := (γ.1, fun g => dcb (G' g) && γ.2 (φ g))
theorem ph_deg {φ : Nat → Nat} (hC : cu9 n V G P1 P2 P3 rel) (hC' : cu9 n V' G' P1' P2' P3' rel') (hφ : phi9 n G G' P1 P2 P3 P1' P2' P3' rel rel' φ) {γ γ' : gn9} (z1 : ∀ y, n ≤ y → γ.1 y = false) (z3 : vl9 rel γ) (e1 : γ'.1 = γ.1) (e2 : ∀ g, G' g → γ'.2 g = γ.2 (φ g)) : dg9 rel' G' V' n γ' = dg9 rel G V n γ := by
  obtain ⟨f1, f2⟩ := hφ
  obtain ⟨a1, a2, -⟩ := f2 γ.1 z1
  unfold dg9
  rw [e1, ← cls_ph (Q := fun _ => True) (Q' := fun _ => True) (hC.1.1 γ.1) (hC'.1.1 γ.1) hC.2.2.1 hC'.2.2.1 f1 a1 a2 (fun _ _ _ => Iff.rfl) (fun _ _ => Iff.rfl), ← cls_ph (Q := fun g => γ.2 g = true) (Q' := fun g => γ'.2 g = true) (hC.1.1 γ.1) (hC'.1.1 γ.1) hC.2.2.1 hC'.2.2.1 f1 a1 a2 (fun g h h9 => by rw [z3 g h h9]) (fun g hg => by rw [e2 g hg])]
theorem Dx_ph {φ : Nat → Nat} {x : Nat} (hC : cu9 n V G P1 P2 P3 rel) (hC' : cu9 n V' G' P1' P2' P3' rel') (hφ : phi9 n G G' P1 P2 P3 P1' P2' P3' rel rel' φ) {γ : gn9} (z1 : ∀ y, n ≤ y → γ.1 y = false) (z3 : vl9 rel γ) (hx : x < n) (hs : γ.1 x = false) : Dx9 P1' P2' P3' rel' x (kph9 G' φ γ) = (Dx9 P1 P2 P3 rel x γ).map (fun q => (q.1, kph9 G' φ q.2)) := by
  obtain ⟨f1, f2⟩ := hφ
  obtain ⟨a1, a2, a3⟩ := f2 γ.1 z1
  obtain ⟨b1, b2, b3⟩ := f2 (on9 γ.1 x) (on_z hx z1)
  obtain ⟨g1, g2, g3⟩ := hC'.2.2.2 x hx
  have hE := hC.1.1 γ.1
  have hF := hC.1.1 (on9 γ.1 x)
  obtain ⟨u1, u2, u3⟩ := a3 x hx
  obtain ⟨v1, v2, v3⟩ := b3 x hx
  have m1 : ∀ a, G' a → (kph9 G' φ γ).2 a = γ.2 (φ a) := fun a ha => by
    show (dcb (G' a) && γ.2 (φ a)) = _
    rw [dcb_t.mpr ha, Bool.true_and]
  have e1 : (kph9 G' φ γ).2 (P1' x) = γ.2 (P1 x) := by rw [m1 _ g1, z3 _ _ u1]
  have e3 : (kph9 G' φ γ).2 (P3' x) = γ.2 (P3 x) := by rw [m1 _ g3, z3 _ _ u3]
  have c0 : dcb (rel' (kph9 G' φ γ).1 (P1' x) (P3' x)) = dcb (rel γ.1 (P1 x) (P3 x)) := dcb_c ((a1 _ _ g1 g3).trans ⟨fun h => hE.2.2 _ _ _ u1 (hE.2.2 _ _ _ h (hE.2.1 _ _ u3)), fun h => hE.2.2 _ _ _ (hE.2.1 _ _ u1) (hE.2.2 _ _ _ h u3)⟩)
  -- one term
  have tm : ∀ (B : Bool) (a a' : Nat), G' a' → rel (on9 γ.1 x) a (φ a') → ((on9 γ.1 x, fun g => (kph9 G' φ γ).2 g || (B && dcb (rel' (on9 γ.1 x) g a'))) : gn9) = kph9 G' φ (on9 γ.1 x, fun g => γ.2 g || (B && dcb (rel (on9 γ.1 x) g a))) := fun B a a' ga r => by
    refine Prod.ext rfl (funext (fun g => ?_))
    show ((dcb (G' g) && γ.2 (φ g)) || (B && dcb (rel' (on9 γ.1 x) g a'))) = (dcb (G' g) && (γ.2 (φ g) || (B && dcb (rel (on9 γ.1 x) (φ g) a))))
    by_cases c : G' g
    · have q : dcb (rel' (on9 γ.1 x) g a') = dcb (rel (on9 γ.1 x) (φ g) a) := dcb_c ((b1 g a' c ga).trans ⟨fun h => hF.2.2 _ _ _ h (hF.2.1 _ _ r), fun h => hF.2.2 _ _ _ h r⟩)
      rw [q, dcb_t.mpr c, Bool.true_and, Bool.true_and]
    · have q : dcb (rel' (on9 γ.1 x) g a') = false := dcb_f.mpr (fun h => c (hC'.2.1 _ (on_z hx z1) g a' h (fun h8 => c (h8 ▸ ga))).1)
      rw [q, dcb_f.mpr c, Bool.and_false]
      rfl
  unfold Dx9
  rw [c0]
  by_cases cc : dcb (rel γ.1 (P1 x) (P3 x)) = true
  · rw [if_pos cc, if_pos cc, e1]
    by_cases c1 : γ.2 (P1 x) = true
    · rw [if_pos c1, if_pos c1]
      rfl
    · rw [if_neg c1, if_neg c1]
      have t1 := tm true (P1 x) (P1' x) g1 v1
      have t2 := tm true (P2 x) (P2' x) g2 v2
      show [((1 : Int), ((on9 γ.1 x, fun g => (kph9 G' φ γ).2 g || (true && dcb (rel' (on9 γ.1 x) g (P1' x)))) : gn9)), (1, (on9 γ.1 x, fun g => (kph9 G' φ γ).2 g || (true && dcb (rel' (on9 γ.1 x) g (P2' x)))))] = _
      rw [t1, t2]
      rfl
  · rw [if_neg cc, if_neg cc, e1, e3]
    by_cases c1 : γ.2 (P1 x) = true ∧ γ.2 (P3 x) = true
    · rw [if_pos c1, if_pos c1]
      rfl
    · rw [if_neg c1, if_neg c1]
      have t1 := tm (γ.2 (P1 x) || γ.2 (P3 x)) (P1 x) (P1' x) g1 v1
      show [((1 : Int), ((on9 γ.1 x, fun g => (kph9 G' φ γ).2 g || ((γ.2 (P1 x) || γ.2 (P3 x)) && dcb (rel' (on9 γ.1 x) g (P1' x)))) : gn9))] = _
      rw [t1]
      rfl
theorem D_ph {φ : Nat → Nat} (hC : cu9 n V G P1 P2 P3 rel) (hC' : cu9 n V' G' P1' P2' P3' rel') (hφ : phi9 n G G' P1 P2 P3 P1' P2' P3' rel rel' φ) {γ : gn9} (z1 : ∀ y, n ≤ y → γ.1 y = false) (z3 : vl9 rel γ) : ∀ {k : Nat}, k ≤ n → D9 P1' P2' P3' rel' k (kph9 G' φ γ) = (D9 P1 P2 P3 rel k γ).map (fun q => (q.1, kph9 G' φ q.2))
  | 0, _ => rfl
  | k + 1, h => by
    show D9 P1' P2' P3' rel' k (kph9 G' φ γ) ++ (if γ.1 k = true then [] else scf9 (par9 γ.1 k) (Dx9 P1' P2' P3' rel' k (kph9 G' φ γ))) = (D9 P1 P2 P3 rel k γ ++ (if γ.1 k = true then [] else scf9 (par9 γ.1 k) (Dx9 P1 P2 P3 rel k γ))).map _
    rw [D_ph hC hC' hφ z1 z3 (k := k) (by omega), List.map_append]
    congr 1
    by_cases c : γ.1 k = true
    · rw [if_pos c, if_pos c]
      rfl
    · have c0 : γ.1 k = false := by
        cases h9 : γ.1 k
        · rfl
        · exact absurd h9 c
      rw [if_neg c, if_neg c, Dx_ph hC hC' hφ z1 z3 (by omega) c0]
      unfold scf9
      rw [List.map_map, List.map_map]
      rfl
/-- other gaps, the same number -/
theorem be_ph {φ : Nat → Nat} {r : Nat} (hp : pr9 p) (hi : iv9 p) (hC : cu9 n V G P1 P2 P3 rel) (hC' : cu9 n V' G' P1' P2' P3' rel') (hφ : phi9 n G G' P1 P2 P3 P1' P2' P3' rel rel' φ) (hb : be9 p (Sg9 n V G rel k d) (D9 P1 P2 P3 rel n) r b) : be9 p (Sg9 n V' G' rel' k d) (D9 P1' P2' P3' rel' n) r b := by
  obtain ⟨E', N', he'⟩ := fi_en (Sg_en (k := k) (d := d) hC')
  refine ⟨E', N', he', ?_⟩
  have ch : ∀ (s : Nat → Bool) g, ∃ g', (∀ y, n ≤ y → s y = false) → G g → G' g' ∧ rel s g (φ g') := fun s g => by
    by_cases c : (∀ y, n ≤ y → s y = false) ∧ G g
    · obtain ⟨g', h⟩ := (hφ.2 s c.1).2.1 g c.2
      exact ⟨g', fun _ _ => h⟩
    · exact ⟨0, fun h1 h2 => absurd ⟨h1, h2⟩ c⟩
  have pr : ∀ γ : gn9, (∀ y, n ≤ y → γ.1 y = false) → (∀ g, ¬ G' g → γ.2 g = false) → vl9 rel' γ → vl9 rel (γ.1, fun g => dcb (G g) && γ.2 (ch γ.1 g).choose) ∧ ∀ g, G' g → (dcb (G (φ g)) && γ.2 (ch γ.1 (φ g)).choose) = γ.2 g := fun γ z1 z2 z3 => by
    have hE := hC.1.1 γ.1
    obtain ⟨a1, -, -⟩ := hφ.2 γ.1 z1
    refine ⟨fun g h h1 => ?_, fun g hg => ?_⟩
    · show (dcb (G g) && γ.2 (ch γ.1 g).choose) = (dcb (G h) && γ.2 (ch γ.1 h).choose)
      have h1 : rel γ.1 g h := h1
      by_cases e : g = h
      · rw [e]
      · obtain ⟨q1, q2⟩ := hC.2.1 _ z1 g h h1 e
        rw [dcb_t.mpr q1, dcb_t.mpr q2]
        obtain ⟨w1, w2⟩ := (ch γ.1 g).choose_spec z1 q1
        obtain ⟨w3, w4⟩ := (ch γ.1 h).choose_spec z1 q2
        rw [z3 _ _ ((a1 _ _ w1 w3).mpr (hE.2.2 _ _ _ (hE.2.1 _ _ w2) (hE.2.2 _ _ _ h1 w4)))]
    · have q1 := hφ.1 g hg
      obtain ⟨w1, w2⟩ := (ch γ.1 (φ g)).choose_spec z1 q1
      rw [dcb_t.mpr q1, Bool.true_and]
      exact (z3 _ _ ((a1 _ _ hg w1).mpr w2)).symm
  refine isoT hp hi (cu_cg hC) (cu_cg hC') (kph9 G' φ) (fun γ => (γ.1, fun g => dcb (G g) && γ.2 (ch γ.1 g).choose)) (fun _ => 1) (fun _ => rfl) (fun r γ hγ => ?_) (fun r γ hγ => ?_) (fun r γ hγ => ?_) r hb he'
  · obtain ⟨z1, z2, z3, z4, z5⟩ := hγ
    obtain ⟨a1, -, -⟩ := hφ.2 γ.1 z1
    refine ⟨⟨z1, fun g hg => ?_, fun g h h1 => ?_, z4, ?_⟩, Prod.ext rfl (funext (fun g => ?_))⟩
    · show (dcb (G' g) && γ.2 (φ g)) = false
      rw [dcb_f.mpr hg]
      rfl
    · show (dcb (G' g) && γ.2 (φ g)) = (dcb (G' h) && γ.2 (φ h))
      have h1 : rel' γ.1 g h := h1
      by_cases e : g = h
      · rw [e]
      · obtain ⟨q1, q2⟩ := hC'.2.1 _ z1 g h h1 e
        rw [dcb_t.mpr q1, dcb_t.mpr q2, z3 _ _ ((a1 g h q1 q2).mp h1)]
    · rw [← z5]
      exact ph_deg hC hC' hφ z1 z3 rfl (fun g hg => by
        show (dcb (G' g) && γ.2 (φ g)) = _
        rw [dcb_t.mpr hg, Bool.true_and])
    · show (dcb (G g) && (dcb (G' (ch γ.1 g).choose) && γ.2 (φ (ch γ.1 g).choose))) = γ.2 g
      by_cases c : G g
      · obtain ⟨w1, w2⟩ := (ch γ.1 g).choose_spec z1 c
        rw [dcb_t.mpr c, dcb_t.mpr w1, Bool.true_and, Bool.true_and]
        exact (z3 _ _ w2).symm
      · rw [dcb_f.mpr c, z2 g c]
        rfl
  · obtain ⟨z1, z2, z3, z4, z5⟩ := hγ
    obtain ⟨t1, t2⟩ := pr γ z1 z2 z3
    refine ⟨⟨z1, fun g hg => ?_, t1, z4, ?_⟩, Prod.ext rfl (funext (fun g => ?_))⟩
    · show (dcb (G g) && γ.2 (ch γ.1 g).choose) = false
      rw [dcb_f.mpr hg]
      rfl
    · rw [← z5]
      exact (ph_deg hC hC' hφ (γ := (γ.1, fun g => dcb (G g) && γ.2 (ch γ.1 g).choose)) (γ' := γ) z1 t1 rfl (fun g hg => (t2 g hg).symm)).symm
    · show (dcb (G' g) && (dcb (G (φ g)) && γ.2 (ch γ.1 (φ g)).choose)) = γ.2 g
      by_cases c : G' g
      · rw [dcb_t.mpr c, Bool.true_and]
        exact t2 g c
      · rw [dcb_f.mpr c, z2 g c]
        rfl
  · obtain ⟨z1, z2, z3, z4, z5⟩ := hγ
    rw [D_ph hC hC' hφ z1 z3 (Nat.le_refl n)]
    exact eq_t (bd_map (c := 1) (κ := kph9 G' φ) (fun q _ => rfl)) eq_r
end XCHJ
