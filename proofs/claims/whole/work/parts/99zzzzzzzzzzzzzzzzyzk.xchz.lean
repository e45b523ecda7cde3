-- CHAIN: circles, and the class's own labels
def cirF : Nat → (Int → Int) → Int → Int
  | 0, F, d => F d
  | j + 1, F, d => cirF j F (d - 1) + cirF j F (d + 1)
def gS9 (A : rn_L) (i g : Nat) : Prop := (∃ p, p ∈ A.flatten ∧ g = gV9 p) ∨ ∃ j, j < i ∧ A[j]? = some [] ∧ g = 1000 + j
noncomputable def cb9 (A : rn_L) : Nat → Nat
  | 0 => 0
  | i + 1 => cb9 A i + @ite _ (A[i]? = some []) (Classical.propDecidable _) 1 0
section XCJ7
variable {A : rn_L} {sg : Nat → Bool} {nm f : Nat → Nat} {c k r : Nat} {p b : Int} {T : ow_NT} {w : vT → Bool}
theorem gS_all (g : Nat) : gS9 A A.length g ↔ gG9 A g := by
  constructor
  · rintro (h | ⟨j, a, e, h⟩)
    · exact Or.inl h
    · exact Or.inr ⟨j, a, e, h⟩
  · rintro (h | ⟨j, a, e, h⟩)
    · exact Or.inl h
    · exact Or.inr ⟨j, a, e, h⟩
theorem cb_all : cb9 A A.length = cirs A := by
  have key : ∀ i, i ≤ A.length → cb9 A i = cirs (A.take i) := by
    intro i
    induction i with
    | zero => exact fun _ => rfl
    | succ i ih =>
      intro hi
      show cb9 A i + @ite _ (A[i]? = some []) (Classical.propDecidable _) 1 0 = _
      rw [ih (by omega)]
      unfold cirs
      rw [List.take_succ, List.countP_append]
      cases e : A[i]? with
      | none =>
        have := List.getElem?_eq_none_iff.mp e
        omega
      | some x =>
        cases x with
        | nil =>
          rw [if_pos rfl]
          rfl
        | cons a l =>
          rw [if_neg (fun h => by cases h)]
          rfl
  have := key A.length (Nat.le_refl _)
  rw [List.take_length] at this
  exact this
theorem cu_S (hb : bdA A) (hO : nmO A nm c) (hC : cuL9 A sg nm c) (i : Nat) (hi : i ≤ A.length) : cu9 c 2000 (gS9 A i) (fun y => gV9 (nm y, 0)) (fun y => gV9 (prA9 A (nm y, 0))) (fun y => gV9 (prA9 A (nm y, 0))) (relL9 A sg nm c) := by
  refine ⟨hC.1, fun s _ g h h9 hne => ?_, fun g hg => ?_, fun x hx => ?_⟩
  · rcases relL_out hb.1 hO h9 with e | ⟨a, b⟩
    · exact absurd e hne
    · exact ⟨Or.inl a, Or.inl b⟩
  · rcases hg with ⟨q, q1, q2⟩ | ⟨j, j1, j2, j3⟩
    · have := gV_lt hb q1
      omega
    · have := hb.2.2
      omega
  · have m := (hO.1 x hx).1
    exact ⟨Or.inl ⟨_, m, rfl⟩, Or.inl ⟨_, prA_in hb.1 m, rfl⟩, Or.inl ⟨_, prA_in hb.1 m, rfl⟩⟩
theorem be_S (hp : pr9 p) (hi : iv9 p) (hb : bdA A) (hO : nmO A nm c) (hC : cuL9 A sg nm c) {F : Int → Int} (h0 : ∀ d, be9 p (Sg9 c 2000 (gS9 A 0) (relL9 A sg nm c) k d) (D9 (fun y => gV9 (nm y, 0)) (fun y => gV9 (prA9 A (nm y, 0))) (fun y => gV9 (prA9 A (nm y, 0))) (relL9 A sg nm c) c) r (F d)) : ∀ i, i ≤ A.length → ∀ d, be9 p (Sg9 c 2000 (gS9 A i) (relL9 A sg nm c) k d) (D9 (fun y => gV9 (nm y, 0)) (fun y => gV9 (prA9 A (nm y, 0))) (fun y => gV9 (prA9 A (nm y, 0))) (relL9 A sg nm c) c) r (cirF (cb9 A i) F d) := by
  intro i
  induction i with
  | zero => exact fun _ d => h0 d
  | succ i ih =>
    intro hl d
    have ih := ih (by omega)
    by_cases e : A[i]? = some []
    · have e1 : cb9 A (i + 1) = cb9 A i + 1 := by
        show cb9 A i + @ite _ (A[i]? = some []) (Classical.propDecidable _) 1 0 = _
        rw [if_pos e]
      rw [e1]
      have eG : (fun g => gS9 A (i + 1) g ∧ g ≠ 1000 + i) = gS9 A i := funext (fun g => propext ⟨fun h => ?_, fun h => ?_⟩)
      · have R := be_cir (o := 1000 + i) (b1 := cirF (cb9 A i) F (d - 1)) (b2 := cirF (cb9 A i) F (d + 1)) (k := k) (r := r) (d := d) hp hi (cu_S hb hO hC (i + 1) hl) (Or.inr ⟨i, by omega, e, rfl⟩) (fun s _ g h9 => ?_) (fun x hx => ?_) ?_ ?_
        · exact R.2
        · rcases relL_out hb.1 hO h9 with h8 | ⟨⟨q, q1, q2⟩, -⟩
          · exact h8.symm
          · have := gV_lt hb q1
            omega
        · have m := (hO.1 x hx).1
          have a := gV_lt hb m
          have b := gV_lt hb (prA_in hb.1 m)
          exact ⟨by omega, by omega, by omega⟩
        · rw [eG]
          exact ih (d - 1)
        · rw [eG]
          exact ih (d + 1)
      · rcases h with ⟨h | ⟨j, j1, j2, j3⟩, hne⟩
        · exact Or.inl h
        · exact Or.inr ⟨j, by omega, j2, j3⟩
      · refine ⟨?_, ?_⟩
        · rcases h with h | ⟨j, j1, j2, j3⟩
          · exact Or.inl h
          · exact Or.inr ⟨j, by omega, j2, j3⟩
        · rcases h with ⟨q, q1, q2⟩ | ⟨j, j1, j2, j3⟩
          · have := gV_lt hb q1
            omega
          · omega
    · have e1 : cb9 A (i + 1) = cb9 A i := by
        show cb9 A i + @ite _ (A[i]? = some []) (Classical.propDecidable _) 1 0 = _
        rw [if_neg e, Nat.add_zero]
      have eG : gS9 A (i + 1) = gS9 A i := funext (fun g => propext ⟨fun h => ?_, fun h => ?_⟩)
      · rw [e1, eG]
        exact ih d
      · rcases h with h | ⟨j, j1, j2, j3⟩
        · exact Or.inl h
        · refine Or.inr ⟨j, ?_, j2, j3⟩
          rcases Nat.lt_or_ge j i with q | q
          · exact q
          · rw [show j = i by omega] at j2
            exact absurd j2 e
      · rcases h with h | ⟨j, j1, j2, j3⟩
        · exact Or.inl h
        · exact Or.inr ⟨j, by omega, j2, j3⟩
/-- other names of the labels -/
theorem cu_pb {n V V' : Nat} {G G' : Nat → Prop} {P1 P2 P3 P1' P2' P3' : Nat → Nat} {rel rel' : (Nat → Bool) → Nat → Nat → Prop} {φ : Nat → Nat} (hC : cu9 n V G P1 P2 P3 rel) (hV : ∀ g, G' g → g < V') (hE : ∀ s, eqv9 (rel' s)) (hr : ∀ s g h, G' g → G' h → (rel' s g h ↔ rel s (φ g) (φ h))) (ho : ∀ s g h, rel' s g h → g ≠ h → G' g ∧ G' h) (hP : ∀ x, x < n → (G' (P1' x) ∧ G' (P2' x) ∧ G' (P3' x)) ∧ φ (P1' x) = P1 x ∧ φ (P2' x) = P2 x ∧ φ (P3' x) = P3 x) : cu9 n V' G' P1' P2' P3' rel' := by
  have key : ∀ s t a b, G' a → G' b → (∀ g h, rel s g h ↔ adr (rel t) (φ a) (φ b) g h) → ∀ g h, rel' s g h ↔ adr (rel' t) a b g h := fun s t a b ha hb hq g h => by
    by_cases cg : G' g
    · by_cases ch : G' h
      · rw [hr s g h cg ch, hq]
        unfold adr
        rw [hr t g h cg ch, hr t g a cg ha, hr t h b ch hb, hr t g b cg hb, hr t h a ch ha]
      · constructor
        · intro h9
          by_cases e : g = h
          · rw [e]
            exact Or.inl ((hE t).1 h)
          · exact absurd (ho s g h h9 e).2 ch
        · rintro (h9 | ⟨-, h9⟩ | ⟨-, h9⟩)
          · by_cases e : g = h
            · rw [e]
              exact (hE s).1 h
            · exact absurd (ho t g h h9 e).2 ch
          · by_cases e : h = b
            · exact absurd (e ▸ hb) ch
            · exact absurd (ho t h b h9 e).1 ch
          · by_cases e : h = a
            · exact absurd (e ▸ ha) ch
            · exact absurd (ho t h a h9 e).1 ch
    · constructor
      · intro h9
        by_cases e : g = h
        · rw [e]
          exact Or.inl ((hE t).1 h)
        · exact absurd (ho s g h h9 e).1 cg
      · rintro (h9 | ⟨h9, -⟩ | ⟨h9, -⟩)
        · by_cases e : g = h
          · rw [e]
            exact (hE s).1 h
          · exact absurd (ho t g h h9 e).1 cg
        · by_cases e : g = a
          · exact absurd (e ▸ ha) cg
          · exact absurd (ho t g a h9 e).1 cg
        · by_cases e : g = b
          · exact absurd (e ▸ hb) cg
          · exact absurd (ho t g b h9 e).1 cg
  refine ⟨⟨hE, fun s x hx hs => ?_⟩, fun s _ => ho s, hV, fun x hx => (hP x hx).1⟩
  obtain ⟨⟨g1, g2, g3⟩, e1, e2, e3⟩ := hP x hx
  rcases hC.1.2 s x hx hs with ⟨a, b⟩ | ⟨a, b, d⟩
  · left
    rw [← e1, ← e3] at a b
    exact ⟨fun h9 => a ((hr s _ _ g1 g3).mp h9), key _ _ _ _ g1 g3 b⟩
  · right
    rw [← e1] at a b d
    rw [← e3] at a
    rw [← e2] at b d
    exact ⟨(hr s _ _ g1 g3).mpr a, fun h9 => b ((hr _ _ _ g1 g2).mp h9), key _ _ _ _ g1 g2 d⟩
/-- the class's own labels: gaps by number -/
def relC9 (S : ow_NP) (G : Nat → Int32) (c : Nat) (s : Nat → Bool) (g h : Nat) : Prop := g = h ∨ (g < 2 * c ∧ h < 2 * c ∧ rt (uPx S G s c) g = rt (uPx S G s c) h)
theorem relC_e (S : ow_NP) (G : Nat → Int32) (c : Nat) (s : Nat → Bool) : eqv9 (relC9 S G c s) := by
  refine ⟨fun g => Or.inl rfl, fun g h h9 => ?_, fun g h l h9 h8 => ?_⟩
  · rcases h9 with e | ⟨a, b, e⟩
    · exact Or.inl e.symm
    · exact Or.inr ⟨b, a, e.symm⟩
  · rcases h9 with e | ⟨a, b, e⟩
    · rw [e]
      exact h8
    · rcases h8 with e2 | ⟨a2, b2, e2⟩
      · rw [← e2]
        exact Or.inr ⟨a, b, e⟩
      · exact Or.inr ⟨a, b2, e.trans e2⟩
theorem cls_ph9 (hb : bdA A) (h : isoV A sg f T) (hz : ∀ x, x < T.1 → T.2.2.2 x ≠ 0) (hm : nmT A f nm T.1) (hC : cuL9 A sg nm T.1) : cu9 T.1 2000 (fun g => g < 2 * T.1) (fun x => 2 * x) (fun x => T.2.2.1.2 (2 * x)) (fun x => T.2.2.1.2 (2 * x)) (relC9 T.2.2.1 T.2.2.2 T.1) ∧ phi9 T.1 (gS9 A 0) (fun g => g < 2 * T.1) (fun y => gV9 (nm y, 0)) (fun y => gV9 (prA9 A (nm y, 0))) (fun y => gV9 (prA9 A (nm y, 0))) (fun x => 2 * x) (fun x => T.2.2.1.2 (2 * x)) (fun x => T.2.2.1.2 (2 * x)) (relL9 A sg nm T.1) (relC9 T.2.2.1 T.2.2.2 T.1) (fun g => gV9 (nm (g / 2), g % 2)) := by
  have hO := nm_O h hm
  have u2 : ∀ p, p ∈ A.flatten → p.2 < 2 := fun p hp => (h.1.1.2 p hp).2.1
  have h12 : T.1 ≤ 12 := h.1.2.2.1
  have inA : ∀ g, g < 2 * T.1 → (nm (g / 2), g % 2) ∈ A.flatten := fun g hg => by
    have q := hO.1 (g / 2) (by omega)
    rcases (show g % 2 = 0 ∨ g % 2 = 1 by omega) with e | e <;> rw [e]
    · exact q.1
    · exact q.2
  have glg : ∀ g, g < 2 * T.1 → gl f (nm (g / 2), g % 2) = g := fun g hg => by
    unfold gl
    rw [(hm (g / 2) (by omega)).1]
    simp only []
    omega
  have bk : ∀ q, q ∈ A.flatten → gl f q < 2 * T.1 ∧ gV9 (nm (gl f q / 2), gl f q % 2) = gV9 q := fun q hq => by
    have e := nm_f h hm hq
    have e2 := u2 q hq
    refine ⟨gl_lt h hq, ?_⟩
    have e3 : gl f q / 2 = f q.1 := by
      unfold gl
      omega
    have e4 : gl f q % 2 = q.2 := by
      unfold gl
      omega
    rw [e3, e4, e]
  have hr : ∀ s g k, g < 2 * T.1 → k < 2 * T.1 → (relC9 T.2.2.1 T.2.2.2 T.1 s g k ↔ relL9 A sg nm T.1 s (gV9 (nm (g / 2), g % 2)) (gV9 (nm (k / 2), k % 2))) := fun s g k hg hk => by
    rw [relL_T h hz hm (inA g hg) (inA k hk), glg g hg, glg k hk]
    exact ⟨fun h9 => h9.elim (fun e => by rw [e]) (fun e => e.2.2), fun h9 => Or.inr ⟨hg, hk, h9⟩⟩
  have hP : ∀ x, x < T.1 → ((2 * x < 2 * T.1) ∧ T.2.2.1.2 (2 * x) < 2 * T.1 ∧ T.2.2.1.2 (2 * x) < 2 * T.1) ∧ gV9 (nm (2 * x / 2), 2 * x % 2) = gV9 (nm x, 0) ∧ gV9 (nm (T.2.2.1.2 (2 * x) / 2), T.2.2.1.2 (2 * x) % 2) = gV9 (prA9 A (nm x, 0)) ∧ gV9 (nm (T.2.2.1.2 (2 * x) / 2), T.2.2.1.2 (2 * x) % 2) = gV9 (prA9 A (nm x, 0)) := fun x hx => by
    have m := (hO.1 x hx).1
    have e0 : gl f (nm x, 0) = 2 * x := by
      unfold gl
      rw [(hm x hx).1]
      rfl
    have e1 := pv_gl h m
    rw [e0] at e1
    obtain ⟨b1, b2⟩ := bk _ (prA_in hb.1 m)
    rw [e1]
    exact ⟨⟨by omega, b1, b1⟩, by rw [show 2 * x / 2 = x by omega, show 2 * x % 2 = 0 by omega], b2, b2⟩
  refine ⟨cu_pb hC (fun g hg => by omega) (relC_e _ _ _) hr (fun s g k h9 hne => ?_) hP, fun g hg => Or.inl ⟨_, inA g hg, rfl⟩, fun s _ => ⟨fun g k hg hk => hr s g k hg hk, fun g hg => ?_, fun x hx => ?_⟩⟩
  · rcases h9 with e | ⟨a, b, -⟩
    · exact absurd e hne
    · exact ⟨a, b⟩
  · rcases hg with ⟨q, q1, q2⟩ | ⟨j, j1, -⟩
    · refine ⟨gl f q, (bk q q1).1, ?_⟩
      dsimp only
      rw [(bk q q1).2, q2]
      exact (hC.1.1 s).1 _
    · exact absurd j1 (Nat.not_lt_zero _)
  · obtain ⟨-, e1, e2, e3⟩ := hP x hx
    dsimp only
    rw [e1, e2]
    exact ⟨(hC.1.1 s).1 _, (hC.1.1 s).1 _, (hC.1.1 s).1 _⟩
theorem LT_C {y : ow_MS} {S : ow_NP} {G : Nat → Int32} {Ls : Nat → Nat → Nat} {ns : Nat → Nat} (hL : LpY y S G c Ls ns) : LT9 c (fun g => g < 2 * c) (relC9 S G c) Ls ns := fun s hs => by
  obtain ⟨⟨h1, h2, h3, h4, h5⟩, h6⟩ := hL s hs
  refine ⟨fun g hg => (h1 g hg).2, fun l hl => ?_, fun g g' hg hg' => ?_, by omega⟩
  · obtain ⟨g, a, -, e⟩ := h3 l hl
    exact ⟨g, a, e⟩
  · rw [h4 g g' hg hg']
    exact ⟨fun e => Or.inr ⟨hg, hg', e⟩, fun e => e.elim (fun e => by rw [e]) (fun e => e.2.2)⟩
/-- the number of a group by the class's table -/
noncomputable def bq9 (p : Int) (c : Nat) (S : ow_NP) (G : Nat → Int32) (Ls : Nat → Nat → Nat) (ns : Nat → Nat) (h : Nat) (dg : Int) : Int := (sz9 c ns dg h : Int) - (RK9 p c (fun g => g < 2 * c) (relC9 S G c) (fun x => 2 * x) (fun x => S.2 (2 * x)) Ls ns dg h : Int) - (bf9 (fun o => RK9 p c (fun g => g < 2 * c) (relC9 S G c) (fun x => 2 * x) (fun x => S.2 (2 * x)) Ls ns dg o) h : Int)
theorem be_bq {y : ow_MS} {S : ow_NP} {G : Nat → Int32} {Ls : Nat → Nat → Nat} {ns : Nat → Nat} {d : Int} (hp : pr9 p) (hi : iv9 p) (hc : c ≤ 12) (hC : cu9 c 2000 (fun g => g < 2 * c) (fun x => 2 * x) (fun x => S.2 (2 * x)) (fun x => S.2 (2 * x)) (relC9 S G c)) (hL : LpY y S G c Ls ns) (hb : be9 p (Sg9 c 2000 (fun g => g < 2 * c) (relC9 S G c) k d) (D9 (fun x => 2 * x) (fun x => S.2 (2 * x)) (fun x => S.2 (2 * x)) (relC9 S G c) c) r b) : b = if r + 1 < k then 0 else bq9 p c S G Ls ns (r + 1 - k) d := by
  obtain ⟨e1, e2, e3⟩ := be_MT hp hi hC (LT_C hL) (by omega) hb
  by_cases q : r + 1 < k
  · rw [if_pos q]
    exact e1 q
  · rw [if_neg q]
    unfold bq9
    by_cases q2 : r + 1 = k
    · have := e2 q2
      rw [show r + 1 - k = 0 by omega]
      show b = _ - _ - ((0 : Nat) : Int)
      omega
    · have := e3 (r - k) (by omega)
      rw [show r + 1 - k = (r - k) + 1 by omega]
      show b = _ - _ - ((RK9 p c (fun g => g < 2 * c) (relC9 S G c) (fun x => 2 * x) (fun x => S.2 (2 * x)) Ls ns d (r - k) : Nat) : Int)
      omega
/-- the number of the list by the class's table -/
theorem bL_cl {y : ow_MS} {Ls : Nat → Nat → Nat} {ns : Nat → Nat} {d : Int} (hp : pr9 p) (hi : iv9 p) (h : isoV A sg f T) (hT : pm1 T) (hw : gaA A w) (hb : bdA A) (hO : nmO A nm T.1) (hL : LpY y T.2.2.1 T.2.2.2 T.1 Ls ns) (hB : bL9 p A sg nm T.1 k d r b) : b = cirF (cirs A) (fun d => if r + 1 < k then 0 else bq9 p T.1 T.2.2.1 T.2.2.2 Ls ns (r + 1 - k) d) d := by
  have hz : ∀ x, x < T.1 → T.2.2.2 x ≠ 0 := fun x hx => by
    rcases hT x hx with e | e <;> rw [e] <;> decide
  obtain ⟨n1, hn⟩ := nmT_ex h
  have o1 := nm_O h hn
  have C0 := cuA hp hi h hT hw hb hO
  obtain ⟨C1, B1⟩ := bL_any hp hi hO o1 C0 hB
  obtain ⟨k1, k2⟩ := cls_ph9 hb h hz hn C1
  have CS := cu_S hb o1 C1 0 (Nat.zero_le _)
  have h0 : ∀ d, be9 p (Sg9 T.1 2000 (gS9 A 0) (relL9 A sg n1 T.1) k d) (D9 (fun y => gV9 (n1 y, 0)) (fun y => gV9 (prA9 A (n1 y, 0))) (fun y => gV9 (prA9 A (n1 y, 0))) (relL9 A sg n1 T.1) T.1) r (if r + 1 < k then 0 else bq9 p T.1 T.2.2.1 T.2.2.2 Ls ns (r + 1 - k) d) := fun d => by
    obtain ⟨E, N, he⟩ := fi_en (Sg_en (k := k) (d := d) CS)
    have hb0 : be9 p (Sg9 T.1 2000 (gS9 A 0) (relL9 A sg n1 T.1) k d) (D9 (fun y => gV9 (n1 y, 0)) (fun y => gV9 (prA9 A (n1 y, 0))) (fun y => gV9 (prA9 A (n1 y, 0))) (relL9 A sg n1 T.1) T.1) r ((N (r + 1) : Int) - rn9 p E N (D9 (fun y => gV9 (n1 y, 0)) (fun y => gV9 (prA9 A (n1 y, 0))) (fun y => gV9 (prA9 A (n1 y, 0))) (relL9 A sg n1 T.1) T.1) (r + 1) - rn9 p E N (D9 (fun y => gV9 (n1 y, 0)) (fun y => gV9 (prA9 A (n1 y, 0))) (fun y => gV9 (prA9 A (n1 y, 0))) (relL9 A sg n1 T.1) T.1) r) := ⟨E, N, he, by omega⟩
    have e := be_bq (r := r) hp hi h.1.2.2.1 k1 hL (be_ph hp hi CS k1 k2 hb0)
    rw [← e]
    exact hb0
  have R := be_S hp hi hb o1 C1 h0 A.length (Nat.le_refl _) d
  rw [cb_all, show gS9 A A.length = gG9 A from funext (fun g => propext (gS_all g))] at R
  exact be_un hp hi (cu_cg (k := k) (d := d) C1) r B1 R
end XCJ7
