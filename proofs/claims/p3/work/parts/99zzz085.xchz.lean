section
/-! 99zzzzzzzzzzzzzzzzyzk.xchz -/
-- CHAIN: circles, and the class's own labels
def cirF : Nat → (Int → Int) → Int → Int
  | 0, F, d => F d
  | j + 1, F, d => cirF j F (d - 1) + cirF j F (d + 1)
def gS9 (A : rn_L) (i g : Nat) : Prop := (∃ p, p ∈ A.flatten ∧ g = gV9 p) ∨ ∃ j, j < i ∧ A[j]? = some [] ∧ g = 1000 + j
noncomputable def cb9 (A : rn_L) : Nat → Nat
  | 0 => 0
  | i + 1 => cb9 A i + @ite _ (A[i]? = some []) (Classical.propDecidable _) 1 0
section XCJ7
variable {A : rn_L} {sg : Nat → Bool} {nm f : Nat → Nat} {c k r : Nat} {p b : Int} {T : ow_NT} {w : vT → Bool}
theorem gS_all (g : Nat) : gS9 A A.length g ↔ gG9 A g := by
  constructor
  · rintro (h | ⟨j, a, e, h⟩)
    · exact Or.inl h
    · exact Or.inr ⟨j, a, e, h⟩
  · rintro (h | ⟨j, a, e, h⟩)
    · exact Or.inl h
    · exact Or.inr ⟨j, a, e, h⟩
theorem cb_all : cb9 A A.length = cirs A := by
  have key : ∀ i, i ≤ A.length → cb9 A i = cirs (A.take i) := by
    intro i
    induction i with
    | zero => exact fun _ => rfl
    | succ i ih =>
      intro hi
      show cb9 A i + @ite _ (A[i]? = some []) (Classical.propDecidable _) 1 0 = _
      rw [ih (by omega)]
      unfold cirs
      rw [List.take_succ, List.countP_append]
      cases e : A[i]? with
      | none =>
        have := List.getElem?_eq_none_iff.mp e
        omega
      | some x =>
        cases x with
        | nil =>
          rw [if_pos rfl]
          rfl
        | cons a l =>
          rw [if_neg (fun h => by cases h)]
          rfl
  have := key A.length (Nat.le_refl _)
  rw [List.take_length] at this
  exact this
theorem cu_S (hb : bdA A) (hO : nmO A nm c) (hC : cuL9 A sg nm c) (i : Nat) (hi : i ≤ A.length) : cu9 c 2000 (gS9 A i) (fun y => gV9 (nm y, 0)) (fun y => gV9 (prA9 A (nm y, 0))) (fun y => gV9 (prA9 A (nm y, 0))) (relL9 A sg nm c) := by
  refine ⟨hC.1, fun s _ g h h9 hne => ?_, fun g hg => ?_, fun x hx => ?_⟩
  · rcases relL_out hb.1 hO h9 with e | ⟨a, b⟩
    · exact absurd e hne
    · exact ⟨Or.inl a, Or.inl b⟩
  · rcases hg with ⟨q, q1, q2⟩ | ⟨j, j1, j2, j3⟩
    · have := gV_lt hb q1
      omega
    · have := hb.2.2
      omega
  · have m := (hO.1 x hx).1
    exact ⟨Or.inl ⟨_, m, rfl⟩, Or.inl ⟨_, prA_in hb.1 m, rfl⟩, Or.inl ⟨_, prA_in hb.1 m, rfl⟩⟩
theorem be_S (hp : pr9 p) (hi : iv9 p) (hb : bdA A) (hO : nmO A nm c) (hC : cuL9 A sg nm c) {F : Int → Int} (h0 : ∀ d, be9 p (Sg9 c 2000 (gS9 A 0) (relL9 A sg nm c) k d) (D9 (fun y => gV9 (nm y, 0)) (fun y => gV9 (prA9 A (nm y, 0))) (fun y => gV9 (prA9 A (nm y, 0))) (relL9 A sg nm c) c) r (F d)) : ∀ i, i ≤ A.length → ∀ d, be9 p (Sg9 c 2000 (gS9 A i) (relL9 A sg nm c) k d) (D9 (fun y => gV9 (nm y, 0)) (fun y => gV9 (prA9 A (nm y, 0))) (fun y => gV9 (prA9 A (nm y, 0))) (relL9 A sg nm c) c) r (cirF (cb9 A i) F d) := by
  intro i
  induction i with
  | zero => exact fun _ d => h0 d
  | succ i ih =>
    intro hl d
    have ih := ih (by omega)
    by_cases e : A[i]? = some []
    · have e1 : cb9 A (i + 1) = cb9 A i + 1 := by
        show cb9 A i + @ite _ (A[i]? = some []) (Classical.propDecidable _) 1 0 = _
        rw [if_pos e]
      rw [e1]
      have eG : (fun g => gS9 A (i + 1) g ∧ g ≠ 1000 + i) = gS9 A i := funext (fun g => propext ⟨fun h => ?_, fun h => ?_⟩)
      · have R := be_cir (o := 1000 + i) (b1 := cirF (cb9 A i) F (d - 1)) (b2 := cirF (cb9 A i) F (d + 1)) (k := k) (r := r) (d := d) hp hi (cu_S hb hO hC (i + 1) hl) (Or.inr ⟨i, by omega, e, rfl⟩) (fun s _ g h9 => ?_) (fun x hx => ?_) ?_ ?_
        · exact R.2
        · rcases relL_out hb.1 hO h9 with h8 | ⟨⟨q, q1, q2⟩, -⟩
          · exact h8.symm
          · have := gV_lt hb q1
            omega
        · have m := (hO.1 x hx).1
          have a := gV_lt hb m
          have b := gV_lt hb (prA_in hb.1 m)
          exact ⟨by omega, by omega, by omega⟩
        · rw [eG]
          exact ih (d - 1)
        · rw [eG]
          exact ih (d + 1)
      · rcases h with ⟨h | ⟨j, j1, j2, j3⟩, hne⟩
        · exact Or.inl h
        · exact Or.inr ⟨j, by omega, j2, j3⟩
      · refine ⟨?_, ?_⟩
        · rcases h with h | ⟨j, j1, j2, j3⟩
          · exact Or.inl h
          · exact Or.inr ⟨j, by omega, j2, j3⟩
        · rcases h with ⟨q, q1, q2⟩ | ⟨j, j1, j2, j3⟩
          · have := gV_lt hb q1
            omega
          · omega
    · have e1 : cb9 A (i + 1) = cb9 A i := by
        show cb9 A i + @ite _ (A[i]? = some []) (Classical.propDecidable _) 1 0 = _
        rw [if_neg e, Nat.add_zero]
      have eG : gS9 A (i + 1) = gS9 A i := funext (fun g => propext ⟨fun h => ?_, fun h => ?_⟩)
      · rw [e1, eG]
        exact ih d
      · rcases h with h | ⟨j, j1, j2, j3⟩
        · exact Or.inl h
        · refine Or.inr ⟨j, ?_, j2, j3⟩
          rcases Nat.lt_or_ge j i with q | q
          · exact q
          · rw [show j = i by omega] at j2
            exact absurd j2 e
      · rcases h with h | ⟨j, j1, j2, j3⟩
        · exact Or.inl h
        · exact Or.inr ⟨j, by omega, j2, j3⟩
/-- other names of the labels -/
theorem cu_pb {n V V' : Nat} {G G' : Nat → Prop} {P1 P2 P3 P1' P2' P3' : Nat → Nat} {rel rel' : (Nat → Bool) → Nat → Nat → Prop} {φ : Nat → Nat} (hC : cu9 n V G P1 P2 P3 rel) (hV : ∀ g, G' g → g < V') (hE : ∀ s, eqv9 (rel' s)) (hr : ∀ s g h, G' g → G' h → (rel' s g h ↔ rel s (φ g) (φ h))) (ho : ∀ s g h, rel' s g h → g ≠ h → G' g ∧ G' h) (hP : ∀ x, x < n → (G' (P1' x) ∧ G' (P2' x) ∧ G' (P3' x)) ∧ φ (P1' x) = P1 x ∧ φ (P2' x) = P2 x ∧ φ (P3' x) = P3 x) : cu9 n V' G' P1' P2' P3' rel' := by
  have key : ∀ s t a b, G' a → G' b → (∀ g h, rel s g h ↔ adr (rel t) (φ a) (φ b) g h) → ∀ g h, rel' s g h ↔ adr (rel' t) a b g h := fun s t a b ha hb hq g h => by
    by_cases cg : G' g
    · by_cases ch : G' h
      · rw [hr s g h cg ch, hq]
        unfold adr
        rw [hr t g h cg ch, hr t g a cg ha, hr t h b ch hb, hr t g b cg hb, hr t h a ch ha]
      · constructor
        · intro h9
          by_cases e : g = h
          · rw [e]
            exact Or.inl ((hE t).1 h)
          · exact absurd (ho s g h h9 e).2 ch
        · rintro (h9 | ⟨-, h9⟩ | ⟨-, h9⟩)
          · by_cases e : g = h
            · rw [e]
              exact (hE s).1 h
            · exact absurd (ho t g h h9 e).2 ch
          · by_cases e : h = b
            · exact absurd (e ▸ hb) ch
            · exact absurd (ho t h b h9 e).1 ch
          · by_cases e : h = a
            · exact absurd (e ▸ ha) ch
            · exact absurd (ho t h a h9 e).1 ch
    · constructor
      · intro h9
        by_cases e : g = h
        · rw [e]
          exact Or.inl ((hE t).1 h)
        · exact absurd (ho s g h h9 e).1 cg
      · rintro (h9 | ⟨h9, -⟩ | ⟨h9, -⟩)
        · by_cases e : g = h
          · rw [e]
            exact (hE s).1 h
          · exact absurd (ho t g h h9 e).1 cg
        · by_cases e : g = a
          · exact absurd (e ▸ ha) cg
          · exact absurd (ho t g a h9 e).1 cg
        · by_cases e : g = b
          · exact absurd (e ▸ hb) cg
          · exact absurd (ho t g b h9 e).1 cg
  refine ⟨⟨hE, fun s x hx hs => ?_⟩, fun s _ => ho s, hV, fun x hx => (hP x hx).1⟩
  obtain ⟨⟨g1, g2, g3⟩, e1, e2, e3⟩ := hP x hx
  rcases hC.1.2 s x hx hs with ⟨a, b⟩ | ⟨a, b, d⟩
  · left
    rw [← e1, ← e3] at a b
    exact ⟨fun h9 => a ((hr s _ _ g1 g3).mp h9), key _ _ _ _ g1 g3 b⟩
  · right
    rw [← e1] at a b d
    rw [← e3] at a
    rw [← e2] at b d
    exact ⟨(hr s _ _ g1 g3).mpr a, fun h9 => b ((hr _ _ _ g1 g2).mp h9), key _ _ _ _ g1 g2 d⟩
/-- the class's own labels: gaps by number -/
def relC9 (S : ow_NP) (G : Nat → Int32) (c : Nat) (s : Nat → Bool) (g h : Nat) : Prop := g = h ∨ (g < 2 * c ∧ h < 2 * c ∧ rt (uPx S G s c) g = rt (uPx S G s c) h)
theorem relC_e (S : ow_NP) (G : Nat → Int32) (c : Nat) (s : Nat → Bool) : eqv9 (relC9 S G c s) := by
  refine ⟨fun g => Or.inl rfl, fun g h h9 => ?_, fun g h l h9 h8 => ?_⟩
  · rcases h9 with e | ⟨a, b, e⟩
    · exact Or.inl e.symm
    · exact Or.inr ⟨b, a, e.symm⟩
  · rcases h9 with e | ⟨a, b, e⟩
    · rw [e]
      exact h8
    · rcases h8 with e2 | ⟨a2, b2, e2⟩
      · rw [← e2]
        exact Or.inr ⟨a, b, e⟩
      · exact Or.inr ⟨a, b2, e.trans e2⟩
theorem cls_ph9 (hb : bdA A) (h : isoV A sg f T) (hz : ∀ x, x < T.1 → T.2.2.2 x ≠ 0) (hm : nmT A f nm T.1) (hC : cuL9 A sg nm T.1) : cu9 T.1 2000 (fun g => g < 2 * T.1) (fun x => 2 * x) (fun x => T.2.2.1.2 (2 * x)) (fun x => T.2.2.1.2 (2 * x)) (relC9 T.2.2.1 T.2.2.2 T.1) ∧ phi9 T.1 (gS9 A 0) (fun g => g < 2 * T.1) (fun y => gV9 (nm y, 0)) (fun y => gV9 (prA9 A (nm y, 0))) (fun y => gV9 (prA9 A (nm y, 0))) (fun x => 2 * x) (fun x => T.2.2.1.2 (2 * x)) (fun x => T.2.2.1.2 (2 * x)) (relL9 A sg nm T.1) (relC9 T.2.2.1 T.2.2.2 T.1) (fun g => gV9 (nm (g / 2), g % 2)) := by
  have hO := nm_O h hm
  have u2 : ∀ p, p ∈ A.flatten → p.2 < 2 := fun p hp => (h.1.1.2 p hp).2.1
  have h12 : T.1 ≤ 12 := h.1.2.2.1
  have inA : ∀ g, g < 2 * T.1 → (nm (g / 2), g % 2) ∈ A.flatten := fun g hg => by
    have q := hO.1 (g / 2) (by omega)
    rcases (show g % 2 = 0 ∨ g % 2 = 1 by omega) with e | e <;> rw [e]
    · exact q.1
    · exact q.2
  have glg : ∀ g, g < 2 * T.1 → gl f (nm (g / 2), g % 2) = g := fun g hg => by
    unfold gl
    rw [(hm (g / 2) (by omega)).1]
    simp only []
    omega
  have bk : ∀ q, q ∈ A.flatten → gl f q < 2 * T.1 ∧ gV9 (nm (gl f q / 2), gl f q % 2) = gV9 q := fun q hq => by
    have e := nm_f h hm hq
    have e2 := u2 q hq
    refine ⟨gl_lt h hq, ?_⟩
    have e3 : gl f q / 2 = f q.1 := by
      unfold gl
      omega
    have e4 : gl f q % 2 = q.2 := by
      unfold gl
      omega
    rw [e3, e4, e]
  have hr : ∀ s g k, g < 2 * T.1 → k < 2 * T.1 → (relC9 T.2.2.1 T.2.2.2 T.1 s g k ↔ relL9 A sg nm T.1 s (gV9 (nm (g / 2), g % 2)) (gV9 (nm (k / 2), k % 2))) := fun s g k hg hk => by
    rw [relL_T h hz hm (inA g hg) (inA k hk), glg g hg, glg k hk]
    exact ⟨fun h9 => h9.elim (fun e => by rw [e]) (fun e => e.2.2), fun h9 => Or.inr ⟨hg, hk, h9⟩⟩
  have hP : ∀ x, x < T.1 → ((2 * x < 2 * T.1) ∧ T.2.2.1.2 (2 * x) < 2 * T.1 ∧ T.2.2.1.2 (2 * x) < 2 * T.1) ∧ gV9 (nm (2 * x / 2), 2 * x % 2) = gV9 (nm x, 0) ∧ gV9 (nm (T.2.2.1.2 (2 * x) / 2), T.2.2.1.2 (2 * x) % 2) = gV9 (prA9 A (nm x, 0)) ∧ gV9 (nm (T.2.2.1.2 (2 * x) / 2), T.2.2.1.2 (2 * x) % 2) = gV9 (prA9 A (nm x, 0)) := fun x hx => by
    have m := (hO.1 x hx).1
    have e0 : gl f (nm x, 0) = 2 * x := by
      unfold gl
      rw [(hm x hx).1]
      rfl
    have e1 := pv_gl h m
    rw [e0] at e1
    obtain ⟨b1, b2⟩ := bk _ (prA_in hb.1 m)
    rw [e1]
    exact ⟨⟨by omega, b1, b1⟩, by rw [show 2 * x / 2 = x by omega, show 2 * x % 2 = 0 by omega], b2, b2⟩
  refine ⟨cu_pb hC (fun g hg => by omega) (relC_e _ _ _) hr (fun s g k h9 hne => ?_) hP, fun g hg => Or.inl ⟨_, inA g hg, rfl⟩, fun s _ => ⟨fun g k hg hk => hr s g k hg hk, fun g hg => ?_, fun x hx => ?_⟩⟩
  · rcases h9 with e | ⟨a, b, -⟩
    · exact absurd e hne
    · exact ⟨a, b⟩
  · rcases hg with ⟨q, q1, q2⟩ | ⟨j, j1, -⟩
    · refine ⟨gl f q, (bk q q1).1, ?_⟩
      dsimp only
      rw [(bk q q1).2, q2]
      exact (hC.1.1 s).1 _
    · exact absurd j1 (Nat.not_lt_zero _)
  · obtain ⟨-, e1, e2, e3⟩ := hP x hx
    dsimp only
    rw [e1, e2]
    exact ⟨(hC.1.1 s).1 _, (hC.1.1 s).1 _, (hC.1.1 s).1 _⟩
theorem LT_C {y : ow_MS} {S : ow_NP} {G : Nat → Int32} {Ls : Nat → Nat → Nat} {ns : Nat → Nat} (hL : LpY y S G c Ls ns) : LT9 c (fun g => g < 2 * c) (relC9 S G c) Ls ns := fun s hs => by
  obtain ⟨⟨h1, h2, h3, h4, h5⟩, h6⟩ := hL s hs
  refine ⟨fun g hg => (h1 g hg).2, fun l hl => ?_, fun g g' hg hg' => ?_, by omega⟩
  · obtain ⟨g, a, -, e⟩ := h3 l hl
    exact ⟨g, a, e⟩
  · rw [h4 g g' hg hg']
    exact ⟨fun e => Or.inr ⟨hg, hg', e⟩, fun e => e.elim (fun e => by rw [e]) (fun e => e.2.2)⟩
/-- the number of a group by the class's table -/
noncomputable def bq9 (p : Int) (c : Nat) (S : ow_NP) (G : Nat → Int32) (Ls : Nat → Nat → Nat) (ns : Nat → Nat) (h : Nat) (dg : Int) : Int := (sz9 c ns dg h : Int) - (RK9 p c (fun g => g < 2 * c) (relC9 S G c) (fun x => 2 * x) (fun x => S.2 (2 * x)) Ls ns dg h : Int) - (bf9 (fun o => RK9 p c (fun g => g < 2 * c) (relC9 S G c) (fun x => 2 * x) (fun x => S.2 (2 * x)) Ls ns dg o) h : Int)
theorem be_bq {y : ow_MS} {S : ow_NP} {G : Nat → Int32} {Ls : Nat → Nat → Nat} {ns : Nat → Nat} {d : Int} (hp : pr9 p) (hi : iv9 p) (hc : c ≤ 12) (hC : cu9 c 2000 (fun g => g < 2 * c) (fun x => 2 * x) (fun x => S.2 (2 * x)) (fun x => S.2 (2 * x)) (relC9 S G c)) (hL : LpY y S G c Ls ns) (hb : be9 p (Sg9 c 2000 (fun g => g < 2 * c) (relC9 S G c) k d) (D9 (fun x => 2 * x) (fun x => S.2 (2 * x)) (fun x => S.2 (2 * x)) (relC9 S G c) c) r b) : b = if r + 1 < k then 0 else bq9 p c S G Ls ns (r + 1 - k) d := by
  obtain ⟨e1, e2, e3⟩ := be_MT hp hi hC (LT_C hL) (by omega) hb
  by_cases q : r + 1 < k
  · rw [if_pos q]
    exact e1 q
  · rw [if_neg q]
    unfold bq9
    by_cases q2 : r + 1 = k
    · have := e2 q2
      rw [show r + 1 - k = 0 by omega]
      show b = _ - _ - ((0 : Nat) : Int)
      omega
    · have := e3 (r - k) (by omega)
      rw [show r + 1 - k = (r - k) + 1 by omega]
      show b = _ - _ - ((RK9 p c (fun g => g < 2 * c) (relC9 S G c) (fun x => 2 * x) (fun x => S.2 (2 * x)) Ls ns d (r - k) : Nat) : Int)
      omega
/-- the number of the list by the class's table -/
theorem bL_cl {y : ow_MS} {Ls : Nat → Nat → Nat} {ns : Nat → Nat} {d : Int} (hp : pr9 p) (hi : iv9 p) (h : isoV A sg f T) (hT : pm1 T) (hw : gaA A w) (hb : bdA A) (hO : nmO A nm T.1) (hL : LpY y T.2.2.1 T.2.2.2 T.1 Ls ns) (hB : bL9 p A sg nm T.1 k d r b) : b = cirF (cirs A) (fun d => if r + 1 < k then 0 else bq9 p T.1 T.2.2.1 T.2.2.2 Ls ns (r + 1 - k) d) d := by
  have hz : ∀ x, x < T.1 → T.2.2.2 x ≠ 0 := fun x hx => by
    rcases hT x hx with e | e <;> rw [e] <;> decide
  obtain ⟨n1, hn⟩ := nmT_ex h
  have o1 := nm_O h hn
  have C0 := cuA hp hi h hT hw hb hO
  obtain ⟨C1, B1⟩ := bL_any hp hi hO o1 C0 hB
  obtain ⟨k1, k2⟩ := cls_ph9 hb h hz hn C1
  have CS := cu_S hb o1 C1 0 (Nat.zero_le _)
  have h0 : ∀ d, be9 p (Sg9 T.1 2000 (gS9 A 0) (relL9 A sg n1 T.1) k d) (D9 (fun y => gV9 (n1 y, 0)) (fun y => gV9 (prA9 A (n1 y, 0))) (fun y => gV9 (prA9 A (n1 y, 0))) (relL9 A sg n1 T.1) T.1) r (if r + 1 < k then 0 else bq9 p T.1 T.2.2.1 T.2.2.2 Ls ns (r + 1 - k) d) := fun d => by
    obtain ⟨E, N, he⟩ := fi_en (Sg_en (k := k) (d := d) CS)
    have hb0 : be9 p (Sg9 T.1 2000 (gS9 A 0) (relL9 A sg n1 T.1) k d) (D9 (fun y => gV9 (n1 y, 0)) (fun y => gV9 (prA9 A (n1 y, 0))) (fun y => gV9 (prA9 A (n1 y, 0))) (relL9 A sg n1 T.1) T.1) r ((N (r + 1) : Int) - rn9 p E N (D9 (fun y => gV9 (n1 y, 0)) (fun y => gV9 (prA9 A (n1 y, 0))) (fun y => gV9 (prA9 A (n1 y, 0))) (relL9 A sg n1 T.1) T.1) (r + 1) - rn9 p E N (D9 (fun y => gV9 (n1 y, 0)) (fun y => gV9 (prA9 A (n1 y, 0))) (fun y => gV9 (prA9 A (n1 y, 0))) (relL9 A sg n1 T.1) T.1) r) := ⟨E, N, he, by omega⟩
    have e := be_bq (r := r) hp hi h.1.2.2.1 k1 hL (be_ph hp hi CS k1 k2 hb0)
    rw [← e]
    exact hb0
  have R := be_S hp hi hb o1 C1 h0 A.length (Nat.le_refl _) d
  rw [cb_all, show gS9 A A.length = gG9 A from funext (fun g => propext (gS_all g))] at R
  exact be_un hp hi (cu_cg (k := k) (d := d) C1) r B1 R
end XCJ7
end
section
/-! 99zzzzzzzzzzzzzzzzyzl.xcia -/
-- CHAIN: the class's table, exactly
def tabT (z : ow_MS) (F : Nat → Int → Int) : Prop := ∀ i, i < 504 → z.2.1 43018 i = iI (F (i / 56) (((i % 56 : Nat) : Int) - 20))
section XCJ8
variable {vl : Nat → Nat} {y : ow_MS}
theorem te_addCircle {F : Nat → Int → Int} (hF : tabT y F) (h1 : ∀ o, F o (-21) = 0) (h2 : ∀ o, F o 36 = 0) : Te (fun K => ce_X1_addCircle vl K 43000 y) (fun y1 => fr (fun g => g = 43018) y y1 ∧ tabT y1 (fun o d => F o (d - 1) + F o (d + 1))) := by
  let N : Nat → Int32 := fun i => iI (F (i / 56) (((i % 56 : Nat) : Int) - 20 - 1) + F (i / 56) (((i % 56 : Nat) : Int) - 20 + 1))
  let Q : ow_MS → Prop := fun y1 => fr (fun g => g = 43018) y y1 ∧ tabT y1 (fun o d => F o (d - 1) + F o (d + 1))
  let J : Nat → ow_MS → Prop := fun i z => fr (fun g => g = 43018) y z ∧ (∀ j, j < i → j < 504 → z.2.1 43018 j = N j) ∧ ∀ j, i ≤ j → z.2.1 43018 j = y.2.1 43018 j
  have dm : ∀ o q, q < 56 → (56 * o + q) / 56 = o ∧ (56 * o + q) % 56 = q := fun o q hq => by omega
  have c2 : ∀ (o : Nat), o ≤ 8 → (∀ z, J (56 * (o + 1)) z → Tt (fun K k => c_X1_addCircle vl K k 1 (nI (o + 1)) 0 0 0 0 43000 0 z) Q) → ∀ (d q : Nat) (z : ow_MS), q + d = 56 → J (56 * o + q) z → Tt (fun K k => c_X1_addCircle vl K k 2 (nI o) (nI (56 * o)) (iI (F o ((q : Int) - 21))) (nI q) 0 43000 0 z) Q := by
    intro o ho hnext d
    induction d with
    | zero =>
      intro q z hq hz
      refine u_X1_addCircle_2 ?_; unfold cm_X1_addCircle_2
      refine w_leT (a := 56) (b := q) (by omega) (by omega) ?_
      rw [nI_1]
      refine hnext z ?_
      rw [show 56 * (o + 1) = 56 * o + q by omega]
      exact hz
    | succ d ih =>
      intro q z hq hz
      obtain ⟨z1, z2, z3⟩ := hz
      obtain ⟨d1, d2⟩ := dm o q (by omega)
      have eh : z.2.1 43018 (56 * o + q) = iI (F o ((q : Int) - 20)) := by
        rw [z3 _ (Nat.le_refl _), hF _ (by omega), d1, d2]
      have c3 : ∀ t0 : Int32, t0 = iI (F o ((q : Int) - 19)) → Tt (fun K k => c_X1_addCircle vl K k 3 (nI o) (nI (56 * o)) (iI (F o ((q : Int) - 21))) (nI q) (iI (F o ((q : Int) - 20))) 43000 t0 z) Q := by
        intro t0 ht
        refine u_X1_addCircle_3 ?_; unfold cm_X1_addCircle_3
        rw [nI_add, nI_1, ht, iI_add]
        have e9 : ((q + 1 : Nat) : Int) - 21 = (q : Int) - 20 := by omega
        have nx := ih (q + 1) (usI z (43000 + 18) (56 * o + q) (iI (F o ((q : Int) - 21) + F o ((q : Int) - 19)))) (by omega) ⟨fr_I2 z1 rfl, fun j hj hj5 => ?_, fun j hj => ?_⟩
        · rw [e9] at nx
          exact w_ctI ch_43018 rfl (by omega) nx
        · by_cases e : j = 56 * o + q
          · rw [e]
            refine po_usI_at.trans ?_
            show _ = iI (F ((56 * o + q) / 56) ((((56 * o + q) % 56 : Nat) : Int) - 20 - 1) + F ((56 * o + q) / 56) ((((56 * o + q) % 56 : Nat) : Int) - 20 + 1))
            rw [d1, d2, show (q : Int) - 20 - 1 = (q : Int) - 21 by omega, show (q : Int) - 20 + 1 = (q : Int) - 19 by omega]
          · exact (po_usI_ne e).trans (z2 j (by omega) hj5)
        · exact (po_usI_ne (by omega)).trans (z3 j (by omega))
      refine u_X1_addCircle_2 ?_; unfold cm_X1_addCircle_2
      rw [nI_add, nI_1 q]
      refine w_leF (a := 56) (b := q) (by omega) (by omega) (w_crI ch_43018 rfl (by omega) eh (w_le (a := 56) (b := q + 1) (by omega) (by omega) (fun h9 => c3 0 ?_) (fun h9 => w_crI ch_43018 (nI_1 _) (by omega) rfl (c3 _ ?_))))
      · rw [show (q : Int) - 19 = 36 by omega, h2 o]
        rfl
      · obtain ⟨d3, d4⟩ := dm o (q + 1) (by omega)
        rw [show 56 * o + q + 1 = 56 * o + (q + 1) by omega, z3 _ (by omega), hF _ (by omega), d3, d4, show ((q + 1 : Nat) : Int) - 20 = (q : Int) - 19 by omega]
  have c1 : ∀ (d o : Nat) (z : ow_MS), o + d = 9 → J (56 * o) z → Tt (fun K k => c_X1_addCircle vl K k 1 (nI o) 0 0 0 0 43000 0 z) Q := by
    intro d
    induction d with
    | zero =>
      intro o z ho hz
      refine u_X1_addCircle_1 ?_; unfold cm_X1_addCircle_1
      exact w_ltT (a := 8) (b := o) (by omega) (by omega) (w_some ⟨hz.1, fun i hi => hz.2.1 i (by omega) hi⟩)
    | succ d ih =>
      intro o z ho hz
      refine u_X1_addCircle_1 ?_; unfold cm_X1_addCircle_1
      refine w_ltF (a := 8) (b := o) (by omega) (by omega) ?_
      rw [show nI o * 56 = nI (56 * o) from (Int32.mul_comm _ _).trans (pk_mul 56 o)]
      have := c2 o (by omega) (fun z1 h1 => ih (o + 1) z1 (by omega) h1) 56 0 z (by omega) hz
      rw [show ((0 : Nat) : Int) - 21 = -21 by omega, h1 o] at this
      exact this
  refine e_X1_addCircle ?_
  refine u_X1_addCircle_0 ?_; unfold cm_X1_addCircle_0
  exact c1 9 0 y (by omega) ⟨fr_rf, fun j hj => absurd hj (Nat.not_lt_zero _), fun j _ => rfl⟩
end XCJ8
section XCJ9
variable {vl : Nat → Nat} {c ci p : Nat} {S : ow_NP} {G : Nat → Int32} {Ls : Nat → Nat → Nat} {ns : Nat → Nat} {wf : Nat → Bool} {W C : Nat}
/-- nothing outside -/
theorem sz9_0 {h : Nat} {dg : Int} (hn : ∀ s, s < 2 ^ c → ns s ≤ 9) (hc : c ≤ 8) (h0 : c < h ∨ dg < -10 ∨ 18 < dg) : sz9 c ns dg h = 0 := by
  rcases Nat.eq_zero_or_pos (sz9 c ns dg h) with e | e
  · exact e
  · obtain ⟨s, m, a, -⟩ := ix_on (fun s hs => by have := hn s hs; omega) e
    have a1 := pc_le a.1
    have a2 := pc_le a.2.2.1
    have a3 := (kp_iff a2).mp a.2.2.2
    have a4 := hn s a.1
    have a5 := a.2.1
    omega
theorem bq_0 {h : Nat} {dg q : Int} (hn : ∀ s, s < 2 ^ c → ns s ≤ 9) (hc : c ≤ 8) (h0 : c < h ∨ dg < -10 ∨ 18 < dg) : bq9 q c S G Ls ns h dg = 0 := by
  have e := sz9_0 hn hc h0
  unfold bq9
  have e1 : RK9 q c (fun g => g < 2 * c) (relC9 S G c) (fun x => 2 * x) (fun x => S.2 (2 * x)) Ls ns dg h = 0 := by
    unfold RK9
    rw [e]
    rfl
  have e2 : bf9 (fun o => RK9 q c (fun g => g < 2 * c) (relC9 S G c) (fun x => 2 * x) (fun x => S.2 (2 * x)) Ls ns dg o) h = 0 := by
    cases h with
    | zero => rfl
    | succ h =>
      show RK9 q c (fun g => g < 2 * c) (relC9 S G c) (fun x => 2 * x) (fun x => S.2 (2 * x)) Ls ns dg h = 0
      unfold RK9
      rw [e]
      exact rk_w0 _ _
  rw [e, e1, e2]
  rfl
theorem cir_0 {F : Int → Int} (hF : ∀ d, d < -10 ∨ 18 < d → F d = 0) : ∀ (j : Nat) (d : Int), d < -10 - (j : Int) ∨ 18 + (j : Int) < d → cirF j F d = 0
  | 0, d, h => hF d (by omega)
  | j + 1, d, h => by
    show cirF j F (d - 1) + cirF j F (d + 1) = 0
    rw [cir_0 hF j (d - 1) (by omega), cir_0 hF j (d + 1) (by omega)]
    rfl
theorem te_cmp3 {z7 : ow_MS} {F : Nat → Int → Int} : ∀ (e i : Nat) (v : Nat → Nat) (z : ow_MS) (W' C' : Nat), i + e = 504 → fr rkG z7 z → vI v W' C' → tabT z F → Tt (fun K k => d_X1_compute K k 3 (nI p) (iI (sN9 (fun i => F (i / 56) (((i % 56 : Nat) : Int) - 20)) i)) (nI i) 43000 4000 v z) (gQ v (fun r => fr rkG z7 r.2.2 ∧ (∃ W' C', vI r.2.1 W' C') ∧ tabT r.2.2 F ∧ r.1 = iI (sN9 (fun i => F (i / 56) (((i % 56 : Nat) : Int) - 20)) 504))) := by
  intro e
  induction e with
  | zero =>
    intro i v z W' C' hi hz hv' ht
    refine u_X1_compute_3 ?_; unfold dm_X1_compute_3
    rw [show uw_len (cX v) z (43000 + 18) = 504 from ch_43018]
    refine w_leT (a := 504) (b := i) (by omega) (by omega) (w_some ⟨Nat.le_refl _, hz, ⟨W', C', hv'⟩, ht, ?_⟩)
    rw [show i = 504 by omega]
  | succ e ih =>
    intro i v z W' C' hi hz hv' ht
    have nx := ih (i + 1) v z W' C' (by omega) hz hv' ht
    refine u_X1_compute_3 ?_; unfold dm_X1_compute_3
    rw [show uw_len (cX v) z (43000 + 18) = 504 from ch_43018, nI_1]
    refine w_leF (a := 504) (b := i) (by omega) (by omega) (w_crI ch_43018 rfl (by omega) (ht i (by omega)) ?_)
    rw [iI_add]
    exact nx
theorem te_cmp2 {z7 : ow_MS} {F : Nat → Int → Int} (hF : ∀ o d, d < -10 ∨ 18 < d → F o d = 0) (c7 : cAt z7 44000 (c, ci, S, G)) (hci : ci ≤ 6) : ∀ (e i : Nat) (v : Nat → Nat) (z : ow_MS) (W' C' : Nat), i + e = ci → fr rkG z7 z → vI v W' C' → tabT z (fun o => cirF i (F o)) → Tt (fun K k => d_X1_compute K k 2 (nI p) (nI i) 0 43000 4000 v z) (gQ v (fun r => fr rkG z7 r.2.2 ∧ (∃ W' C', vI r.2.1 W' C') ∧ tabT r.2.2 (fun o => cirF ci (F o)) ∧ r.1 = iI (sN9 (fun i => cirF ci (F (i / 56)) (((i % 56 : Nat) : Int) - 20)) 504))) := by
  intro e
  induction e with
  | zero =>
    intro i v z W' C' hi hz hv' ht
    have ei : i = ci := by omega
    rw [ei] at ht
    refine u_X1_compute_2 ?_; unfold dm_X1_compute_2
    exact w_rdF (at44 c7 hz).2.1 (w_leT (a := ci) (b := i) (by omega) (by omega) (te_cmp3 504 0 v z W' C' (by omega) hz hv' ht))
  | succ e ih =>
    intro i v z W' C' hi hz hv' ht
    refine u_X1_compute_2 ?_; unfold dm_X1_compute_2
    refine w_rdF (at44 c7 hz).2.1 (w_leF (a := ci) (b := i) (by omega) (by omega) (w_cs0 (te_addCircle ht (fun o => cir_0 (hF o) i _ (by omega)) (fun o => cir_0 (hF o) i _ (by omega))) ?_))
    rintro z1 ⟨h1, h2⟩
    rw [nI_1]
    exact ih (i + 1) v z1 W' C' (by omega) (fr_tr hz (fr_mono (fun g hg => Or.inr (Or.inr hg)) h1)) hv' h2
theorem te_cmp1 {z7 : ow_MS} (c7 : cAt z7 44000 (c, ci, S, G)) (hvn : vn c S) (hc8 : c ≤ 8) (hci : ci ≤ 6) (hwf : gaO c S wf) (hL7 : LpY z7 S G c Ls ns) (hsz : ∀ h, smH (fun s => mbt (ns s)) h 0 (2 ^ c) ≤ 1140) (htb7 : tbP z7) (hch7 : chP z7) (p7 : z7.1 43010 = nI p) (hp : prT p) (hp2 : p ≤ 997) (hC : cu9 c 2000 (fun g => g < 2 * c) (fun x => 2 * x) (fun x => S.2 (2 * x)) (fun x => S.2 (2 * x)) (relC9 S G c)) : ∀ (e d : Nat) (v : Nat → Nat) (z : ow_MS) (W' C' : Nat), d + e = 29 → fr rkG z7 z → vI v W' C' → (∀ o d', o ≤ c → d' < d → z.2.1 43018 (56 * o + d' + 10) = iI (bq9 p c S G Ls ns o (dgI d'))) → (∀ i, (∀ o d', o ≤ c → d' < d → i ≠ 56 * o + d' + 10) → i < 504 → z.2.1 43018 i = 0) → Tt (fun K k => d_X1_compute K k 1 (nI p) (nI d - 10) 0 43000 4000 v z) (gQ v (fun r => fr rkG z7 r.2.2 ∧ (∃ W' C', vI r.2.1 W' C') ∧ tabT r.2.2 (fun o => cirF ci (fun d => bq9 p c S G Ls ns o d)) ∧ r.1 = iI (sN9 (fun i => cirF ci (fun d => bq9 p c S G Ls ns (i / 56) d) (((i % 56 : Nat) : Int) - 20)) 504))) := by
  have n10 : ¬ rkG 43010 := fun h9 => (rk_lt h9).2.2 rfl
  have n5 : ¬ rkG 43005 := fun h9 => by have := rk_lt h9; omega
  have n234 : ¬ rkG 43002 ∧ ¬ rkG 43003 ∧ ¬ rkG 43004 := ⟨fun h9 => by have := rk_lt h9; omega, fun h9 => by have := rk_lt h9; omega, fun h9 => by have := rk_lt h9; omega⟩
  have hn9 : ∀ s, s < 2 ^ c → ns s ≤ 9 := fun s hs => (hL7 s hs).2
  intro e
  induction e with
  | zero =>
    intro d v z W' C' hd hz hv' t1 t2
    have hd29 : d = 29 := by omega
    refine u_X1_compute_1 ?_; unfold dm_X1_compute_1
    refine w_ifT ((dg_c ⟨d, by omega⟩).1.mpr (by dsimp only; omega)) (te_cmp2 (F := fun o d => bq9 p c S G Ls ns o d) (fun o d h => bq_0 hn9 hc8 (Or.inr h)) c7 hci ci 0 v z W' C' (by omega) hz hv' (fun i hi => ?_))
    show z.2.1 43018 i = iI (bq9 p c S G Ls ns (i / 56) (((i % 56 : Nat) : Int) - 20))
    by_cases q : i / 56 ≤ c ∧ 10 ≤ i % 56 ∧ i % 56 < 39
    · have := t1 (i / 56) (i % 56 - 10) q.1 (by omega)
      rw [show 56 * (i / 56) + (i % 56 - 10) + 10 = i by omega] at this
      rw [this]
      unfold dgI
      rw [show ((i % 56 - 10 : Nat) : Int) - 10 = ((i % 56 : Nat) : Int) - 20 by omega]
    · rw [bq_0 hn9 hc8 (by omega), t2 i (fun o d' ho hd' => by omega) hi]
      rfl
  | succ e ih =>
    intro d v z W' C' hd hz hv' t1 t2
    have hrk := te_rankDegree (d := d) hv' (at44 c7 hz) hvn hc8 (by omega) hwf (LpY_fr hz n234 hL7) (tbP_fr hz n5 htb7) (chP_fr hz (fun g hg => by have := rk_lt hg; omega) hch7) (((hz 43010 n10).1).trans p7) hp hp2 (fun h => bkF_sz (fun s hs => (hL7 s hs).2) (hsz h)) hC (LT_C hL7) (RK := fun h => RK9 p c (fun g => g < 2 * c) (relC9 S G c) (fun x => 2 * x) (fun x => S.2 (2 * x)) Ls ns (dgI d) h) (fun h => rfl)
    refine u_X1_compute_1 ?_; unfold dm_X1_compute_1
    refine w_ifF (fun h9 => by have := (dg_c ⟨d, by omega⟩).1.mp h9; dsimp only at this; omega) (w_dc1 hrk ?_)
    rintro x v1 z8 ⟨r1, r2, ⟨W2, C2, r3⟩, r4, r5⟩
    refine w_chV r1 ?_
    rw [(dg_c ⟨d, by omega⟩).2]
    refine ih (d + 1) v1 z8 W2 C2 (by omega) (fr_tr hz r2) r3 (fun o d' ho hd' => ?_) (fun i hi hi5 => ?_)
    · by_cases q : d' = d
      · rw [q]
        refine (r4 o ho).trans ?_
        rw [nI_iI, nI_iI, nI_iI, iI_sub, iI_sub]
        rfl
      · rw [← t1 o d' ho (by omega)]
        exact r5 _ (fun o' ho' h9 => by omega)
    · rw [← t2 i (fun o d' ho hd' => hi o d' ho (by omega)) hi5]
      exact r5 i (fun o ho => hi o d ho (by omega))
theorem te_cmp0 {z5 : ow_MS} (hT : tyI (c, ci, S, G)) (c5 : cAt z5 44000 (c, ci, S, G)) (htb : tbP z5) (hch : chP z5) (p5 : z5.1 43010 = nI p) (hp : prT p) (hp2 : p ≤ 997) (hv : vI vl W C) (hC : cu9 c 2000 (fun g => g < 2 * c) (fun x => 2 * x) (fun x => S.2 (2 * x)) (fun x => S.2 (2 * x)) (relC9 S G c)) : Tt (fun K k => cs0 (ce_X1_markLoops vl K 43000 z5) fun z10 => cs0 (ce_J7_fill_53178 vl K (43000 + 18) 0 z10) fun z11 => d_X1_compute K k 1 (nI p) (-10) 0 43000 4000 vl z11) (gQ vl (fun r => fr cmH z5 r.2.2 ∧ (∃ W' C', vI r.2.1 W' C') ∧ ∃ z6 Ls ns, LpY z6 S G c Ls ns ∧ tabT r.2.2 (fun o => cirF ci (fun d => bq9 p c S G Ls ns o d)) ∧ r.1 = iI (sN9 (fun i => cirF ci (fun d => bq9 p c S G Ls ns (i / 56) d) (((i % 56 : Nat) : Int) - 20)) 504))) := by
  obtain ⟨hc8, ⟨wf, hwf⟩, hn9, hsz⟩ := tyI_sz hT
  have hci : ci ≤ 6 := by
    have h9 : np_rg c S + ci ≤ 6 := hT.1.2.2.2
    omega
  refine w_cs0 (tc_markLoops c5 hT.1.1 hc8 hn9) ?_
  rintro z6 ⟨l1, l2⟩
  refine w_cs0 (tc_fillA (l := 504) ch_43018 (by omega)) ?_
  rintro z7 ⟨l0, l3⟩
  have hL6 : ∃ Ls : Nat → Nat → Nat, LpY z6 S G c Ls (fun s => rtsN (uPx S G (tb s) c) (2 * c)) := by
    have hex : ∀ s, ∃ L : Nat → Nat, s < 2 ^ c → LpS z6 S G c s L (rtsN (uPx S G (tb s) c) (2 * c)) := by
      intro s
      by_cases hs : s < 2 ^ c
      · obtain ⟨L, n, hL⟩ := l1 s hs
        have e := hL.2.2.2.2
        rw [e] at hL
        exact ⟨L, fun _ => hL⟩
      · exact ⟨fun _ => 0, fun h9 => absurd h9 hs⟩
    exact ⟨fun s => Classical.choose (hex s), fun s hs => ⟨Classical.choose_spec (hex s) hs, hn9 s hs⟩⟩
  obtain ⟨Ls, hL6⟩ := hL6
  have f7 : fr (fun g => 43002 ≤ g ∧ g ≤ 43004 ∨ g = 43018) z5 z7 := fr_tr (fr_mono (fun g hg => by omega) l2) (fr_mono (fun g hg => by omega) l3)
  have c7 : cAt z7 44000 (c, ci, S, G) := cAt_fr f7 (fun g hg h9 => by unfold cP at hg; omega) c5
  rw [show (-10 : Int32) = nI 0 - 10 by decide]
  refine w_mono (te_cmp1 c7 hT.1.1 hc8 hci hwf (LpY_fr l3 (by omega) hL6) hsz (tbP_fr f7 (by omega) htb) (chP_fr f7 (fun g hg => by omega) hch) ((f7 43010 (by omega)).1.trans p5) hp hp2 hC 29 0 vl z7 W C (by omega) fr_rf hv (fun o d' _ hd' => absurd hd' (Nat.not_lt_zero _)) (fun i _ hi => l0 i hi)) ?_
  rintro r ⟨r1, r2, r3, r4, r5⟩
  exact ⟨r1, fr_tr (fr_mono (fun g hg => by unfold cmH; omega) f7) (fr_mono (fun g hg => by have := rk_lt hg; unfold cmH; omega) r2), r3, z6, Ls, _, hL6, r4, r5⟩
end XCJ9
end
section
/-! 99zzzzzzzzzzzzzzzzyzm.xcib -/
-- CHAIN: the class's compute, exactly; its numbers told by the list
def clT (p : Nat) (sg : Nat → Bool) (A0 : rn_L) (c0 : Nat) (z : ow_MS) (ans : Int32) : Prop := ∃ (T : ow_NT) (z6 : ow_MS) (Ls : Nat → Nat → Nat) (ns : Nat → Nat), tyI T ∧ tdJ p sg A0 c0 T ∧ LpY z6 T.2.2.1 T.2.2.2 T.1 Ls ns ∧ tabT z (fun o => cirF T.2.1 (fun d => bq9 p T.1 T.2.2.1 T.2.2.2 Ls ns o d)) ∧ ans = iI (sN9 (fun i => cirF T.2.1 (fun d => bq9 p T.1 T.2.2.1 T.2.2.2 Ls ns (i / 56) d) (((i % 56 : Nat) : Int) - 20)) 504) ∧ z.1 43019 = np_sum T.2.2.2 T.1 ∧ z.1 43020 = (nI T.1 - np_sum T.2.2.2 T.1) / 2
section XCJA
variable {vl : Nat → Nat} {y : ow_MS} {W C : Nat} {sg : Nat → Bool} {A0 : rn_L} {c0 : Nat}
theorem tdJ_cp {T Q : ow_NT} {q : Int} (h : tdJ q sg A0 c0 T) : tdJ q sg A0 c0 (nt_copy Q T) := by
  obtain ⟨h1, A, f, w, h3, h4⟩ := h
  have key : ∀ {β : Type} (f g : Nat → β) (n k : Nat), k < n → va_cpy f g 0 0 n k = f k := fun f g n k hk => by
    rw [pk_cpy_in (Nat.zero_le k) (by omega), Nat.zero_add, Nat.sub_zero]
  have g1 : ∀ x, x < T.1 → (nt_copy Q T).2.2.2 x = T.2.2.2 x := fun x hx => key _ _ _ _ hx
  exact ⟨fun x hx => by rw [g1 x hx]; exact h1 x hx, A, f, w, isoV_cg h3 rfl rfl (fun k hk => ⟨key _ _ _ _ hk, key _ _ _ _ hk⟩) g1, h4⟩
theorem td_cu {T : ow_NT} {q : Int} (hp : pr9 q) (hi : iv9 q) (h : tdJ q sg A0 c0 T) : cu9 T.1 2000 (fun g => g < 2 * T.1) (fun x => 2 * x) (fun x => T.2.2.1.2 (2 * x)) (fun x => T.2.2.1.2 (2 * x)) (relC9 T.2.2.1 T.2.2.2 T.1) := by
  obtain ⟨h1, A, f, w, h3, h4, h5, -⟩ := h
  obtain ⟨n1, hn⟩ := nmT_ex h3
  refine (cls_ph9 h5 h3 (fun x hx => ?_) hn (cuA hp hi h3 h1 h4 h5 (nm_O h3 hn))).1
  rcases h1 x hx with e | e <;> rw [e] <;> decide
theorem te_compute {p : Nat} {R : ow_NT} (hv : vI vl W C) (h4 : cAt y 4000 R) (h44 : ∃ T, cAt y 44000 T ∧ ow_b24 T.2.2.1) (hR : tyI R) (hJ : tdJ p sg A0 c0 R) (htb : tbP y) (hch : chP y) (hp : prT p) (hp2 : p ≤ 997) : Te (fun K => de_X1_compute K 43000 4000 (nI p) vl y) (gQ vl (fun r => (∃ T, cAt r.2.2 44000 T ∧ ow_b24 T.2.2.1) ∧ fr cmG y r.2.2 ∧ (∃ W' C', vI r.2.1 W' C') ∧ clT p sg A0 c0 r.2.2 r.1)) := by
  obtain ⟨T0, t1, t2⟩ := h44
  have hpr := prp_of hp
  have hiv := iv_of hp
  have hcp := tc_copy (vl := vl) nH44 nH4 (Or.inr (by omega)) t1 h4 hR.1.2.1
  refine e_X1_compute ?_
  refine u_X1_compute_0 ?_; unfold dm_X1_compute_0
  refine w_cs0 hcp ?_
  rintro z1 ⟨a1, a2⟩
  refine w_cs0 (te_tidy (J := tdJ p sg A0 c0) (fun T x h _ hx e => tdJ_1 hpr hiv h hx e) (fun T x u h _ hx hu e => tdJ_2 hpr hiv h hx hu e) a1 (tyI_cp hR t2) (tdJ_cp hJ)) ?_
  rintro z2 ⟨⟨⟨c, ci, S, G⟩, b1, b2, b4⟩, b3⟩
  have hC := td_cu hpr hiv b4
  have hb24 : ow_b24 S := b2.1.2.2.1
  have hc12 : c ≤ 12 := b2.1.2.1
  have f2 : fr cmG y z2 := fr_tr (fr_mono (fun g hg => cmG_c hg) a2) (fr_mono (fun g hg => cmG_c hg) b3)
  refine w_wrF ?_
  have c3 : cAt (usF z2 (43000 + 10) (nI p)) 44000 (c, ci, S, G) := cAt_fr (fr_F (P := fun g => g = 43010) rfl) (fun g hg h9 => by unfold cP at hg; omega) b1
  refine w_cs1 (tc_writhe nH44 c3 hc12) ?_
  rintro wr z3 ⟨g2, g3⟩
  dsimp only at g2 g3
  subst g3
  refine w_wrF ?_
  have c4 : cAt (usF (usF z2 (43000 + 10) (nI p)) (43000 + 19) wr) 44000 (c, ci, S, G) := cAt_fr (fr_F (P := fun g => g = 43019) rfl) (fun g hg h9 => by unfold cP at hg; omega) c3
  refine w_rdF c4.1 (w_rdF po_usF_at (w_nzI (by decide) (w_wrF ?_)))
  have f5 : ∀ x, fr (fun g => g = 43010 ∨ g = 43019 ∨ g = 43020) z2 (usF (usF (usF z2 (43000 + 10) (nI p)) (43000 + 19) wr) (43000 + 20) x) := fun x => fr_F2 (fr_F2 (fr_F (Or.inl rfl)) (Or.inr (Or.inl rfl))) (Or.inr (Or.inr rfl))
  have g5 : ∀ g, (g = 43010 ∨ g = 43019 ∨ g = 43020) → cmG g := fun g hg => by unfold cmG; omega
  have g6 : ∀ g, cmH g → cmG g := fun g hg => by unfold cmG; unfold cmH at hg; omega
  have n5 : ¬ cmG 43005 := by unfold cmG cP; omega
  have c5 : ∀ x, cAt (usF (usF (usF z2 (43000 + 10) (nI p)) (43000 + 19) wr) (43000 + 20) x) 44000 (c, ci, S, G) := fun x => cAt_fr (f5 x) (fun g hg h9 => by unfold cP at hg; omega) b1
  have p5 : ∀ x, (usF (usF (usF z2 (43000 + 10) (nI p)) (43000 + 19) wr) (43000 + 20) x).1 43010 = nI p := fun x => rf_ot (by omega) (rf_ot (by omega) po_usF_at)
  refine w_mono (te_cmp0 b2 (c5 _) (tbP_fr (fr_tr f2 (fr_mono g5 (f5 _))) n5 htb) (chP_fr (fr_tr f2 (fr_mono g5 (f5 _))) (fun g hg => by unfold cmG cP at hg; omega) hch) (p5 _) hp hp2 hv hC) ?_
  rintro r ⟨r1, r2, r3, z6, Ls, ns, r4, r5, r6⟩
  refine ⟨r1, ⟨_, cAt_fr r2 (fun g hg h9 => by unfold cP at hg; unfold cmH at h9; omega) (c5 _), hb24⟩, fr_tr (fr_tr f2 (fr_mono g5 (f5 _))) (fr_mono g6 r2), r3, (c, ci, S, G), z6, Ls, ns, b2, b4, r4, r5, r6, ?_, ?_⟩
  · rw [(r2 43019 (by unfold cmH; omega)).1]
    exact (rf_ot (by omega) po_usF_at).trans g2
  · rw [(r2 43020 (by unfold cmH; omega)).1]
    refine po_usF_at.trans ?_
    rw [g2]
end XCJA
/-- what the class's table says of the list -/
def clN (p : Nat) (sg : Nat → Bool) (A0 : rn_L) (c0 : Nat) (z : ow_MS) (ans : Int32) : Prop := ∃ (c' n' κ : Nat) (CT : Nat → Int → Int), (n' ≤ c' ∧ c' ≤ 8 ∧ c' + κ ≤ c0 ∧ ng9 A0 sg = n' + κ) ∧ z.1 43019 = iI ((c' : Int) - 2 * n') ∧ z.1 43020 = nI n' ∧ tabT z CT ∧ ans = iI (sN9 (fun i => CT (i / 56) (((i % 56 : Nat) : Int) - 20)) 504) ∧ (∀ o d, (c' < o ∨ d < -16 ∨ 24 < d) → CT o d = 0) ∧ ∀ nm, nmO A0 nm c0 → ∀ r d b, bL9 p A0 sg nm c0 1 d r b → b = if r < κ then 0 else CT (r - κ) (d + c0 - c' - 3 * κ)
section XCJB
variable {A : rn_L} {sg : Nat → Bool} {nm f : Nat → Nat} {c : Nat} {T : ow_NT}
theorem ng_ons (hn : A.flatten.Nodup) (h2 : ∀ p, p ∈ A.flatten → p.2 < 2) (hO : nmO A nm c) : ng9 A sg = ons9 (fun y => sg (nm y)) c := by
  have pm : (A.flatten.filter (fun p => decide (p.2 = 0))).Perm ((List.range c).map (fun y => (nm y, 0))) := by
    refine (List.perm_ext_iff_of_nodup (hn.filter _) (nodup_map List.nodup_range (fun i j hi hj e => hO.2.1 i j (List.mem_range.mp hi) (List.mem_range.mp hj) (congrArg Prod.fst e)))).mpr (fun q => ?_)
    rw [List.mem_filter, List.mem_map]
    constructor
    · rintro ⟨a, b⟩
      obtain ⟨y, y1, y2⟩ := hO.2.2 q a
      exact ⟨y, List.mem_range.mpr y1, Prod.ext y2 (of_decide_eq_true b).symm⟩
    · rintro ⟨y, y1, rfl⟩
      exact ⟨(hO.1 y (List.mem_range.mp y1)).1, rfl⟩
  have e1 : ng9 A sg = ((A.flatten.filter (fun p => decide (p.2 = 0))).filter (fun p => sg p.1)).length := by
    unfold ng9
    rw [List.filter_filter]
    congr 2
    funext p
    rw [Bool.and_comm]
  rw [e1, (pm.filter _).length_eq]
  have key : ∀ n, (((List.range n).map (fun y => (nm y, 0))).filter (fun p : vT => sg p.1)).length = ons9 (fun y => sg (nm y)) n := by
    intro n
    induction n with
    | zero => rfl
    | succ n ih =>
      rw [List.range_succ, List.map_append, List.filter_append, List.length_append, ih]
      show _ = ons9 (fun y => sg (nm y)) n + if sg (nm n) = true then 1 else 0
      by_cases s : sg (nm n) = true
      · rw [if_pos s]
        simp [s]
      · rw [if_neg s]
        simp [s]
  exact key c
theorem sum_ng (h : isoV A sg f T) (hT : pm1 T) : np_sum T.2.2.2 T.1 = iI ((T.1 : Int) - 2 * ng9 A sg) ∧ ng9 A sg ≤ T.1 := by
  obtain ⟨nm, hm⟩ := nmT_ex h
  rw [ng_ons h.1.1.1 (fun p hp => (h.1.1.2 p hp).2.1) (nm_O h hm)]
  have key : ∀ n, n ≤ T.1 → np_sum T.2.2.2 n = iI ((n : Int) - 2 * ons9 (fun y => sg (nm y)) n) ∧ ons9 (fun y => sg (nm y)) n ≤ n := by
    intro n
    induction n with
    | zero => exact fun _ => ⟨rfl, Nat.le_refl 0⟩
    | succ n ih =>
      intro hn
      obtain ⟨i1, i2⟩ := ih (by omega)
      obtain ⟨e, m⟩ := hm n (by omega)
      have h7 := h.1.2.2.2.2.2.2.1 _ m
      simp only [] at h7
      rw [e] at h7
      show np_sum T.2.2.2 n + T.2.2.2 n = iI (((n + 1 : Nat) : Int) - 2 * ((ons9 (fun y => sg (nm y)) n + (if sg (nm n) = true then 1 else 0) : Nat) : Int)) ∧ ons9 (fun y => sg (nm y)) n + (if sg (nm n) = true then 1 else 0) ≤ n + 1
      rcases hT n (by omega) with q | q
      · have s : ¬ sg (nm n) = true := fun h9 => by
          have := h7.mpr h9
          rw [q] at this
          exact absurd this (by decide)
        rw [if_neg s, i1, q, show (1 : Int32) = iI 1 by decide, iI_add]
        exact ⟨congrArg iI (by omega), by omega⟩
      · have s : sg (nm n) = true := h7.mp (by rw [q]; decide)
        rw [if_pos s, i1, q, show (-1 : Int32) = iI (-1) by decide, iI_add]
        exact ⟨congrArg iI (by omega), by omega⟩
  exact key T.1 (Nat.le_refl _)
theorem half_ng : ∀ c : Fin 13, ∀ n : Fin 13, n.val ≤ c.val → (nI c.val - iI ((c.val : Int) - 2 * (n.val : Int))) / 2 = nI n.val := by decide +kernel
theorem clN_of {p : Nat} {A0 : rn_L} {c0 : Nat} {z : ow_MS} {ans : Int32} (hp : prT p) (h : clT p sg A0 c0 z ans) (hex : ∃ nm, nmO A0 nm c0) : clN p sg A0 c0 z ans := by
  have hpr := prp_of hp
  have hiv := iv_of hp
  obtain ⟨T, z6, Ls, ns, t1, ⟨t2, A, f, w, t3, t4, t5, κ, ⟨k1, k2⟩, k3⟩, t6, t7, t8, t9, t10⟩ := h
  obtain ⟨s1, s2⟩ := sum_ng t3 t2
  obtain ⟨hc8, -⟩ := tyI_sz t1
  have hcr : cirs A = T.2.1 := t3.1.2.2.2.2.2.2.2
  have hci : T.2.1 ≤ 6 := by
    have h9 : np_rg T.1 T.2.2.1 + T.2.1 ≤ 6 := t1.1.2.2.2
    omega
  have hn9 : ∀ s, s < 2 ^ T.1 → ns s ≤ 9 := fun s hs => (t6 s hs).2
  refine ⟨T.1, ng9 A sg, κ, fun o => cirF T.2.1 (fun d => bq9 p T.1 T.2.2.1 T.2.2.2 Ls ns o d), ⟨s2, hc8, k2, k1⟩, by rw [t9, s1], ?_, t7, t8, fun o d h9 => ?_, fun nm hO r d b hB => ?_⟩
  · rw [t10, s1]
    exact half_ng ⟨T.1, by omega⟩ ⟨ng9 A sg, by omega⟩ s2
  · by_cases q : T.1 < o
    · have z0 : ∀ j d, cirF j (fun d => bq9 p T.1 T.2.2.1 T.2.2.2 Ls ns o d) d = 0 := by
        intro j
        induction j with
        | zero => exact fun d => bq_0 hn9 hc8 (Or.inl q)
        | succ j ih =>
          intro d
          show cirF j _ (d - 1) + cirF j _ (d + 1) = 0
          rw [ih, ih]
          rfl
      exact z0 _ _
    · exact cir_0 (fun d h8 => bq_0 hn9 hc8 (Or.inr h8)) _ _ (by omega)
  · obtain ⟨n1, hn⟩ := nmT_ex t3
    have o1 := nm_O t3 hn
    have B := k3 nm n1 hO o1 1 d r b (Nat.le_refl 1) hB
    have e := bL_cl hpr hiv t3 t2 t4 t5 o1 t6 B
    rw [e, hcr]
    by_cases q : r < κ
    · rw [if_pos q]
      have z0 : ∀ j d, cirF j (fun d => if r + 1 < 1 + κ then 0 else bq9 p T.1 T.2.2.1 T.2.2.2 Ls ns (r + 1 - (1 + κ)) d) d = 0 := by
        intro j
        induction j with
        | zero => exact fun d => if_pos (by omega)
        | succ j ih =>
          intro d
          show cirF j _ (d - 1) + cirF j _ (d + 1) = 0
          rw [ih, ih]
          rfl
      exact z0 _ _
    · rw [if_neg q]
      have ef : (fun d => if r + 1 < 1 + κ then 0 else bq9 p T.1 T.2.2.1 T.2.2.2 Ls ns (r + 1 - (1 + κ)) d) = (fun d => bq9 p T.1 T.2.2.1 T.2.2.2 Ls ns (r - κ) d) := funext (fun d => by
        rw [if_neg (by omega), show r + 1 - (1 + κ) = r - κ by omega])
      rw [ef]
end XCJB
end
section
/-! 99zzzzzzzzzzzzzzzzyzn.xcic -/
-- CHAIN: the reference's loops by number (made by tools/mkcic.py)
section XCK1
variable {A : rn_L} {sg : Nat → Bool} {st : Int32} {S : ow_NP} {G : Nat → Int32} {b : Nat → Bool} {M : Nat → Nat}
/-- both sides have the same loops -/
theorem loops_iff {f : Nat → Nat} {c ci : Nat} (hi : isoN A sg f (c, ci, S, G)) (hv : vn c S) (hal : ∀ v, v < A.flatten.length → uns A v = 0 → alS sg st (crs A v) = alB G b (f (crs A v))) : ∀ x y, x < A.flatten.length → y < A.flatten.length → (rt (lpA A sg st A.flatten.length) x = rt (lpA A sg st A.flatten.length) y ↔ rt (uPx S G b c) (lbv A f x) = rt (uPx S G b c) (lbv A f y)) := by
  have hd := wkF_ok hi.1
  have hl : A.flatten.length = 2 * c := hi.2.1
  have hS2 : ∀ v, v < A.flatten.length → S.2 (lbv A f v) = lbv A f (rn_pv A v) := by
    intro v hv1
    have h1 := hi.2.2.2.2.2.1 (rn_pv A v) (pv_lt hv1)
    rw [nx_pv hv1] at h1
    have h2 : S.1 (lbv A f (rn_pv A v)) = lbv A f v := h1
    rw [← h2]
    exact (hv _ (lbv_lt hi (pv_lt hv1))).2.2.1
  have cr : ∀ v, v < A.flatten.length → uns A v = 0 → egp S (4 * f (crs A v)) = lbv A f v ∧ egp S (4 * f (crs A v) + 1) = lbv A f (rn_pv A v) ∧ egp S (4 * f (crs A v) + 2) = lbv A f (mtf A v) ∧ egp S (4 * f (crs A v) + 3) = lbv A f (rn_pv A (mtf A v)) := by
    intro v hv1 hu
    obtain ⟨m1, m2, m3, m4⟩ := lbv_mt hi hv1
    have e0 : lbv A f v = 2 * f (crs A v) := by unfold lbv; rw [hu]; rfl
    have e1 : lbv A f (mtf A v) = 2 * f (crs A v) + 1 := by
      rw [m3, e0]
      unfold mt
      rw [if_pos (by omega)]
    refine ⟨?_, ?_, ?_, ?_⟩
    · unfold egp
      rw [if_pos (by omega), e0]
      omega
    · unfold egp
      rw [if_neg (by omega), show (4 * f (crs A v) + 1) / 2 = 2 * f (crs A v) by omega, ← e0]
      exact hS2 v hv1
    · unfold egp
      rw [if_pos (by omega), e1]
      omega
    · unfold egp
      rw [if_neg (by omega), show (4 * f (crs A v) + 3) / 2 = 2 * f (crs A v) + 1 by omega, ← e1]
      exact hS2 _ m1
  -- every crossing has its over visit
  have ov : ∀ x, x < c → ∃ v, v < A.flatten.length ∧ uns A v = 0 ∧ f (crs A v) = x := by
    intro x hx
    obtain ⟨v, v1, v2⟩ := lbv_sur hi (k := 2 * x) (show 2 * x < 2 * c by omega)
    have := uns_lt hi.1 v1
    refine ⟨v, v1, ?_, ?_⟩ <;> (unfold lbv at v2; omega)
  have d1 : ∀ x y, x < A.flatten.length → y < A.flatten.length → rt (lpA A sg st A.flatten.length) x = rt (lpA A sg st A.flatten.length) y → rt (uPx S G b c) (lbv A f x) = rt (uPx S G b c) (lbv A f y) := by
    refine lpA_min (M := fun v => rt (uPx S G b c) (lbv A f v)) hd ?_ _ (Nat.le_refl _)
    intro v hv1 hu
    obtain ⟨k0, k1, k2, k3⟩ := cr v hv1 hu
    obtain ⟨j1, j2⟩ := uPx_j (S := S) (G := G) (b := b) c (f (crs A v)) (hi.2.2.2.1 v hv1)
    have ha := hal v hv1 hu
    unfold ljM
    unfold toI at j1
    unfold toO at j2
    dsimp only
    rw [ha]
    by_cases h2 : alB G b (f (crs A v)) = true
    · rw [if_pos h2] at j1 j2 ⊢
      rw [k1, k2] at j1
      rw [k0, k3] at j2
      exact ⟨j1, j2.symm⟩
    · rw [if_neg h2] at j1 j2 ⊢
      rw [k1, k3] at j1
      rw [k0, k2] at j2
      exact ⟨j1, j2⟩
  obtain ⟨F, hF⟩ : ∃ F : Nat → Nat, ∀ a, a < 2 * c → F a < A.flatten.length ∧ lbv A f (F a) = a := by
    refine ⟨fun a => if ha : a < 2 * c then Classical.choose (lbv_sur hi ha) else 0, fun a ha => ?_⟩
    dsimp only
    rw [dif_pos ha]
    exact Classical.choose_spec (lbv_sur hi ha)
  have hFi : ∀ v, v < A.flatten.length → F (lbv A f v) = v := fun v hv1 => by
    obtain ⟨q1, q2⟩ := hF _ (lbv_lt hi hv1)
    exact lbv_inj hi q1 hv1 q2
  have d2 : ∀ x y, x < 2 * c → y < 2 * c → rt (uPx S G b c) x = rt (uPx S G b c) y → rt (lpA A sg st A.flatten.length) (F x) = rt (lpA A sg st A.flatten.length) (F y) := by
    refine uPx_min (M := fun a => rt (lpA A sg st A.flatten.length) (F a)) hv ?_ c (Nat.le_refl _)
    intro x hx
    obtain ⟨v, v1, hu, rfl⟩ := ov x hx
    obtain ⟨k0, k1, k2, k3⟩ := cr v v1 hu
    have hml := mtf_lt hd v1
    have jj := lpA_jS (A := A) (sg := sg) (st := st) _ v v1 hu
    rw [hal v v1 hu] at jj
    unfold ljM at jj
    unfold toI toO
    by_cases h2 : alB G b (f (crs A v)) = true
    · rw [if_pos h2] at jj
      rw [if_pos h2, if_pos h2, k0, k1, k2, k3, hFi _ v1, hFi _ hml, hFi _ (pv_lt v1), hFi _ (pv_lt hml)]
      exact ⟨jj.1, jj.2.symm⟩
    · rw [if_neg h2] at jj
      rw [if_neg h2, if_neg h2, k0, k1, k2, k3, hFi _ v1, hFi _ hml, hFi _ (pv_lt v1), hFi _ (pv_lt hml)]
      exact ⟨jj.1, jj.2⟩
  intro x y hx hy
  refine ⟨d1 x y hx hy, fun h9 => ?_⟩
  have := d2 _ _ (lbv_lt hi hx) (lbv_lt hi hy) h9
  rw [hFi x hx, hFi y hy] at this
  exact this
end XCK1
def lbR (A : rn_L) (sg : Nat → Bool) (s v : Nat) : Nat := rtsN (lpA A sg (nI s) A.flatten.length) (rt (lpA A sg (nI s) A.flatten.length) v)
noncomputable def LsR (A : rn_L) (sg : Nat → Bool) (s g : Nat) : Nat := @dite _ (∃ v, v < A.flatten.length ∧ gV9 (vAt A v) = g) (Classical.propDecidable _) (fun h => lbR A sg s h.choose) (fun _ => rtsN (lpA A sg (nI s) A.flatten.length) A.flatten.length + cb9 A (g - 1000))
section XCK2
variable {A : rn_L} {sg : Nat → Bool} {c s : Nat} {T : ow_NT} {w : vT → Bool}
theorem rts_lt {p : Nat → Nat} {r r' : Nat} (h : p r = r) (hl : r < r') : rtsN p r < rtsN p r' := by
  have a := rtsN_mono (p := p) (a := r + 1) r' hl
  rw [rtsN_s, if_pos h] at a
  omega
theorem rts_in {p : Nat → Nat} {r r' : Nat} (h : p r = r) (h' : p r' = r') (e : rtsN p r = rtsN p r') : r = r' := by
  rcases Nat.lt_trichotomy r r' with q | q | q
  · have := rts_lt h q
    omega
  · exact q
  · have := rts_lt h' q
    omega
theorem rts_at {p : Nat → Nat} {l : Nat} (V : Nat) : l < rtsN p V → ∃ r, r < V ∧ p r = r ∧ rtsN p r = l := by
  induction V with
  | zero => exact fun h => absurd h (Nat.not_lt_zero _)
  | succ V ih =>
    intro h
    rw [rtsN_s] at h
    rcases Nat.lt_or_ge l (rtsN p V) with q | q
    · obtain ⟨r, a, b⟩ := ih q
      exact ⟨r, by omega, b⟩
    · by_cases e : p V = V
      · rw [if_pos e] at h
        exact ⟨V, by omega, e, by omega⟩
      · rw [if_neg e] at h
        omega
theorem cb_mono {a : Nat} : ∀ b, a ≤ b → cb9 A a ≤ cb9 A b := fun b h => by
  induction b with
  | zero => rw [show a = 0 by omega]; exact Nat.le_refl _
  | succ b ih =>
    rcases Nat.lt_or_ge b a with q | q
    · rw [show a = b + 1 by omega]
      exact Nat.le_refl _
    · exact Nat.le_trans (ih q) (Nat.le_add_right _ _)
theorem cb_s {i : Nat} (h : A[i]? = some []) : cb9 A (i + 1) = cb9 A i + 1 := by
  show cb9 A i + @ite _ (A[i]? = some []) (Classical.propDecidable _) 1 0 = _
  rw [if_pos h]
theorem cb_in {i i' : Nat} (h : A[i]? = some []) (h' : A[i']? = some []) (e : cb9 A i = cb9 A i') : i = i' := by
  rcases Nat.lt_trichotomy i i' with q | q | q
  · have := cb_mono (A := A) i' q
    rw [cb_s h] at this
    omega
  · exact q
  · have := cb_mono (A := A) i q
    rw [cb_s h'] at this
    omega
theorem cb_at {l : Nat} (V : Nat) : l < cb9 A V → ∃ i, i < V ∧ A[i]? = some [] ∧ cb9 A i = l := by
  induction V with
  | zero => exact fun h => absurd h (Nat.not_lt_zero _)
  | succ V ih =>
    intro h
    rcases Nat.lt_or_ge l (cb9 A V) with q | q
    · obtain ⟨r, a, b⟩ := ih q
      exact ⟨r, by omega, b⟩
    · by_cases e : A[V]? = some []
      · rw [cb_s e] at h
        exact ⟨V, by omega, e, by omega⟩
      · have h : l < cb9 A V + @ite _ (A[V]? = some []) (Classical.propDecidable _) 1 0 := h
        rw [if_neg e] at h
        omega
theorem LsR_v (hn : A.flatten.Nodup) (h2 : ∀ p, p ∈ A.flatten → p.2 < 2) {v : Nat} (hv : v < A.flatten.length) : LsR A sg s (gV9 (vAt A v)) = lbR A sg s v := by
  have h : ∃ u, u < A.flatten.length ∧ gV9 (vAt A u) = gV9 (vAt A v) := ⟨v, hv, rfl⟩
  unfold LsR
  rw [dif_pos h]
  have e := gA_inj (h2 _ (vAt_mem h.choose_spec.1)) (h2 _ (vAt_mem hv)) h.choose_spec.2
  rw [(vAt_ij hn h.choose_spec.1 hv).mp e]
theorem LsR_c (hb : bdA A) {i : Nat} : LsR A sg s (1000 + i) = rtsN (lpA A sg (nI s) A.flatten.length) A.flatten.length + cb9 A i := by
  unfold LsR
  rw [dif_neg (fun ⟨v, a, e⟩ => by
    have := gV_lt hb (vAt_mem a)
    omega), Nat.add_sub_cancel_left]
theorem al_R (hN : isoN A sg (fun x => x) T) (hT : pm1 T) (hv : vn T.1 T.2.2.1) (hc : T.1 ≤ 8) (hs : s < 2 ^ T.1) {v : Nat} (hl : v < A.flatten.length) : alS sg (nI s) (crs A v) = alB T.2.2.2 (tb s) (crs A v) := by
  have hV := isoV_of hN hv
  have h256 : 2 ^ T.1 ≤ 256 := two_mono (b := 8) hc
  have m := vAt_mem hl
  have hx : crs A v < T.1 := hV.1.2.2.2.1 _ m
  have hm : nmT A (fun x => x) (fun x => x) T.1 := fun y hy => by
    obtain ⟨x0, e, a, -⟩ := nm_of hV hy
    rw [← e]
    exact ⟨rfl, a⟩
  rw [al_sg hV (fun x hx => by rcases hT x hx with e | e <;> rw [e] <;> decide) hm hx]
  unfold alS
  rw [bit_nI (by omega) (by omega), tb_b]
  rcases bt_01 s (crs A v) with e | e <;> rw [e] <;> cases sg (crs A v) <;> decide
theorem rel_R (hN : isoN A sg (fun x => x) T) (hT : pm1 T) (hv : vn T.1 T.2.2.1) (hc : T.1 ≤ 8) (hs : s < 2 ^ T.1) {x y : Nat} (hx : x < A.flatten.length) (hy : y < A.flatten.length) : relL9 A sg (fun x => x) T.1 (tb s) (gV9 (vAt A x)) (gV9 (vAt A y)) ↔ rt (lpA A sg (nI s) A.flatten.length) x = rt (lpA A sg (nI s) A.flatten.length) y := by
  have hV := isoV_of hN hv
  have hm : nmT A (fun x => x) (fun x => x) T.1 := fun y hy => by
    obtain ⟨x0, e, a, -⟩ := nm_of hV hy
    rw [← e]
    exact ⟨rfl, a⟩
  rw [relL_T hV (fun x hx => by rcases hT x hx with e | e <;> rw [e] <;> decide) hm (vAt_mem hx) (vAt_mem hy)]
  exact (loops_iff (st := nI s) (b := tb s) hN hv (fun v hl _ => al_R hN hT hv hc hs hl) x y hx hy).symm
theorem nm_id (hN : isoN A sg (fun x => x) T) (hv : vn T.1 T.2.2.1) : nmO A (fun x => x) T.1 := by
  have hV := isoV_of hN hv
  exact nm_O (f := fun x => x) hV (fun y hy => by
    obtain ⟨x0, e, a, -⟩ := nm_of hV hy
    rw [← e]
    exact ⟨rfl, a⟩)
theorem LT_R (hN : isoN A sg (fun x => x) T) (hT : pm1 T) (hv : vn T.1 T.2.2.1) (hc : T.1 ≤ 8) (hb : bdA A) (h9 : ∀ s, s < 2 ^ T.1 → LcN A sg s ≤ 9) : LT9 T.1 (gG9 A) (relL9 A sg (fun x => x) T.1) (LsR A sg) (LcN A sg) := fun s hs => by
  have u2 : ∀ p, p ∈ A.flatten → p.2 < 2 := fun p hp => (hb.2.1 p hp).2
  have hO := nm_id hN hv
  have eK : LcN A sg s = rtsN (lpA A sg (nI s) A.flatten.length) A.flatten.length + cb9 A A.length := by
    rw [cb_all, cirs_eC]
    rfl
  have dn9 := lpA_dn (A := A) (sg := sg) (st := nI s) A.flatten.length
  have lb_lt : ∀ v, v < A.flatten.length → lbR A sg s v < rtsN (lpA A sg (nI s) A.flatten.length) A.flatten.length := fun v hv => by
    obtain ⟨r1, r2⟩ := rt_in dn9 v
    exact rts_lt r1 (by omega)
  have vis : ∀ q, q ∈ A.flatten → ∃ v, v < A.flatten.length ∧ vAt A v = q := fun q hq => by
    obtain ⟨v, hv, e⟩ := List.getElem_of_mem hq
    exact ⟨v, hv, vAt_eq (by rw [List.getElem?_eq_getElem hv, e])⟩
  refine ⟨fun g hg => ?_, fun l hl => ?_, fun g g' hg hg' => ?_, by have := h9 s hs; omega⟩
  · rw [eK]
    rcases hg with ⟨q, q1, q2⟩ | ⟨i, i1, i2, i3⟩
    · obtain ⟨v, v1, v2⟩ := vis q q1
      rw [q2, ← v2, LsR_v hb.1 u2 v1]
      have := lb_lt v v1
      omega
    · rw [i3, LsR_c hb]
      have := cb_mono (A := A) A.length i1
      rw [cb_s i2] at this
      omega
  · rw [eK] at hl
    rcases Nat.lt_or_ge l (rtsN (lpA A sg (nI s) A.flatten.length) A.flatten.length) with q | q
    · obtain ⟨r, r1, r2, r3⟩ := rts_at _ q
      refine ⟨gV9 (vAt A r), Or.inl ⟨_, vAt_mem r1, rfl⟩, ?_⟩
      rw [LsR_v hb.1 u2 r1]
      unfold lbR
      rw [rt_root r2]
      exact r3
    · obtain ⟨i, i1, i2, i3⟩ := cb_at (A := A) (l := l - rtsN (lpA A sg (nI s) A.flatten.length) A.flatten.length) A.length (by omega)
      refine ⟨1000 + i, Or.inr ⟨i, i1, i2, rfl⟩, ?_⟩
      rw [LsR_c hb, i3]
      omega
  · rcases hg with ⟨q, q1, q2⟩ | ⟨i, i1, i2, i3⟩
    · obtain ⟨v, v1, v2⟩ := vis q q1
      rcases hg' with ⟨q', q1', q2'⟩ | ⟨i', i1', i2', i3'⟩
      · obtain ⟨v', v1', v2'⟩ := vis q' q1'
        rw [q2, q2', ← v2, ← v2', LsR_v hb.1 u2 v1, LsR_v hb.1 u2 v1', rel_R hN hT hv hc hs v1 v1']
        unfold lbR
        exact ⟨fun e => rts_in (rt_in dn9 v).1 (rt_in dn9 v').1 e, fun e => by rw [e]⟩
      · rw [q2, i3', ← v2, LsR_v hb.1 u2 v1, LsR_c hb]
        have a := lb_lt v v1
        constructor
        · intro e
          omega
        · intro e
          rcases relL_out hb.1 hO e with e2 | ⟨-, p9, b1, b2⟩
          · have := gV_lt hb (vAt_mem v1)
            omega
          · have := gV_lt hb b1
            omega
    · rcases hg' with ⟨q', q1', q2'⟩ | ⟨i', i1', i2', i3'⟩
      · obtain ⟨v', v1', v2'⟩ := vis q' q1'
        rw [i3, q2', ← v2', LsR_v hb.1 u2 v1', LsR_c hb]
        have a := lb_lt v' v1'
        constructor
        · intro e
          omega
        · intro e
          rcases relL_out hb.1 hO e with e2 | ⟨⟨p9, b1, b2⟩, -⟩
          · have := gV_lt hb (vAt_mem v1')
            omega
          · have := gV_lt hb b1
            omega
      · rw [i3, i3', LsR_c hb, LsR_c hb]
        constructor
        · intro e
          have := cb_in i2 i2' (by omega)
          rw [this]
          exact lst_e _ |>.1 _
        · intro e
          rcases relL_out hb.1 hO e with e2 | ⟨⟨p9, b1, b2⟩, -⟩
          · have : i = i' := by omega
            rw [this]
          · have := gV_lt hb b1
            omega
end XCK2
end
section
/-! 99zzzzzzzzzzzzzzzzyzo.xcid -/
-- CHAIN: the reference's states and places, exactly (made by tools/mkcid.py)
def stX (y : ow_MS) (A : rn_L) (sg : Nat → Bool) (c : Nat) : Prop := (∀ s, s < 2 ^ c → y.2.1 82 s = nI (LcN A sg s)) ∧ (∀ s, s ≤ 2 ^ c → y.2.1 83 s = nI (bsN A sg s)) ∧ ∀ s g, s < 2 ^ c → g < A.flatten.length → y.2.1 81 (32 * s + g) = nI (lbR A sg s g)
section XCK3
variable {z : ow_MS}
theorem lb_LcN {A : rn_L} {sg : Nat → Bool} {s v : Nat} (hv : v < A.flatten.length) : lbR A sg s v < LcN A sg s := by
  obtain ⟨r1, r2⟩ := rt_in (lpA_dn (A := A) (sg := sg) (st := nI s) A.flatten.length) v
  have := rts_lt r1 (show rt (lpA A sg (nI s) A.flatten.length) v < A.flatten.length by omega)
  unfold lbR LcN
  omega
theorem stX_I {y : ow_MS} {A : rn_L} {sg : Nat → Bool} {c : Nat} (h : stX y A sg c) : stI y A sg c := ⟨h.1, h.2.1, fun s g hs hg => ⟨lbR A sg s g, lb_LcN hg, h.2.2 s g hs hg⟩⟩
theorem stX_fr {P : Nat → Prop} {y y1 : ow_MS} {A : rn_L} {sg : Nat → Bool} {c : Nat} (hf : fr P y y1) (h1 : ¬ P 81) (h2 : ¬ P 82) (h3 : ¬ P 83) (h : stX y A sg c) : stX y1 A sg c := ⟨fun s hs => by rw [(hf 82 h2).2.1]; exact h.1 s hs, fun s hs => by rw [(hf 83 h3).2.1]; exact h.2.1 s hs, fun s g hs hg => by rw [(hf 81 h1).2.1]; exact h.2.2 s g hs hg⟩
theorem re_makeStates {n c P : Nat} {A : rn_L} {sg : Nat → Bool} (hn : mw_net n) (hA : oNet z n A sg) (hK : chOK A sg c P) : Te (fun K => qe_X13_makeStates K n z) (fun z1 => stX z1 A sg c ∧ fr stH z z1) := by
  obtain ⟨hok, hc, hC, hL9, hbs, -⟩ := hK
  have hV := okF_len hok
  have hmn := net_mod hn
  have h2c : 2 ^ c ≤ 256 := two_mono (b := 8) hc
  let Q : ow_MS → Prop := fun z1 => stX z1 A sg c ∧ fr stH z z1
  have oA : ∀ {y : ow_MS}, fr stH z y → oNet y n A sg := fun hf => oNet_fr hf (fun g hg => by unfold stH at hg; omega) hA
  have c1 : ∀ (d s : Nat) (y : ow_MS), s + d = 2 ^ c → fr stH z y → (∀ t, t < s → y.2.1 82 t = nI (LcN A sg t)) → (∀ t, t < s → y.2.1 83 t = nI (bsN A sg t)) → (∀ t g, t < s → g < A.flatten.length → y.2.1 81 (32 * t + g) = nI (lbR A sg t g)) → Tt (fun K i => q_X13_makeStates K i 1 (nI (eC A)) (nI c) (nI (bsN A sg s)) (nI s) 0 0 n y) Q := by
    intro d
    induction d with
    | zero =>
      intro s y hs hf h82 h83 h81
      have hs : s = 2 ^ c := by omega
      refine u_X13_makeStates_1 ?_; unfold qm_X13_makeStates_1
      rw [shl1 (by omega)]
      refine w_leT (by omega) (by omega) (w_wrI ml83 rfl (by omega) (w_some ⟨⟨fun t ht => rd_ot (by omega) (h82 t (by omega)), fun t ht => ?_, fun t g ht hg => rd_ot (by omega) (h81 t g (by omega) hg)⟩, fr_I2 hf (by unfold stH; omega)⟩))
      by_cases hts : t = 2 ^ c
      · rw [hts, po_usI_at, hs]
      · exact rd_ne hts (h83 t (by omega))
    | succ d ih =>
      intro s y hs hf h82 h83 h81
      have hs9 := hL9 s (by omega)
      have hb1 : bsN A sg (s + 1) ≤ 13122 := Nat.le_trans (bs_mono (by omega)) hbs
      rw [bs_s] at hb1
      refine u_X13_makeStates_1 ?_; unfold qm_X13_makeStates_1
      rw [shl1 (by omega)]
      refine w_leF (by omega) (by omega) (w_cs0 (tp_loops (st := nI s) hn (oA hf)) (fun y1 ⟨u1, f1⟩ => ?_))
      have hf1 : fr stH z y1 := fr_tr hf (fr_mono (fun g hg => Or.inl hg) f1)
      have hp : dn (lpA A sg (nI s) A.flatten.length) := u1.1
      have hLs : LcN A sg s = rtsN (lpA A sg (nI s) A.flatten.length) A.flatten.length + eC A := rfl
      generalize hpe : lpA A sg (nI s) A.flatten.length = p at u1 hp hLs
      have lbE : ∀ h, lbR A sg s h = rtsN p (rt p h) := fun h => by
        unfold lbR
        rw [hpe]
      have k82 : ∀ t, t < s → y1.2.1 82 t = nI (LcN A sg t) := fun t ht => by rw [(f1 82 (by omega)).2.1]; exact h82 t ht
      have k83 : ∀ t, t < s → y1.2.1 83 t = nI (bsN A sg t) := fun t ht => by rw [(f1 83 (by omega)).2.1]; exact h83 t ht
      have k81 : ∀ t g, t < s → g < A.flatten.length → y1.2.1 81 (32 * t + g) = nI (lbR A sg t g) := fun t g ht hg => by rw [(f1 81 (by omega)).2.1]; exact h81 t g ht hg
      have u81 : ∀ {y : ow_MS} {i : Nat} {x : Int32}, ufR y p → ufR (usI y 81 i x) p := fun h => ⟨h.1, fun g hg => rd_ot (by omega) (h.2 g hg)⟩
      have c4 : ∀ (d2 g : Nat) (y : ow_MS), g + d2 = A.flatten.length → ufR y p → fr stH z y → (∀ t, t < s → y.2.1 82 t = nI (LcN A sg t)) → (∀ t, t < s → y.2.1 83 t = nI (bsN A sg t)) → (∀ t g, t < s → g < A.flatten.length → y.2.1 81 (32 * t + g) = nI (lbR A sg t g)) → (∀ h, h < A.flatten.length → (h < g ∨ p h = h) → y.2.1 81 (32 * s + h) = nI (lbR A sg s h)) → Tt (fun K i => q_X13_makeStates K i 4 (nI (eC A)) (nI c) (nI (bsN A sg s)) (nI s) (nI (rtsN p A.flatten.length)) (nI g) n y) Q := by
        intro d2
        induction d2 with
        | zero =>
          intro g y hg hu hf h82 h83 h81 hR
          refine u_X13_makeStates_4 ?_; unfold qm_X13_makeStates_4
          rw [nI_add, shl1 (by omega), nI_add, nI_1, ← hLs, ← bs_s]
          refine w_rdF (oA hf).1.V (w_leT (by omega) (by omega) (w_wrI ml82 rfl (by omega) (w_wrI ml83 rfl (by omega) (ih (s + 1) _ (by omega) (fr_I2 (fr_I2 hf (by unfold stH; omega)) (by unfold stH; omega)) (fun t ht => ?_) (fun t ht => ?_) (fun t h ht hh => rd_ot (by omega) (rd_ot (by omega) ?_))))))
          · refine rd_ot (by omega) ?_
            by_cases hts : t = s
            · rw [hts, po_usI_at]
            · exact rd_ne hts (h82 t (by omega))
          · by_cases hts : t = s
            · rw [hts, po_usI_at]
            · exact rd_ne hts (rd_ot (by omega) (h83 t (by omega)))
          · by_cases hts : t = s
            · rw [hts]
              exact hR h hh (Or.inl (by omega))
            · exact h81 t h (by omega) hh
        | succ d2 ih4 =>
          intro g y hg hu hf h82 h83 h81 hR
          have hgl : g < A.flatten.length := by omega
          obtain ⟨r1, r2⟩ := rt_in hp g
          have el := hR (rt p g) (by omega) (Or.inr r1)
          rw [lbE, rt_root r1, ← lbE] at el
          have hl : lbR A sg s g < LcN A sg s := by
            rw [lbE, hLs]
            have := rts_lt r1 (show rt p g < A.flatten.length by omega)
            omega
          refine u_X13_makeStates_4 ?_; unfold qm_X13_makeStates_4
          refine w_rdF (oA hf).1.V (w_leF (by omega) hgl (w_cs1 (tp_root hu (by omega)) (fun a y2 e => ?_)))
          cases e
          rw [i32x, i32x, nI_1]
          refine w_rdI ml81 rfl (by omega) el (w_wrB ml81 rfl (by omega) ?_)
          rw [(byt ⟨lbR A sg s g, by omega⟩).2]
          refine ih4 (g + 1) _ (by omega) (u81 hu) (fr_I2 hf (by unfold stH; omega)) (fun t ht => rd_ot (by omega) (h82 t ht)) (fun t ht => rd_ot (by omega) (h83 t ht)) (fun t h ht hh => ?_) (fun h hh h9 => ?_)
          · exact rd_ne (by omega) (h81 t h ht hh)
          · by_cases hhg : h = g
            · rw [hhg]
              exact po_usI_at
            · exact rd_ne (by omega) (hR h hh (by omega))
      have c2 : ∀ (d2 g : Nat) (y : ow_MS), g + d2 = A.flatten.length → ufR y p → fr stH z y → (∀ t, t < s → y.2.1 82 t = nI (LcN A sg t)) → (∀ t, t < s → y.2.1 83 t = nI (bsN A sg t)) → (∀ t g, t < s → g < A.flatten.length → y.2.1 81 (32 * t + g) = nI (lbR A sg t g)) → (∀ h, h < g → p h = h → y.2.1 81 (32 * s + h) = nI (lbR A sg s h)) → Tt (fun K i => q_X13_makeStates K i 2 (nI (eC A)) (nI c) (nI (bsN A sg s)) (nI s) (nI (rtsN p g)) (nI g) n y) Q := by
        intro d2
        induction d2 with
        | zero =>
          intro g y hg hu hf h82 h83 h81 hR
          have hg : g = A.flatten.length := by omega
          subst hg
          refine u_X13_makeStates_2 ?_; unfold qm_X13_makeStates_2
          exact w_rdF (oA hf).1.V (w_leT (by omega) (by omega) (c4 A.flatten.length 0 y (by omega) hu hf h82 h83 h81 (fun h hh h9 => hR h hh (h9.resolve_left (by omega)))))
        | succ d2 ih2 =>
          intro g y hg hu hf h82 h83 h81 hR
          have hgl : g < A.flatten.length := by omega
          have h1 := hp g
          have hrm := rtsN_mono (p := p) (a := g + 1) A.flatten.length hgl
          rw [rtsN_s] at hrm
          refine u_X13_makeStates_2 ?_; unfold qm_X13_makeStates_2
          rw [i32x]
          refine w_rdF (oA hf).1.V (w_leF (by omega) hgl (w_rdI ml47 rfl (by omega) (hu.2 g (by omega)) (w_eqN (by omega) (by omega) (fun h9 => w_wrB ml81 rfl (by omega) ?_) (fun h9 => ?_))))
          · rw [if_pos h9] at hrm
            rw [(byt ⟨rtsN p g, by omega⟩).1]
            refine u_X13_makeStates_3 ?_; unfold qm_X13_makeStates_3
            rw [nI_1, nI_1]
            have := ih2 (g + 1) (usI y 81 (32 * s + g) (nI (rtsN p g))) (by omega) (u81 hu) (fr_I2 hf (by unfold stH; omega)) (fun t ht => rd_ot (by omega) (h82 t ht)) (fun t ht => rd_ot (by omega) (h83 t ht)) (fun t h ht hh => rd_ne (by omega) (h81 t h ht hh)) (fun h hh h8 => by
              by_cases hhg : h = g
              · rw [hhg, lbE, rt_root h9]
                exact po_usI_at
              · exact rd_ne (by omega) (hR h (by omega) h8))
            rw [rtsN_s, if_pos h9] at this
            exact this
          · refine u_X13_makeStates_3 ?_; unfold qm_X13_makeStates_3
            rw [nI_1]
            have := ih2 (g + 1) y (by omega) hu hf h82 h83 h81 (fun h hh h8 => by
              by_cases hhg : h = g
              · rw [hhg] at h8
                exact absurd h8 h9
              · exact hR h (by omega) h8)
            rw [rtsN_s, if_neg h9] at this
            exact this
      exact c2 A.flatten.length 0 y1 (by omega) u1 hf1 k82 k83 k81 (fun h hh => absurd hh (by omega))
  refine e_X13_makeStates ?_
  refine u_X13_makeStates_0 ?_; unfold qm_X13_makeStates_0
  refine w_cs1 (tp_circles2 hn (by omega) (by omega) hA.1.1) (fun a y e => ?_)
  cases e
  refine w_rdF hA.1.V (w_nzI (by decide) ?_)
  rw [hV, half_V (by omega)]
  exact c1 (2 ^ c) 0 z (by omega) fr_rf (fun t ht => absurd ht (by omega)) (fun t ht => absurd ht (by omega)) (fun t g ht => absurd ht (by omega))
/-- the degree of a column -/
def dgq (c mi q : Nat) : Int := (q : Int) - 40 - c + 3 * mi
theorem qv_kp {A : rn_L} {sg : Nat → Bool} {c mi s m q : Nat} (hs : s < 2 ^ c) (hc : c ≤ 8) (hmi : mi ≤ c) (h9 : LcN A sg s ≤ 9) (hm : m < 2 ^ LcN A sg s) : qvN A sg c mi s m = q ↔ kpF (LcN A sg s) (pc s) (dgq c mi q) = some (pc m) := by
  have a := pc_le hs
  have b := pc_le hm
  rw [kp_iff b]
  unfold qvN dgq
  omega
def cq9 (ns : Nat → Nat) (dg : Int) (s m : Nat) : Nat := match kpF (ns s) (pc s) dg with
  | some k => cpN k m
  | none => 0
theorem cq9_0 {ns : Nat → Nat} {dg : Int} {s : Nat} : cq9 ns dg s 0 = 0 := by
  unfold cq9
  cases kpF (ns s) (pc s) dg <;> rfl
theorem cq9_s {ns : Nat → Nat} {dg : Int} {s m : Nat} : cq9 ns dg s (m + 1) = cq9 ns dg s m + if kpF (ns s) (pc s) dg = some (pc m) then 1 else 0 := by
  unfold cq9
  cases e : kpF (ns s) (pc s) dg with
  | none =>
    rw [if_neg (fun h => by cases h)]
  | some k =>
    show cpN k m + (if pc m = k then 1 else 0) = cpN k m + _
    by_cases q : pc m = k
    · rw [if_pos q, if_pos (by rw [q])]
    · rw [if_neg q, if_neg (fun h => q (Option.some.inj h).symm)]
theorem cq9_all {ns : Nat → Nat} {dg : Int} {s : Nat} (hn : ns s < 32) : cq9 ns dg s (2 ^ ns s) = bkF ns dg s := by
  unfold cq9 bkF
  cases e : kpF (ns s) (pc s) dg with
  | none => rfl
  | some k => exact cpN_bi _ _ hn
/-- what placeAll leaves, exactly -/
def plX (y : ow_MS) (A : rn_L) (sg : Nat → Bool) (c mi : Nat) : Prop := (∀ h q, h < 10 → q < 80 → y.2.1 85 (80 * h + q) = nI (sz9 c (LcN A sg) (dgq c mi q) h)) ∧ ∀ s m, s < 2 ^ c → m < 2 ^ LcN A sg s → y.2.1 84 (bsN A sg s + m) = nI (ix9 (LcN A sg) (dgq c mi (qvN A sg c mi s m)) s m)
theorem re_placeAll {c P mi : Nat} {A : rn_L} {sg : Nat → Bool} (hK : chOK A sg c P) (hI : stI z A sg c) (h88 : z.1 88 = nI mi) (hmi : mi ≤ c) : Te (fun K => qe_X13_placeAll K (nI c) z) (fun z1 => plX z1 A sg c mi ∧ fr plH z z1 ∧ ∀ k, k < 800 → z1.2.1 86 k = 0 ∧ z1.2.1 87 k = 0) := by
  have hK' := hK
  obtain ⟨hok, hc, hC, hL9, hbs, hblk⟩ := hK
  have h2c : 2 ^ c ≤ 256 := two_mono (b := 8) hc
  let Q : ow_MS → Prop := fun z1 => plX z1 A sg c mi ∧ fr plH z z1 ∧ ∀ k, k < 800 → z1.2.1 86 k = 0 ∧ z1.2.1 87 k = 0
  have iF : ∀ {y : ow_MS}, fr plH z y → stI y A sg c := fun hf => stI_fr hf (by unfold plH; omega) (by unfold plH; omega) (by unfold plH; omega) hI
  have szl : ∀ h s dg, s ≤ 2 ^ c → smH (bkF (LcN A sg) dg) h 0 s ≤ 1140 := fun h s dg hs => Nat.le_trans (smH_mono _ hs) (bkF_sz hL9 (hblk h))
  have c2 : ∀ (d s : Nat) (y : ow_MS), s + d = 2 ^ c → fr plH z y → (∀ h q, h < 10 → q < 80 → y.2.1 85 (80 * h + q) = nI (smH (bkF (LcN A sg) (dgq c mi q)) h 0 s)) → (∀ t m, t < s → m < 2 ^ LcN A sg t → y.2.1 84 (bsN A sg t + m) = nI (ix9 (LcN A sg) (dgq c mi (qvN A sg c mi t m)) t m)) → (∀ k, k < 800 → y.2.1 86 k = 0 ∧ y.2.1 87 k = 0) → Tt (fun K i => q_X13_placeAll K i 2 (nI c) (nI s) 0 y) Q := by
    intro d
    induction d with
    | zero =>
      intro s y hs hf h85 h84 hz9
      have hs : s = 2 ^ c := by omega
      refine u_X13_placeAll_2 ?_; unfold qm_X13_placeAll_2
      rw [shl1 (by omega)]
      refine w_leT (by omega) (by omega) (w_some ⟨⟨fun h q hh hq => ?_, fun t m ht hm => h84 t m (by omega) hm⟩, hf, hz9⟩)
      rw [h85 h q hh hq, hs]
      rfl
    | succ d ih =>
      intro s y hs hf h85 h84 hz9
      have hsl : s < 2 ^ c := by omega
      have hL := hL9 s hsl
      have h2L : 2 ^ LcN A sg s ≤ 512 := two_mono (b := 9) hL
      have hps := pc_le hsl
      have hb1 : bsN A sg (s + 1) ≤ 13122 := Nat.le_trans (bs_mono (by omega)) hbs
      rw [bs_s] at hb1
      have c3 : ∀ (d2 m : Nat) (y : ow_MS), m + d2 = 2 ^ LcN A sg s → fr plH z y → (∀ h q, h < 10 → q < 80 → y.2.1 85 (80 * h + q) = nI (smH (bkF (LcN A sg) (dgq c mi q)) h 0 s + if pc s = h then cq9 (LcN A sg) (dgq c mi q) s m else 0)) → (∀ t m', (t < s ∨ t = s ∧ m' < m) → m' < 2 ^ LcN A sg t → y.2.1 84 (bsN A sg t + m') = nI (ix9 (LcN A sg) (dgq c mi (qvN A sg c mi t m')) t m')) → (∀ k, k < 800 → y.2.1 86 k = 0 ∧ y.2.1 87 k = 0) → Tt (fun K i => q_X13_placeAll K i 3 (nI c) (nI s) (nI m) y) Q := by
        intro d2
        induction d2 with
        | zero =>
          intro m y hm hf h85 h84 hz9
          refine u_X13_placeAll_3 ?_; unfold qm_X13_placeAll_3
          refine w_rdI ml82 rfl (by omega) ((iF hf).1 s hsl) ?_
          rw [shl1 (by omega), nI_1]
          refine w_leT (by omega) (by omega) (ih (s + 1) y (by omega) hf (fun h q hh hq => ?_) (fun t m' ht hm' => h84 t m' (by
            rcases Nat.lt_or_ge t s with q9 | q9
            · exact Or.inl q9
            · have e9 : t = s := by omega
              rw [e9] at hm'
              exact Or.inr ⟨e9, by omega⟩) hm') hz9)
          rw [h85 h q hh hq, smH_s, show m = 2 ^ LcN A sg s by omega, cq9_all (by omega)]
        | succ d2 ih3 =>
          intro m y hm hf h85 h84 hz9
          have hml : m < 2 ^ LcN A sg s := by omega
          have hIy := iF hf
          have h88y : y.1 88 = nI mi := by rw [(hf 88 (by unfold plH; omega)).1]; exact h88
          obtain ⟨tq, hq80⟩ := tp_qOf hK' hIy h88y hmi hsl hml
          generalize hqe : qvN A sg c mi s m = qq at tq hq80
          have hkp := (qv_kp hsl hc hmi hL hml).mp hqe
          have ev := h85 (pc s) qq (by omega) hq80
          rw [if_pos rfl] at ev
          have ecq : cq9 (LcN A sg) (dgq c mi qq) s m = cpN (pc m) m := by
            unfold cq9
            rw [hkp]
          rw [ecq] at ev
          have eix : smH (bkF (LcN A sg) (dgq c mi qq)) (pc s) 0 s + cpN (pc m) m = ix9 (LcN A sg) (dgq c mi qq) s m := rfl
          have hbnd : ix9 (LcN A sg) (dgq c mi qq) s m < 1140 := Nat.lt_of_lt_of_le (ix_sz (h := pc s) ⟨hsl, rfl, hml, hkp⟩ (by omega)) (bkF_sz hL9 (hblk _))
          rw [eix] at ev
          refine u_X13_placeAll_3 ?_; unfold qm_X13_placeAll_3
          refine w_rdI ml82 rfl (by omega) (hIy.1 s hsl) ?_
          rw [shl1 (by omega)]
          refine w_leF (by omega) (by omega) (w_rdF h88y (w_cs1 tq (fun a y1 e1 => ?_)))
          cases e1
          rw [bc_pc (by omega), show (80 : Int32) * nI (pc s) = nI (80 * pc s) from pk_mul 80 _, nI_add, nI_1]
          refine w_rdI ml83 rfl (by omega) (hIy.2.1 s (by omega)) (w_rdI ml85 rfl (by omega) ev (w_wrI (i := bsN A sg s + m) ml84 (nI_add _ _) (by omega) (w_rdI (x := nI (ix9 (LcN A sg) (dgq c mi qq) s m)) ml85 rfl (by omega) (rd_ot (by omega) ev) (w_wrI ml85 rfl (by omega) (ih3 (m + 1) _ (by omega) (fr_I2 (fr_I2 hf (by unfold plH; omega)) (by unfold plH; omega)) (fun h q hh hq => ?_) (fun t m' ht hm' => ?_) (fun k hk => ⟨rd_ot (by omega) (rd_ot (by omega) (hz9 k hk).1), rd_ot (by omega) (rd_ot (by omega) (hz9 k hk).2)⟩))))))
          · by_cases hat : 80 * h + q = 80 * pc s + qq
            · have e1 : h = pc s := by omega
              have e2 : q = qq := by omega
              rw [e1, e2, if_pos rfl, cq9_s, if_pos hkp, ecq]
              refine po_usI_at.trans ?_
              rw [nI_1, ← eix]
              exact congrArg nI (by omega)
            · refine rd_ne hat (rd_ot (by omega) ((h85 h q hh hq).trans ?_))
              by_cases hps2 : pc s = h
              · have nk : ¬ kpF (LcN A sg s) (pc s) (dgq c mi q) = some (pc m) := fun h9 => by
                  have := (qv_kp hsl hc hmi hL hml).mpr h9
                  omega
                rw [if_pos hps2, if_pos hps2, cq9_s, if_neg nk, Nat.add_zero]
              · rw [if_neg hps2, if_neg hps2]
          · refine rd_ot (by omega) ?_
            by_cases hi2 : bsN A sg t + m' = bsN A sg s + m
            · have ets : t = s := by
                rcases ht with h9 | h9
                · have := bs_mono (A := A) (sg := sg) (a := t + 1) (b := s) h9
                  rw [bs_s] at this
                  omega
                · exact h9.1
              rw [ets] at hi2 ⊢
              rw [show m' = m by omega, hqe]
              exact po_usI_at
            · refine rd_ne hi2 (h84 t m' ?_ hm')
              rcases ht with h9 | ⟨h8, h9⟩
              · exact Or.inl h9
              · refine Or.inr ⟨h8, ?_⟩
                rw [h8] at hi2
                omega
      refine u_X13_placeAll_2 ?_; unfold qm_X13_placeAll_2
      rw [shl1 (by omega)]
      refine w_leF (by omega) (by omega) (c3 (2 ^ LcN A sg s) 0 y (by omega) hf (fun h q hh hq => ?_) (fun t m' ht hm' => h84 t m' (by omega) hm') hz9)
      rw [h85 h q hh hq, cq9_0, ite_self, Nat.add_zero]
  have c1 : ∀ (d i : Nat) (y : ow_MS), i + d = 800 → fr plH z y → (∀ k, k < i → y.2.1 85 k = 0 ∧ y.2.1 86 k = 0 ∧ y.2.1 87 k = 0) → Tt (fun K t => q_X13_placeAll K t 1 (nI c) (nI i) 0 y) Q := by
    intro d
    induction d with
    | zero =>
      intro i y hi hf h0
      refine u_X13_placeAll_1 ?_; unfold qm_X13_placeAll_1
      exact w_leT (a := 800) (by omega) (by omega) (c2 (2 ^ c) 0 y (by omega) hf (fun h q hh hq => (h0 _ (by omega)).1) (fun t m ht => absurd ht (Nat.not_lt_zero _)) (fun k hk => (h0 k (by omega)).2))
    | succ d ih =>
      intro i y hi hf h0
      refine u_X13_placeAll_1 ?_; unfold qm_X13_placeAll_1
      rw [nI_1]
      refine w_leF (a := 800) (by omega) (by omega) (w_wrI ml85 rfl (by omega) (w_wrI ml86 rfl (by omega) (w_wrI ml87 rfl (by omega) (ih (i + 1) _ (by omega) (fr_I2 (fr_I2 (fr_I2 hf (by unfold plH; omega)) (by unfold plH; omega)) (by unfold plH; omega)) (fun k hk => ?_)))))
      by_cases hki : k = i
      · rw [hki]
        exact ⟨rd_ot (by omega) (rd_ot (by omega) po_usI_at), rd_ot (by omega) po_usI_at, po_usI_at⟩
      · obtain ⟨q1, q2, q3⟩ := h0 k (by omega)
        exact ⟨rd_ot (by omega) (rd_ot (by omega) (rd_ne hki q1)), rd_ot (by omega) (rd_ne hki (rd_ot (by omega) q2)), rd_ne hki (rd_ot (by omega) (rd_ot (by omega) q3))⟩
  refine e_X13_placeAll ?_
  refine u_X13_placeAll_0 ?_; unfold qm_X13_placeAll_0
  exact c1 800 0 z (by omega) fr_rf (fun k hk => absurd hk (by omega))
end XCK3
end
