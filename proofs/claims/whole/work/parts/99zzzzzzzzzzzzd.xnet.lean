/-! nets that show one list -/
section XNT
variable {A B E : rn_L} {sg sB sE : Nat → Bool} {T T2 R : ow_NT} {f g h k : Nat → Nat}
theorem iso_vis (hV : isoV A sg f T) {y u : Nat} (hy : y < T.1) (hu : u < 2) : ∃ x, ((x, u) : vT) ∈ A.flatten ∧ f x = y := by
  have hi := isoS_iff.mp hV.1
  obtain ⟨v, hv, e⟩ := lbv_sur hi (k := 2 * y + u) (by omega)
  obtain ⟨e1, e2⟩ := lbv_hf hi hv
  rw [e] at e1 e2
  refine ⟨crs A v, ?_, by omega⟩
  have := vAt_mem hv
  rw [show vAt A v = (crs A v, u) from Prod.ext rfl (by show uns A v = u; omega)] at this
  exact this
/-- what shows a list shows what that list shows -/
theorem iso_tr (hB : isoV B sB g T) (hE : isoV E sE h T) (hR : isoV E sE k R) : ∃ g', isoV B sB g' R := by
  have ex : ∀ y, ∃ x, y < T.1 → ((x, 0) : vT) ∈ E.flatten ∧ ((x, 1) : vT) ∈ E.flatten ∧ h x = y := fun y => by
    by_cases hy : y < T.1
    · obtain ⟨x, x1, x2⟩ := iso_vis hE hy (u := 0) (by omega)
      obtain ⟨x', y1, y2⟩ := iso_vis hE hy (u := 1) (by omega)
      have := hE.1.2.2.2.2.1 _ _ x1 y1 (x2.trans y2.symm)
      have this : x = x' := this
      rw [← this] at y1
      exact ⟨x, fun _ => ⟨x1, y1, x2⟩⟩
    · exact ⟨0, fun h9 => absurd h9 hy⟩
  obtain ⟨τ, hτ⟩ := Classical.axiomOfChoice ex
  have hu : ∀ {p : vT}, p ∈ B.flatten → p.2 < 2 := fun {p} hp => (hB.1.1.2 p hp).2.1
  have huE : ∀ {p : vT}, p ∈ E.flatten → p.2 < 2 := fun {p} hp => (hE.1.1.2 p hp).2.1
  have tB : ∀ {p : vT}, p ∈ B.flatten → ((τ (g p.1), p.2) : vT) ∈ E.flatten ∧ h (τ (g p.1)) = g p.1 := fun {p} hp => by
    obtain ⟨a1, a2, a3⟩ := hτ (g p.1) (hB.1.2.2.2.1 p hp)
    refine ⟨?_, a3⟩
    have := hu hp
    rcases (show p.2 = 0 ∨ p.2 = 1 by omega) with e | e <;> rw [e]
    · exact a1
    · exact a2
  have tE : ∀ {q : vT}, q ∈ E.flatten → τ (h q.1) = q.1 := fun {q} hq => by
    obtain ⟨a1, a2, a3⟩ := hτ (h q.1) (hE.1.2.2.2.1 q hq)
    have := hE.1.2.2.2.2.1 _ _ a1 hq a3
    exact this
  refine ⟨fun x => k (τ (g x)), ⟨hB.1.1, ?_, hR.1.2.2.1, fun p hp => hR.1.2.2.2.1 _ (tB hp).1, fun p q hp hq e => ?_, fun L hL p hp => ?_, fun p hp => ?_, ?_⟩, fun L hL p hp => ?_⟩
  · rw [hB.1.2.1, ← hE.1.2.1, hR.1.2.1]
  · have e1 := hR.1.2.2.2.2.1 _ _ (tB hp).1 (tB hq).1 e
    have e1 : τ (g p.1) = τ (g q.1) := e1
    have e2 : g p.1 = g q.1 := by rw [← (tB hp).2, ← (tB hq).2, e1]
    exact hB.1.2.2.2.2.1 p q hp hq e2
  · have hpB : p ∈ B.flatten := List.mem_flatten.mpr ⟨L, hL, hp⟩
    have hsB : sc L p ∈ B.flatten := List.mem_flatten.mpr ⟨L, hL, sc_in hp (L_nd hB.1.1.1 hL)⟩
    obtain ⟨m1, m2⟩ := tB hpB
    obtain ⟨M, hM, hq⟩ := List.mem_flatten.mp m1
    have hsE : sc M (τ (g p.1), p.2) ∈ E.flatten := List.mem_flatten.mpr ⟨M, hM, sc_in hq (L_nd hE.1.1.1 hM)⟩
    have a1 := (hB.2 L hL p hp).1
    have a2 := (hE.2 M hM _ hq).1
    have a3 := (hR.2 M hM _ hq).1
    have e0 : gl h (τ (g p.1), p.2) = gl g p := by
      show 2 * h (τ (g p.1)) + p.2 = 2 * g p.1 + p.2
      rw [m2]
    rw [e0, a1] at a2
    have a2 : 2 * g (sc L p).1 + (sc L p).2 = 2 * h (sc M (τ (g p.1), p.2)).1 + (sc M (τ (g p.1), p.2)).2 := a2
    have u1 := hu hsB
    have u2 := huE hsE
    have e1 : g (sc L p).1 = h (sc M (τ (g p.1), p.2)).1 := by omega
    have e2 : (sc L p).2 = (sc M (τ (g p.1), p.2)).2 := by omega
    show R.2.2.1.1 (gl k (τ (g p.1), p.2)) = 2 * k (τ (g (sc L p).1)) + (sc L p).2
    rw [a3, e1, tE hsE, e2]
    rfl
  · obtain ⟨m1, m2⟩ := tB hp
    have a1 := hR.1.2.2.2.2.2.2.1 _ m1
    have a2 := hE.1.2.2.2.2.2.2.1 _ m1
    have a3 := hB.1.2.2.2.2.2.2.1 p hp
    have a2 : T.2.2.2 (h (τ (g p.1))) < 0 ↔ sE (τ (g p.1)) = true := a2
    rw [m2] at a2
    exact a1.trans (a2.symm.trans a3)
  · rw [hB.1.2.2.2.2.2.2.2, ← hE.1.2.2.2.2.2.2.2, hR.1.2.2.2.2.2.2.2]
  · have hpB : p ∈ B.flatten := List.mem_flatten.mpr ⟨L, hL, hp⟩
    have hsB : sc L p ∈ B.flatten := List.mem_flatten.mpr ⟨L, hL, sc_in hp (L_nd hB.1.1.1 hL)⟩
    obtain ⟨m1, m2⟩ := tB hpB
    obtain ⟨M, hM, hq⟩ := List.mem_flatten.mp m1
    have hsE : sc M (τ (g p.1), p.2) ∈ E.flatten := List.mem_flatten.mpr ⟨M, hM, sc_in hq (L_nd hE.1.1.1 hM)⟩
    have a1 := (hB.2 L hL p hp).1
    have a2 := (hE.2 M hM _ hq).1
    have a3 := (hR.2 M hM _ hq)
    have e0 : gl h (τ (g p.1), p.2) = gl g p := by
      show 2 * h (τ (g p.1)) + p.2 = 2 * g p.1 + p.2
      rw [m2]
    rw [e0, a1] at a2
    have a2 : 2 * g (sc L p).1 + (sc L p).2 = 2 * h (sc M (τ (g p.1), p.2)).1 + (sc M (τ (g p.1), p.2)).2 := a2
    have u1 := hu hsB
    have u2 := huE hsE
    have e1 : g (sc L p).1 = h (sc M (τ (g p.1), p.2)).1 := by omega
    have e2 : (sc L p).2 = (sc M (τ (g p.1), p.2)).2 := by omega
    have e3 : gl (fun x => k (τ (g x))) (sc L p) = gl k (sc M (τ (g p.1), p.2)) := by
      show 2 * k (τ (g (sc L p).1)) + (sc L p).2 = 2 * k (sc M (τ (g p.1), p.2)).1 + (sc M (τ (g p.1), p.2)).2
      rw [e1, tE hsE, e2]
    rw [e3]
    exact a3
/-- a net with the list's own numbers -/
theorem net_id (hV : isoV A sg f T) (ho : okF A.flatten T.1) (h6 : A.length ≤ 6) (hp : pm1 T) : ∃ R, isoV A sg idN R ∧ nv R ∧ pm1 R ∧ R.1 = T.1 := by
  have hc := hV.1.2.2.1
  have hvn := isoV_vn hV
  have fl : ∀ {x : Nat}, x < T.1 → f x < T.1 := fun {x} hx => hV.1.2.2.2.1 (x, 0) ((ho.2 _).mpr ⟨hx, by show 0 < 2; omega⟩)
  have fi : ∀ {x y : Nat}, x < T.1 → y < T.1 → f x = f y → x = y := fun {x y} hx hy e => hV.1.2.2.2.2.1 (x, 0) (y, 0) ((ho.2 _).mpr ⟨hx, by show 0 < 2; omega⟩) ((ho.2 _).mpr ⟨hy, by show 0 < 2; omega⟩) e
  have ex : ∀ y, ∃ x, y < T.1 → x < T.1 ∧ f x = y := fun y => by
    by_cases hy : y < T.1
    · obtain ⟨x, x1, x2⟩ := iso_vis hV hy (u := 0) (by omega)
      exact ⟨x, fun _ => ⟨((ho.2 _).mp x1).1, x2⟩⟩
    · exact ⟨0, fun h9 => absurd h9 hy⟩
  obtain ⟨τ, hτ⟩ := Classical.axiomOfChoice ex
  have tf : ∀ {x : Nat}, x < T.1 → τ (f x) = x := fun {x} hx => by
    obtain ⟨a1, a2⟩ := hτ (f x) (fl hx)
    exact fi a1 hx a2
  let cv : (Nat → Nat) → Nat → Nat := fun N q => if q < 2 * T.1 then 2 * τ (N (2 * f (q / 2) + q % 2) / 2) + N (2 * f (q / 2) + q % 2) % 2 else 0
  have cvp : ∀ {N : Nat → Nat} {p q : vT}, p ∈ A.flatten → q ∈ A.flatten → N (gl f p) = gl f q → cv N (gl idN p) = gl idN q := by
    intro N p q hpA hqA e
    have p1 := (ho.2 p).mp hpA
    have q1 := (ho.2 q).mp hqA
    have eN : gl idN p = 2 * p.1 + p.2 := rfl
    show (if gl idN p < 2 * T.1 then _ else _) = _
    rw [if_pos (by omega), eN, show (2 * p.1 + p.2) / 2 = p.1 by omega, show (2 * p.1 + p.2) % 2 = p.2 by omega]
    have e : N (2 * f p.1 + p.2) = 2 * f q.1 + q.2 := e
    rw [e, show (2 * f q.1 + q.2) / 2 = f q.1 by omega, show (2 * f q.1 + q.2) % 2 = q.2 by omega, tf q1.1]
    rfl
  let R : ow_NT := (T.1, T.2.1, (cv T.2.2.1.1, cv T.2.2.1.2), fun x => T.2.2.2 (f x))
  have hS : shP R.2.2.1 (gl idN) A := fun L hL p hp9 => by
    have hpA : p ∈ A.flatten := List.mem_flatten.mpr ⟨L, hL, hp9⟩
    have hsA : sc L p ∈ A.flatten := List.mem_flatten.mpr ⟨L, hL, sc_in hp9 (L_nd ho.1 hL)⟩
    obtain ⟨a1, a2⟩ := hV.2 L hL p hp9
    exact ⟨cvp hpA hsA a1, cvp hsA hpA a2⟩
  have hI : isoV A sg idN R := iso_mk (c := T.1) ho hc rfl (fun x hx => hx) (fun x y _ _ e => e) hS (fun x hx => hV.1.2.2.2.2.2.2.1 (x, 0) ((ho.2 _).mpr ⟨hx, by show 0 < 2; omega⟩)) hV.1.2.2.2.2.2.2.2
  have b24 : ∀ {N : Nat → Nat}, (∀ q, q < 2 * T.1 → N q < 2 * T.1) → ∀ q, cv N q < 24 := by
    intro N hN q
    show (if q < 2 * T.1 then _ else _) < 24
    by_cases hq : q < 2 * T.1
    · rw [if_pos hq]
      have h1 := fl (x := q / 2) (by omega)
      have h2 := hN (2 * f (q / 2) + q % 2) (by omega)
      have h3 := (hτ (N (2 * f (q / 2) + q % 2) / 2) (by omega)).1
      omega
    · rw [if_neg hq]
      omega
  have hvR := isoV_vn hI
  have hrg := iso_rge (isoS_iff.mp hI.1) hvR
  exact ⟨R, hI, ⟨hvR, hc, ⟨b24 (fun q hq => (hvn q hq).1), b24 (fun q hq => (hvn q hq).2.1)⟩, by omega⟩, fun x hx => hp _ (fl hx), rfl⟩
/-- every net has a code -/
theorem cp_ex (hT : nv T) : ∃ Cs os, cpZ T (np_parts T.1 T.2.2.1.1).2 Cs os := by
  let y : ow_MS := (fun g => if g = 4008 then nI T.1 else nI T.2.1, fun g v => if g = 4001 then nI (T.2.2.1.1 v) else if g = 4002 then nI (T.2.2.1.2 v) else if g = 4003 then T.2.2.2 v else 0, fun _ _ => 0)
  have hy : cAt y 4000 T := ⟨rfl, rfl, fun _ => rfl, fun _ => rfl, fun _ => rfl⟩
  have hb : ∀ g, g = 8001 ∨ g = 9001 ∨ g = 10001 → byR y g := fun g hg i => by
    rcases hg with rfl | rfl | rfl <;> rfl
  obtain ⟨r, -, ⟨Cs, os, h1, -⟩, -⟩ := tc_encode (vl := fun _ => 0) (k := 7000) (h := 4000) (Or.inl rfl) nH4 hy hT (hb 8001 (Or.inl rfl)) (hb 9001 (Or.inr (Or.inl rfl))) (hb 10001 (Or.inr (Or.inr rfl)))
  exact ⟨Cs, os, h1⟩
/-- nets that show one list have one code -/
theorem cd_same {Cs Ds : List cdT} {os qs : List Nat} (h1 : isoV A sg f T) (h2 : isoV A sg g T2) (h6 : A.length ≤ 6) (n1 : nv T) (n2 : nv T2) (z1 : cpZ T (np_parts T.1 T.2.2.1.1).2 Cs os) (z2 : cpZ T2 (np_parts T2.1 T2.2.2.1.1).2 Ds qs) : enC T Cs os = enC T2 Ds qs := by
  obtain ⟨m, P, hk⟩ := mk_ex A
  obtain ⟨A1, s1, a1, a2, a3, -⟩ := enc_pk (isoS_iff.mp h1.1) h6 n1 hk z1
  obtain ⟨A2, s2, b1, b2, b3, -⟩ := enc_pk (isoS_iff.mp h2.1) h6 n2 hk z2
  rw [a3, b3]
  exact (clC_tk a2 b2).mpr (a1.symm.trans b1)
end XNT
