/-! the class: jones has an answer -/
theorem bmp_cnt : ∀ (l : List Nat) (R : Nat → Int32) (k : Nat), bmp R l k = R k + nI (l.count k)
  | [], R, k => by
    show R k = R k + nI 0
    rw [show nI 0 = 0 from rfl, Int32.add_zero]
  | a :: l, R, k => by
    show bmp (upd R a (R a + 1)) l k = _
    rw [bmp_cnt l, upd_v]
    by_cases e : k = a
    · subst e
      rw [if_pos rfl, List.count_cons_self, ← nI_1, Int32.add_assoc, Int32.add_comm 1]
    · rw [if_neg e, List.count_cons_of_ne (fun h => e h.symm)]
/-- the net of a diagram, as it is loaded -/
def jnN (A : rn_L) (sg : Nat → Bool) (c : Nat) (S : ow_NP) (G : Nat → Int32) : Prop := okL A c ∧ isoN A sg (fun x => x) (c, cirs A, S, G) ∧ vn c S ∧ ∀ x, x < c → G x = if sg x then -1 else 1
theorem neC_cirs (A : rn_L) : neC A + cirs A ≤ A.length := by
  have h1 := filt_sum (neB A) (List.range A.length)
  rw [List.length_range, ← cirs_f] at h1
  have h2 : neC A ≤ ((List.range A.length).filter (neB A)).length := by
    refine nodup_le _ _ (List.nodup_range.filter _) (fun c hc => ?_)
    have hc := List.mem_filter.mp hc
    have h3 := of_decide_eq_true hc.2
    have h4 := rn_b_le A (c + 1)
    have h5 := neB_in (A := A) (v := rn_b A c) (by omega)
    rw [rn_c_of A c (rn_b A c) (Nat.le_refl _) h3] at h5
    exact List.mem_filter.mpr ⟨hc.1, h5⟩
  omega
theorem al_bit {sg : Nat → Bool} {b : Nat → Bool} {c x : Nat} (hc : c ≤ 12) (hx : x < c) : alS sg (nI (bnN b c)) x = !(sg x == !b x) := by
  have h1 := bnN_lt b c
  have h2 : 2 ^ c ≤ 2 ^ 12 := two_mono hc
  unfold alS
  rw [gbit (by omega) (by omega), bnN_bit b c x hx]
  cases b x <;> rfl
theorem lps_23 {A : rn_L} {sg : Nat → Bool} {c : Nat} {S : ow_NP} {G : Nat → Int32} (h : jnN A sg c S G) (b : Nat → Bool) : cirs A + rtsN (uPx S G b c) (2 * c) ≤ 23 := by
  obtain ⟨h1, h2, h3, h4⟩ := h
  have hc := h1.2.2.2.1
  have h6 := h1.2.2.2.2
  have e := loops_eq (st := nI (bnN (fun x => !(sg x == !alB G b x)) c)) (b := b) h2 h3 (fun v hv _ => by
    rw [al_bit hc (h2.2.2.2.1 v hv)]
    cases sg (crs A v) <;> cases alB G b (crs A v) <;> rfl)
  have l := loops_le (sg := sg) (st := nI (bnN (fun x => !(sg x == !alB G b x)) c)) h1.1 (by omega)
  have := neC_cirs A
  rw [e]
  omega
/-- the partners at first -/
def p0E (S : ow_NP) (e : Nat) : Nat := if e % 2 = 0 then 2 * S.1 (e / 2) + 1 else 2 * S.2 (e / 2)
theorem p0E_ti {S : ow_NP} {G : Nat → Int32} {b : Nat → Bool} {c : Nat} (hv : vn c S) : tiI S (p0E S) (opA c 0) (uPx S G b 0) := by
  refine ⟨uPx_dn 0, fun a ha => ?_⟩
  have ha := ha.2
  obtain ⟨a1, a2, a3, a4⟩ := hv (a / 2) (by omega)
  have r0 : ∀ g, rt (uPx S G b 0) g = g := fun g => rt_root rfl
  by_cases e : a % 2 = 0
  · have q : p0E S a = 2 * S.1 (a / 2) + 1 := if_pos e
    rw [q]
    refine ⟨⟨by omega, by omega⟩, by omega, ?_, fun b' hb => ?_⟩
    · unfold p0E
      rw [if_neg (by omega), show (2 * S.1 (a / 2) + 1) / 2 = S.1 (a / 2) by omega, a3]
      omega
    · have hb := hb.2
      obtain ⟨b1, b2, b3, b4⟩ := hv (b' / 2) (by omega)
      rw [r0, r0]
      unfold egp
      rw [if_pos e]
      by_cases e' : b' % 2 = 0
      · rw [if_pos e']
        omega
      · rw [if_neg e']
        constructor
        · intro h9
          rw [h9, b4]
          omega
        · rintro (h9 | h9)
          · omega
          · rw [h9, show (2 * S.1 (a / 2) + 1) / 2 = S.1 (a / 2) by omega, a3]
  · have q : p0E S a = 2 * S.2 (a / 2) := if_neg e
    rw [q]
    refine ⟨⟨by omega, by omega⟩, by omega, ?_, fun b' hb => ?_⟩
    · unfold p0E
      rw [if_pos (by omega), show (2 * S.2 (a / 2)) / 2 = S.2 (a / 2) by omega, a4]
      omega
    · have hb := hb.2
      obtain ⟨b1, b2, b3, b4⟩ := hv (b' / 2) (by omega)
      rw [r0, r0]
      unfold egp
      rw [if_neg e]
      by_cases e' : b' % 2 = 0
      · rw [if_pos e']
        omega
      · rw [if_neg e']
        constructor
        · intro h9
          have := vn_inj2 hv (show a / 2 < 2 * c by omega) (show b' / 2 < 2 * c by omega) h9
          omega
        · rintro (h9 | h9)
          · rw [h9]
          · omega
theorem rtsN_id {S : ow_NP} {G : Nat → Int32} {b : Nat → Bool} : ∀ V, rtsN (uPx S G b 0) V = V
  | 0 => rfl
  | V + 1 => by
    rw [rtsN_s, rtsN_id V, if_pos (show uPx S G b 0 V = V from rfl)]
def jnP (g : Nat) : Prop := 24006 ≤ g ∧ g ≤ 24007 ∨ g = 24009 ∨ 25001 ≤ g ∧ g ≤ 25003 ∨ 40001 ≤ g ∧ g ≤ 40011
/-- what stands of the latest states -/
def jnT (y : ow_MS) (A : rn_L) (sg : Nat → Bool) (c : Nat) : Prop := ∃ S G, jnN A sg c S G ∧ y.1 40008 = nI c ∧ y.1 24009 = np_sum G c ∧ ∀ k, k < 312 → y.2.1 24006 k = nI ((tbL S G (cirs A) c 0 (fun _ => false)).count k)
def jnC (y : ow_MS) : Prop := ∃ C, slC y 25000 1 C ∧ cOK C ∧ (C.2 = [] ∨ ∃ A sg c, C = clC sg A ∧ jnT y A sg c)
/-- a code says of which components it is written -/
theorem spl0 : ∀ (l l' x x' : List Nat), (∀ a, a ∈ l → a ≠ 0) → (∀ a, a ∈ l' → a ≠ 0) → l ++ 0 :: x = l' ++ 0 :: x' → l = l' ∧ x = x'
  | [], [], x, x', _, _, e => ⟨rfl, (List.cons.inj e).2⟩
  | [], a :: l', x, x', _, h', e => absurd (List.cons.inj e).1.symm (h' a List.mem_cons_self)
  | a :: l, [], x, x', h, _, e => absurd (List.cons.inj e).1 (h a List.mem_cons_self)
  | a :: l, a' :: l', x, x', h, h', e => by
    obtain ⟨e1, e2⟩ := List.cons.inj e
    obtain ⟨h1, h2⟩ := spl0 l l' x x' (fun b hb => h b (List.mem_cons_of_mem _ hb)) (fun b hb => h' b (List.mem_cons_of_mem _ hb)) e2
    exact ⟨by rw [e1, h1], h2⟩
theorem clc_inj {sg sg' : Nat → Bool} {b : Nat} : ∀ (L L' : List (Nat × Nat)), (∀ p, p ∈ L → b ≤ p.1 ∧ p.2 < 2) → (∀ p, p ∈ L' → b ≤ p.1 ∧ p.2 < 2) → L.map (clc sg b) = L'.map (clc sg' b) → L = L' ∧ ∀ p, p ∈ L → sg p.1 = sg' p.1
  | [], [], _, _, _ => ⟨rfl, fun p hp => by cases hp⟩
  | [], q :: L', _, _, e => by cases e
  | p :: L, [], _, _, e => by cases e
  | p :: L, q :: L', h, h', e => by
    obtain ⟨e1, e2⟩ := List.cons.inj e
    obtain ⟨i1, i2⟩ := clc_inj L L' (fun r hr => h r (List.mem_cons_of_mem _ hr)) (fun r hr => h' r (List.mem_cons_of_mem _ hr)) e2
    have hp := h p List.mem_cons_self
    have hq := h' q List.mem_cons_self
    unfold clc at e1
    have k : p.1 = q.1 ∧ p.2 = q.2 ∧ (sg p.1 = sg' q.1) := by
      cases h1 : sg p.1 <;> cases h2 : sg' q.1 <;> simp only [h1, h2] at e1 <;> simp at e1 ⊢ <;> omega
    have pq : p = q := Prod.ext k.1 k.2.1
    refine ⟨by rw [pq, i1], fun r hr => ?_⟩
    rcases List.mem_cons.mp hr with rfl | hr
    · rw [k.2.2, k.1]
    · exact i2 r hr
theorem ucd_inj {sg sg' : Nat → Bool} : ∀ (R R' : rn_L) (b : Nat) (D : rn_L), bsO b D R → bsO b D R' → (∀ p, p ∈ R.flatten → p.2 < 2) → (∀ p, p ∈ R'.flatten → p.2 < 2) → ucd sg b D R = ucd sg' b D R' → R = R' ∧ ∀ p, p ∈ R.flatten → sg p.1 = sg' p.1
  | [], [], _, _, _, _, _, _, _ => ⟨rfl, fun p hp => by cases hp⟩
  | [], L' :: R', b, D, _, _, _, _, e => by
    have := congrArg List.length e
    unfold ucd at this
    rw [List.length_append, List.length_cons, List.length_nil] at this
    omega
  | L :: R, [], b, D, _, _, _, _, e => by
    have := congrArg List.length e
    unfold ucd at this
    rw [List.length_append, List.length_cons, List.length_nil] at this
    omega
  | L :: R, L' :: R', b, D, h, h', hu, hu', e => by
    have e : L.map (clc sg b) ++ 0 :: ucd sg (nxb b (D ++ [L])) (D ++ [L]) R = L'.map (clc sg' b) ++ 0 :: ucd sg' (nxb b (D ++ [L'])) (D ++ [L']) R' := e
    have nz : ∀ (s : Nat → Bool) (M : List (Nat × Nat)) a, a ∈ M.map (clc s b) → a ≠ 0 := by
      intro s M a ha
      obtain ⟨p, -, rfl⟩ := List.mem_map.mp ha
      unfold clc
      omega
    obtain ⟨e1, e2⟩ := spl0 _ _ _ _ (nz sg L) (nz sg' L') e
    have m1 : ∀ p, p ∈ L → p ∈ (L :: R).flatten := fun p hp => by rw [List.flatten_cons]; exact List.mem_append_left _ hp
    have m2 : ∀ p, p ∈ L' → p ∈ (L' :: R').flatten := fun p hp => by rw [List.flatten_cons]; exact List.mem_append_left _ hp
    obtain ⟨i1, i2⟩ := clc_inj L L' (fun p hp => ⟨h.1 p hp, hu p (m1 p hp)⟩) (fun p hp => ⟨h'.1 p hp, hu' p (m2 p hp)⟩) e1
    subst i1
    obtain ⟨j1, j2⟩ := ucd_inj R R' _ _ h.2 h'.2 (fun p hp => hu p (by rw [List.flatten_cons]; exact List.mem_append_right _ hp)) (fun p hp => hu' p (by rw [List.flatten_cons]; exact List.mem_append_right _ hp)) e2
    refine ⟨by rw [j1], fun p hp => ?_⟩
    rw [List.flatten_cons] at hp
    rcases List.mem_append.mp hp with hp | hp
    · exact i2 p hp
    · exact j2 p hp
theorem clC_inj {sg sg' : Nat → Bool} {A A' : rn_L} {c c' : Nat} (h : okL A c) (h' : okL A' c') (e : clC sg A = clC sg' A') : A = A' ∧ c = c' ∧ ∀ x, x < c → sg x = sg' x := by
  obtain ⟨i1, i2⟩ := ucd_inj A A' 0 [] h.2.2.1 h'.2.2.1 (fun p hp => ((h.1.2 p).mp hp).2) (fun p hp => ((h'.1.2 p).mp hp).2) (congrArg Prod.snd e)
  subst i1
  have l1 := okF_len h.1
  have l2 := okF_len h'.1
  refine ⟨rfl, by omega, fun x hx => ?_⟩
  exact i2 (x, 0) ((h.1.2 (x, 0)).mpr ⟨hx, Nat.zero_lt_two⟩)
theorem jnT_sg {y : ow_MS} {sg sg' : Nat → Bool} {A : rn_L} {c : Nat} (h : jnT y A sg' c) (hs : ∀ x, x < c → sg x = sg' x) : jnT y A sg c := by
  obtain ⟨S, G, ⟨h1, h2, h3, h4⟩, h5⟩ := h
  refine ⟨S, G, ⟨h1, ⟨h2.1, h2.2.1, h2.2.2.1, h2.2.2.2.1, h2.2.2.2.2.1, h2.2.2.2.2.2.1, fun v hv => ?_, h2.2.2.2.2.2.2.2⟩, h3, fun x hx => ?_⟩, h5⟩
  · rw [hs _ (h2.2.2.2.1 v hv)]
    exact h2.2.2.2.2.2.2.1 v hv
  · rw [hs x hx]
    exact h4 x hx
section CCS
variable {vl : Nat → Nat} {y : ow_MS}
/-- as it is: the code in the slot is asked for, or comes there -/
theorem tc_isKnown2 {g' p' s s' : Nat} {B C : cdT} (hs : s < 2) (hg' : tH g' p') (hd : g' + 6 ≤ 25000) (hs' : s' < p') (hb : slC y g' s' B) (ob : cOK B) (hby : byR y (g' + 1)) (c1 : slC y 25000 s C) (c2 : cOK C) : Te (fun K => ce_X8_isKnown vl K 24000 (nI s) g' (nI s') y) (fun r => (r.1 = 1 ∧ r.2 = y ∧ C = B ∧ 0 < C.2.length ∨ r.1 = 0 ∧ slC r.2 25000 s B) ∧ (∀ t D, t ≠ s → cOK D → slC y 25000 t D → slC r.2 25000 t D) ∧ (byR y 25001 → byR r.2 25001) ∧ fr (cW 25000) y r.2) := by
  let Q : Int32 × ow_MS → Prop := fun r => (r.1 = 1 ∧ r.2 = y ∧ C = B ∧ 0 < C.2.length ∨ r.1 = 0 ∧ slC r.2 25000 s B) ∧ (∀ t D, t ≠ s → cOK D → slC y 25000 t D → slC r.2 25000 t D) ∧ (byR y 25001 → byR r.2 25001) ∧ fr (cW 25000) y r.2
  have go1 : Tt (fun K t => c_X8_isKnown vl K t 1 (nI s) (nI s') 24000 g' y) Q := by
    refine u_X8_isKnown_1 ?_; unfold cm_X8_isKnown_1
    refine w_cs0 (tc_write tH25 hg' (Or.inr hd) hs hs' hb ob hby) ?_
    rintro y1 ⟨w1, w2, w3, w4⟩
    exact w_okZ (Or.inl rfl) (w_some ⟨Or.inr ⟨rfl, w1⟩, w2, w3, w4⟩)
  have hl := c2.2.1
  refine e_X8_isKnown ?_
  refine u_X8_isKnown_0 ?_; unfold cm_X8_isKnown_0
  refine w_crI (tH_2 tH25) rfl hs c1.2.1 (w_if (fun _ => go1) (fun h0 => w_cs1 (tc_compare tH25 hg' hs hs' c1 hb c2 ob) ?_))
  rintro v z ⟨e1, e2⟩
  dsimp only at e1 e2
  rw [e1, e2]
  refine w_if (fun h9 => w_okZ (Or.inr rfl) (w_some ⟨Or.inl ⟨rfl, rfl, ?_, ?_⟩, fun t D _ _ h => h, fun h => h, fr_rf⟩)) (fun _ => go1)
  · have b := cmpC_b c2 ob
    refine cmpC_0 ?_
    have h8 : (iI (cmpC C B)).toInt = (iI 0).toInt := congrArg Int32.toInt h9
    rw [iI_toInt (by omega) (by omega), iI_toInt (by omega) (by omega)] at h8
    exact h8
  · exact Nat.pos_of_ne_zero (fun h9 => h0 (by rw [h9]; decide))
theorem e_X8_countStates {vl : Nat → Nat} {r0 : Nat} {r1 : Nat} {x2 : Int32} {z : ow_MS} {Q : ow_MS → Prop} (H : Tt (fun K k => c_X8_countStates vl K k 0 x2 0 r0 r1 z) Q) : Te (fun K => ce_X8_countStates vl K r0 r1 x2 z) Q := w_te H
theorem u_X8_countStates_0 {vl : Nat → Nat} {x2 : Int32} {x3 : Int32} {r0 : Nat} {r1 : Nat} {z : ow_MS} {Q : ow_MS → Prop} (H : Tt (fun K k => cm_X8_countStates_0 vl K (c_X8_countStates vl K k) x2 x3 r0 r1 z) Q) : Tt (fun K k => c_X8_countStates vl K k 0 x2 x3 r0 r1 z) Q := w_un (fun _ _ => rfl) H
theorem u_X8_countStates_1 {vl : Nat → Nat} {x2 : Int32} {x3 : Int32} {r0 : Nat} {r1 : Nat} {z : ow_MS} {Q : ow_MS → Prop} (H : Tt (fun K k => cm_X8_countStates_1 vl K (c_X8_countStates vl K k) x2 x3 r0 r1 z) Q) : Tt (fun K k => c_X8_countStates vl K k 1 x2 x3 r0 r1 z) Q := w_un (fun _ _ => rfl) H
theorem tc_countStates {g' p' s' c : Nat} {A : rn_L} {sg : Nat → Bool} {T : ow_NT} (hg' : tH g' p') (hd : g' + 6 ≤ 24000) (hs' : s' < p') (hb : slC y g' s' (clC sg A)) (hA : okL A c) (hby : byR y (g' + 1)) (hk : jnC y) (hT : cAt y 40000 T) (hT2 : ow_b24 T.2.2.1) : Te (fun K => ce_X8_countStates vl K 24000 g' (nI s') y) (fun y1 => slC y1 25000 1 (clC sg A) ∧ jnT y1 A sg c ∧ (∃ T, cAt y1 40000 T ∧ ow_b24 T.2.2.1) ∧ (∀ D, cOK D → slC y 25000 0 D → slC y1 25000 0 D) ∧ (byR y 25001 → byR y1 25001) ∧ fr jnP y y1) := by
  let Q : ow_MS → Prop := fun y1 => slC y1 25000 1 (clC sg A) ∧ jnT y1 A sg c ∧ (∃ T, cAt y1 40000 T ∧ ow_b24 T.2.2.1) ∧ (∀ D, cOK D → slC y 25000 0 D → slC y1 25000 0 D) ∧ (byR y 25001 → byR y1 25001) ∧ fr jnP y y1
  obtain ⟨C, k1, k2, k3⟩ := hk
  have hc12 := hA.2.2.2.1
  refine e_X8_countStates ?_
  refine u_X8_countStates_0 ?_; unfold cm_X8_countStates_0
  refine w_cs1 (tc_isKnown2 (s := 1) (by omega) hg' (by omega) hs' hb (okL_c hA).2 hby k1 k2) ?_
  rintro v y1 ⟨h1, h2, h3, f1⟩
  dsimp only at h1 h2 h3 f1
  rcases h1 with ⟨rfl, rfl, rfl, hpos⟩ | ⟨rfl, h1⟩
  · refine w_ifF (by decide) (w_some ⟨k1, ?_, ⟨T, hT, hT2⟩, fun D _ h => h, fun h => h, fr_rf⟩)
    rcases k3 with k3 | ⟨A', sg', c', k4, k5⟩
    · rw [k3] at hpos
      exact absurd hpos (Nat.lt_irrefl _)
    · obtain ⟨S', G', k6, -⟩ := id k5
      obtain ⟨i1, i2, i3⟩ := clC_inj hA k6.1 k4
      subst i1
      subst i2
      exact jnT_sg k5 i3
  · have f1j : fr jnP y y1 := fr_mono (fun g hg => by unfold cW at hg; unfold jnP; omega) f1
    refine w_ifT rfl ?_
    have hT1 : cAt y1 40000 T := cAt_fr f1 (fun g hg h9 => by unfold cP at hg; unfold cW at h9; omega) hT
    have s1 : slC y1 g' s' (clC sg A) := slC_fr f1 (fun q hq h9 => by unfold cW at hq h9; omega) hb
    refine w_cs0 (tc_load3 nH40 hg' (Or.inr (by omega)) hs' hA s1 hT1 hT2) ?_
    rintro y2 ⟨⟨T2, q1, q2, q3, q4⟩, f2⟩
    obtain ⟨c2, ci2, S, G⟩ := T2
    dsimp only at q2 q3 q4
    subst q2
    subst q3
    have hJ : jnN A sg c2 S G := ⟨hA, q1.2.1, q1.2.2.1.1, q4⟩
    have f2j : fr jnP y1 y2 := fr_mono (fun g hg => by unfold cL at hg; unfold jnP; omega) f2
    refine w_cs1 (tc_writhe nH40 q1.1 hc12) ?_
    rintro w y3 ⟨e3, e4⟩
    dsimp only at e3 e4
    rw [e4, e3]
    refine w_wrF (w_cs0 (tc_fillA ch_24006 (by omega)) ?_)
    rintro y5 ⟨z5, f5⟩
    have f25 : fr (fun g => g = 24009 ∨ g = 24006) y2 y5 := fr_tr (fr_F (Or.inl rfl)) (fr_mono (fun g hg => Or.inr hg) f5)
    have hy5 : cAt y5 40000 (c2, cirs A, S, G) := cAt_fr f25 (fun g hg h9 => by unfold cP at hg; omega) q1.1
    have hv : vn c2 S := hJ.2.2.1
    have w5 : y5.1 24009 = np_sum G c2 := (f5 24009 (by decide)).1.trans po_usF_at
    -- the partners are laid
    have c1 : ∀ (d v : Nat) (z : ow_MS), v + d = 2 * c2 → fr (fun g => g = 24007) y5 z → (∀ e, e < 2 * v → z.2.1 24007 e = nI (p0E S e)) → Tt (fun K t => c_X8_countStates vl K t 1 (nI s') (nI v) 24000 g' z) Q := by
      intro d
      induction d with
      | zero =>
        intro v z hv1 hf hp
        have hz : cAt z 40000 (c2, cirs A, S, G) := cAt_fr hf (fun g hg h9 => by unfold cP at hg; omega) hy5
        refine u_X8_countStates_1 ?_; unfold cm_X8_countStates_1
        refine w_rdF hz.1 ?_
        rw [rn_mul2]
        refine w_leT (by omega) (by omega) (w_rdF hz.2.1 (w_cs0 (tc_takeB (ci := cirs A) (G := G) hc12 hv (lps_23 hJ) c2 0 (cirs A) 13 (fun _ => false) (p0E S) z (by omega) (by omega) ?_ (p0E_ti hv) hz (fun e he => hp e (by omega))) ?_))
        · rw [rtsN_id]
          omega
        · rintro z1 ⟨g1, g2, g3⟩
          have hf2 : fr (fun g => g = 24006 ∨ g = 24007 ∨ g = 24009) y2 z1 := fr_tr (fr_tr (fr_mono (fun g hg => by omega) f25) (fr_mono (fun g hg => by omega) hf)) (fr_mono (fun g hg => by omega) g3)
          have f12 : fr jnP y1 z1 := fr_tr f2j (fr_mono (fun g hg => by unfold jnP; omega) hf2)
          have hz1 : cAt z1 40000 (c2, cirs A, S, G) := cAt_fr hf2 (fun g hg h9 => by unfold cP at hg; omega) q1.1
          have sl : ∀ t D, slC y1 25000 t D → slC z1 25000 t D := fun t D h => slC_fr hf2 (fun q hq h9 => by unfold cW at hq; omega) (slC_fr f2 (fun q hq h9 => by unfold cW at hq; unfold cL at h9; omega) h)
          refine w_some ⟨sl _ _ h1, ⟨S, G, hJ, hz1.1, ?_, fun k hk => ?_⟩, ⟨_, hz1, q1.2.2.1.2.2.1⟩, fun D oD hD => sl _ _ (h2 0 D (by omega) oD hD), fun h => byR_fr hf2 (by omega) (byR_fr f2 (by unfold cL; omega) (h3 h)), fr_tr f1j f12⟩
          · rw [(g3 24009 (by omega)).1, (hf 24009 (by decide)).1]
            exact w5
          · rw [g1, bmp_cnt, (hf 24006 (by decide)).2.1, z5 k hk, Int32.zero_add]
      | succ d ih =>
        intro v z hv1 hf hp
        have hz : cAt z 40000 (c2, cirs A, S, G) := cAt_fr hf (fun g hg h9 => by unfold cP at hg; omega) hy5
        obtain ⟨v1, v2, -, -⟩ := hv v (by omega)
        have n1 : (2 : Int32) * nI (S.1 v) + 1 = nI (2 * S.1 v + 1) := by rw [rn_mul2, nI_1]
        refine u_X8_countStates_1 ?_; unfold cm_X8_countStates_1
        refine w_rdF hz.1 ?_
        rw [rn_mul2]
        refine w_leF (by omega) (by omega) (w_crI (nH_1 nH40) rfl (show v < 24 by omega) (hz.2.2.1 v) ?_)
        rw [n1, rn_mul2, nI_1]
        refine w_ctI ch_24007 rfl (by omega) (w_crI (nH_2 nH40) rfl (show v < 24 by omega) (rd_ot (by omega) (hz.2.2.2.1 v)) ?_)
        rw [rn_mul2]
        refine w_ctI ch_24007 rfl (by omega) ?_
        rw [nI_1]
        refine ih (v + 1) _ (by omega) (fr_I2 (fr_I2 hf rfl) rfl) (fun e he => ?_)
        by_cases e1 : e = 2 * v + 1
        · rw [e1, po_usI_at]
          unfold p0E
          rw [if_neg (by omega), show (2 * v + 1) / 2 = v by omega]
        · refine rd_ne e1 ?_
          by_cases e2 : e = 2 * v
          · rw [e2, po_usI_at]
            unfold p0E
            rw [if_pos (by omega), show 2 * v / 2 = v by omega]
          · exact rd_ne e2 (hp e (by omega))
    exact c1 (2 * c2) 0 y5 (by omega) fr_rf (fun e he => absurd he (by omega))
end CCS
