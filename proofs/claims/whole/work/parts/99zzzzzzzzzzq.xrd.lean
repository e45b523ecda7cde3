/-! a text read: what it says -/
abbrev rtN := List (Int32 × Int32 × Nat)
abbrev rtO := Nat ⊕ (rtN × rn_L)
def pSg (bt : Nat → Int32) (t i j : Nat) (x : Int32) : Nat ⊕ (Nat × Int32 × Int32 × Nat) := if j = t then .inl t else if bt j = 43 ∨ bt j = 45 then .inr (if bt i = 117 then 1 else 0, x, if bt j = 43 then 1 else -1, j + 1) else .inl j
/-- a visit that begins at i -/
def pV (bt : Nat → Int32) (t i : Nat) : Nat ⊕ (Nat × Int32 × Int32 × Nat) :=
  if bt i = 111 ∨ bt i = 117 then
    if i + 1 = t then .inl t
    else if bt (i + 1) < 49 then .inl (i + 1)
    else if bt (i + 1) ≤ 57 then
      if i + 2 < t ∧ ¬ bt (i + 2) < 48 ∧ ¬ 57 < bt (i + 2) then pSg bt t i (i + 3) (10 * (bt (i + 1) - 48) + bt (i + 2) - 48) else pSg bt t i (i + 2) (bt (i + 1) - 48)
    else .inl (i + 1)
  else .inl i
def nix (nm : rtN) (x : Int32) : Option Nat := nm.findIdx? (fun e => decide (e.1 = x))
def rdC (go : Nat → rtN → rn_L → List vT → rtO) (nm : rtN) (A : rn_L) (B : List vT) (i u : Nat) (x s : Int32) (j : Nat) : rtO := match nix nm x with
  | none => if nm.length = 12 then .inl i else go j (nm ++ [(x, s, i)]) A (B ++ [(nm.length, u)])
  | some k => if (k, u) ∈ A.flatten ++ B ∨ (nm.getD k (0, 0, 0)).2.1 ≠ s then .inl i else go j nm A (B ++ [(k, u)])
def rdF9 (bt : Nat → Int32) (t : Nat) : Nat → Nat → rtN → rn_L → List vT → rtO
  | 0, i, _, _, _ => .inl i
  | n + 1, i, nm, A, B => if t ≤ i then .inr (nm, A ++ [B]) else if bt i = 59 then (if A.length + 1 = 6 then .inl i else rdF9 bt t n (i + 1) nm (A ++ [B]) []) else match pV bt t i with
    | .inl j => .inl j
    | .inr (u, x, s, j) => rdC (rdF9 bt t n) nm A B i u x s j
/-- what holds of what was read -/
def rtP (t : Nat) (nm : rtN) (F : List vT) : Prop := nm.length ≤ 12 ∧ F.Nodup ∧ (∀ p : vT, p ∈ F → p.1 < nm.length ∧ p.2 < 2) ∧ ∀ e, e ∈ nm → s1 e.2.1 ∧ e.2.2 < t
theorem pSg_out {bt : Nat → Int32} {t i j : Nat} {x : Int32} (hj : j ≤ t) : (∃ k, k ≤ t ∧ pSg bt t i j x = .inl k) ∨ ∃ u s, pSg bt t i j x = .inr (u, x, s, j + 1) ∧ j < t ∧ u < 2 ∧ s1 s := by
  unfold pSg
  by_cases h1 : j = t
  · rw [if_pos h1]
    exact Or.inl ⟨t, Nat.le_refl _, rfl⟩
  · rw [if_neg h1]
    by_cases h2 : bt j = 43 ∨ bt j = 45
    · rw [if_pos h2]
      refine Or.inr ⟨_, _, rfl, by omega, ?_, ?_⟩
      · split <;> omega
      · split
        · exact Or.inl rfl
        · exact Or.inr rfl
    · rw [if_neg h2]
      exact Or.inl ⟨j, hj, rfl⟩
theorem nix_some {nm : rtN} {x : Int32} {k : Nat} : nix nm x = some k ↔ k < nm.length ∧ (nm.getD k (0, 0, 0)).1 = x ∧ ∀ j, j < k → (nm.getD j (0, 0, 0)).1 ≠ x := by
  unfold nix
  rw [List.findIdx?_eq_some_iff_getElem]
  constructor
  · rintro ⟨h, h1, h2⟩
    refine ⟨h, ?_, fun j hj => ?_⟩
    · rw [List.getD_eq_getElem?_getD, List.getElem?_eq_getElem h]
      exact of_decide_eq_true h1
    · rw [List.getD_eq_getElem?_getD, List.getElem?_eq_getElem (show j < nm.length by omega)]
      have := h2 j hj
      intro e
      exact this (decide_eq_true e)
  · rintro ⟨h, h1, h2⟩
    rw [List.getD_eq_getElem?_getD, List.getElem?_eq_getElem h] at h1
    refine ⟨h, decide_eq_true h1, fun j hj => ?_⟩
    have := h2 j hj
    rw [List.getD_eq_getElem?_getD, List.getElem?_eq_getElem (show j < nm.length by omega)] at this
    exact fun h9 => this (of_decide_eq_true h9)
theorem nix_none {nm : rtN} {x : Int32} : nix nm x = none ↔ ∀ j, j < nm.length → (nm.getD j (0, 0, 0)).1 ≠ x := by
  unfold nix
  rw [List.findIdx?_eq_none_iff]
  constructor
  · intro h j hj e
    rw [List.getD_eq_getElem?_getD, List.getElem?_eq_getElem hj] at e
    have := h _ (List.getElem_mem hj)
    have e : nm[j].1 = x := e
    rw [decide_eq_true e] at this
    cases this
  · intro h e he
    obtain ⟨j, hj, rfl⟩ := List.getElem_of_mem he
    have := h j hj
    rw [List.getD_eq_getElem?_getD, List.getElem?_eq_getElem hj] at this
    exact decide_eq_false this
/-- the answers of a reader: R what was read, c whether the net is plane -/
def lonK (nm : rtN) (F : List vT) (k : Nat) : Prop := k < nm.length ∧ ¬ ((k, 0) ∈ F ∧ (k, 1) ∈ F)
def lonA (nm : rtN) (F : List vT) (a : Nat) : Prop := (∃ k, lonK nm F k ∧ (nm.getD k (0, 0, 0)).2.2 = a) ∧ ∀ k, lonK nm F k → a ≤ (nm.getD k (0, 0, 0)).2.2
def sgN (nm : rtN) (x : Nat) : Bool := decide ((nm.getD x (0, 0, 0)).2.1 = -1)
theorem getD_of {nm : rtN} {k : Nat} {e : Int32 × Int32 × Nat} (h : nm[k]? = some e) : nm.getD k (0, 0, 0) = e := by
  rw [List.getD_eq_getElem?_getD, h]
  rfl
theorem rtP_okF {t : Nat} {nm : rtN} {F : List vT} (h : rtP t nm F) (hall : ∀ k, ¬ lonK nm F k) : okF F nm.length := by
  refine ⟨h.2.1, fun p => ⟨fun hp => h.2.2.1 p hp, fun ⟨h1, h2⟩ => ?_⟩⟩
  have h3 : (p.1, 0) ∈ F ∧ (p.1, 1) ∈ F := Classical.byContradiction (fun h9 => hall p.1 ⟨h1, h9⟩)
  have : p.2 = 0 ∨ p.2 = 1 := by omega
  rcases this with e | e
  · have := h3.1
    rw [← e] at this
    exact this
  · have := h3.2
    rw [← e] at this
    exact this
theorem te_all {O α : Type} {f : Nat → Option O} {Q : O → Prop} {H : α → Prop} {R : α → O → Prop} (h1 : Te f Q) (h2 : ∀ a, H a → Te f (R a)) : Te f (fun r => Q r ∧ ∀ a, H a → R a r) := by
  obtain ⟨r, ⟨b, hb⟩, hq⟩ := h1
  refine ⟨r, ⟨b, hb⟩, hq, fun a ha => ?_⟩
  obtain ⟨r', ⟨b', hb'⟩, hr⟩ := h2 a ha
  have e1 := hb (b + b') (by omega)
  have e2 := hb' (b + b') (by omega)
  rw [e1] at e2
  cases e2
  exact hr
/-! the reference reads so -/
theorem xm_byteAt {z : ow_MS} {i t : Nat} (hi : i < 1000) (ht : t ≤ 400) (h11 : z.1 11 = nI t) : Te (fun K => qe_X13_byteAt K (nI i) z) (fun r => r = (if t ≤ i then -1 else z.2.1 10 i, z)) := by
  refine e_X13_byteAt ?_; unfold qm_X13_byteAt_0
  exact w_rdF h11 (w_le (by omega) (by omega) (fun h9 => w_some (by rw [if_pos h9])) (fun h9 => w_rdI ml10 rfl (by omega) rfl (w_some (by rw [if_neg (by omega)]))))
def rD2 (z : ow_MS) (nm : rtN) (A : rn_L) (B : List vT) : Prop := rn_At z 3000 A B ∧ ∀ k e, nm[k]? = some e → z.2.1 16 k = e.1 ∧ z.2.1 17 k = e.2.1 ∧ z.2.1 18 k = nI e.2.2 ∧ z.2.1 19 k = nI (hb (A.flatten ++ B) k) ∧ ∀ u, (k, u) ∈ A.flatten ++ B → z.2.1 3006 k = e.2.1
/-- how the reference answers -/
def rdQ (t : Nat) (R : rtO) (r : Int32 × ow_MS) : Prop := match R with
  | .inl j => r.1 = nI j ∧ j ≤ t
  | .inr (nm, A) => rtP t nm A.flatten ∧ A.length ≤ 6 ∧ A ≠ [] ∧ ((∃ a, a < t ∧ lonA nm A.flatten a ∧ r.1 = nI a) ∨ (∀ k, ¬ lonK nm A.flatten k) ∧ rn_At r.2 3000 A [] ∧ rn_sg r.2 3000 A.flatten (sgN nm) ∧ ∀ a : (Nat → Nat) × ow_NT, (isoN A (sgN nm) a.1 a.2 ∧ vn a.2.1 a.2.2.2.1 ∧ pm1 a.2) → r.1 = if nt_plane a.2 = true then -1 else nI t)
theorem xr_read {z : ow_MS} {bt : Nat → Int32} {t : Nat} {R : rtO} (ht : t ≤ 400) (h11 : z.1 11 = nI t) (hbt : ∀ k, k < t → z.2.1 10 k = bt k) (hR : rdF9 bt t (t + 1) 0 [] [] [] = R) : Te (fun K => qe_X13_read K z) (fun r => fr frV z r.2 ∧ rdQ t R r) := by
  let Q : Int32 × ow_MS → Prop := fun r => fr frV z r.2 ∧ rdQ t R r
  have t11 : ∀ {y : ow_MS}, fr frV z y → y.1 11 = nI t := fun hf => by rw [(hf 11 (by unfold frV; omega)).1]; exact h11
  have tbt : ∀ {y : ow_MS}, fr frV z y → ∀ k, k < t → y.2.1 10 k = bt k := fun hf k hk => by rw [(hf 10 (by unfold frV; omega)).2.1]; exact hbt k hk
  have bAt : ∀ {y : ow_MS} {i : Nat}, fr frV z y → i < 1000 → Te (fun K => qe_X13_byteAt K (nI i) y) (fun r => r = (if t ≤ i then -1 else bt i, y)) := fun {y i} hf hi => w_monoE (xm_byteAt hi ht (t11 hf)) (fun r e => by
    rw [e]
    by_cases h9 : t ≤ i
    · rw [if_pos h9, if_pos h9]
    · rw [if_neg h9, if_neg h9, tbt hf i (by omega)])
  have ret : ∀ (a : Nat) (y : ow_MS), a ≤ t → fr frV z y → R = .inl a → Q (nI a, y) := fun a y ha hf e => ⟨hf, by
    rw [e]
    exact ⟨rfl, ha⟩⟩
  have l10 : ∀ (x2 : Int32) (A1 : rn_L) (nm : rtN), A1.length ≤ 6 → A1 ≠ [] → rtP t nm A1.flatten → R = .inr (nm, A1) → ∀ (k j l : Nat) (y : ow_MS), j + k = nm.length → fr frV z y → rD2 y nm A1 [] → (l = t + 1 ∧ (∀ i, i < j → hb A1.flatten i = 3) ∨ l < t ∧ (∃ i, i < j ∧ lonK nm A1.flatten i ∧ (nm.getD i (0, 0, 0)).2.2 = l) ∧ ∀ i, i < j → lonK nm A1.flatten i → l ≤ (nm.getD i (0, 0, 0)).2.2) → Tt (fun K i => q_X13_read K i 10 (nI nm.length) x2 (nI l) (nI j) 0 0 0 0 0 y) Q := by
    intro x2 A1 nm hA6 hAne hP hRe k
    have hN12 := hP.1
    have lon3 : ∀ i, i < nm.length → (hb A1.flatten i = 3 ↔ ¬ lonK nm A1.flatten i) := fun i hi => by
      constructor
      · intro h9 h8
        exact h8.2 (hb_3 h9)
      · intro h9
        have h3 : (i, 0) ∈ A1.flatten ∧ (i, 1) ∈ A1.flatten := Classical.byContradiction (fun h8 => h9 ⟨hi, h8⟩)
        unfold hb
        rw [if_pos h3.1, if_pos h3.2]
    induction k with
    | zero =>
      intro j l y hj hf hD hl
      obtain ⟨r1, r2⟩ := hD
      rw [List.append_nil] at r2
      refine u_X13_read_10 ?_; unfold qm_X13_read_10
      refine w_leT (by omega) (by omega) (w_rdF (t11 hf) (w_lt (by omega) (by omega) (fun h9 => ?_) (fun h9 => w_some ⟨hf, ?_⟩)))
      · have hall : ∀ i, ¬ lonK nm A1.flatten i := fun i hi => by
          rcases hl with ⟨-, hl⟩ | hl
          · exact (lon3 i hi.1).mp (hl i (by have := hi.1; omega)) hi
          · omega
        have ok := rtP_okF hP hall
        have wk : wkF A1.flatten := okF_wk (by omega) ok
        have hlen := okF_len ok
        have sgY : rn_sg y 3000 A1.flatten (sgN nm) := fun p hp => by
          have hk := (hP.2.2.1 p hp).1
          obtain ⟨q1, q2, q3, q4, q5⟩ := r2 p.1 _ (List.getElem?_eq_getElem hk)
          have e9 := q5 p.2 hp
          show y.2.1 3006 p.1 = _
          rw [e9]
          unfold sgN
          rw [getD_of (List.getElem?_eq_getElem hk)]
          rcases (hP.2.2.2 _ (List.getElem_mem hk)).1 with e | e <;> rw [e] <;> rfl
        refine w_cs0 (tn_link pn3 (by omega) (by omega) (wkF_ok wk).1 r1) (fun y1 ⟨g1, g2, g3⟩ => ?_)
        have sg1 : rn_sg y1 3000 A1.flatten (sgN nm) := fun p hp => by
          rw [(g1 3006 (fun h8 => by have := h8.1; omega)).2.1]
          exact sgY p hp
        have pln := te_all (α := (Nat → Nat) × ow_NT) (H := fun a => isoN A1 (sgN nm) a.1 a.2 ∧ vn a.2.1 a.2.2.2.1 ∧ pm1 a.2) (R := fun a r => r.1 = if nt_plane a.2 = true then 1 else 0) (tn_plane pn3 (by omega) (by omega) (wkF_ok wk) ⟨g2, g3⟩) (fun a ha => w_monoE (xr_plane pn3 (by omega) ha.1 ha.2.1 ha.2.2 ⟨g2, g3⟩ sg1) (fun r hr => hr.1))
        refine w_cs1 pln (fun a y2 ⟨⟨k1, k2, k3, _, _⟩, k4⟩ => ?_)
        have k2 : fr (fun g => 3000 + 12 ≤ g ∧ g ≤ 3000 + 16) y1 y2 := k2
        have k3 : rn_lk y2 3000 A1 := k3
        have k1 : a = 0 ∨ a = 1 := k1
        have k4 : ∀ (c : (Nat → Nat) × ow_NT), isoN A1 (sgN nm) c.1 c.2 ∧ vn c.2.1 c.2.2.2.1 ∧ pm1 c.2 → a = if nt_plane c.2 = true then 1 else 0 := k4
        have hf2 : fr frV z y2 := fr_tr hf (fr_tr (fr_mono (fun g hg => Or.inr (by have := hg.1; have := hg.2; omega)) g1) (fr_mono (fun g hg => Or.inr (by omega)) k2))
        have sg2 : rn_sg y2 3000 A1.flatten (sgN nm) := fun p hp => by
          rw [(k2 3006 (by omega)).2.1]
          exact sg1 p hp
        have fin : ∀ x : Int32, (∀ c : (Nat → Nat) × ow_NT, isoN A1 (sgN nm) c.1 c.2 ∧ vn c.2.1 c.2.2.2.1 ∧ pm1 c.2 → x = if nt_plane c.2 = true then -1 else nI t) → Q (x, y2) := fun x hx => ⟨hf2, by
          rw [hRe]
          exact ⟨hP, hA6, hAne, Or.inr ⟨hall, k3.1, sg2, hx⟩⟩⟩
        refine w_if (fun h0 => w_rdF (t11 hf2) (w_some (fin _ (fun c hc => ?_)))) (fun h0 => w_some (fin _ (fun c hc => ?_)))
        · have := k4 c hc
          rw [h0] at this
          cases e9 : nt_plane c.2 with
          | false => rfl
          | true =>
            rw [e9] at this
            exact absurd this (by decide)
        · have := k4 c hc
          cases e9 : nt_plane c.2 with
          | true => rfl
          | false =>
            rw [e9] at this
            exact absurd this h0
      · rcases hl with ⟨e, -⟩ | ⟨e, ⟨i, i1, i2, i3⟩, h8⟩
        · omega
        · show rdQ t R (nI l, y)
          rw [hRe]
          exact ⟨hP, hA6, hAne, Or.inl ⟨l, e, ⟨⟨i, i2, i3⟩, fun k hk => h8 k (by have := hk.1; omega) hk⟩, rfl⟩⟩
    | succ k ih =>
      intro j l y hj hf hD hl
      have hjN : j < nm.length := by omega
      obtain ⟨q1, q2, q3, q4, q5⟩ := hD.2 j _ (List.getElem?_eq_getElem hjN)
      rw [List.append_nil] at q4
      have hat : nm[j].2.2 < t := (hP.2.2.2 _ (List.getElem_mem hjN)).2
      have eat : (nm.getD j (0, 0, 0)).2.2 = nm[j].2.2 := by rw [getD_of (List.getElem?_eq_getElem hjN)]
      have hbl := hb_lt (F := A1.flatten) (k := j)
      refine u_X13_read_10 ?_; unfold qm_X13_read_10
      refine w_leF (by omega) (by omega) (w_rdI ml19 rfl (by omega) q4 (w_eqN (b := 3) (by omega) (by omega) (fun h9 => ?_) (fun h9 => w_rdI ml18 rfl (by omega) q3 ?_)))
      · refine u_X13_read_11 ?_; unfold qm_X13_read_11
        rw [nI_1]
        have hno := (lon3 j hjN).mp h9
        refine ih (j + 1) l y (by omega) hf hD (hl.imp (fun ⟨e1, e2⟩ => ⟨e1, fun i hi => ?_⟩) (fun ⟨e1, ⟨i, i1, i2⟩, e2⟩ => ⟨e1, ⟨i, by omega, i2⟩, fun i hi h8 => ?_⟩))
        · by_cases hij : i = j
          · rw [hij]; exact h9
          · exact e2 i (by omega)
        · by_cases hij : i = j
          · rw [hij] at h8
            exact absurd h8 hno
          · exact e2 i (by omega) h8
      · have hlo : lonK nm A1.flatten j := Classical.byContradiction (fun h8 => h9 ((lon3 j hjN).mpr h8))
        have up : ∀ i, i < j + 1 → lonK nm A1.flatten i → (i = j ∨ i < j) := fun i hi _ => by omega
        by_cases hal : nm[j].2.2 < l
        · rw [if_pos (nI_lt hal (by omega))]
          refine u_X13_read_11 ?_; unfold qm_X13_read_11
          rw [nI_1]
          refine ih (j + 1) nm[j].2.2 y (by omega) hf hD (Or.inr ⟨hat, ⟨j, by omega, hlo, eat⟩, fun i hi h8 => ?_⟩)
          by_cases hij : i = j
          · rw [hij, eat]
            exact Nat.le_refl _
          · rcases hl with ⟨-, hl⟩ | ⟨-, -, hl⟩
            · exact absurd h8 ((lon3 i h8.1).mp (hl i (by omega)))
            · have := hl i (by omega) h8
              omega
        · rw [if_neg (nI_nlt (by omega) (by omega))]
          refine u_X13_read_11 ?_; unfold qm_X13_read_11
          rw [nI_1]
          rcases hl with ⟨hl, -⟩ | ⟨hl0, ⟨i0, i1, i2⟩, hl⟩
          · omega
          · refine ih (j + 1) l y (by omega) hf hD (Or.inr ⟨hl0, ⟨i0, by omega, i2⟩, fun i hi h8 => ?_⟩)
            by_cases hij : i = j
            · rw [hij, eat]
              omega
            · exact hl i (by omega) h8
  have main : ∀ (u i n : Nat) (nm : rtN) (A1 : rn_L) (B1 : List vT) (y : ow_MS), i + u = t → t + 1 ≤ i + n → A1.length ≤ 5 → fr frV z y → rD2 y nm A1 B1 → rtP t nm (A1.flatten ++ B1) → rdF9 bt t n i nm A1 B1 = R → Tt (fun K k => q_X13_read K k 1 (nI nm.length) (nI i) 0 0 0 0 0 0 0 y) Q := by
    intro u
    induction u using Nat.strongRecOn with
    | ind u ih =>
      intro i n nm A1 B1 y hi hn hA5 hf hD hP hRe
      have hlen := rd_len hP.2.1 hP.2.2.1
      have hN12 := hP.1
      obtain ⟨n, rfl⟩ : ∃ n', n = n' + 1 := ⟨n - 1, by omega⟩
      have hRe : (if t ≤ i then Sum.inr (nm, A1 ++ [B1]) else if bt i = 59 then (if A1.length + 1 = 6 then Sum.inl i else rdF9 bt t n (i + 1) nm (A1 ++ [B1]) []) else match pV bt t i with
        | .inl j => Sum.inl j
        | .inr (u, x, s, j) => rdC (rdF9 bt t n) nm A1 B1 i u x s j) = R := hRe
      have eFl : (A1 ++ [B1]).flatten = A1.flatten ++ B1 := by rw [List.flatten_append]; simp
      have endR : ∀ {y2 : ow_MS}, rn_At y2 3000 (A1 ++ [B1]) [] → fr (fun g => g = 3000 + 2 ∨ g = 3000 + 3) y y2 → rD2 y2 nm (A1 ++ [B1]) [] := by
        intro y2 h1 h2
        unfold rD2
        rw [List.append_nil, eFl, (h2 16 (by omega)).2.1, (h2 19 (by omega)).2.1, (h2 17 (by omega)).2.1, (h2 18 (by omega)).2.1, (h2 3006 (by omega)).2.1]
        exact ⟨h1, hD.2⟩
      refine u_X13_read_1 ?_; unfold qm_X13_read_1
      refine w_rdF (t11 hf) (w_le (by omega) (by omega) (fun hti => w_cs0 (tn_end pn3 hD.1 (by omega)) (fun y2 ⟨g1, g2⟩ => ?_)) (fun hit => ?_))
      · have hf2 : fr frV z y2 := fr_tr hf (fr_mono (fun g hg => Or.inr (by omega)) g2)
        rw [if_pos hti] at hRe
        refine w_rdF (t11 hf2) ?_
        rw [nI_1]
        exact l10 _ (A1 ++ [B1]) nm (by rw [List.length_append]; show A1.length + 1 ≤ 6; omega) (by simp) (by rw [eFl]; exact hP) hRe.symm nm.length 0 (t + 1) y2 (by omega) hf2 (endR g1 g2) (Or.inl ⟨rfl, fun i hi => by omega⟩)
      · rw [if_neg (by omega)] at hRe
        refine w_rdI ml10 rfl (by omega) (tbt hf i hit) (w_if (fun h59 => w_cs0 (tn_end pn3 hD.1 (by omega)) (fun y2 ⟨g1, g2⟩ => ?_)) (fun h59 => ?_))
        · have hf2 : fr frV z y2 := fr_tr hf (fr_mono (fun g hg => Or.inr (by omega)) g2)
          rw [if_pos h59] at hRe
          have e2 := g1.2.1
          rw [List.length_append] at e2
          have e2 : y2.1 (3000 + 2) = nI (A1.length + 1) := e2
          refine w_rdF e2 (w_eqN (b := 6) (by omega) (by omega) (fun h6 => ?_) (fun h6 => ?_))
          · rw [if_pos h6] at hRe
            exact w_some (ret i y2 (by omega) hf2 hRe.symm)
          · rw [if_neg h6] at hRe
            rw [nI_1]
            exact ih (t - (i + 1)) (by omega) (i + 1) n nm (A1 ++ [B1]) [] y2 (by omega) (by omega) (by rw [List.length_append]; show A1.length + 1 ≤ 5; omega) hf2 (endR g1 g2) (by rw [List.append_nil, eFl]; exact hP) hRe
        · rw [if_neg h59] at hRe
          have l9 : ∀ (nm2 : rtN) (i2 k u9 : Nat) (x3 x5 x6 : Int32) (y2 : ow_MS), i < i2 → i2 ≤ t → u9 < 2 → k < nm2.length → fr frV z y2 → rD2 y2 nm2 A1 B1 → rtP t nm2 (A1.flatten ++ B1) → (if (k, u9) ∈ A1.flatten ++ B1 ∨ (nm2.getD k (0, 0, 0)).2.1 ≠ x6 then Sum.inl i else rdF9 bt t n i2 nm2 A1 (B1 ++ [(k, u9)])) = R → Tt (fun K k9 => q_X13_read K k9 9 (nI nm2.length) (nI i2) x3 (nI i) x5 x6 (nI u9) (nI k) 0 y2) Q := by
            intro nm2 i2 k u9 x3 x5 x6 y2 hi2 hit2 hu9 hkN hf2 hD2 hP2 hR9
            have hget := List.getElem?_eq_getElem hkN
            obtain ⟨q1, q2, q3, q4, q5⟩ := hD2.2 k _ hget
            have r42 := hP2.1
            have hlen2 := rd_len hP2.2.1 hP2.2.2.1
            rw [getD_of hget] at hR9
            refine u_X13_read_9 ?_; unfold qm_X13_read_9
            refine w_rdI ml19 rfl (by omega) q4 (w_if (fun hand => w_rdI ml17 rfl (by omega) q2 (w_if (fun hsg => w_rdI ml19 rfl (by omega) q4 (w_wrI ml19 rfl (by omega) (w_wrI (pl6 pn3) rfl (by omega) ?_))) (fun hsg => w_some (ret i y2 (by omega) hf2 ?_)))) (fun hand => w_some (ret i y2 (by omega) hf2 ?_)))
            · have hnot := (hb_and hu9).mp hand
              rw [if_neg (fun h9 => h9.elim hnot (fun h8 => h8 hsg))] at hR9
              rw [hb_or hu9 hnot]
              obtain ⟨y3, hy3⟩ : ∃ y3, y3 = usI (usI y2 19 k (nI (hb (A1.flatten ++ B1 ++ [(k, u9)]) k))) 3006 k x6 := ⟨_, rfl⟩
              have f3 : fr (fun g => g = 19 ∨ g = 3006) y2 y3 := by rw [hy3]; exact fr_I2 (fr_I (Or.inl rfl)) (Or.inr rfl)
              rw [← hy3]
              refine w_cs0 (tn_add pn3 (fr_At f3 (fun g hg => by omega) hD2.1) (by omega)) (fun y4 ⟨g1, g2⟩ => ?_)
              have hf4 : fr frV z y4 := fr_tr hf2 (fr_tr (fr_mono (fun g hg => by unfold frV; omega) f3) (fr_mono (fun g hg => Or.inr (by omega)) g2))
              have e : A1.flatten ++ (B1 ++ [(k, u9)]) = A1.flatten ++ B1 ++ [(k, u9)] := (List.append_assoc _ _ _).symm
              refine ih (t - i2) (by omega) i2 n nm2 A1 (B1 ++ [(k, u9)]) y4 (by omega) (by omega) hA5 hf4 ?_ ?_ hR9
              · unfold rD2
                rw [e, (g2 16 (by omega)).2.1, (g2 19 (by omega)).2.1, (g2 17 (by omega)).2.1, (g2 18 (by omega)).2.1, (g2 3006 (by omega)).2.1]
                refine ⟨g1, fun j ej hj => ?_⟩
                obtain ⟨j1, j2, j3, j4, j5⟩ := hD2.2 j ej hj
                rw [hy3]
                by_cases hjk : j = k
                · subst hjk
                  rw [hget] at hj
                  cases hj
                  refine ⟨rd_ot (by decide) (rd_ot (by decide) j1), rd_ot (by decide) (rd_ot (by decide) j2), rd_ot (by decide) (rd_ot (by decide) j3), rd_ot (by decide) po_usI_at, fun u8 _ => ?_⟩
                  rw [po_usI_at]
                  exact hsg.symm
                · refine ⟨rd_ot (by decide) (rd_ot (by decide) j1), rd_ot (by decide) (rd_ot (by decide) j2), rd_ot (by decide) (rd_ot (by decide) j3), rd_ot (by decide) (rd_ne hjk (by rw [hb_ot hjk]; exact j4)), fun u8 hu8 => ?_⟩
                  rw [po_usI_ne hjk, po_usI_ot (by decide)]
                  refine j5 u8 ?_
                  rw [List.mem_append, List.mem_singleton] at hu8
                  exact hu8.resolve_right (fun h8 => hjk (Prod.mk.inj h8).1)
              · rw [e]
                refine ⟨r42, ?_, fun p hp => ?_, hP2.2.2.2⟩
                · rw [List.nodup_append]
                  refine ⟨hP2.2.1, by simp, fun a ha b hb9 e9 => hnot ?_⟩
                  have : b = (k, u9) := by simpa using hb9
                  rw [← this, ← e9]
                  exact ha
                · rw [List.mem_append, List.mem_singleton] at hp
                  rcases hp with hp | hp
                  · exact hP2.2.2.1 p hp
                  · rw [hp]
                    exact ⟨hkN, hu9⟩
            · rw [if_pos (Or.inr hsg)] at hR9
              exact hR9.symm
            · rw [if_pos (Or.inl (Classical.byContradiction (fun h9 => hand ((hb_and hu9).mpr h9))))] at hR9
              exact hR9.symm
          have l8 : ∀ (i2 k u9 : Nat) (x3 x5 x6 : Int32), i < i2 → i2 ≤ t → u9 < 2 → k ≤ nm.length → s1 x6 → (∀ j, j < k → (nm.getD j (0, 0, 0)).1 ≠ x5) → (k < nm.length → (nm.getD k (0, 0, 0)).1 = x5) → rdC (rdF9 bt t n) nm A1 B1 i u9 x5 x6 i2 = R → Tt (fun K k9 => q_X13_read K k9 8 (nI nm.length) (nI i2) x3 (nI i) x5 x6 (nI u9) (nI k) 0 y) Q := by
            intro i2 k u9 x3 x5 x6 hi2 hit2 hu9 hkN hs6 hbf hat hRC
            unfold rdC at hRC
            refine u_X13_read_8 ?_; unfold qm_X13_read_8
            refine w_eqN (by omega) (by omega) (fun hke => ?_) (fun hke => ?_)
            · subst hke
              rw [nix_none.mpr hbf] at hRC
              have hRC : (if nm.length = 12 then Sum.inl i else rdF9 bt t n i2 (nm ++ [(x5, x6, i)]) A1 (B1 ++ [(nm.length, u9)])) = R := hRC
              refine w_eqN (b := 12) (by omega) (by omega) (fun h12 => w_some (ret i y (by omega) hf ?_)) (fun h12 => w_wrI ml16 rfl (by omega) (w_wrI ml17 rfl (by omega) (w_wrI ml18 rfl (by omega) (w_wrI ml19 rfl (by omega) ?_))))
              · rw [if_pos h12] at hRC
                exact hRC.symm
              · rw [if_neg h12] at hRC
                rw [nI_1]
                have hno : ∀ u8, (nm.length, u8) ∉ A1.flatten ++ B1 := fun u8 h8 => by
                  have := (hP.2.2.1 _ h8).1
                  have : nm.length < nm.length := this
                  omega
                have h0 : hb (A1.flatten ++ B1) nm.length = 0 := by
                  unfold hb
                  rw [if_neg (hno 0), if_neg (hno 1)]
                have f3 : fr (fun g => 16 ≤ g ∧ g ≤ 19) y (usI (usI (usI (usI y 16 nm.length x5) 17 nm.length x6) 18 nm.length (nI i)) 19 nm.length 0) := fr_I2 (fr_I2 (fr_I2 (fr_I (by decide)) (by decide)) (by decide)) (by decide)
                have eg : (nm ++ [(x5, x6, i)]).getD nm.length (0, 0, 0) = (x5, x6, i) := getD_of (by rw [List.getElem?_append_right (Nat.le_refl _), Nat.sub_self]; rfl)
                have key := l9 (nm ++ [(x5, x6, i)]) i2 nm.length u9 x3 x5 x6 (usI (usI (usI (usI y 16 nm.length x5) 17 nm.length x6) 18 nm.length (nI i)) 19 nm.length 0) hi2 hit2 hu9 (by rw [List.length_append]; show nm.length < nm.length + 1; omega) (fr_tr hf (fr_mono (fun g hg => Or.inl hg) f3)) ⟨fr_At f3 (fun g hg => by omega) hD.1, fun j ej hj => ?_⟩ ⟨by rw [List.length_append]; show nm.length + 1 ≤ 12; omega, hP.2.1, fun p hp => ⟨by rw [List.length_append]; have := (hP.2.2.1 p hp).1; omega, (hP.2.2.1 p hp).2⟩, fun e he => ?_⟩ ?_
                · rw [List.length_append] at key
                  exact key
                · by_cases hjk : j = nm.length
                  · subst hjk
                    rw [List.getElem?_append_right (Nat.le_refl _), Nat.sub_self] at hj
                    cases hj
                    refine ⟨rd_ot (by decide) (rd_ot (by decide) (rd_ot (by decide) po_usI_at)), rd_ot (by decide) (rd_ot (by decide) po_usI_at), rd_ot (by decide) po_usI_at, ?_, fun u8 h8 => absurd h8 (hno u8)⟩
                    rw [h0]
                    exact po_usI_at
                  · have hjl : j < nm.length := by
                      have := (List.getElem?_eq_some_iff.mp hj).1
                      rw [List.length_append] at this
                      have this : j < nm.length + 1 := this
                      omega
                    rw [List.getElem?_append_left hjl] at hj
                    obtain ⟨j1, j2, j3, j4, j5⟩ := hD.2 j ej hj
                    refine ⟨rd_ot (by decide) (rd_ot (by decide) (rd_ot (by decide) (rd_ne hjk j1))), rd_ot (by decide) (rd_ot (by decide) (rd_ne hjk (rd_ot (by decide) j2))), rd_ot (by decide) (rd_ne hjk (rd_ot (by decide) (rd_ot (by decide) j3))), rd_ne hjk (rd_ot (by decide) (rd_ot (by decide) (rd_ot (by decide) j4))), fun u8 h8 => ?_⟩
                    rw [(f3 3006 (by omega)).2.1]
                    exact j5 u8 h8
                · rcases List.mem_append.mp he with h9 | h9
                  · exact hP.2.2.2 e h9
                  · rw [List.mem_singleton.mp h9]
                    exact ⟨hs6, hit⟩
                · rw [eg, if_neg (fun h9 => h9.elim (hno u9) (fun h8 => h8 rfl))]
                  exact hRC
            · have hkl : k < nm.length := by omega
              rw [nix_some.mpr ⟨hkl, hat hkl, hbf⟩] at hRC
              exact l9 nm i2 k u9 x3 x5 x6 y hi2 hit2 hu9 hkl hf hD hP hRC
          have l7 : ∀ (i2 u9 : Nat) (x3 x5 x6 : Int32), i < i2 → i2 ≤ t → u9 < 2 → s1 x6 → rdC (rdF9 bt t n) nm A1 B1 i u9 x5 x6 i2 = R → ∀ (d k : Nat), k + d = nm.length → (∀ j, j < k → (nm.getD j (0, 0, 0)).1 ≠ x5) → Tt (fun K k9 => q_X13_read K k9 7 (nI nm.length) (nI i2) x3 (nI i) x5 x6 (nI u9) (nI k) 0 y) Q := by
            intro i2 u9 x3 x5 x6 hi2 hit2 hu9 hs6 hRC d
            induction d with
            | zero =>
              intro k hk hbf
              refine u_X13_read_7 ?_; unfold qm_X13_read_7
              exact w_leT (by omega) (by omega) (l8 i2 k u9 x3 x5 x6 hi2 hit2 hu9 (by omega) hs6 hbf (fun h9 => by omega) hRC)
            | succ d ihd =>
              intro k hk hbf
              have hkl : k < nm.length := by omega
              have hget := List.getElem?_eq_getElem hkl
              obtain ⟨q1, -⟩ := hD.2 k _ hget
              refine u_X13_read_7 ?_; unfold qm_X13_read_7
              rw [nI_1]
              refine w_leF (by omega) (by omega) (w_rdI ml16 rfl (by omega) q1 (w_if (fun h9 => l8 i2 k u9 x3 x5 x6 hi2 hit2 hu9 (by omega) hs6 hbf (fun _ => by rw [getD_of hget]; exact h9) hRC) (fun h9 => ihd (k + 1) (by omega) (fun j hj => ?_))))
              by_cases hjk : j = k
              · rw [hjk, getD_of hget]
                exact h9
              · exact hbf j (by omega)
          have l3 : ∀ (i2 : Nat) (x5 : Int32), i < i2 → i2 ≤ t → (match pSg bt t i i2 x5 with
              | .inl j => Sum.inl j
              | .inr (u, x, s, j) => rdC (rdF9 bt t n) nm A1 B1 i u x s j) = R → Tt (fun K k9 => q_X13_read K k9 3 (nI nm.length) (nI i2) (bt i) (nI i) x5 0 0 0 0 y) Q := by
            intro i2 x5 hi2 hit2 hRC
            unfold pSg at hRC
            have l4 : i2 < t → (bt i2 = 43 ∨ bt i2 = 45) → rdC (rdF9 bt t n) nm A1 B1 i (if bt i = 117 then 1 else 0) x5 (if bt i2 = 43 then 1 else -1) (i2 + 1) = R → Tt (fun K k9 => q_X13_read K k9 4 (nI nm.length) (nI i2) (bt i) (nI i) x5 0 0 0 0 y) Q := by
              intro hlt hs hRC
              have l5 : ∀ t0 : Int32, s1 t0 → rdC (rdF9 bt t n) nm A1 B1 i (if bt i = 117 then 1 else 0) x5 t0 (i2 + 1) = R → Tt (fun K k9 => q_X13_read K k9 5 (nI nm.length) (nI i2) (bt i) (nI i) x5 0 0 0 t0 y) Q := by
                intro t0 h0 hRC
                refine u_X13_read_5 ?_; unfold qm_X13_read_5
                rw [nI_1]
                refine w_if (fun h7 => ?_) (fun h7 => ?_)
                · rw [if_pos h7] at hRC
                  refine u_X13_read_6 ?_; unfold qm_X13_read_6
                  exact l7 (i2 + 1) 1 _ x5 t0 (by omega) (by omega) (by omega) h0 hRC nm.length 0 (by omega) (fun j hj => by omega)
                · rw [if_neg h7] at hRC
                  refine u_X13_read_6 ?_; unfold qm_X13_read_6
                  exact l7 (i2 + 1) 0 _ x5 t0 (by omega) (by omega) (by omega) h0 hRC nm.length 0 (by omega) (fun j hj => by omega)
              refine u_X13_read_4 ?_; unfold qm_X13_read_4
              refine w_cs1 (bAt hf (by omega)) (fun a y9 e => ?_)
              cases e
              rw [if_neg (by omega)]
              refine w_if (fun h9 => ?_) (fun h9 => ?_)
              · rw [if_pos h9] at hRC
                exact l5 1 (Or.inl rfl) hRC
              · rw [if_neg h9] at hRC
                exact l5 (-1) (Or.inr rfl) hRC
            refine u_X13_read_3 ?_; unfold qm_X13_read_3
            refine w_rdF (t11 hf) (w_eqN (by omega) (by omega) (fun h9 => ?_) (fun hne => w_cs1 (bAt hf (by omega)) (fun a y9 e => ?_)))
            · rw [if_pos h9] at hRC
              exact w_rdF (t11 hf) (w_some (ret t y (by omega) hf hRC.symm))
            · cases e
              rw [if_neg hne] at hRC
              rw [if_neg (by omega)]
              refine w_if (fun h9 => ?_) (fun h9 => w_cs1 (bAt hf (by omega)) (fun a y9 e => ?_))
              · rw [if_pos (Or.inl h9)] at hRC
                exact l4 (by omega) (Or.inl h9) hRC
              · cases e
                rw [if_neg (by omega)]
                refine w_if (fun h8 => ?_) (fun h8 => ?_)
                · rw [if_pos (Or.inr h8)] at hRC
                  exact l4 (by omega) (Or.inr h8) hRC
                · rw [if_neg (fun h7 => h7.elim h9 h8)] at hRC
                  exact w_some (ret i2 _ (by omega) hf hRC.symm)
          have l2 : (bt i = 111 ∨ bt i = 117) → Tt (fun K k => q_X13_read K k 2 (nI nm.length) (nI i) (bt i) 0 0 0 0 0 0 y) Q := by
            intro hou
            unfold pV at hRe
            rw [if_pos hou] at hRe
            refine u_X13_read_2 ?_; unfold qm_X13_read_2
            rw [nI_1, nI_1, nI_1]
            refine w_rdF (t11 hf) (w_eqN (by omega) (by omega) (fun h9 => ?_) (fun hne => w_cs1 (bAt hf (by omega)) (fun a1 y1 e1 => ?_)))
            · rw [if_pos h9] at hRe
              exact w_rdF (t11 hf) (w_some (ret t y (by omega) hf hRe.symm))
            · cases e1
              rw [if_neg hne] at hRe
              rw [if_neg (by omega)]
              refine w_if (fun h9 => ?_) (fun h9 => w_cs1 (bAt hf (by omega)) (fun a2 y2 e2 => ?_))
              · rw [if_pos h9] at hRe
                exact w_some (ret (i + 1) _ (by omega) hf hRe.symm)
              · cases e2
                rw [if_neg h9] at hRe
                rw [if_neg (by omega)]
                refine w_if (fun h8 => w_cs1 (bAt hf (by omega)) (fun a3 y3 e3 => w_cs1 (bAt (i := i + 1 + 1) (y := y3) (by cases e3; exact hf) (by omega)) (fun a4 y4 e4 => ?_))) (fun h8 => ?_)
                · cases e3
                  cases e4
                  rw [if_pos h8] at hRe
                  rw [if_neg (show ¬ t ≤ i + 1 by omega)]
                  by_cases h2 : t ≤ i + 1 + 1
                  · rw [if_pos h2]
                    rw [if_neg (fun h7 => by omega)] at hRe
                    exact w_ifT (by decide) (l3 (i + 1 + 1) _ (by omega) (by omega) hRe)
                  · rw [if_neg h2]
                    refine w_if (fun h7 => ?_) (fun h7 => w_cs1 (bAt hf (by omega)) (fun a5 y5 e5 => ?_))
                    · rw [if_neg (fun h6 => h6.2.1 h7)] at hRe
                      exact l3 (i + 1 + 1) _ (by omega) (by omega) hRe
                    · cases e5
                      rw [if_neg h2]
                      refine w_if (fun h6 => ?_) (fun h6 => w_cs1 (bAt hf (by omega)) (fun a6 y6 e6 => ?_))
                      · rw [if_neg (fun h5 => h5.2.2 h6)] at hRe
                        exact l3 (i + 1 + 1) _ (by omega) (by omega) hRe
                      · cases e6
                        rw [if_neg h2]
                        rw [if_pos ⟨by omega, h7, h6⟩] at hRe
                        exact l3 (i + 1 + 1 + 1) _ (by omega) (by omega) hRe
                · rw [if_neg h8] at hRe
                  exact w_some (ret (i + 1) _ (by omega) hf hRe.symm)
          refine w_if (fun h9 => l2 (Or.inl h9)) (fun h9 => w_if (fun h8 => l2 (Or.inr h8)) (fun h8 => ?_))
          unfold pV at hRe
          rw [if_neg (fun h7 => h7.elim h9 h8)] at hRe
          exact w_some (ret i y (by omega) hf hRe.symm)
  refine e_X13_read ?_
  refine u_X13_read_0 ?_; unfold qm_X13_read_0
  refine w_cs0 (tn_clear pn3) (fun y ⟨g1, g2⟩ => main t 0 (t + 1) [] [] [] y (by omega) (by omega) (Nat.zero_le _) (fr_mono (fun g hg => Or.inr (by omega)) g2) ⟨g1, fun k e he => by rw [List.getElem?_nil] at he; cases he⟩ ⟨Nat.zero_le _, List.nodup_nil, fun p hp => (by cases hp), fun e he => (by cases he)⟩ hR)
