/-! marks of rounds are kept along rounds; planeness as the class counts it -/
section MRC
variable {N : Nat → Nat} {vs : Nat}
theorem itf_per (hN : ∀ a, a < vs → N a < vs) (hi : ∀ a b, a < vs → b < vs → N a = N b → a = b) {v : Nat} (hv : v < vs) : ∃ m, 1 ≤ m ∧ m ≤ vs ∧ itf N m v = v ∧ ∀ i j, i < m → j < m → itf N i v = itf N j v → i = j := by
  have hlt : ∀ k, itf N k v < vs := fun k => itf_in (D := fun s => s < vs) hN hv k
  -- the least way back
  have ex : ∃ k, itf N (k + 1) v = v := itf_back (f := N) (D := fun s => s < vs) (N := vs) (fun s hs => hs) hN (fun s t hs ht => hi s t hs ht) hv
  obtain ⟨k0, hk0⟩ := ex
  have least : ∀ n, (∃ k, k < n ∧ itf N (k + 1) v = v) → ∃ k, itf N (k + 1) v = v ∧ ∀ j, j < k → itf N (j + 1) v ≠ v := by
    intro n
    induction n with
    | zero => rintro ⟨k, h, -⟩; omega
    | succ n ih =>
      rintro ⟨k, h1, h2⟩
      by_cases h : ∃ j, j < n ∧ itf N (j + 1) v = v
      · exact ih h
      · exact ⟨k, h2, fun j hj e => h ⟨j, by omega, e⟩⟩
  obtain ⟨k, k1, k2⟩ := least (k0 + 1) ⟨k0, by omega, hk0⟩
  have dist : ∀ i j, i < k + 1 → j < k + 1 → itf N i v = itf N j v → i = j := by
    have one : ∀ i j, i < j → j < k + 1 → itf N i v ≠ itf N j v := fun i j hij hj e => by
      have := itf_sub (f := N) (D := fun s => s < vs) hN (fun s t hs ht => hi s t hs ht) hv i (j - i) (by rw [show i + (j - i) = j by omega]; exact e)
      exact k2 (j - i - 1) (by omega) (by rw [show j - i - 1 + 1 = j - i by omega]; exact this)
    intro i j hi9 hj9 e
    rcases Nat.lt_trichotomy i j with h | h | h
    · exact absurd e (one i j h hj9)
    · exact h
    · exact absurd e.symm (one j i h hi9)
  refine ⟨k + 1, by omega, ?_, k1, dist⟩
  have := nodup_le ((List.range (k + 1)).map (fun i => itf N i v)) (List.range vs) (nodup_map List.nodup_range (fun i j hi9 hj9 e => dist i j (List.mem_range.mp hi9) (List.mem_range.mp hj9) e)) (fun a ha => by
    obtain ⟨i, -, e⟩ := List.mem_map.mp ha
    rw [← e]
    exact List.mem_range.mpr (hlt i))
  rw [List.length_map, List.length_range, List.length_range] at this
  exact this
def mrC (N : Nat → Nat) (vs : Nat) (F : Nat → Int32) : Prop := ∀ k, k < vs → F (N k) = F k
theorem mr_in_orb {x : Int32} (hx : x ≠ -1) (hN : ∀ a, a < vs → N a < vs) {F0 : Nat → Int32} (hF0 : mrC N vs F0) {v m : Nat} (hv : v < vs) (h0 : F0 v = -1) (hm1 : 1 ≤ m) (hm : itf N m v = v) (hd : ∀ i j, i < m → j < m → itf N i v = itf N j v → i = j) : ∀ (d j : Nat) (F : Nat → Int32), j ≤ m → m ≤ d + j → (∀ k, (∃ i, i < j ∧ k = itf N i v) → F k = x) → (∀ k, ¬ (∃ i, i < j ∧ k = itf N i v) → F k = F0 k) → (∀ k, (∃ i, i < m ∧ k = itf N i v) → mr_in N x d F (itf N j v) k = x) ∧ (∀ k, ¬ (∃ i, i < m ∧ k = itf N i v) → mr_in N x d F (itf N j v) k = F0 k) := by
  have hlt : ∀ k, itf N k v < vs := fun k => itf_in (D := fun s => s < vs) hN hv k
  have hall : ∀ i, F0 (itf N i v) = -1 := by
    intro i
    induction i with
    | zero => exact h0
    | succ i ih => exact (hF0 _ (hlt i)).trans ih
  intro d
  induction d with
  | zero =>
    intro j F hj hd1 h1 h2
    have : j = m := by omega
    subst this
    exact ⟨h1, h2⟩
  | succ d ih =>
    intro j F hj hd1 h1 h2
    show (∀ k, _ → (if F (itf N j v) = -1 then mr_in N x d (su F (itf N j v) x) (N (itf N j v)) else F) k = x) ∧ (∀ k, _ → (if F (itf N j v) = -1 then mr_in N x d (su F (itf N j v) x) (N (itf N j v)) else F) k = F0 k)
    by_cases e : j = m
    · subst e
      have e1 : F (itf N j v) = x := h1 _ ⟨0, by omega, hm⟩
      rw [if_neg (by rw [e1]; exact hx)]
      exact ⟨h1, h2⟩
    · have e1 : F (itf N j v) = -1 := by
        rw [h2 _ (fun ⟨i, i1, i2⟩ => by have := hd j i (by omega) (by omega) i2; omega)]
        exact hall j
      rw [if_pos e1]
      refine ih (j + 1) _ (by omega) (by omega) (fun k hk => ?_) (fun k hk => ?_)
      · by_cases ek : k = itf N j v
        · rw [ek]
          exact if_pos rfl
        · obtain ⟨i, i1, i2⟩ := hk
          have : i ≠ j := fun h9 => ek (by rw [← h9]; exact i2)
          exact (if_neg ek).trans (h1 k ⟨i, by omega, i2⟩)
      · have ek : k ≠ itf N j v := fun h9 => hk ⟨j, by omega, h9⟩
        exact (if_neg ek).trans (h2 k (fun ⟨i, i1, i2⟩ => hk ⟨i, by omega, i2⟩))
theorem mr_out_C (hN : ∀ a, a < vs → N a < vs) (hi : ∀ a b, a < vs → b < vs → N a = N b → a = b) (hvs : vs ≤ 48) {F : Nat → Int32} (hF : mrC N vs F) : ∀ n, n ≤ vs → mrC N vs (mr_out N vs F n).1
  | 0, _ => hF
  | n + 1, hn => by
    have ih := mr_out_C hN hi hvs hF n (by omega)
    have hle := mr_out_le N vs F n
    show mrC N vs (if (mr_out N vs F n).1 n = -1 then (mr_in N (nI (mr_out N vs F n).2) vs (mr_out N vs F n).1 n, (mr_out N vs F n).2 + 1) else mr_out N vs F n).1
    by_cases h : (mr_out N vs F n).1 n = -1
    · rw [if_pos h]
      obtain ⟨m, m1, m2, m3, m4⟩ := itf_per hN hi (show n < vs by omega)
      obtain ⟨r1, r2⟩ := mr_in_orb (x := nI (mr_out N vs F n).2) (rn_neg1 (by omega)) hN ih (show n < vs by omega) h m1 m3 m4 vs 0 _ (by omega) (by omega) (fun k hk => by obtain ⟨i, i1, -⟩ := hk; omega) (fun k _ => rfl)
      have r1 : ∀ k, (∃ i, i < m ∧ k = itf N i n) → mr_in N (nI (mr_out N vs F n).2) vs (mr_out N vs F n).1 n k = nI (mr_out N vs F n).2 := r1
      have r2 : ∀ k, ¬ (∃ i, i < m ∧ k = itf N i n) → mr_in N (nI (mr_out N vs F n).2) vs (mr_out N vs F n).1 n k = (mr_out N vs F n).1 k := r2
      intro k hk
      show mr_in N (nI (mr_out N vs F n).2) vs (mr_out N vs F n).1 n (N k) = mr_in N (nI (mr_out N vs F n).2) vs (mr_out N vs F n).1 n k
      by_cases ek : ∃ i, i < m ∧ k = itf N i n
      · rw [r1 k ek]
        obtain ⟨i, i1, i2⟩ := ek
        refine r1 _ ?_
        by_cases e9 : i + 1 = m
        · refine ⟨0, by omega, ?_⟩
          rw [i2]
          show itf N (i + 1) n = n
          rw [e9]
          exact m3
        · exact ⟨i + 1, by omega, by rw [i2]; rfl⟩
      · rw [r2 k ek, r2 (N k) (fun ⟨i, i1, i2⟩ => ek ?_)]
        · exact ih k hk
        · rcases Nat.eq_zero_or_pos i with h0 | h0
          · refine ⟨m - 1, by omega, hi _ _ hk (itf_in (D := fun s => s < vs) hN (by omega) _) ?_⟩
            rw [i2, h0]
            show n = itf N (m - 1 + 1) n
            rw [show m - 1 + 1 = m by omega]
            exact m3.symm
          · refine ⟨i - 1, by omega, hi _ _ hk (itf_in (D := fun s => s < vs) hN (by omega) _) ?_⟩
            rw [i2]
            show itf N i n = itf N (i - 1 + 1) n
            rw [show i - 1 + 1 = i by omega]
    · rw [if_neg h]
      exact ih
end MRC
/-! sides of the class and darts -/
def stG (G : Nat → Int32) (v : Nat) : Bool := decide (v % 2 = 0) == decide (0 < G (v / 2))
def sdD (S : ow_NP) (s : Nat) : Nat := if s % 2 = 0 then s else 2 * S.1 (s / 2) + 1
def dSd (S : ow_NP) (d : Nat) : Nat := if d % 2 = 0 then d else 2 * S.2 (d / 2) + 1
section PLK
variable {c : Nat} {S : ow_NP} {G : Nat → Int32}
theorem stG_fl : pn_fl (stG G) := by
  intro v
  unfold stG
  rw [mt_h2]
  have : decide (mt v % 2 = 0) = !decide (v % 2 = 0) := by
    unfold mt
    by_cases e : v % 2 = 0
    · rw [if_pos e, decide_eq_true e, decide_eq_false (by omega)]
      rfl
    · rw [if_neg e, decide_eq_false e, decide_eq_true (by omega)]
      rfl
  rw [this]
  cases decide (v % 2 = 0) <;> cases decide (0 < G (v / 2)) <;> rfl
theorem sd_on (hv : vn c S) {s : Nat} (hs : s < 4 * c) : sdD S (fc_on S G s) = pn_ph S (stG G) (sdD S s) := by
  have e0 : fc_on S G s = if (stG G (fc_end S.1 s) == decide (s % 2 = 0)) = true then 2 * mt (fc_end S.1 s) else 2 * S.2 (mt (fc_end S.1 s)) + 1 := rfl
  have he : fc_end S.1 s < 2 * c := by
    have := (hv (s / 2) (by omega)).1
    unfold fc_end
    split <;> omega
  have ea : pn_al S (sdD S s) = if s % 2 = 0 then 2 * fc_end S.1 s + 1 else 2 * fc_end S.1 s := by
    unfold sdD fc_end
    by_cases e : s % 2 = 0
    · rw [if_pos e, if_pos e, if_pos e]
      unfold pn_al
      rw [if_pos e]
    · rw [if_neg e, if_neg e, if_neg e, pn_al1, (hv (s / 2) (by omega)).2.2.1]
  have em := (hv _ (mt_lt he)).2.2.2
  rw [e0]
  unfold pn_ph
  rw [ea]
  generalize fc_end S.1 s = e at *
  by_cases es : s % 2 = 0
  · rw [if_pos es, pn_at1, decide_eq_true es]
    cases hq : stG G e with
    | true =>
      rw [if_pos (by rfl), if_pos rfl]
      exact if_pos (by omega)
    | false =>
      rw [if_neg (by decide), if_neg (by decide)]
      unfold sdD
      rw [if_neg (by omega), show (2 * S.2 (mt e) + 1) / 2 = S.2 (mt e) by omega, em]
  · rw [if_neg es, pn_at0, decide_eq_false es]
    cases hq : stG G e with
    | true =>
      rw [if_neg (by decide), if_pos rfl]
      unfold sdD
      rw [if_neg (by omega), show (2 * S.2 (mt e) + 1) / 2 = S.2 (mt e) by omega, em]
    | false =>
      rw [if_pos (by rfl), if_neg (by decide)]
      exact if_pos (by omega)
theorem sdD_lt (hv : vn c S) {s : Nat} (hs : s < 4 * c) : sdD S s < 4 * c := by
  have := (hv (s / 2) (by omega)).1
  unfold sdD
  split <;> omega
theorem dSd_lt (hv : vn c S) {s : Nat} (hs : s < 4 * c) : dSd S s < 4 * c := by
  have := (hv (s / 2) (by omega)).2.1
  unfold dSd
  split <;> omega
theorem sd_ds (hv : vn c S) {s : Nat} (hs : s < 4 * c) : sdD S (dSd S s) = s := by
  have := (hv (s / 2) (by omega)).2.2.2
  unfold dSd sdD
  by_cases e : s % 2 = 0
  · rw [if_pos e, if_pos e]
  · rw [if_neg e, if_neg (by omega), show (2 * S.2 (s / 2) + 1) / 2 = S.2 (s / 2) by omega, this]
    omega
theorem ds_sd (hv : vn c S) {s : Nat} (hs : s < 4 * c) : dSd S (sdD S s) = s := by
  have := (hv (s / 2) (by omega)).2.2.1
  unfold dSd sdD
  by_cases e : s % 2 = 0
  · rw [if_pos e, if_pos e]
  · rw [if_neg e, if_neg (by omega), show (2 * S.1 (s / 2) + 1) / 2 = S.1 (s / 2) by omega, this]
    omega
theorem pn_ph_lt {b : Nat → Bool} (hv : vn c S) {d : Nat} (h : d < 4 * c) : pn_ph S b d < 4 * c := pn_rt_lt (pn_al_lt hv h)
theorem pn_ph_inj {b : Nat → Bool} (hv : vn c S) (hb : pn_fl b) {d e : Nat} (h : d < 4 * c) (h2 : e < 4 * c) (q : pn_ph S b d = pn_ph S b e) : d = e := by
  have := (pn_rs (c := c) hb).2.1 _ _ (pn_al_lt hv h) (pn_al_lt hv h2) q
  rw [← pn_al_inv hv h, this, pn_al_inv hv h2]
theorem fc_on_inj (hv : vn c S) {s t : Nat} (hs : s < 4 * c) (ht : t < 4 * c) (q : fc_on S G s = fc_on S G t) : s = t := by
  have h1 := congrArg (sdD S) q
  rw [sd_on hv hs, sd_on hv ht] at h1
  have := pn_ph_inj hv stG_fl (sdD_lt hv hs) (sdD_lt hv ht) h1
  rw [← ds_sd hv hs, this, ds_sd hv ht]
/-- faces as the class counts them -/
theorem faces_ge (hv : vn c S) (hc : c ≤ 12) : pn_F c S (stG G) (np_faces c S G).2 := by
  have h1 := mr_out_k (κ := fun _ => ()) (N := fc_on S G) (vs := 4 * c) (fun a ha => ⟨fc_on_vn hv G ha, rfl⟩) (F := fun _ => -1) (fun _ _ => rfl) (by omega) (4 * c) (Nat.le_refl _)
  have h2 := mr_out_C (N := fc_on S G) (vs := 4 * c) (fun a ha => fc_on_vn hv G ha) (fun a b ha hb e => fc_on_inj hv ha hb e) (by omega) (F := fun _ => -1) (fun _ _ => rfl) (4 * c) (Nat.le_refl _)
  have e0 : mr_out (fc_on S G) (4 * c) (fun _ => -1) (4 * c) = np_faces c S G := rfl
  rw [e0] at h1 h2
  obtain ⟨i1, i2, i3, i4, -⟩ := h1
  generalize np_faces c S G = R at *
  obtain ⟨L, m⟩ := R
  dsimp only at i1 i2 i3 i4 h2 ⊢
  have lab : ∀ s, s < 4 * c → ∃ r, r < m ∧ L s = nI r := fun s hs => (i2 s hs).resolve_left (i3 s hs)
  -- a side for each mark
  have reps : ∀ n, n ≤ m → ∃ X : List Nat, X.length = n ∧ (∀ x, x ∈ X → x < 4 * c ∧ ∃ r, r < n ∧ L x = nI r) ∧ pm_dv (fun s => (L s).toInt.toNat) X := by
    intro n
    induction n with
    | zero => exact fun _ => ⟨[], rfl, fun x hx => absurd hx List.not_mem_nil, List.nodup_nil⟩
    | succ n ih =>
      intro hn
      obtain ⟨X, x1, x2, x3⟩ := ih (by omega)
      obtain ⟨k, k1, k2⟩ := i4 n (by omega)
      refine ⟨k :: X, by rw [List.length_cons, x1], fun x hx => ?_, ?_⟩
      · rcases List.mem_cons.mp hx with h9 | h9
        · rw [h9]
          exact ⟨k1, n, by omega, k2⟩
        · obtain ⟨q1, r, q2, q3⟩ := x2 x h9
          exact ⟨q1, r, by omega, q3⟩
      · refine List.nodup_cons.mpr ⟨fun h9 => ?_, x3⟩
        obtain ⟨x, hx, e⟩ := List.mem_map.mp h9
        obtain ⟨-, r, q2, q3⟩ := x2 x hx
        have e : (L x).toInt.toNat = (L k).toInt.toNat := e
        rw [k2, q3, nI_toInt (by omega), nI_toInt (by omega)] at e
        omega
  obtain ⟨X, x1, x2, x3⟩ := reps m (Nat.le_refl _)
  refine ⟨fun d => (L (dSd S d)).toInt.toNat, X.map (sdD S), fun d hd => ?_, fun x hx => ?_, ?_, ?_⟩
  · show (L (dSd S (pn_ph S (stG G) d))).toInt.toNat = (L (dSd S d)).toInt.toNat
    have e1 := h2 (dSd S d) (dSd_lt hv hd)
    rw [← e1]
    congr 3
    have e2 := sd_on (G := G) hv (dSd_lt hv hd)
    rw [sd_ds hv hd] at e2
    rw [← e2, ds_sd hv (fc_on_vn hv G (dSd_lt hv hd))]
  · obtain ⟨s, hs, e⟩ := List.mem_map.mp hx
    rw [← e]
    exact sdD_lt hv (x2 s hs).1
  · unfold pm_dv
    rw [List.map_map]
    have : X.map ((fun d => (L (dSd S d)).toInt.toNat) ∘ sdD S) = X.map (fun s => (L s).toInt.toNat) := List.map_congr_left (fun s hs => by
      show (L (dSd S (sdD S s))).toInt.toNat = _
      rw [ds_sd hv (x2 s hs).1])
    rw [this]
    exact x3
  · rw [List.length_map, x1]
    exact Nat.le_refl _
theorem faces_le (hv : vn c S) (hc : c ≤ 12) {k : Nat} (h : pn_F c S (stG G) k) : k ≤ (np_faces c S G).2 := by
  obtain ⟨f, X, f1, f2, f3, f4⟩ := h
  have h1 := mr_out_k (κ := fun s => f (sdD S s)) (N := fc_on S G) (vs := 4 * c) (fun a ha => ⟨fc_on_vn hv G ha, by
    show f (sdD S (fc_on S G a)) = f (sdD S a)
    rw [sd_on hv ha]
    exact f1 _ (sdD_lt hv ha)⟩) (F := fun _ => -1) (fun _ _ => rfl) (by omega) (4 * c) (Nat.le_refl _)
  have e0 : mr_out (fc_on S G) (4 * c) (fun _ => -1) (4 * c) = np_faces c S G := rfl
  rw [e0] at h1
  obtain ⟨i1, i2, i3, i4, i5⟩ := h1
  generalize np_faces c S G = R at *
  obtain ⟨L, m⟩ := R
  dsimp only at i1 i2 i3 i4 i5 ⊢
  have lab : ∀ s, s < 4 * c → ∃ r, r < m ∧ L s = nI r := fun s hs => (i2 s hs).resolve_left (i3 s hs)
  have := nodup_le (X.map (fun d => (L (dSd S d)).toInt.toNat)) (List.range m) (nodup_map (pm_nd f3) (fun x y hx hy e => by
    obtain ⟨r, r1, r2⟩ := lab _ (dSd_lt hv (f2 x hx))
    obtain ⟨q, q1, q2⟩ := lab _ (dSd_lt hv (f2 y hy))
    rw [r2, q2, nI_toInt (by omega), nI_toInt (by omega)] at e
    have e9 : r = q := by omega
    have := i5 _ _ (dSd_lt hv (f2 x hx)) (dSd_lt hv (f2 y hy)) (i3 _ (dSd_lt hv (f2 x hx))) (by rw [r2, q2, e9])
    rw [sd_ds hv (f2 x hx), sd_ds hv (f2 y hy)] at this
    exact pm_inj f3 x y hx hy this)) (fun a ha => by
    obtain ⟨x, hx, e⟩ := List.mem_map.mp ha
    obtain ⟨r, r1, r2⟩ := lab _ (dSd_lt hv (f2 x hx))
    rw [← e, r2, nI_toInt (by omega)]
    exact List.mem_range.mpr (by omega))
  rw [List.length_map, List.length_range] at this
  omega
theorem parts_P (hv : vn c S) (hc : c ≤ 12) : ∃ R : List Nat, R.length = (np_parts c S.1).2 ∧ pn_P c S R := by
  obtain ⟨-, i2, i3, -⟩ := parts_I hv hc
  have reps : ∀ n, n ≤ (np_parts c S.1).2 → ∃ R : List Nat, R.length = n ∧ ∀ r, r < n → ∃ v, v ∈ R ∧ v < 2 * c ∧ (np_parts c S.1).1 v = nI r := by
    intro n
    induction n with
    | zero => exact fun _ => ⟨[], rfl, fun r hr => absurd hr (Nat.not_lt_zero _)⟩
    | succ n ih =>
      intro hn
      obtain ⟨R, r1, r2⟩ := ih (by omega)
      obtain ⟨v, v1, v2⟩ := i3 n (by omega)
      refine ⟨v :: R, by rw [List.length_cons, r1], fun r hr => ?_⟩
      by_cases e : r = n
      · rw [e]
        exact ⟨v, List.mem_cons_self, v1, v2⟩
      · obtain ⟨u, u1, u2⟩ := r2 r (by omega)
        exact ⟨u, List.mem_cons_of_mem _ u1, u2⟩
  obtain ⟨R, r1, r2⟩ := reps _ (Nat.le_refl _)
  refine ⟨R, r1, fun v hvl => ?_⟩
  obtain ⟨r, q1, q2⟩ := i2 v hvl
  obtain ⟨u, u1, u2, u3⟩ := r2 r q1
  exact ⟨u, u1, u2, (parts_iff hv hc u2 hvl).mp (by rw [u3, q2])⟩
theorem parts_ub (hv : vn c S) (hc : c ≤ 12) {R : List Nat} (hR : pn_P c S R) : (np_parts c S.1).2 ≤ R.length := by
  obtain ⟨-, i2, i3, i4⟩ := parts_I hv hc
  have := nodup_le ((List.range (np_parts c S.1).2).map nI) (R.map (np_parts c S.1).1) (nodup_map List.nodup_range (fun a b ha hb e => ow_nI_inj (by have := List.mem_range.mp ha; omega) (by have := List.mem_range.mp hb; omega) e)) (fun a ha => by
    obtain ⟨r, hr, e⟩ := List.mem_map.mp ha
    obtain ⟨v, v1, v2⟩ := i3 r (List.mem_range.mp hr)
    obtain ⟨u, u1, u2, u3⟩ := hR v v1
    exact List.mem_map.mpr ⟨u, u1, by rw [(parts_iff hv hc u2 v1).mpr u3, v2, e]⟩)
  rw [List.length_map, List.length_map, List.length_range] at this
  exact this
/-- plane as the class counts it is plane -/
theorem plane_iff {T : ow_NT} (hv : vn T.1 T.2.2.1) (hc : T.1 ≤ 12) : nt_plane T = true ↔ pn_pl T.1 T.2.2.1 (stG T.2.2.2) := by
  obtain ⟨R, r1, r2⟩ := parts_P hv hc
  unfold nt_plane
  rw [decide_eq_true_iff]
  constructor
  · intro h
    refine ⟨R, r2, ?_⟩
    have := faces_ge (G := T.2.2.2) hv hc
    rw [h, ← r1] at this
    exact this
  · rintro ⟨R', p1, p2⟩
    have h1 := parts_ub hv hc p1
    have h2 := faces_le hv hc p2
    have h3 := pn_eul hv stG_fl r2 (faces_ge (G := T.2.2.2) hv hc)
    omega
theorem plane_ga {T : ow_NT} (hv : vn T.1 T.2.2.1) (hc : T.1 ≤ 12) (h : nt_plane T = true) : gaT T.1 T.2.2.1 := pn_ga hv stG_fl ((plane_iff hv hc).mp h)
end PLK
