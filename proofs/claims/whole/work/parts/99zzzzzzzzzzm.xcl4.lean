/-! closed braids are plane: faces by columns -/
/-- the visit at v comes in at the lesser place -/
def rsg (lp : Nat → Bool) (v : Nat) : Bool := decide (v % 2 = 0) == lp (v / 2)
def otp (w : Nat → Nat) (lp : Nat → Bool) (v : Nat) : Nat := if rsg lp v = true then w (v / 2) + 1 else w (v / 2)
def inp (w : Nat → Nat) (lp : Nat → Bool) (v : Nat) : Nat := if rsg lp v = true then w (v / 2) else w (v / 2) + 1
/-- letters of column K - 1 before t -/
def cnK (w : Nat → Nat) (K : Nat) : Nat → Nat
  | 0 => 0
  | t + 1 => cnK w K t + if w t + 1 = K then 1 else 0
def fLb (w : Nat → Nat) (l K t s : Nat) : Nat := 2 * (64 * K + cnK w K t % cnK w K l) + if cnK w K l = 0 then s else 0
def tch (w : Nat → Nat) (p j : Nat) : Prop := w j = p ∨ w j + 1 = p
def nxG (w : Nat → Nat) (lp : Nat → Bool) (l : Nat) (v v' : Nat) : Prop := v' < 2 * l ∧ inp w lp v' = otp w lp v ∧ ((v / 2 < v' / 2 ∧ ∀ j, v / 2 < j → j < v' / 2 → ¬ tch w (otp w lp v) j) ∨ ((∀ j, v / 2 < j → j < l → ¬ tch w (otp w lp v) j) ∧ ∀ j, j < v' / 2 → ¬ tch w (otp w lp v) j))
section PCL
variable {w : Nat → Nat} {lp : Nat → Bool} {l n s : Nat}
theorem rnL_lt : ∀ i, (rnL w lp s i).Pairwise (fun p q => p.1 < q.1)
  | 0 => List.Pairwise.nil
  | i + 1 => by
    by_cases h : onL w s i
    · rw [rnL_on h]
      refine List.pairwise_append.mpr ⟨rnL_lt i, List.pairwise_singleton _ _, fun p hp q hq => ?_⟩
      rw [List.mem_singleton.mp hq]
      exact (rnL_mem.mp hp).1
    · rw [(rnL_off (lp := lp) h).1]
      exact rnL_lt i
theorem psn_stay {a : Nat} : ∀ d, (∀ j, a ≤ j → j < a + d → ¬ onL w s j) → psn w s (a + d) = psn w s a
  | 0, _ => rfl
  | d + 1, h => by
    rw [← psn_stay d (fun j h1 h2 => h j h1 (by omega))]
    exact (rnL_off (lp := fun _ => true) (h (a + d) (by omega) (by omega))).2
theorem ubn_rsg {i : Nat} (h : onL w s i) : rsg lp (lb (i, ubn w lp s i)) = decide (psn w s i = w i) := by
  have u := ubn_lt (w := w) (lp := lp) (s := s) (i := i)
  unfold rsg lb
  rw [show (2 * (i, ubn w lp s i).1 + (i, ubn w lp s i).2) / 2 = i by show (2 * i + ubn w lp s i) / 2 = i; omega, show (2 * (i, ubn w lp s i).1 + (i, ubn w lp s i).2) % 2 = ubn w lp s i by show (2 * i + ubn w lp s i) % 2 = _; omega]
  unfold ubn
  cases decide (psn w s i = w i) <;> cases lp i <;> rfl
theorem lb_half {i : Nat} : lb (i, ubn w lp s i) / 2 = i := by
  have u := ubn_lt (w := w) (lp := lp) (s := s) (i := i)
  show (2 * i + ubn w lp s i) / 2 = i
  omega
theorem otp_s {i : Nat} (h : onL w s i) : otp w lp (lb (i, ubn w lp s i)) = psn w s (i + 1) ∧ inp w lp (lb (i, ubn w lp s i)) = psn w s i := by
  unfold otp inp
  rw [ubn_rsg h, lb_half]
  have e : psn w s (i + 1) = sw2 (w i) (w i + 1) (psn w s i) := rfl
  rw [e]
  unfold sw2
  by_cases h1 : psn w s i = w i
  · rw [decide_eq_true h1, if_pos rfl, if_pos rfl, if_pos h1]
    exact ⟨rfl, h1.symm⟩
  · have h2 : psn w s i = w i + 1 := h.resolve_left h1
    rw [decide_eq_false h1, if_neg h1, if_pos h2]
    exact ⟨rfl, h2.symm⟩
theorem off_tch {a : Nat} {d : Nat} (h : ∀ j, a ≤ j → j < a + d → ¬ onL w s j) {j : Nat} (h1 : a ≤ j) (h2 : j < a + d) : ¬ tch w (psn w s a) j := fun h9 => by
  have e := psn_stay (w := w) (s := s) (a := a) (j - a) (fun k k1 k2 => h k k1 (by omega))
  rw [show a + (j - a) = j by omega] at e
  refine h j h1 h2 ?_
  unfold onL
  rw [e]
  exact h9.imp Eq.symm Eq.symm
theorem cl_nxG {S : ow_NP} (hw : ∀ i, i < l → w i + 1 < n) (hJ : clJ w lp n l n S) {v : Nat} (hv : v < 2 * l) : nxG w lp l v (S.1 v) := by
  obtain ⟨s, hs, hm⟩ := rnL_all (lp := lp) hw (p := (v / 2, v % 2)) (by show v / 2 < l; omega) (by show v % 2 < 2; omega)
  obtain ⟨-, m2, m3⟩ := rnL_mem.mp hm
  have m2 : onL w s (v / 2) := m2
  have m3 : v % 2 = ubn w lp s (v / 2) := m3
  have ev : lb (v / 2, ubn w lp s (v / 2)) = v := by
    show 2 * (v / 2) + ubn w lp s (v / 2) = v
    omega
  have ev2 : lb (v / 2, v % 2) = v := by
    show 2 * (v / 2) + v % 2 = v
    omega
  have hout := (otp_s (lp := lp) m2).1
  rw [ev] at hout
  obtain ⟨X, Y, eL⟩ := List.append_of_mem hm
  have srt := rnL_lt (w := w) (lp := lp) (s := s) l
  rw [eL] at srt
  have sX := (List.pairwise_append.mp srt).2.2
  have sY := List.pairwise_cons.mp (List.pairwise_append.mp srt).2.1
  -- letters behind, with the strand
  have behind : ∀ j, v / 2 < j → j < l → onL w s j → (j, ubn w lp s j) ∈ Y := fun j h1 h2 h3 => by
    have : (j, ubn w lp s j) ∈ rnL w lp s l := rnL_mem.mpr ⟨h2, h3, rfl⟩
    rw [eL] at this
    rcases List.mem_append.mp this with h9 | h9
    · have := sX _ h9 _ List.mem_cons_self
      have this : j < v / 2 := this
      omega
    · rcases List.mem_cons.mp h9 with h8 | h8
      · have := congrArg Prod.fst h8
        have this : j = v / 2 := this
        omega
      · exact h8
  cases Y with
  | cons q Y' =>
    have e1 := hJ.1 s hs X _ q Y' eL
    rw [ev2] at e1
    have hq : q ∈ rnL w lp s l := by rw [eL]; simp
    obtain ⟨q1, q2, q3⟩ := rnL_mem.mp hq
    have eq : q = (q.1, ubn w lp s q.1) := Prod.ext rfl q3
    have e2 : S.1 v = lb (q.1, ubn w lp s q.1) := by rw [e1, ← eq]
    have hq2 : v / 2 < q.1 := sY.1 q List.mem_cons_self
    have u := ubn_lt (w := w) (lp := lp) (s := s) (i := q.1)
    have no : ∀ j, v / 2 + 1 ≤ j → j < v / 2 + 1 + (q.1 - (v / 2 + 1)) → ¬ onL w s j := fun j h1 h2 h3 => by
      rcases List.mem_cons.mp (behind j (by omega) (by omega) h3) with h9 | h9
      · have := congrArg Prod.fst h9
        have this : j = q.1 := this
        omega
      · have := (List.pairwise_cons.mp sY.2).1 _ h9
        have this : q.1 < j := this
        omega
    have est := psn_stay (w := w) (s := s) (a := v / 2 + 1) (q.1 - (v / 2 + 1)) no
    rw [show v / 2 + 1 + (q.1 - (v / 2 + 1)) = q.1 by omega] at est
    rw [e2]
    refine ⟨by show 2 * q.1 + ubn w lp s q.1 < 2 * l; omega, ?_, Or.inl ⟨by rw [lb_half]; exact hq2, fun j h1 h2 => ?_⟩⟩
    · rw [(otp_s q2).2, hout, est]
    · rw [lb_half] at h2
      rw [hout]
      exact off_tch no (by omega) (by omega)
  | nil =>
    have hwl : psn w s l < n := psn_lt hs l hw
    obtain ⟨q, Z, e1, e2⟩ := hJ.2 s hs hwl X _ eL
    rw [ev2] at e2
    obtain ⟨s', hs'⟩ : ∃ s', s' = psn w s l := ⟨_, rfl⟩
    rw [← hs'] at e1
    have hq : q ∈ rnL w lp s' l := by rw [e1]; exact List.mem_cons_self
    obtain ⟨q1, q2, q3⟩ := rnL_mem.mp hq
    have eq : q = (q.1, ubn w lp s' q.1) := Prod.ext rfl q3
    have e3 : S.1 v = lb (q.1, ubn w lp s' q.1) := by rw [e2, ← eq]
    have u := ubn_lt (w := w) (lp := lp) (s := s') (i := q.1)
    have no : ∀ j, v / 2 + 1 ≤ j → j < v / 2 + 1 + (l - (v / 2 + 1)) → ¬ onL w s j := fun j h1 h2 h3 => by
      have := behind j (by omega) (by omega) h3
      cases this
    have est := psn_stay (w := w) (s := s) (a := v / 2 + 1) (l - (v / 2 + 1)) no
    rw [show v / 2 + 1 + (l - (v / 2 + 1)) = l by omega] at est
    have srt2 := rnL_lt (w := w) (lp := lp) (s := s') l
    rw [e1] at srt2
    have no2 : ∀ j, 0 ≤ j → j < 0 + q.1 → ¬ onL w s' j := fun j _ h2 h3 => by
      have : (j, ubn w lp s' j) ∈ rnL w lp s' l := rnL_mem.mpr ⟨by show j < l; omega, h3, rfl⟩
      rw [e1] at this
      rcases List.mem_cons.mp this with h9 | h9
      · have := congrArg Prod.fst h9
        have this : j = q.1 := this
        omega
      · have := (List.pairwise_cons.mp srt2).1 _ h9
        have this : q.1 < j := this
        omega
    have est2 := psn_stay (w := w) (s := s') (a := 0) q.1 no2
    rw [Nat.zero_add] at est2
    have est2 : psn w s' q.1 = s' := est2
    rw [e3]
    refine ⟨by show 2 * q.1 + ubn w lp s' q.1 < 2 * l; omega, ?_, Or.inr ⟨fun j h1 h2 => ?_, fun j h2 => ?_⟩⟩
    · rw [(otp_s q2).2, hout, est2, hs', est]
    · rw [hout]
      exact off_tch no (by omega) (by omega)
    · rw [lb_half] at h2
      have h9 := off_tch no2 (j := j) (by omega) (by omega)
      have h9 : ¬ tch w s' j := h9
      rw [hout, ← est, ← hs']
      exact h9
theorem cnK_le : ∀ {K t d : Nat}, cnK w K t ≤ cnK w K (t + d)
  | K, t, 0 => Nat.le_refl _
  | K, t, d + 1 => by
    have := cnK_le (K := K) (t := t) (d := d)
    show _ ≤ cnK w K (t + d) + _
    omega
theorem cnK_mono {K t u : Nat} (h : t ≤ u) : cnK w K t ≤ cnK w K u := by
  have := cnK_le (w := w) (K := K) (t := t) (d := u - t)
  rw [show t + (u - t) = u by omega] at this
  exact this
theorem cnK_stay {K t : Nat} : ∀ d, (∀ j, t ≤ j → j < t + d → w j + 1 ≠ K) → cnK w K (t + d) = cnK w K t
  | 0, _ => rfl
  | d + 1, h => by
    show cnK w K (t + d) + (if w (t + d) + 1 = K then 1 else 0) = _
    rw [if_neg (h (t + d) (by omega) (by omega)), cnK_stay d (fun j h1 h2 => h j h1 (by omega))]
    rfl
theorem cnK_b : ∀ {K t : Nat}, cnK w K t ≤ t
  | K, 0 => Nat.le_refl _
  | K, t + 1 => by
    have := cnK_b (K := K) (t := t)
    show cnK w K t + (if w t + 1 = K then 1 else 0) ≤ t + 1
    split <;> omega
theorem cnK_s {t : Nat} : cnK w (w t + 1) (t + 1) = cnK w (w t + 1) t + 1 := by
  show cnK w (w t + 1) t + (if w t + 1 = w t + 1 then 1 else 0) = _
  rw [if_pos rfl]
theorem cnK_pos {t : Nat} (h : t < l) : 0 < cnK w (w t + 1) l := by
  have h1 := cnK_mono (w := w) (K := w t + 1) (t := t + 1) (u := l) (by omega)
  rw [cnK_s] at h1
  omega
theorem cnK_ex : ∀ {K t : Nat}, 0 < cnK w K t → ∃ j, j < t ∧ w j + 1 = K
  | K, 0, h => absurd h (Nat.lt_irrefl _)
  | K, t + 1, h => by
    by_cases e : w t + 1 = K
    · exact ⟨t, by omega, e⟩
    · have h : 0 < cnK w K t + (if w t + 1 = K then 1 else 0) := h
      rw [if_neg e] at h
      obtain ⟨j, h1, h2⟩ := cnK_ex (K := K) (t := t) h
      exact ⟨j, by omega, h2⟩
/-- along a gap the places in the columns at its sides are the same -/
theorem nxG_c {v v' K : Nat} (hv : v < 2 * l) (h : nxG w lp l v v') (hK : K = otp w lp v ∨ K = otp w lp v + 1) : cnK w K (v / 2 + 1) % cnK w K l = cnK w K (v' / 2) % cnK w K l := by
  obtain ⟨h1, -, h3⟩ := h
  have nt : ∀ j, ¬ tch w (otp w lp v) j → w j + 1 ≠ K := fun j hj e => hj (by
    unfold tch
    rcases hK with e2 | e2
    · exact Or.inr (by omega)
    · exact Or.inl (by omega))
  rcases h3 with ⟨h4, h5⟩ | ⟨h4, h5⟩
  · have e := cnK_stay (w := w) (K := K) (t := v / 2 + 1) (v' / 2 - (v / 2 + 1)) (fun j a1 a2 => nt j (h5 j (by omega) (by omega)))
    rw [show v / 2 + 1 + (v' / 2 - (v / 2 + 1)) = v' / 2 by omega] at e
    rw [e]
  · have e := cnK_stay (w := w) (K := K) (t := v / 2 + 1) (l - (v / 2 + 1)) (fun j a1 a2 => nt j (h4 j (by omega) (by omega)))
    rw [show v / 2 + 1 + (l - (v / 2 + 1)) = l by omega] at e
    have e2 := cnK_stay (w := w) (K := K) (t := 0) (v' / 2) (fun j a1 a2 => nt j (h5 j (by omega)))
    rw [Nat.zero_add] at e2
    have e2 : cnK w K (v' / 2) = 0 := e2
    rw [← e, e2, Nat.mod_self, Nat.zero_mod]
theorem fLb_s {K t s s' : Nat} (h : 0 < cnK w K l) : fLb w l K t s = fLb w l K t s' := by
  unfold fLb
  rw [if_neg (by omega), if_neg (by omega)]
theorem fLb_t {K t t' s : Nat} (h : cnK w K t % cnK w K l = cnK w K t' % cnK w K l) : fLb w l K t s = fLb w l K t' s := by
  unfold fLb
  rw [h]
def fDt (w : Nat → Nat) (lp : Nat → Bool) (l d : Nat) : Nat := if d % 2 = 0 then fLb w l (otp w lp (d / 2)) (d / 4 + 1) 1 else fLb w l (inp w lp (d / 2) + 1) (d / 4) 0
theorem rsg_mt (v : Nat) : rsg lp (mt v) = !rsg lp v := by
  unfold rsg
  rw [mt_half]
  have : decide (mt v % 2 = 0) = !decide (v % 2 = 0) := by
    unfold mt
    by_cases h : v % 2 = 0
    · rw [if_pos h, decide_eq_true h, decide_eq_false (by omega)]
      rfl
    · rw [if_neg h, decide_eq_false h, decide_eq_true (by omega)]
      rfl
  rw [this]
  cases decide (v % 2 = 0) <;> cases lp (v / 2) <;> rfl
theorem otp_mt (v : Nat) : otp w lp (mt v) = inp w lp v ∧ inp w lp (mt v) = otp w lp v := by
  unfold otp inp
  rw [rsg_mt, mt_half]
  cases rsg lp v
  · exact ⟨rfl, rfl⟩
  · exact ⟨rfl, rfl⟩
theorem cnK_ne {K t : Nat} (h : w t + 1 ≠ K) : cnK w K (t + 1) = cnK w K t := by
  show cnK w K t + (if w t + 1 = K then 1 else 0) = _
  rw [if_neg h]
  rfl
theorem fDt_in {v : Nat} (hv : v < 2 * l) : fDt w lp l (pn_rt (rsg lp) (2 * v + 1)) = fLb w l (inp w lp v) (v / 2) 1 := by
  obtain ⟨m1, m2⟩ := otp_mt (w := w) (lp := lp) v
  have mh := mt_half v
  unfold pn_rt
  rw [show (2 * v + 1) / 2 = v by omega, show (2 * v + 1) % 2 = 1 by omega]
  cases e : rsg lp v with
  | true =>
    rw [if_pos (by decide)]
    unfold fDt
    rw [if_pos (by omega), show 2 * mt v / 2 = mt v by omega, show 2 * mt v / 4 = v / 2 by omega, m1]
    refine fLb_t ?_
    have : inp w lp v = w (v / 2) := by unfold inp; rw [e]; rfl
    rw [cnK_ne (by omega)]
  | false =>
    rw [if_neg (by decide)]
    unfold fDt
    rw [if_neg (by omega), show (2 * mt v + 1) / 2 = mt v by omega, show (2 * mt v + 1) / 4 = v / 2 by omega, m2]
    have e1 : otp w lp v = w (v / 2) := by unfold otp; rw [e]; rfl
    have e2 : inp w lp v = w (v / 2) + 1 := by unfold inp; rw [e]; rfl
    rw [e1, e2]
    exact fLb_s (cnK_pos (by omega))
theorem fDt_out {v : Nat} (hv : v < 2 * l) : fDt w lp l (pn_rt (rsg lp) (2 * v)) = fLb w l (otp w lp v + 1) (v / 2 + 1) 0 := by
  obtain ⟨m1, m2⟩ := otp_mt (w := w) (lp := lp) v
  have mh := mt_half v
  unfold pn_rt
  rw [show 2 * v / 2 = v by omega, show 2 * v % 2 = 0 by omega]
  cases e : rsg lp v with
  | true =>
    rw [if_neg (by decide)]
    unfold fDt
    rw [if_neg (by omega), show (2 * mt v + 1) / 2 = mt v by omega, show (2 * mt v + 1) / 4 = v / 2 by omega, m2]
    refine fLb_t ?_
    have e1 : otp w lp v = w (v / 2) + 1 := by unfold otp; rw [e]; rfl
    rw [cnK_ne (by omega)]
  | false =>
    rw [if_pos (by decide)]
    unfold fDt
    rw [if_pos (by omega), show 2 * mt v / 2 = mt v by omega, show 2 * mt v / 4 = v / 2 by omega, m1]
    have e1 : otp w lp v = w (v / 2) := by unfold otp; rw [e]; rfl
    have e2 : inp w lp v = w (v / 2) + 1 := by unfold inp; rw [e]; rfl
    rw [e1, e2]
    exact fLb_s (cnK_pos (by omega))
theorem fDt_ph {S : ow_NP} (hv : vn l S) (hG : ∀ v, v < 2 * l → nxG w lp l v (S.1 v)) {d : Nat} (hd : d < 4 * l) : fDt w lp l (pn_ph S (rsg lp) d) = fDt w lp l d := by
  unfold pn_ph pn_al
  by_cases e : d % 2 = 0
  · rw [if_pos e]
    have hg := hG (d / 2) (by omega)
    rw [fDt_in hg.1, hg.2.1]
    unfold fDt
    rw [if_pos e]
    have := nxG_c (by omega) hg (Or.inl rfl)
    rw [show d / 2 / 2 = d / 4 by omega] at this
    exact (fLb_t this).symm
  · rw [if_neg e]
    obtain ⟨a1, a2, a3, a4⟩ := hv (d / 2) (by omega)
    have hg := hG (S.2 (d / 2)) a2
    have hc := nxG_c a2 hg (Or.inr rfl)
    have h2 := hg.2.1
    rw [a4] at hc h2
    rw [fDt_out a2]
    unfold fDt
    rw [if_neg e, h2, show d / 4 = d / 2 / 2 by omega]
    exact fLb_t hc
/-- letters at one place reach one another -/
theorem pl_reach {S : ow_NP} (hv : vn l S) (hG : ∀ v, v < 2 * l → nxG w lp l v (S.1 v)) {p : Nat} : ∀ (d i j : Nat), j ≤ i + d → i < j → j < l → tch w p i → tch w p j → rch l S (2 * i) (2 * j)
  | 0, i, j, h1, h2, _, _, _ => by omega
  | d + 1, i, j, h1, h2, h3, h4, h5 => by
    -- the visit that leaves letter i at p
    have hm : ∀ u, u < 2 * l → rch l S (2 * (u / 2)) u ∧ rch l S u (2 * (u / 2)) := fun u hu => by
      rcases (show u = 2 * (u / 2) ∨ u = 2 * (u / 2) + 1 by omega) with e | e
      · rw [← e]
        exact ⟨rch_rf _ _ _, rch_rf _ _ _⟩
      · have m1 : mt (2 * (u / 2)) = u := by rw [mt_ev]; omega
        have m2 : mt u = 2 * (u / 2) := by rw [← m1, mt_mt, m1]
        have r1 := rch_m (rch_rf l S (2 * (u / 2))) (by omega)
        have r2 := rch_m (rch_rf l S u) hu
        rw [m1] at r1
        rw [m2] at r2
        exact ⟨r1, r2⟩
    obtain ⟨v, v1, v2⟩ : ∃ v, v / 2 = i ∧ otp w lp v = p := by
      have o1 : otp w lp (2 * i) = p ∨ otp w lp (2 * i + 1) = p := by
        have e1 : 2 * i / 2 = i := by omega
        have e2 : (2 * i + 1) / 2 = i := by omega
        have r : rsg lp (2 * i + 1) = !rsg lp (2 * i) := by rw [← mt_ev]; exact rsg_mt _
        unfold otp
        rw [e1, e2, r]
        cases rsg lp (2 * i)
        · rcases h4 with h9 | h9
          · exact Or.inl h9
          · exact Or.inr h9
        · rcases h4 with h9 | h9
          · exact Or.inr h9
          · exact Or.inl h9
      rcases o1 with o1 | o1
      · exact ⟨2 * i, by omega, o1⟩
      · exact ⟨2 * i + 1, by omega, o1⟩
    have hvl : v < 2 * l := by omega
    obtain ⟨g1, g2, g3⟩ := hG v hvl
    rw [v2] at g2 g3
    rcases g3 with ⟨g4, g5⟩ | ⟨g4, -⟩
    · have hle : S.1 v / 2 ≤ j := by
        apply Classical.byContradiction
        intro h9
        exact g5 j (by omega) (by omega) h5
      have r1 := rch_tr (hm v hvl).1 (rch_n (rch_rf l S v) hvl)
      rw [v1] at r1
      have r2 := rch_tr r1 (hm _ g1).2
      by_cases ej : S.1 v / 2 = j
      · rw [ej] at r2
        exact r2
      · have ti : tch w p (S.1 v / 2) := by
          unfold inp at g2
          unfold tch
          cases e : rsg lp (S.1 v)
          · rw [e] at g2
            exact Or.inr g2
          · rw [e] at g2
            exact Or.inl g2
        exact rch_tr r2 (pl_reach hv hG d (S.1 v / 2) j (by omega) (by omega) h3 ti h5)
    · exact absurd h5 (g4 j (by omega) h3)
theorem pl_reach2 {S : ow_NP} (hv : vn l S) (hG : ∀ v, v < 2 * l → nxG w lp l v (S.1 v)) {p i j : Nat} (hi : i < l) (hj : j < l) (h4 : tch w p i) (h5 : tch w p j) : rch l S (2 * i) (2 * j) := by
  rcases Nat.lt_trichotomy i j with h | h | h
  · exact pl_reach hv hG l i j (by omega) h hj h4 h5
  · rw [h]
    exact rch_rf _ _ _
  · exact rch_sy hv (by omega) (pl_reach hv hG l j i (by omega) h hi h5 h4)
def upK (w : Nat → Nat) (l k : Nat) : Bool := decide (0 < cnK w (k + 1) l) && decide (cnK w k l = 0)
def dnK (w : Nat → Nat) (l k : Nat) : Bool := decide (cnK w (k + 1) l = 0) && decide (0 < cnK w k l)
theorem updn (h0 : cnK w 0 l = 0) : ∀ n, cntB (upK w l) n = cntB (dnK w l) n + if 0 < cnK w n l then 1 else 0
  | 0 => by rw [h0]; rfl
  | n + 1 => by
    have ih := updn h0 n
    show cntB (upK w l) n + (if upK w l n = true then 1 else 0) = cntB (dnK w l) n + (if dnK w l n = true then 1 else 0) + _
    have eu : upK w l n = (decide (0 < cnK w (n + 1) l) && decide (cnK w n l = 0)) := rfl
    have ed : dnK w l n = (decide (cnK w (n + 1) l = 0) && decide (0 < cnK w n l)) := rfl
    rw [eu, ed]
    by_cases a : 0 < cnK w n l <;> by_cases b : 0 < cnK w (n + 1) l
    · rw [if_pos a] at ih
      rw [if_pos b, decide_eq_false (show ¬ cnK w n l = 0 by omega), decide_eq_false (show ¬ cnK w (n + 1) l = 0 by omega), Bool.and_false, Bool.false_and]
      show _ + 0 = _ + 0 + 1
      omega
    · rw [if_pos a] at ih
      rw [if_neg b, decide_eq_false (show ¬ cnK w n l = 0 by omega), decide_eq_true (show cnK w (n + 1) l = 0 by omega), decide_eq_true a, Bool.and_false]
      show _ + 0 = _ + 1 + 0
      omega
    · rw [if_neg a] at ih
      rw [if_pos b, decide_eq_true (show cnK w n l = 0 by omega), decide_eq_true b, decide_eq_false (show ¬ cnK w (n + 1) l = 0 by omega), Bool.false_and]
      show _ + 1 = _ + 0 + 1
      omega
    · rw [if_neg a] at ih
      rw [if_neg b, decide_eq_false b, decide_eq_false a, Bool.false_and, Bool.and_false]
      show _ + 0 = _ + 0 + 0
      omega
theorem cn0 : ∀ t, cnK w 0 t = 0
  | 0 => rfl
  | t + 1 => by rw [cnK_ne (by omega)]; exact cn0 t
/-- a letter of a column -/
noncomputable def ltK (w : Nat → Nat) (l K : Nat) : Nat := if h : ∃ j, j < l ∧ w j + 1 = K then h.choose else 0
theorem ltK_ok {K : Nat} (h : 0 < cnK w K l) : ltK w l K < l ∧ w (ltK w l K) + 1 = K := by
  have h1 := cnK_ex h
  unfold ltK
  rw [dif_pos h1]
  exact h1.choose_spec
/-- the visits of a letter: rising, falling -/
def rsV (lp : Nat → Bool) (i : Nat) : Nat := 2 * i + if lp i = true then 0 else 1
def flV (lp : Nat → Bool) (i : Nat) : Nat := 2 * i + if lp i = true then 1 else 0
theorem rsV_ok (i : Nat) : rsV lp i / 2 = i ∧ rsg lp (rsV lp i) = true := by
  have h : rsV lp i / 2 = i := by
    unfold rsV
    split <;> omega
  refine ⟨h, ?_⟩
  unfold rsg
  rw [h]
  unfold rsV
  cases lp i
  · rw [show (2 * i + if false = true then 0 else 1) = 2 * i + 1 from rfl, decide_eq_false (by omega)]
    rfl
  · rw [show (2 * i + if true = true then 0 else 1) = 2 * i from rfl, decide_eq_true (by omega)]
    rfl
theorem flV_ok (i : Nat) : flV lp i / 2 = i ∧ rsg lp (flV lp i) = false := by
  have h : flV lp i / 2 = i := by
    unfold flV
    split <;> omega
  refine ⟨h, ?_⟩
  unfold rsg
  rw [h]
  unfold flV
  cases lp i
  · rw [show (2 * i + if false = true then 1 else 0) = 2 * i from rfl, decide_eq_true (by omega)]
    rfl
  · rw [show (2 * i + if true = true then 1 else 0) = 2 * i + 1 from rfl, decide_eq_false (by omega)]
    rfl
theorem lab1 (i : Nat) : fDt w lp l (2 * rsV lp i) = fLb w l (w i + 1) (i + 1) 1 := by
  obtain ⟨h1, h2⟩ := rsV_ok (lp := lp) i
  unfold fDt otp
  rw [if_pos (by omega), show 2 * rsV lp i / 2 = rsV lp i by omega, show 2 * rsV lp i / 4 = i by omega, h2, if_pos rfl, h1]
theorem lab2 (i : Nat) : fDt w lp l (2 * flV lp i) = fLb w l (w i) (i + 1) 1 := by
  obtain ⟨h1, h2⟩ := flV_ok (lp := lp) i
  unfold fDt otp
  rw [if_pos (by omega), show 2 * flV lp i / 2 = flV lp i by omega, show 2 * flV lp i / 4 = i by omega, h2, if_neg (by decide), h1]
theorem lab3 (i : Nat) : fDt w lp l (2 * flV lp i + 1) = fLb w l (w i + 2) i 0 := by
  obtain ⟨h1, h2⟩ := flV_ok (lp := lp) i
  unfold fDt inp
  rw [if_neg (by omega), show (2 * flV lp i + 1) / 2 = flV lp i by omega, show (2 * flV lp i + 1) / 4 = i by omega, h2, if_neg (by decide), h1]
theorem fLb_0 {K t s : Nat} (ht : t ≤ l) (h : cnK w K l = 0) : fLb w l K t s = 128 * K + s := by
  have := cnK_mono (w := w) (K := K) ht
  unfold fLb
  rw [if_pos h, show cnK w K t = 0 by omega, Nat.zero_mod]
  omega
theorem fLb_1 {K t s : Nat} (h : 0 < cnK w K l) (hl : l ≤ 16) : fLb w l K t s = 128 * K + 2 * (cnK w K t % cnK w K l) ∧ cnK w K t % cnK w K l < 17 := by
  have h1 := Nat.mod_lt (cnK w K t) h
  have h2 := cnK_b (w := w) (K := K) (t := l)
  unfold fLb
  rw [if_neg (by omega)]
  omega
theorem lab1_i (hl : l ≤ 16) {i j : Nat} (hi : i < j) (hj : j < l) : fLb w l (w i + 1) (i + 1) 1 ≠ fLb w l (w j + 1) (j + 1) 1 := fun e => by
  obtain ⟨a1, a2⟩ := fLb_1 (t := i + 1) (s := 1) (cnK_pos (w := w) (show i < l by omega)) hl
  obtain ⟨b1, b2⟩ := fLb_1 (t := j + 1) (s := 1) (cnK_pos (w := w) hj) hl
  rw [a1, b1] at e
  have eK : w i + 1 = w j + 1 := by omega
  have e2 : cnK w (w i + 1) (i + 1) % cnK w (w i + 1) l = cnK w (w j + 1) (j + 1) % cnK w (w j + 1) l := by omega
  rw [← eK] at e2
  have c1 := cnK_s (w := w) (t := i)
  have c2 := cnK_s (w := w) (t := j)
  rw [← eK] at c2
  have c3 := cnK_mono (w := w) (K := w i + 1) (t := i + 1) (u := j) (by omega)
  have c4 := cnK_mono (w := w) (K := w i + 1) (t := j + 1) (u := l) (by omega)
  rw [Nat.mod_eq_of_lt (show cnK w (w i + 1) (i + 1) < cnK w (w i + 1) l by omega)] at e2
  by_cases h : cnK w (w i + 1) (j + 1) = cnK w (w i + 1) l
  · rw [h, Nat.mod_self] at e2
    omega
  · rw [Nat.mod_eq_of_lt (by omega)] at e2
    omega
theorem cl_plane {S : ow_NP} (hl : l ≤ 16) (hw : ∀ i, i < l → w i + 1 < n) (hv : vn l S) (hG : ∀ v, v < 2 * l → nxG w lp l v (S.1 v)) : pn_pl l S (rsg lp) := by
  have up : ∀ k, k ∈ (List.range n).filter (upK w l) → 0 < cnK w (k + 1) l ∧ cnK w k l = 0 := fun k hk => by
    have := (List.mem_filter.mp hk).2
    unfold upK at this
    have := Bool.and_eq_true_iff.mp this
    exact ⟨of_decide_eq_true this.1, of_decide_eq_true this.2⟩
  have dn : ∀ k, k ∈ (List.range n).filter (dnK w l) → cnK w (k + 1) l = 0 ∧ 0 < cnK w k l := fun k hk => by
    have := (List.mem_filter.mp hk).2
    unfold dnK at this
    have := Bool.and_eq_true_iff.mp this
    exact ⟨of_decide_eq_true this.1, of_decide_eq_true this.2⟩
  have n0 : cnK w n l = 0 := by
    have := cnK_stay (w := w) (K := n) (t := 0) l (fun j h1 h2 => by have := hw j (by omega); omega)
    rw [Nat.zero_add] at this
    exact this
  have hcnt := updn (w := w) (l := l) (cn0 l) n
  rw [n0, if_neg (by omega), cntB_fl, cntB_fl] at hcnt
  let g1 : Nat → Nat := fun i => 2 * rsV lp i
  let g2 : Nat → Nat := fun k => 2 * flV lp (ltK w l (k + 1))
  let g3 : Nat → Nat := fun k => 2 * flV lp (ltK w l k) + 1
  have L1 : ∀ i, fDt w lp l (g1 i) = fLb w l (w i + 1) (i + 1) 1 := fun i => lab1 i
  have L2 : ∀ k, k ∈ (List.range n).filter (upK w l) → fDt w lp l (g2 k) = 128 * k + 1 ∧ g2 k < 4 * l := fun k hk => by
    obtain ⟨u1, u2⟩ := up k hk
    obtain ⟨a1, a2⟩ := ltK_ok u1
    have f := (flV_ok (lp := lp) (ltK w l (k + 1))).1
    refine ⟨?_, by show 2 * flV lp (ltK w l (k + 1)) < _; omega⟩
    show fDt w lp l (2 * flV lp (ltK w l (k + 1))) = _
    rw [lab2, show w (ltK w l (k + 1)) = k by omega]
    exact fLb_0 (by omega) u2
  have L3 : ∀ k, k ∈ (List.range n).filter (dnK w l) → fDt w lp l (g3 k) = 128 * (k + 1) ∧ g3 k < 4 * l := fun k hk => by
    obtain ⟨u1, u2⟩ := dn k hk
    obtain ⟨a1, a2⟩ := ltK_ok u2
    have f := (flV_ok (lp := lp) (ltK w l k)).1
    refine ⟨?_, by show 2 * flV lp (ltK w l k) + 1 < _; omega⟩
    show fDt w lp l (2 * flV lp (ltK w l k) + 1) = _
    rw [lab3, show w (ltK w l k) + 2 = k + 1 by omega]
    exact fLb_0 (by omega) u1
  have L4 : ∀ i, i < l → ∃ K x, fDt w lp l (g1 i) = 128 * K + 2 * x ∧ x < 17 ∧ 0 < cnK w K l := fun i hi => by
    obtain ⟨a1, a2⟩ := fLb_1 (t := i + 1) (s := 1) (cnK_pos (w := w) hi) hl
    exact ⟨w i + 1, _, (L1 i).trans a1, a2, cnK_pos hi⟩
  refine ⟨((List.range n).filter (upK w l)).map (fun k => 2 * ltK w l (k + 1)), fun v hvl => ?_, fDt w lp l, (List.range l).map g1 ++ (((List.range n).filter (upK w l)).map g2 ++ ((List.range n).filter (dnK w l)).map g3), fun d hd => fDt_ph hv hG hd, fun x hx => ?_, ?_, ?_⟩
  · -- every letter is reached
    have key : ∀ K i, i < l → w i + 1 = K → ∃ r, r ∈ ((List.range n).filter (upK w l)).map (fun k => 2 * ltK w l (k + 1)) ∧ r < 2 * l ∧ rch l S r (2 * i) := by
      intro K
      induction K with
      | zero => intro i hi e; omega
      | succ k ih =>
        intro i hi e
        have hp : 0 < cnK w (k + 1) l := by rw [← e]; exact cnK_pos hi
        have hwi := hw i hi
        by_cases h0 : cnK w k l = 0
        · obtain ⟨a1, a2⟩ := ltK_ok hp
          refine ⟨2 * ltK w l (k + 1), List.mem_map.mpr ⟨k, List.mem_filter.mpr ⟨List.mem_range.mpr (by omega), ?_⟩, rfl⟩, by omega, pl_reach2 (p := k) hv hG a1 hi (Or.inl (by omega)) (Or.inl (by omega))⟩
          unfold upK
          rw [decide_eq_true hp, decide_eq_true h0]
          rfl
        · obtain ⟨j, j1, j2⟩ := cnK_ex (show 0 < cnK w k l by omega)
          obtain ⟨r, r1, r2, r3⟩ := ih j j1 j2
          exact ⟨r, r1, r2, rch_tr r3 (pl_reach2 (p := k) hv hG j1 hi (Or.inr j2) (Or.inl (by omega)))⟩
    obtain ⟨r, r1, r2, r3⟩ := key _ (v / 2) (by omega) rfl
    refine ⟨r, r1, r2, rch_tr r3 ?_⟩
    rcases (show v = 2 * (v / 2) ∨ v = 2 * (v / 2) + 1 by omega) with e | e
    · rw [← e]
      exact rch_rf _ _ _
    · have r4 := rch_m (rch_rf l S (2 * (v / 2))) (by omega)
      rw [mt_ev, ← e] at r4
      exact r4
  · rcases List.mem_append.mp hx with h9 | h9
    · obtain ⟨i, hi, rfl⟩ := List.mem_map.mp h9
      have := List.mem_range.mp hi
      have f := (rsV_ok (lp := lp) i).1
      show 2 * rsV lp i < _
      omega
    · rcases List.mem_append.mp h9 with h8 | h8
      · obtain ⟨k, hk, rfl⟩ := List.mem_map.mp h8
        exact (L2 k hk).2
      · obtain ⟨k, hk, rfl⟩ := List.mem_map.mp h8
        exact (L3 k hk).2
  · unfold pm_dv
    rw [List.map_append, List.map_append, List.map_map, List.map_map, List.map_map]
    have ndr : ∀ q : Nat → Bool, ((List.range n).filter q).Nodup := fun q => List.nodup_range.filter _
    refine List.nodup_append.mpr ⟨nodup_map List.nodup_range (fun i j hi hj e => ?_), List.nodup_append.mpr ⟨nodup_map (ndr _) (fun i j hi hj e => ?_), nodup_map (ndr _) (fun i j hi hj e => ?_), fun a ha b hb e => ?_⟩, fun a ha b hb e => ?_⟩
    · have hi := List.mem_range.mp hi
      have hj := List.mem_range.mp hj
      have e : fDt w lp l (g1 i) = fDt w lp l (g1 j) := e
      rw [L1, L1] at e
      rcases Nat.lt_trichotomy i j with q | q | q
      · exact absurd e (lab1_i hl q hj)
      · exact q
      · exact absurd e.symm (lab1_i hl q hi)
    · have e : fDt w lp l (g2 i) = fDt w lp l (g2 j) := e
      rw [(L2 i hi).1, (L2 j hj).1] at e
      omega
    · have e : fDt w lp l (g3 i) = fDt w lp l (g3 j) := e
      rw [(L3 i hi).1, (L3 j hj).1] at e
      omega
    · obtain ⟨i, hi, e1⟩ := List.mem_map.mp ha
      obtain ⟨j, hj, e2⟩ := List.mem_map.mp hb
      have e1 : fDt w lp l (g2 i) = a := e1
      have e2 : fDt w lp l (g3 j) = b := e2
      rw [(L2 i hi).1] at e1
      rw [(L3 j hj).1] at e2
      omega
    · obtain ⟨i, hi, e1⟩ := List.mem_map.mp ha
      have e1 : fDt w lp l (g1 i) = a := e1
      obtain ⟨K, x, k1, k2, k3⟩ := L4 i (List.mem_range.mp hi)
      rw [k1] at e1
      rcases List.mem_append.mp hb with h9 | h9
      · obtain ⟨j, hj, e2⟩ := List.mem_map.mp h9
        have e2 : fDt w lp l (g2 j) = b := e2
        rw [(L2 j hj).1] at e2
        omega
      · obtain ⟨j, hj, e2⟩ := List.mem_map.mp h9
        have e2 : fDt w lp l (g3 j) = b := e2
        rw [(L3 j hj).1] at e2
        have : K = j + 1 := by omega
        rw [this, (dn j hj).1] at k3
        omega
  · rw [List.length_append, List.length_append, List.length_map, List.length_map, List.length_map, List.length_map, List.length_range]
    omega
end PCL
