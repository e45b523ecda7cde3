/-! what can be reached along rings and through crossings -/
def rch (c : Nat) (S : ow_NP) (v k : Nat) : Prop := ∀ D : Nat → Prop, D v → (∀ j, j < 2 * c → D j → D (S.1 j)) → (∀ j, j < 2 * c → D j → D (mt j)) → D k
theorem rch_rf (c : Nat) (S : ow_NP) (v : Nat) : rch c S v v := fun _ h _ _ => h
theorem rch_tr {c : Nat} {S : ow_NP} {a b d : Nat} (h : rch c S a b) (h2 : rch c S b d) : rch c S a d := fun D h0 hn hm => h2 D (h D h0 hn hm) hn hm
theorem rch_n {c : Nat} {S : ow_NP} {v k : Nat} (h : rch c S v k) (hk : k < 2 * c) : rch c S v (S.1 k) := fun D h0 hn hm => hn k hk (h D h0 hn hm)
theorem rch_m {c : Nat} {S : ow_NP} {v k : Nat} (h : rch c S v k) (hk : k < 2 * c) : rch c S v (mt k) := fun D h0 hn hm => hm k hk (h D h0 hn hm)
theorem rch_it {c : Nat} {S : ow_NP} (hv : vn c S) {v k : Nat} (h : rch c S v k) (hk : k < 2 * c) : ∀ i, rch c S v (it S.1 i k) := by
  intro i
  induction i with
  | zero => exact h
  | succ i ih => exact rch_n ih (it_lt hv hk i)
theorem rch_lt {c : Nat} {S : ow_NP} (hv : vn c S) {v k : Nat} (h : rch c S v k) (hvc : v < 2 * c) : k < 2 * c := h (fun k => k < 2 * c) hvc (fun j hj _ => (hv j hj).1) (fun j hj _ => mt_lt hj)
theorem mt_mt (k : Nat) : mt (mt k) = k := by
  unfold mt
  by_cases h : k % 2 = 0
  · rw [if_pos h, if_neg (by omega)]; omega
  · rw [if_neg h, if_pos (by omega)]; omega
theorem rch_back {c : Nat} {S : ow_NP} (hv : vn c S) {k : Nat} (hk : k < 2 * c) : rch c S (S.1 k) k := by
  obtain ⟨m, _, hm⟩ := ring_ex hv hk
  have h1 : it S.1 (m - 1) (S.1 k) = k := by
    have : it S.1 (m - 1 + 1) k = it S.1 (m - 1) (it S.1 1 k) := it_add S.1 k (m - 1) 1
    rw [show m - 1 + 1 = m from by have := hm.1; omega, hm.2.1] at this
    exact this.symm
  have h2 := rch_it hv (rch_rf c S (S.1 k)) (hv k hk).1 (m - 1)
  rw [h1] at h2
  exact h2
theorem rch_sy {c : Nat} {S : ow_NP} (hv : vn c S) {a b : Nat} (ha : a < 2 * c) (h : rch c S a b) : rch c S b a := h (fun k => rch c S k a) (rch_rf c S a) (fun j hj hD => rch_tr (rch_back hv hj) hD) (fun j hj hD => by
    have h1 := rch_m (rch_rf c S (mt j)) (mt_lt hj)
    rw [mt_mt] at h1
    exact rch_tr h1 hD)
/-! the machine between two rings -/
def tf_cd (P : tf_P) : Prop := (∀ x, P.num x ≠ 0 → ∃ k, k < P.names ∧ P.nam k = x) ∧ (∀ v, gn P.gone v → P.num (v / 2) ≠ 0) ∧ ∀ k, k < P.names → gn P.gone (2 * P.nam k) ∨ gn P.gone (2 * P.nam k + 1)
theorem tf_vis_nam {G : Nat → Int32} {P : tf_P} {v k : Nat} (hk : k < P.names) : (tf_vis G P v).nam k = P.nam k := by
  show (tf_name P (v / 2)).nam k = P.nam k
  unfold tf_name
  split
  · exact nu_ne _ _ (by omega)
  · rfl
theorem tf_vis_names {G : Nat → Int32} {P : tf_P} {v : Nat} : P.names ≤ (tf_vis G P v).names := by
  show P.names ≤ (tf_name P (v / 2)).names
  unfold tf_name
  split
  · exact Nat.le_succ _
  · exact Nat.le_refl _
theorem tf_vis_cd {G : Nat → Int32} {P : tf_P} {v : Nat} (h : tf_cd P) : tf_cd (tf_vis G P v) := by
  have hg : ∀ k, gn (tf_vis G P v).gone k ↔ gn P.gone k ∨ k = v := fun k => gn_or _ _ _
  have hv2 : v = 2 * (v / 2) ∨ v = 2 * (v / 2) + 1 := by omega
  unfold tf_cd
  have hnum : (tf_vis G P v).num = (tf_name P (v / 2)).num := rfl
  have hnam : (tf_vis G P v).nam = (tf_name P (v / 2)).nam := rfl
  have hnms : (tf_vis G P v).names = (tf_name P (v / 2)).names := rfl
  by_cases e : P.num (v / 2) = 0
  · have hn : tf_name P (v / 2) = (nu P.num (v / 2) (P.names + 1), nu P.nam P.names (v / 2), P.names + 1, P.gone, P.T, P.len) := if_pos e
    rw [hnum, hnam, hnms, hn]
    refine ⟨fun x hx => ?_, fun w hw => ?_, fun k hk => ?_⟩
    · by_cases e2 : x = v / 2
      · exact ⟨P.names, Nat.lt_succ_self _, by rw [e2]; exact nu_same _ _ _⟩
      · have hx : P.num x ≠ 0 := by
          have : nu P.num (v / 2) (P.names + 1) x = P.num x := nu_ne _ _ e2
          rw [← this]; exact hx
        obtain ⟨k, hk, hk2⟩ := h.1 x hx
        exact ⟨k, Nat.lt_succ_of_lt hk, by rw [← hk2]; exact nu_ne _ _ (by omega)⟩
    · show nu P.num (v / 2) (P.names + 1) (w / 2) ≠ 0
      by_cases e2 : w / 2 = v / 2
      · rw [e2, nu_same]; exact Nat.succ_ne_zero _
      · rw [nu_ne _ _ e2]
        rcases (hg w).mp hw with q | q
        · exact h.2.1 w q
        · exact absurd (by rw [q]) e2
    · show gn _ (2 * nu P.nam P.names (v / 2) k) ∨ gn _ (2 * nu P.nam P.names (v / 2) k + 1)
      rw [hg, hg]
      have hk : k < P.names + 1 := hk
      by_cases e2 : k = P.names
      · rw [e2, nu_same]
        rcases hv2 with q | q
        · exact Or.inl (Or.inr q.symm)
        · exact Or.inr (Or.inr q.symm)
      · rw [nu_ne _ _ e2]
        rcases h.2.2 k (by omega) with q | q
        · exact Or.inl (Or.inl q)
        · exact Or.inr (Or.inl q)
  · have hn : tf_name P (v / 2) = P := if_neg e
    rw [hnum, hnam, hnms, hn]
    refine ⟨h.1, fun w hw => ?_, fun k hk => ?_⟩
    · rcases (hg w).mp hw with q | q
      · exact h.2.1 w q
      · rw [q]; exact e
    · rw [hg, hg]
      rcases h.2.2 k hk with q | q
      · exact Or.inl (Or.inl q)
      · exact Or.inr (Or.inl q)
theorem tf_ring_cd {G : Nat → Int32} {N : Nat → Nat} {f : Nat} : ∀ (d v : Nat) (P : tf_P), tf_cd P → tf_cd (tf_ring G N f d v P) ∧ P.names ≤ (tf_ring G N f d v P).names ∧ ∀ k, k < P.names → (tf_ring G N f d v P).nam k = P.nam k := by
  intro d
  induction d with
  | zero => intro v P h; exact ⟨h, Nat.le_refl _, fun _ _ => rfl⟩
  | succ d ih =>
    intro v P h
    rw [tf_ring]
    split
    · exact ⟨tf_vis_cd h, tf_vis_names, fun k hk => tf_vis_nam hk⟩
    · obtain ⟨h1, h2, h3⟩ := ih (N v) (tf_vis G P v) (tf_vis_cd h)
      exact ⟨h1, Nat.le_trans tf_vis_names h2, fun k hk => (h3 k (Nat.lt_of_lt_of_le hk tf_vis_names)).trans (tf_vis_nam hk)⟩
/-- where the next ring begins -/
theorem tf_look_ok {P : tf_P} : ∀ (d k : Nat), (∀ j, k ≤ j → j < k + d → gn P.gone (2 * P.nam j) ∨ gn P.gone (2 * P.nam j + 1)) → ((tf_look P d k).1 = none ∧ (tf_look P d k).2 = k + d ∧ ∀ j, k ≤ j → j < k + d → gn P.gone (2 * P.nam j) ∧ gn P.gone (2 * P.nam j + 1)) ∨ ∃ f j, (tf_look P d k).1 = some f ∧ (tf_look P d k).2 = j + 1 ∧ k ≤ j ∧ j < k + d ∧ ¬ gn P.gone f ∧ gn P.gone (mt f) ∧ f / 2 = P.nam j ∧ ∀ i, k ≤ i → i < j → gn P.gone (2 * P.nam i) ∧ gn P.gone (2 * P.nam i + 1) := by
  intro d
  induction d with
  | zero => intro k _; exact Or.inl ⟨rfl, rfl, fun j h1 h2 => by omega⟩
  | succ d ih =>
    intro k h
    have h0 := h k (Nat.le_refl k) (by omega)
    rw [tf_look]
    by_cases e1 : P.gone / 2 ^ (2 * P.nam k) % 2 = 0
    · rw [if_pos e1]
      have n1 := gn_not.mpr e1
      refine Or.inr ⟨2 * P.nam k, k, rfl, rfl, Nat.le_refl k, by omega, n1, ?_, by omega, fun i h1 h2 => by omega⟩
      have : mt (2 * P.nam k) = 2 * P.nam k + 1 := if_pos (by omega)
      rw [this]
      exact h0.resolve_left n1
    · rw [if_neg e1]
      have y1 : gn P.gone (2 * P.nam k) := Classical.byContradiction (fun q => e1 (gn_not.mp q))
      by_cases e2 : P.gone / 2 ^ (2 * P.nam k + 1) % 2 = 0
      · rw [if_pos e2]
        refine Or.inr ⟨2 * P.nam k + 1, k, rfl, rfl, Nat.le_refl k, by omega, gn_not.mpr e2, ?_, by omega, fun i h1 h2 => by omega⟩
        have : mt (2 * P.nam k + 1) = 2 * P.nam k := by
          unfold mt
          rw [if_neg (by omega)]; omega
        rw [this]; exact y1
      · rw [if_neg e2]
        have y2 : gn P.gone (2 * P.nam k + 1) := Classical.byContradiction (fun q => e2 (gn_not.mp q))
        rcases ih (k + 1) (fun j h1 h2 => h j (by omega) (by omega)) with ⟨a1, a2, a3⟩ | ⟨f, j, a1, a2, a3, a4, a5, a6, a7, a8⟩
        · refine Or.inl ⟨a1, by rw [a2]; omega, fun j h1 h2 => ?_⟩
          rcases Nat.lt_or_ge k j with q | q
          · exact a3 j q (by omega)
          · have : j = k := by omega
            rw [this]; exact ⟨y1, y2⟩
        · refine Or.inr ⟨f, j, a1, a2, by omega, by omega, a5, a6, a7, fun i h1 h2 => ?_⟩
          rcases Nat.lt_or_ge k i with q | q
          · exact a8 i q h2
          · have : i = k := by omega
            rw [this]; exact ⟨y1, y2⟩
