/-! the code from a start: as long as its part has visits and rings -/
def tf_iv (c : Nat) (S : ow_NP) (v0 : Nat) (P : tf_P) : Prop := (∀ k, gn P.gone k → k < 2 * c ∧ rch c S v0 k) ∧ (∀ k, gn P.gone k → gn P.gone (S.1 k)) ∧ tf_cd P ∧ P.len = cntB (gnB P.gone) (2 * c) + cntB (fun k => gnB P.gone k && lst S.1 k 24) (2 * c)
theorem gn_it {S : ow_NP} {g : Nat} (h : ∀ k, gn g k → gn g (S.1 k)) {k : Nat} (hk : gn g k) : ∀ i, gn g (it S.1 i k) := by
  intro i
  induction i with
  | zero => exact hk
  | succ i ih => exact h _ ih
theorem mt_half (f : Nat) : mt f / 2 = f / 2 := by
  unfold mt
  split <;> omega
theorem mt_cases (f x : Nat) (h : f / 2 = x) : (2 * x = f ∧ 2 * x + 1 = mt f) ∨ (2 * x = mt f ∧ 2 * x + 1 = f) := by
  unfold mt
  by_cases e : f % 2 = 0
  · rw [if_pos e]; omega
  · rw [if_neg e]; omega
theorem tf_ring_iv {c : Nat} {S : ow_NP} {G : Nat → Int32} (h : vn c S) (hc : c ≤ 12) {v0 f : Nat} {P : tf_P} (hi : tf_iv c S v0 P) (hf : f < 2 * c) (hr : rch c S v0 f) (hn : ¬ gn P.gone f) : tf_iv c S v0 (tf_sep (tf_ring G S.1 f 24 f P)) ∧ gn (tf_ring G S.1 f 24 f P).gone f ∧ (∀ k, gn P.gone k → gn (tf_ring G S.1 f 24 f P).gone k) ∧ cntB (gnB P.gone) (2 * c) + 1 ≤ cntB (gnB (tf_ring G S.1 f 24 f P).gone) (2 * c) := by
  obtain ⟨i1, i2, i3, i4⟩ := hi
  obtain ⟨m, hmc, hm⟩ := ring_ex h hf
  have hm1 := hm.1
  have hno : ∀ j, 0 ≤ j → j < m → ¬ gn P.gone (it S.1 j f) := fun j _ hj q => by
    have h1 := gn_it i2 q (m - j)
    rw [← it_add, show m - j + j = m from by omega, hm.2.1] at h1
    exact hn h1
  have hg := tf_ring_gn (G := G) h hf hm 24 0 P (by omega) (by omega)
  have hcn := tf_ring_cnt (G := G) h hf hm 24 0 P (by omega) (by omega) hno
  have e0 : it S.1 0 f = f := rfl
  rw [e0] at hg hcn
  obtain ⟨hl, hg⟩ := hg
  obtain ⟨w, hw, ⟨jw, hjw, ew⟩, hwl⟩ := ring_least h hc hf hm hmc
  have hcd := (tf_ring_cd (G := G) (N := S.1) (f := f) 24 f P i3).1
  have hL : cntB (fun k => gnB (tf_ring G S.1 f 24 f P).gone k && lst S.1 k 24) (2 * c) = cntB (fun k => gnB P.gone k && lst S.1 k 24) (2 * c) + 1 := by
    rw [cntB_add (q := fun k => gnB P.gone k && lst S.1 k 24) (w := w) (by
      show (gnB P.gone w && lst S.1 w 24) = false
      rw [gnB_f.mpr (by rw [ew]; exact hno jw (Nat.zero_le _) hjw), Bool.false_and]) (2 * c) (fun k _ => ?_), if_pos hw]
    show (gnB (tf_ring G S.1 f 24 f P).gone k && lst S.1 k 24) = ((gnB P.gone k && lst S.1 k 24) || decide (k = w))
    rw [Bool.eq_iff_iff, Bool.or_eq_true, Bool.and_eq_true, Bool.and_eq_true, gnB_t, gnB_t, decide_eq_true_eq, hg]
    constructor
    · rintro ⟨q | ⟨j, _, hj, q⟩, r⟩
      · exact Or.inl ⟨q, r⟩
      · exact Or.inr ((hwl k ⟨j, hj, q⟩).mp r)
    · rintro (⟨q, r⟩ | q)
      · exact ⟨Or.inl q, r⟩
      · exact ⟨Or.inr ⟨jw, Nat.zero_le _, hjw, q.trans ew⟩, (hwl k ⟨jw, hjw, q.trans ew⟩).mpr q⟩
  refine ⟨⟨fun k hk => ?_, fun k hk => ?_, hcd, ?_⟩, (hg f).mpr (Or.inr ⟨0, Nat.le_refl 0, by omega, rfl⟩), fun k hk => (hg k).mpr (Or.inl hk), by rw [hcn]; omega⟩
  · rcases (hg k).mp hk with q | ⟨j, _, hj, q⟩
    · exact i1 k q
    · rw [q]; exact ⟨it_lt h hf j, rch_it h hr hf j⟩
  · refine (hg _).mpr ?_
    rcases (hg k).mp hk with q | ⟨j, _, hj, q⟩
    · exact Or.inl (i2 k q)
    · rcases Nat.lt_or_ge (j + 1) m with r | r
      · exact Or.inr ⟨j + 1, Nat.zero_le _, r, by rw [q]; rfl⟩
      · have e1 : j + 1 = m := by omega
        refine Or.inr ⟨0, Nat.le_refl 0, by omega, ?_⟩
        rw [q]
        show it S.1 (j + 1) f = f
        rw [e1]; exact hm.2.1
  · show (tf_ring G S.1 f 24 f P).len + 1 = cntB (gnB (tf_ring G S.1 f 24 f P).gone) (2 * c) + cntB (fun k => gnB (tf_ring G S.1 f 24 f P).gone k && lst S.1 k 24) (2 * c)
    rw [hl, hcn, hL, i4]; omega
theorem tf_out_iv {c : Nat} {S : ow_NP} {G : Nat → Int32} (h : vn c S) (hc : c ≤ 12) {v0 : Nat} : ∀ (d : Nat) (fo : Option Nat) (k : Nat) (P : tf_P), tf_iv c S v0 P → k ≤ P.names → 2 * c ≤ cntB (gnB P.gone) (2 * c) + d → ((fo = none ∧ k = P.names ∧ ∀ j, j < k → gn P.gone (2 * P.nam j) ∧ gn P.gone (2 * P.nam j + 1)) ∨ ∃ f, fo = some f ∧ ¬ gn P.gone f ∧ f < 2 * c ∧ rch c S v0 f ∧ ∀ j, j < k → (gn P.gone (2 * P.nam j) ∧ gn P.gone (2 * P.nam j + 1)) ∨ (f / 2 = P.nam j ∧ gn P.gone (mt f))) → tf_iv c S v0 (tf_out G S.1 d fo k P) ∧ (∀ j, gn (tf_out G S.1 d fo k P).gone j → gn (tf_out G S.1 d fo k P).gone (mt j)) ∧ (∀ j, gn P.gone j → gn (tf_out G S.1 d fo k P).gone j) ∧ ∀ f, fo = some f → gn (tf_out G S.1 d fo k P).gone f := by
  intro d
  induction d with
  | zero =>
    intro fo k P hi hk hm hfo
    have hall := cntB_all (q := gnB P.gone) (2 * c) (by omega)
    refine ⟨hi, fun j hj => gnB_t.mp (hall _ (mt_lt (hi.1 j hj).1)), fun j hj => hj, fun f hf => ?_⟩
    rcases hfo with ⟨q, _⟩ | ⟨f2, q, _, hf2, _⟩
    · rw [q] at hf; cases hf
    · rw [q] at hf
      rw [← Option.some.inj hf]
      exact gnB_t.mp (hall f2 hf2)
  | succ d ih =>
    intro fo k P hi hk hm hfo
    rcases hfo with ⟨q, hkn, hcm⟩ | ⟨f, q, hn, hf, hr, hcm⟩
    · rw [q]
      refine ⟨hi, fun j hj => ?_, fun j hj => hj, fun f hf => by cases hf⟩
      obtain ⟨x, hx, ex⟩ := hi.2.2.1.1 _ (hi.2.2.1.2.1 j hj)
      have hb := hcm x (by omega)
      rw [ex] at hb
      show gn P.gone (mt j)
      rcases mt_cases j (j / 2) rfl with ⟨_, e⟩ | ⟨e, _⟩
      · rw [← e]; exact hb.2
      · rw [← e]; exact hb.1
    · rw [q]
      obtain ⟨a1, a2, a3, a4⟩ := tf_ring_iv (G := G) h hc hi hf hr hn
      obtain ⟨_, b2, b3⟩ := tf_ring_cd (G := G) (N := S.1) (f := f) 24 f P hi.2.2.1
      have hcd2 : tf_cd (tf_sep (tf_ring G S.1 f 24 f P)) := a1.2.2.1
      have hg2 : (tf_sep (tf_ring G S.1 f 24 f P)).gone = (tf_ring G S.1 f 24 f P).gone := rfl
      have hn2 : (tf_sep (tf_ring G S.1 f 24 f P)).nam = (tf_ring G S.1 f 24 f P).nam := rfl
      have hs2 : (tf_sep (tf_ring G S.1 f 24 f P)).names = (tf_ring G S.1 f 24 f P).names := rfl
      have hdone : ∀ j, j < k → gn (tf_sep (tf_ring G S.1 f 24 f P)).gone (2 * (tf_sep (tf_ring G S.1 f 24 f P)).nam j) ∧ gn (tf_sep (tf_ring G S.1 f 24 f P)).gone (2 * (tf_sep (tf_ring G S.1 f 24 f P)).nam j + 1) := by
        intro j hj
        rw [hg2, hn2, b3 j (by omega)]
        rcases hcm j hj with r | ⟨r1, r2⟩
        · exact ⟨a3 _ r.1, a3 _ r.2⟩
        · rcases mt_cases f _ r1 with ⟨e1, e2⟩ | ⟨e1, e2⟩
          · rw [e2, e1]; exact ⟨a2, a3 _ r2⟩
          · rw [e2, e1]; exact ⟨a3 _ r2, a2⟩
      have hstep : tf_out G S.1 (d + 1) (some f) k P = tf_out G S.1 d (tf_look (tf_sep (tf_ring G S.1 f 24 f P)) ((tf_sep (tf_ring G S.1 f 24 f P)).names - k) k).1 (tf_look (tf_sep (tf_ring G S.1 f 24 f P)) ((tf_sep (tf_ring G S.1 f 24 f P)).names - k) k).2 (tf_sep (tf_ring G S.1 f 24 f P)) := rfl
      have hkn : k ≤ (tf_sep (tf_ring G S.1 f 24 f P)).names := by rw [hs2]; omega
      have hmes : 2 * c ≤ cntB (gnB (tf_sep (tf_ring G S.1 f 24 f P)).gone) (2 * c) + d := by rw [hg2]; omega
      rw [hstep]
      generalize tf_sep (tf_ring G S.1 f 24 f P) = P2 at *
      have hlk := tf_look_ok (P := P2) (P2.names - k) k (fun j _ h2 => hcd2.2.2 j (by omega))
      have fin : ∀ R : tf_P, (tf_iv c S v0 R ∧ (∀ j, gn R.gone j → gn R.gone (mt j)) ∧ (∀ j, gn P2.gone j → gn R.gone j)) → tf_iv c S v0 R ∧ (∀ j, gn R.gone j → gn R.gone (mt j)) ∧ (∀ j, gn P.gone j → gn R.gone j) ∧ ∀ f9, some f = some f9 → gn R.gone f9 := fun R ⟨r1, r2, r3⟩ => ⟨r1, r2, fun j hj => r3 j (by rw [hg2]; exact a3 j hj), fun f9 h9 => by rw [← Option.some.inj h9]; exact r3 f (by rw [hg2]; exact a2)⟩
      rcases hlk with ⟨c1, c2, c3⟩ | ⟨f2, j2, c1, c2, c3, c4, c5, c6, c7, c8⟩
      · obtain ⟨r1, r2, r3, _⟩ := ih (tf_look P2 (P2.names - k) k).1 (tf_look P2 (P2.names - k) k).2 P2 a1 (by rw [c2]; omega) hmes (Or.inl ⟨c1, by rw [c2]; omega, fun j hj => by
          rcases Nat.lt_or_ge j k with r | r
          · exact hdone j r
          · exact c3 j r (by rw [c2] at hj; exact hj)⟩)
        exact fin _ ⟨r1, r2, r3⟩
      · have hlt : mt f2 < 2 * c := (a1.1 _ c6).1
        have hf2 : f2 < 2 * c := by have := mt_lt hlt; rw [mt_mt] at this; exact this
        have hr2 : rch c S v0 f2 := by have := rch_m (a1.1 _ c6).2 hlt; rw [mt_mt] at this; exact this
        obtain ⟨r1, r2, r3, _⟩ := ih (tf_look P2 (P2.names - k) k).1 (tf_look P2 (P2.names - k) k).2 P2 a1 (by rw [c2]; omega) hmes (Or.inr ⟨f2, c1, c5, hf2, hr2, fun j hj => by
          rw [c2] at hj
          rcases Nat.lt_or_ge j k with r | r
          · exact Or.inl (hdone j r)
          · rcases Nat.lt_or_ge j j2 with s1 | s1
            · exact Or.inl (c8 j r s1)
            · have : j = j2 := by omega
              rw [this]; exact Or.inr ⟨c7, c6⟩⟩)
        exact fin _ ⟨r1, r2, r3⟩
theorem gn_0 (k : Nat) : ¬ gn 0 k := by
  unfold gn
  rw [Nat.zero_div]
  decide
theorem cntB_0 {q : Nat → Bool} (h : ∀ k, q k = false) : ∀ n, cntB q n = 0 := by
  intro n
  induction n with
  | zero => rfl
  | succ n ih => rw [cntB, ih, h n]; rfl
/-- the code from v sees just what can be reached from v -/
theorem tf_code_iv {c : Nat} {S : ow_NP} (G : Nat → Int32) (h : vn c S) (hc : c ≤ 12) {v : Nat} (hv : v < 2 * c) : tf_iv c S v (tf_code G S.1 v) ∧ ∀ k, gn (tf_code G S.1 v).gone k ↔ rch c S v k := by
  have h0 : tf_iv c S v tf_0 := by
    have e1 : cntB (gnB tf_0.gone) (2 * c) = 0 := cntB_0 (fun k => gnB_f.mpr (gn_0 k)) _
    have e2 : cntB (fun k => gnB tf_0.gone k && lst S.1 k 24) (2 * c) = 0 := cntB_0 (fun k => by show (gnB 0 k && lst S.1 k 24) = false; rw [gnB_f.mpr (gn_0 k)]; rfl) _
    refine ⟨fun k hk => absurd hk (gn_0 k), fun k hk => absurd hk (gn_0 k), ⟨fun x hx => absurd rfl hx, fun w hw => absurd hw (gn_0 w), fun k hk => absurd hk (Nat.not_lt_zero k)⟩, ?_⟩
    rw [e1, e2]; rfl
  obtain ⟨r1, r2, _, r4⟩ := tf_out_iv (G := G) h hc 24 (some v) 0 tf_0 h0 (Nat.le_refl 0) (by omega) (Or.inr ⟨v, rfl, gn_0 v, hv, rch_rf c S v, fun j hj => absurd hj (Nat.not_lt_zero j)⟩)
  exact ⟨r1, fun k => ⟨fun q => (r1.1 k q).2, fun q => q (fun k => gn (tf_code G S.1 v).gone k) (r4 v rfl) (fun j _ hj => r1.2.1 j hj) (fun j _ hj => r2 j hj)⟩⟩
/-- all starts of a part give codes of one length -/
theorem tf_len_eq {c : Nat} {S : ow_NP} (G : Nat → Int32) (h : vn c S) (hc : c ≤ 12) {v w : Nat} (hv : v < 2 * c) (hw : w < 2 * c) (hr : rch c S v w) : (tf_code G S.1 v).len = (tf_code G S.1 w).len := by
  obtain ⟨a1, a2⟩ := tf_code_iv G h hc hv
  obtain ⟨b1, b2⟩ := tf_code_iv G h hc hw
  have key : ∀ k, gnB (tf_code G S.1 v).gone k = gnB (tf_code G S.1 w).gone k := fun k => by
    rw [Bool.eq_iff_iff, gnB_t, gnB_t, a2, b2]
    exact ⟨fun q => rch_tr (rch_sy h hv hr) q, fun q => rch_tr hr q⟩
  rw [a1.2.2.2, b1.2.2.2, cntB_cg (2 * c) (fun k _ => key k), cntB_cg (q := fun k => gnB (tf_code G S.1 v).gone k && lst S.1 k 24) (r := fun k => gnB (tf_code G S.1 w).gone k && lst S.1 k 24) (2 * c) (fun k _ => by rw [key k])]
