-- CHAIN: R2 in lists
section XCHY
variable {A : rn_L} {sg : Nat → Bool} {nm : Nat → Nat} {n k X Y : Nat} {s : Nat → Bool} {L L0 L1 : List vT} {r r' r0 r0' r1 r1' q : vT} {p d b : Int}
theorem pr_bf (hn : A.flatten.Nodup) (hL : L ∈ A) (hr : r ∈ L) (e : sc L r = r') (hq : q ∈ A.flatten) (h : prA9 A q = r) : q = r' := by
  obtain ⟨N, hN, hqN⟩ := List.mem_flatten.mp hq
  obtain ⟨m1, m2⟩ := prA_of hn hN hqN
  rw [h] at m1 m2
  rw [← m2, same_L hn hL hN hr m1]
  exact e
theorem gX_n (hb : bdA A) (h : bgO A L0 L1 X Y r0 r0' r1 r1') {g : Nat} (hg : gX9 A [(r0, r0'), (r1, r1')] g) : gG9 A g ∧ g ≠ gV9 r0 ∧ g ≠ gV9 r1 := by
  have u2 : ∀ p, p ∈ A.flatten → p.2 < 2 := fun p hp => (hb.2.1 p hp).2
  obtain ⟨⟨i0, -⟩, i1, -⟩ := bg_in hb h
  rcases hg with ⟨p, p1, p2, p3⟩ | ⟨i, i1', i2, i3⟩
  · rw [p3]
    exact ⟨Or.inl ⟨p, p1, rfl⟩, fun h9 => p2 (r0, r0') List.mem_cons_self (gA_inj (u2 _ p1) (u2 _ i0) h9), fun h9 => p2 (r1, r1') (List.mem_cons_of_mem _ List.mem_cons_self) (gA_inj (u2 _ p1) (u2 _ i1) h9)⟩
  · have := gV_lt hb i0
    have := gV_lt hb i1
    exact ⟨Or.inr ⟨i, i1', i2, i3⟩, by omega, by omega⟩
theorem bg_pa (hb : bdA A) (hO : nmO A nm (n + 2)) (h : bgO A L0 L1 (nm n) (nm (n + 1)) r0 r0' r1 r1') (hs : bgS sg (nm n) (nm (n + 1)) r0 r1) {Q1 Q2 : Nat → Nat} (hQ : ∀ y, y < n → Q1 y = gV9 (nm y, 0) ∧ Q2 y = gV9 (prA9 A (nm y, 0))) : phi9 n (fun g => gG9 A g ∧ g ≠ gV9 r1) (gX9 A [(r0, r0'), (r1, r1')]) Q1 Q2 Q2 (fun y => gV9 (nm y, 0)) (fun y => gV9 (prA9 A (nm y, 0))) (fun y => gV9 (prA9 A (nm y, 0))) (fun s => rdp9 (gV9 r1) (relL9 A sg nm (n + 2)) (on9 s (n + 1))) (relX9 A sg nm n [(r0, r0'), (r1, r1')]) (fun g => g) := by
  obtain ⟨x1, -, -, -, x8, x9⟩ := bg_six hb h
  obtain ⟨⟨i0, -⟩, i1, i1'⟩ := bg_in hb h
  obtain ⟨z0, z0', z1, z1', n0, n1, -⟩ := bg_kd h
  have u2 : ∀ p, p ∈ A.flatten → p.2 < 2 := fun p hp => (hb.2.1 p hp).2
  refine ⟨fun g hg => ⟨(gX_n hb h hg).1, (gX_n hb h hg).2.2⟩, fun s hs0 => ?_⟩
  have E := lst_e (jp9 A sg nm (n + 2) (on9 s (n + 1)))
  have s1 : on9 s (n + 1) n = false := by
    rw [on_o (by omega)]
    exact hs0 n (Nat.le_refl n)
  have s2 : on9 s (n + 1) (n + 1) = true := on_x
  refine ⟨fun g k hg hk => ?_, fun g hg => ?_, fun x hx => ?_⟩
  · obtain ⟨-, g1, g2⟩ := gX_n hb h hg
    obtain ⟨-, k1, k2⟩ := gX_n hb h hk
    rw [bg_rel hb hO h hs s1 s2 (fun y hy => (on_o (by omega)).symm) ⟨g1, g2⟩ ⟨k1, k2⟩]
    exact (rdp_y (rel := relL9 A sg nm (n + 2)) (s := on9 s (n + 1)) E g2 k2).symm
  · by_cases c : g = gV9 r0
    · refine ⟨gV9 r1', Or.inl ⟨r1', i1', fun z hz => ?_, rfl⟩, ?_⟩
      · rcases List.mem_cons.mp hz with e | e
        · rw [e]
          exact fun h9 => by
            have := congrArg Prod.snd h9
            simp only [] at this
            omega
        · rw [List.mem_singleton.mp e]
          exact fun h9 => n1 h9.symm
      · obtain ⟨-, -, -, j4⟩ := bg_ht hb h hs
        rw [c]
        refine Or.inr ⟨x1, x9, ?_⟩
        rcases j4 with j | j
        · exact lst_i ⟨n, by omega, by rw [s1]; exact j⟩
        · exact lst_i ⟨n + 1, by omega, by rw [s2]; exact j⟩
    · refine ⟨g, ?_, Or.inl rfl⟩
      rcases hg with ⟨⟨p, p1, p2⟩ | h9, hne⟩
      · refine Or.inl ⟨p, p1, fun z hz => ?_, p2⟩
        rcases List.mem_cons.mp hz with e | e
        · rw [e]
          exact fun h9 => c (by rw [p2, h9])
        · rw [List.mem_singleton.mp e]
          exact fun h9 => hne (by rw [p2, h9])
      · exact Or.inr h9
  · obtain ⟨e1, e2⟩ := hQ x hx
    exact ⟨Or.inl e1, Or.inl e2, Or.inl e2⟩
/-- both pairs of visits out -/
theorem bg_pb (hb : bdA A) (hO : nmO A nm (n + 2)) (h : bgO A L0 L1 (nm n) (nm (n + 1)) r0 r0' r1 r1') : phi9 n (gX9 A [(r0, r0'), (r1, r1')]) (gG9 (rmv (rmv (rmv (rmv A r0) r0') r1) r1')) (fun y => gV9 (nm y, 0)) (fun y => gV9 (prA9 A (nm y, 0))) (fun y => gV9 (prA9 A (nm y, 0))) (fun y => gV9 (nm y, 0)) (fun y => gV9 (prA9 (rmv (rmv (rmv (rmv A r0) r0') r1) r1') (nm y, 0))) (fun y => gV9 (prA9 (rmv (rmv (rmv (rmv A r0) r0') r1) r1') (nm y, 0))) (relX9 A sg nm n [(r0, r0'), (r1, r1')]) (relL9 (rmv (rmv (rmv (rmv A r0) r0') r1) r1') sg nm n) (fun g => fmv9 A r0' (fmv9 (rmv (rmv A r0) r0') r1' g)) := by
  obtain ⟨z0, z0', z1, z1', n0, n1, -⟩ := bg_kd h
  have n2 : ∀ q q' : vT, q.2 ≠ q'.2 → q ≠ q' := fun q q' h1 h9 => h1 (congrArg Prod.snd h9)
  have d1 : r1 ≠ r0 := n2 _ _ (by omega)
  have d2 : r1 ≠ r0' := n2 _ _ (by omega)
  have d3 : r1' ≠ r0 := n2 _ _ (by omega)
  have d4 : r1' ≠ r0' := n2 _ _ (by omega)
  have hb1 : bdA (rmv (rmv A r0) r0') := rm_bd hb
  obtain ⟨⟨a1, a2, a3⟩, ⟨b1, b2, b3⟩, -⟩ := id h
  have hn1 := L_nd hb.1 b1
  have hL1 : (L1.filter (fun q => decide (q ≠ r0))).filter (fun q => decide (q ≠ r0')) ∈ rmv (rmv A r0) r0' := List.mem_map.mpr ⟨_, List.mem_map.mpr ⟨L1, b1, rfl⟩, rfl⟩
  have m1 : r1 ∈ L1.filter (fun q => decide (q ≠ r0)) := List.mem_filter.mpr ⟨b2, decide_eq_true d1⟩
  have m2 : r1 ∈ (L1.filter (fun q => decide (q ≠ r0))).filter (fun q => decide (q ≠ r0')) := List.mem_filter.mpr ⟨m1, decide_eq_true d2⟩
  have s1 : sc ((L1.filter (fun q => decide (q ≠ r0))).filter (fun q => decide (q ≠ r0'))) r1 = r1' := by
    rw [sc_fil (hn1.filter _) m1 d2, sc_fil hn1 b2 d1, b3, if_neg d3, if_neg d4]
  have en := fun {y u : Nat} (hy : y < n) (hu : u < 2) => bg_end hb hO h hy hu
  have R1 := rmP (sg := sg) (nm := nm) (n := n) (ps := [(r1, r1')]) hb a1 a2 a3 n0 (fun z hz => by
    rw [List.mem_singleton.mp hz]
    exact ⟨L1, b1, b2, b3, n1⟩) (fun z hz => by
    rw [List.mem_singleton.mp hz]
    exact ⟨⟨d1, d2⟩, d3, d4⟩) (fun y u hy hu => ⟨(en hy hu).1, (en hy hu).2.1.1, (en hy hu).2.1.2.1⟩)
  have R2 := rmP (A := rmv (rmv A r0) r0') (sg := sg) (nm := nm) (n := n) (ps := []) hb1 hL1 m2 s1 n1 (fun z hz => absurd hz List.not_mem_nil) (fun z hz => absurd hz List.not_mem_nil) (fun y u hy hu => ⟨rm_in.mpr ⟨(en hy hu).1, (en hy hu).2.1.1, (en hy hu).2.1.2.1⟩, (en hy hu).2.1.2.2.1, (en hy hu).2.1.2.2.2⟩)
  have i1 : ∀ y, y < n → (nm y, 0) ∈ (rmv (rmv A r0) r0').flatten := fun y hy => rm_in.mpr ⟨(en hy (show 0 < 2 by omega)).1, (en hy (show 0 < 2 by omega)).2.1.1, (en hy (show 0 < 2 by omega)).2.1.2.1⟩
  have i2 : ∀ y, y < n → (nm y, 0) ∈ (rmv (rmv (rmv (rmv A r0) r0') r1) r1').flatten := fun y hy => rm_in.mpr ⟨i1 y hy, (en hy (show 0 < 2 by omega)).2.1.2.2.1, (en hy (show 0 < 2 by omega)).2.1.2.2.2⟩
  have nz : ∀ y, y < n → (nm y, 0) ≠ r1' := fun y hy => (en hy (show 0 < 2 by omega)).2.1.2.2.2
  have C := ph_cmp (fun s => lst_e _) R1 R2 (fun x hx => by
    have q1 : gX9 (rmv (rmv A r0) r0') [(r1, r1')] (gV9 (nm x, 0)) := Or.inl ⟨_, i1 x hx, fun z hz => by
      rw [List.mem_singleton.mp hz]
      exact (en hx (show 0 < 2 by omega)).2.1.2.2.1, rfl⟩
    have q2 : gX9 (rmv (rmv A r0) r0') [(r1, r1')] (gV9 (prA9 (rmv (rmv A r0) r0') (nm x, 0))) := Or.inl ⟨_, prA_in hb1.1 (i1 x hx), fun z hz => by
      rw [List.mem_singleton.mp hz]
      exact fun h9 => nz x hx (pr_bf hb1.1 hL1 m2 s1 (i1 x hx) h9), rfl⟩
    exact ⟨q1, q2, q2⟩) (fun x hx => by
    have q1 : gX9 (rmv (rmv (rmv (rmv A r0) r0') r1) r1') [] (gV9 (nm x, 0)) := Or.inl ⟨_, i2 x hx, fun z hz => absurd hz List.not_mem_nil, rfl⟩
    have q2 : gX9 (rmv (rmv (rmv (rmv A r0) r0') r1) r1') [] (gV9 (prA9 (rmv (rmv (rmv (rmv A r0) r0') r1) r1') (nm x, 0))) := Or.inl ⟨_, prA_in (rm_bd hb1).1 (i2 x hx), fun z hz => absurd hz List.not_mem_nil, rfl⟩
    exact ⟨q1, q2, q2⟩)
  exact ph_cg (fun _ => Iff.rfl) gX_0 (fun x _ => ⟨rfl, rfl, rfl⟩) (fun x _ => ⟨rfl, rfl, rfl⟩) (fun s _ g h => Iff.rfl) (fun s _ => rX_0 s) C
/-- R2 in lists -/
theorem cR2 {r9 : Nat} (hp : pr9 p) (hi : iv9 p) (hk : 1 ≤ k) (hb : bdA A) (hO : nmO A nm (n + 2)) (h : bgO A L0 L1 (nm n) (nm (n + 1)) r0 r0' r1 r1') (hs : bgS sg (nm n) (nm (n + 1)) r0 r1) (hC : cuL9 A sg nm (n + 2)) (hC' : cuL9 (rmv (rmv (rmv (rmv A r0) r0') r1) r1') sg nm n) (hB : bL9 p A sg nm (n + 2) k d r9 b) : bL9 p (rmv (rmv (rmv (rmv A r0) r0') r1) r1') sg nm n (k + 1) (d - 1) r9 b := by
  have u2 : ∀ p, p ∈ A.flatten → p.2 < 2 := fun p hp => (hb.2.1 p hp).2
  obtain ⟨x1, ⟨x2, x3⟩, ⟨x4, x5⟩, ⟨x6, x7⟩, x8, x9⟩ := bg_six hb h
  obtain ⟨⟨i0, i0'⟩, i1, i1'⟩ := bg_in hb h
  obtain ⟨p0, p1⟩ := bg_pr hb h
  obtain ⟨z0, z0', z1, z1', n0, n1, k0, k0', -⟩ := bg_kd h
  have en := fun {y : Nat} (hy : y < n) => bg_end hb hO h hy (show 0 < 2 by omega)
  obtain ⟨Q1, Q2, hq, q3, q4⟩ : ∃ Q1 Q2 : Nat → Nat, (∀ x, x < n + 2 → flp9 (fun y => gV9 (nm y, 0)) (fun y => gV9 (prA9 A (nm y, 0))) (fun y => gV9 (prA9 A (nm y, 0))) Q1 Q2 Q2 x) ∧ (∀ y, y < n → Q1 y = gV9 (nm y, 0) ∧ Q2 y = gV9 (prA9 A (nm y, 0))) ∧ ∀ y, n ≤ y → y < n + 2 → Q1 y = gV9 r0 ∧ (Q2 y = gV9 (prA9 A r0) ∨ Q2 y = gV9 r0') := by
    refine ⟨fun y => if y < n then gV9 (nm y, 0) else gV9 r0, fun y => if y < n then gV9 (prA9 A (nm y, 0)) else if r0 = (nm y, 0) then gV9 (prA9 A r0) else gV9 r0', fun x hx => ?_, fun y hy => ⟨if_pos hy, if_pos hy⟩, fun y y1 y2 => ⟨if_neg (by omega), ?_⟩⟩
    · unfold flp9
      simp only []
      by_cases c : x < n
      · left
        rw [if_pos c, if_pos c]
        exact ⟨rfl, rfl, rfl⟩
      · rw [if_neg c, if_neg c]
        by_cases c2 : r0 = (nm x, 0)
        · left
          rw [if_pos c2, ← c2]
          exact ⟨rfl, rfl, rfl⟩
        · right
          rw [if_neg c2]
          have e : r0' = (nm x, 0) := by
            rcases (show x = n ∨ x = n + 1 by omega) with e | e
            · rw [e] at c2 ⊢
              rcases h.2.2.2.1 with ⟨f1, f2⟩ | ⟨f1, f2⟩
              · exact absurd f1 c2
              · exact f2
            · rw [e] at c2 ⊢
              rcases h.2.2.2.1 with ⟨f1, f2⟩ | ⟨f1, f2⟩
              · exact f2
              · exact absurd f1 c2
          rw [← e, p0]
          first | exact ⟨trivial, rfl, rfl, rfl⟩ | exact ⟨trivial, trivial, trivial, trivial⟩ | exact ⟨trivial, rfl, rfl⟩
    · show (if y < n then gV9 (prA9 A (nm y, 0)) else if r0 = (nm y, 0) then gV9 (prA9 A r0) else gV9 r0') = _ ∨ (if y < n then gV9 (prA9 A (nm y, 0)) else if r0 = (nm y, 0) then gV9 (prA9 A r0) else gV9 r0') = _
      rw [if_neg (by omega)]
      by_cases c2 : r0 = (nm y, 0)
      · rw [if_pos c2]
        exact Or.inl rfl
      · rw [if_neg c2]
        exact Or.inr rfl
  have hCq := flp_cu hq hC
  have hBq := be_flp hq hC hB
  have hPq : ∀ x, x < n + 2 → Q1 x ≠ gV9 r1 ∧ Q2 x ≠ gV9 r1 ∧ Q2 x ≠ gV9 r1 := fun x hx => by
    by_cases c : x < n
    · obtain ⟨e1, e2⟩ := q3 x c
      rw [e1, e2]
      exact ⟨(en c).2.2.1.2, (en c).2.2.2.2, (en c).2.2.2.2⟩
    · obtain ⟨e1, e2⟩ := q4 x (by omega) hx
      rw [e1]
      rcases e2 with e2 | e2 <;> rw [e2]
      · exact ⟨x1, x3, x3⟩
      · exact ⟨x1, x5, x5⟩
  have hPo : ∀ x, x < n → Q1 x ≠ gV9 r0 ∧ Q2 x ≠ gV9 r0 ∧ Q2 x ≠ gV9 r0 := fun x c => by
    obtain ⟨e1, e2⟩ := q3 x c
    rw [e1, e2]
    exact ⟨(en c).2.2.1.1, (en c).2.2.2.1, (en c).2.2.2.1⟩
  have hC1 := cu_dp (o := gV9 r1) hCq hPq
  have x0 : (nm n, 0) ∈ A.flatten := (hO.1 n (by omega)).1
  have hB1 := be_ph hp hi hCq hC1 (ph_dp hCq.1.1 (fun s _ => by
    obtain ⟨a, a1, a2⟩ := bg_g1 (sg := sg) hb h (s n)
    have E := lst_e (jp9 A sg nm (n + 2) s)
    refine ⟨a, ?_, ?_, E.2.1 _ _ (lst_i ⟨n, by omega, a2⟩)⟩
    · rcases a1 with e | e <;> rw [e]
      · exact Or.inl ⟨_, x0, rfl⟩
      · exact Or.inl ⟨_, prA_in hb.1 x0, rfl⟩
    · rcases a1 with e | e <;> rw [e]
      · exact fun h9 => by
          have := congrArg Prod.snd (gA_inj (u2 _ x0) (u2 _ i1) h9)
          simp only [] at this
          omega
      · exact fun h9 => by
          have := congrArg Prod.snd ((bg_bf hb h x0).2 h9)
          simp only [] at this
          omega)) hBq
  have al : ∀ s : Nat → Bool, s n = true → s (n + 1) = false → ∀ g, rdp9 (gV9 r1) (relL9 A sg nm (n + 2)) s (gV9 r0) g → g = gV9 r0 := fun s s1 s2 g hg => by
    rcases hg with e | ⟨-, e2, e3⟩
    · exact e.symm
    · exact (bg_al hb hO h hs s1 s2 g e3).elim id (fun e => absurd e e2)
  have kA : knW (n + 1) (gV9 r0) (fun s => s n = true) Q1 Q2 Q2 (rdp9 (gV9 r1) (relL9 A sg nm (n + 2))) := by
    refine ⟨fun s w hs9 => al s w hs9, (q4 (n + 1) (by omega) (by omega)).1, ?_, fun y s hy w sy => hPo y ?_, fun s y w => ?_, fun s w => ?_⟩
    · rcases (q4 (n + 1) (by omega) (by omega)).2 with e | e <;> rw [e]
      · exact x2
      · exact x4
    · rcases Nat.lt_or_ge y n with c | c
      · exact c
      · rw [show y = n by omega, w] at sy
        cases sy
    · show on9 s y n = true
      by_cases c : n = y
      · rw [c]
        exact on_x
      · rw [on_o c]
        exact w
    · show off9 s (n + 1) n = true
      rw [off_o (by omega)]
      exact w
  have kB : knB n (gV9 r0) (fun s => s (n + 1) = false) Q1 Q2 Q2 (rdp9 (gV9 r1) (relL9 A sg nm (n + 2))) := by
    refine ⟨fun s w hs9 => al s hs9 w, (q4 n (by omega) (by omega)).1, fun y s hy w sy => hPo y hy, fun s y hy w => ?_, fun s w => ?_⟩
    · show on9 s y (n + 1) = false
      rw [on_o (by omega)]
      exact w
    · show off9 s n (n + 1) = false
      rw [off_o (by omega)]
      exact w
  obtain ⟨c1, c2⟩ := r2T hp hi hk hC1 ⟨Or.inl ⟨r0, i0, rfl⟩, x1⟩ kA kB hB1
  have C := ph_cmp (fun s => rdp_e (rel := relL9 A sg nm (n + 2)) (s := on9 s (n + 1)) (lst_e _)) (bg_pa hb hO h hs q3) (bg_pb (sg := sg) hb hO h) (fun x hx => ?_) (fun x hx => ?_)
  · exact be_ph hp hi c1 hC' C c2
  · have q1 : gX9 A [(r0, r0'), (r1, r1')] (gV9 (nm x, 0)) := Or.inl ⟨_, (en hx).1, fun z hz => by
      rcases List.mem_cons.mp hz with e | e
      · rw [e]
        exact (en hx).2.1.1
      · rw [List.mem_singleton.mp e]
        exact (en hx).2.1.2.2.1, rfl⟩
    have q2 : gX9 A [(r0, r0'), (r1, r1')] (gV9 (prA9 A (nm x, 0))) := Or.inl ⟨_, prA_in hb.1 (en hx).1, fun z hz => by
      rcases List.mem_cons.mp hz with e | e
      · rw [e]
        exact fun h9 => (en hx).2.2.2.1 (congrArg gV9 h9)
      · rw [List.mem_singleton.mp e]
        exact fun h9 => (en hx).2.2.2.2 (congrArg gV9 h9), rfl⟩
    exact ⟨q1, q2, q2⟩
  · exact hC'.2.2.2 x hx
end XCHY
