/-! nets as maps of darts: 2 v goes out of visit v, 2 v + 1 comes into it -/
def pn_al (S : ow_NP) (d : Nat) : Nat := if d % 2 = 0 then 2 * S.1 (d / 2) + 1 else 2 * S.2 (d / 2)
def pn_rt (b : Nat → Bool) (d : Nat) : Nat := if (decide (d % 2 = 1) == b (d / 2)) = true then 2 * mt (d / 2) else 2 * mt (d / 2) + 1
def pn_ph (S : ow_NP) (b : Nat → Bool) (d : Nat) : Nat := pn_rt b (pn_al S d)
def pn_E (S : ow_NP) (L : List Nat) : List (Nat × Nat) := L.map (fun v => (2 * v, 2 * S.1 v + 1))
def pn_fl (b : Nat → Bool) : Prop := ∀ v, b (mt v) = !b v
/-- at least k faces -/
def pn_F (c : Nat) (S : ow_NP) (b : Nat → Bool) (k : Nat) : Prop := ∃ (f : Nat → Nat) (X : List Nat), (∀ d, d < 4 * c → f (pn_ph S b d) = f d) ∧ (∀ x, x ∈ X → x < 4 * c) ∧ pm_dv f X ∧ k ≤ X.length
/-- every visit is reached from one of R -/
def pn_P (c : Nat) (S : ow_NP) (R : List Nat) : Prop := ∀ v, v < 2 * c → ∃ r, r ∈ R ∧ r < 2 * c ∧ rch c S r v
def pn_pl (c : Nat) (S : ow_NP) (b : Nat → Bool) : Prop := ∃ R, pn_P c S R ∧ pn_F c S b (c + 2 * R.length)
section PN
variable {c : Nat} {S : ow_NP} {b : Nat → Bool}
theorem pn_al_lt (hv : vn c S) {d : Nat} (h : d < 4 * c) : pn_al S d < 4 * c := by
  have := hv (d / 2) (by omega)
  unfold pn_al
  split <;> omega
theorem pn_al_inv (hv : vn c S) {d : Nat} (h : d < 4 * c) : pn_al S (pn_al S d) = d := by
  obtain ⟨h1, h2, h3, h4⟩ := hv (d / 2) (by omega)
  unfold pn_al
  by_cases e : d % 2 = 0
  · rw [if_pos e, if_neg (by omega), show (2 * S.1 (d / 2) + 1) / 2 = S.1 (d / 2) by omega, h3]
    omega
  · rw [if_neg e, if_pos (by omega), show 2 * S.2 (d / 2) / 2 = S.2 (d / 2) by omega, h4]
    omega
theorem pn_rt_h (d : Nat) : pn_rt b d / 2 = mt (d / 2) := by
  unfold pn_rt
  split <;> omega
theorem mt_h2 (v : Nat) : mt v / 2 = v / 2 := by
  unfold mt
  split <;> omega
theorem pn_rt_lt {d : Nat} (h : d < 4 * c) : pn_rt b d < 4 * c := by
  have h1 := pn_rt_h (b := b) d
  have h2 := mt_lt (q := d / 2) (c := c) (by omega)
  omega
theorem pn_ok (hv : vn c S) : ∀ {L : List Nat}, L.Nodup → (∀ v, v ∈ L → v < 2 * c) → pm_ok (4 * c) (pn_E S L)
  | [], _, _ => trivial
  | v :: L, hn, hl => by
    obtain ⟨n1, n2⟩ := List.nodup_cons.mp hn
    have hvl := hl v List.mem_cons_self
    have h1 := (hv v hvl).1
    refine ⟨by omega, by omega, by omega, fun p hp => ?_, pn_ok hv n2 (fun w hw => hl w (List.mem_cons_of_mem _ hw))⟩
    obtain ⟨w, hw, e⟩ := List.mem_map.mp hp
    have hwl := hl w (List.mem_cons_of_mem _ hw)
    have hne : w ≠ v := fun e9 => n1 (e9 ▸ hw)
    have hne2 : S.1 w ≠ S.1 v := fun e9 => hne (vn_inj hv hwl hvl e9)
    rw [← e]
    show 2 * w ≠ 2 * v ∧ 2 * S.1 w + 1 ≠ 2 * v ∧ 2 * w ≠ 2 * S.1 v + 1 ∧ 2 * S.1 w + 1 ≠ 2 * S.1 v + 1
    omega
theorem pn_al_E (hv : vn c S) {d : Nat} (hd : d < 4 * c) : ∀ {L : List Nat}, L.Nodup → (∀ v, v ∈ L → v < 2 * c) → (if d % 2 = 0 then d / 2 else S.2 (d / 2)) ∈ L → pm_al (pn_E S L) d = pn_al S d
  | [], _, _, h => by cases h
  | v :: L, hn, hl, h => by
    obtain ⟨n1, n2⟩ := List.nodup_cons.mp hn
    have hvl := hl v List.mem_cons_self
    obtain ⟨h1, h2, h3, h4⟩ := hv (d / 2) (by omega)
    obtain ⟨v1, v2, v3, v4⟩ := hv v hvl
    show (if d = 2 * v then 2 * S.1 v + 1 else if d = 2 * S.1 v + 1 then 2 * v else pm_al (pn_E S L) d) = _
    by_cases e1 : d = 2 * v
    · rw [if_pos e1]
      unfold pn_al
      rw [if_pos (by omega), show d / 2 = v by omega]
    · rw [if_neg e1]
      by_cases e2 : d = 2 * S.1 v + 1
      · rw [if_pos e2]
        unfold pn_al
        rw [if_neg (by omega), show d / 2 = S.1 v by omega, v3]
      · rw [if_neg e2]
        refine pn_al_E hv hd n2 (fun w hw => hl w (List.mem_cons_of_mem _ hw)) ?_
        rcases List.mem_cons.mp h with h9 | h9
        · exfalso
          by_cases e0 : d % 2 = 0
          · rw [if_pos e0] at h9
            omega
          · rw [if_neg e0] at h9
            rw [h9] at h4
            omega
        · exact h9
theorem pn_al_R (hv : vn c S) {d : Nat} (hd : d < 4 * c) : pm_al (pn_E S (List.range (2 * c))) d = pn_al S d := by
  refine pn_al_E hv hd List.nodup_range (fun v h => List.mem_range.mp h) (List.mem_range.mpr ?_)
  obtain ⟨h1, h2, h3, h4⟩ := hv (d / 2) (by omega)
  split <;> omega
theorem pn_four (hb : pn_fl b) {f : Nat → Nat} (hf : ∀ d, d < 4 * c → f (pn_rt b d) = f d) {d : Nat} (hd : d < 4 * c) : f d = f (4 * (d / 4)) := by
  have key : ∀ x, x < c → f (4 * x + 1) = f (4 * x) ∧ f (4 * x + 2) = f (4 * x) ∧ f (4 * x + 3) = f (4 * x) := by
    intro x hx
    have b2 := hb (2 * x)
    have m1 : mt (2 * x) = 2 * x + 1 := by unfold mt; rw [if_pos (by omega)]
    have m2 : mt (2 * x + 1) = 2 * x := by unfold mt; rw [if_neg (by omega)]; omega
    rw [m1] at b2
    have r0 := hf (4 * x) (by omega)
    have r1 := hf (4 * x + 1) (by omega)
    have r2 := hf (4 * x + 2) (by omega)
    have r3 := hf (4 * x + 3) (by omega)
    unfold pn_rt at r0 r1 r2 r3
    rw [show 4 * x / 2 = 2 * x by omega, show 4 * x % 2 = 0 by omega, m1] at r0
    rw [show (4 * x + 1) / 2 = 2 * x by omega, show (4 * x + 1) % 2 = 1 by omega, m1] at r1
    rw [show (4 * x + 2) / 2 = 2 * x + 1 by omega, show (4 * x + 2) % 2 = 0 by omega, m2, b2] at r2
    rw [show (4 * x + 3) / 2 = 2 * x + 1 by omega, show (4 * x + 3) % 2 = 1 by omega, m2, b2] at r3
    cases hbx : b (2 * x) with
    | true =>
      rw [hbx] at r0 r1 r2 r3
      rw [if_neg (by decide), show 2 * (2 * x + 1) + 1 = 4 * x + 3 by omega] at r0
      rw [if_pos (by decide), show 2 * (2 * x + 1) = 4 * x + 2 by omega] at r1
      rw [if_pos (by decide), show 2 * (2 * x) = 4 * x by omega] at r2
      exact ⟨r1.symm.trans r2.symm, r2.symm, r0⟩
    | false =>
      rw [hbx] at r0 r1 r2 r3
      rw [if_pos (by decide), show 2 * (2 * x + 1) = 4 * x + 2 by omega] at r0
      rw [if_neg (by decide), show 2 * (2 * x + 1) + 1 = 4 * x + 3 by omega] at r1
      rw [if_neg (by decide), show 2 * (2 * x) + 1 = 4 * x + 1 by omega] at r2
      rw [if_pos (by decide), show 2 * (2 * x) = 4 * x by omega] at r3
      exact ⟨r2.trans r0, r0, r3.symm⟩
  obtain ⟨k1, k2, k3⟩ := key (d / 4) (by omega)
  rcases (show d = 4 * (d / 4) ∨ d = 4 * (d / 4) + 1 ∨ d = 4 * (d / 4) + 2 ∨ d = 4 * (d / 4) + 3 by omega) with e | e | e | e
  · exact congrArg f e
  · exact (congrArg f e).trans k1
  · exact (congrArg f e).trans k2
  · exact (congrArg f e).trans k3
theorem pn_rs (hb : pn_fl b) : pm_rs (4 * c) c (pn_rt b) (fun d => d / 4) := by
  refine ⟨fun d h => pn_rt_lt h, fun d e hd he q => ?_, fun d _ => ?_, fun f hf X hX hv => ?_, (List.range c).map (fun x => 4 * x), fun x hx => ?_, pm_mk (nodup_map List.nodup_range (fun x y _ _ e => by omega)) (fun x y hx hy e => ?_), by rw [List.length_map, List.length_range]; exact Nat.le_refl _⟩
  · have e1 : pn_rt b d / 2 = pn_rt b e / 2 := by rw [q]
    rw [pn_rt_h, pn_rt_h] at e1
    have e2 : d / 2 = e / 2 := by rw [← mt_mt (d / 2), e1, mt_mt]
    unfold pn_rt at q
    rw [e2] at q
    have : decide (d % 2 = 1) = decide (e % 2 = 1) := by
      cases h1 : decide (d % 2 = 1) <;> cases h2 : decide (e % 2 = 1) <;> cases h3 : b (e / 2) <;> rw [h1, h2, h3] at q
      all_goals first
        | rfl
        | (exfalso; revert q; simp; done)
        | (exfalso; simp at q; omega)
    have := decide_eq_decide.mp this
    omega
  · show pn_rt b d / 4 = d / 4
    have h1 := pn_rt_h (b := b) d
    have h2 := mt_h2 (d / 2)
    omega
  · have := nodup_le (X.map f) ((List.range c).map (fun x => f (4 * x))) hv (fun a ha => by
      obtain ⟨x, hx, e⟩ := List.mem_map.mp ha
      have hx4 := hX x hx
      rw [← e, pn_four hb hf hx4]
      exact List.mem_map.mpr ⟨x / 4, List.mem_range.mpr (by omega), rfl⟩)
    rw [List.length_map, List.length_map, List.length_range] at this
    exact this
  · obtain ⟨y, hy, e⟩ := List.mem_map.mp hx
    have := List.mem_range.mp hy
    omega
  · obtain ⟨x', -, e1⟩ := List.mem_map.mp hx
    obtain ⟨y', -, e2⟩ := List.mem_map.mp hy
    omega
theorem pn_k0 (d : Nat) : d / 2 % 2 < 2 ∧ pn_rt b d / 2 % 2 = 1 - d / 2 % 2 := by
  refine ⟨by omega, ?_⟩
  rw [pn_rt_h]
  unfold mt
  split <;> omega
theorem pn_at0 (u : Nat) : pn_rt b (2 * u) = if b u = true then 2 * mt u + 1 else 2 * mt u := by
  unfold pn_rt
  rw [show 2 * u / 2 = u by omega, show 2 * u % 2 = 0 by omega]
  cases b u <;> rfl
theorem pn_at1 (u : Nat) : pn_rt b (2 * u + 1) = if b u = true then 2 * mt u else 2 * mt u + 1 := by
  unfold pn_rt
  rw [show (2 * u + 1) / 2 = u by omega, show (2 * u + 1) % 2 = 1 by omega]
  cases b u <;> rfl
theorem pn_sq (hb : pn_fl b) (u : Nat) : pn_rt b (pn_rt b (2 * u)) = 2 * u + 1 ∧ pn_rt b (pn_rt b (2 * u + 1)) = 2 * u := by
  have hm := hb u
  rw [pn_at0, pn_at1]
  cases e : b u with
  | true =>
    rw [e] at hm
    rw [if_pos rfl, if_pos rfl, pn_at1, pn_at0, hm, mt_mt]
    exact ⟨rfl, rfl⟩
  | false =>
    rw [e] at hm
    rw [if_neg (by decide), if_neg (by decide), pn_at1, pn_at0, hm, mt_mt]
    exact ⟨rfl, rfl⟩
theorem pn_al0 (u : Nat) : pn_al S (2 * u) = 2 * S.1 u + 1 := by
  unfold pn_al
  rw [if_pos (by omega), show 2 * u / 2 = u by omega]
theorem pn_al1 (u : Nat) : pn_al S (2 * u + 1) = 2 * S.2 u := by
  unfold pn_al
  rw [if_neg (by omega), show (2 * u + 1) / 2 = u by omega]
/-- what is reached by darts: both darts of each visit that is reached -/
theorem pn_cn (hv : vn c S) (hb : pn_fl b) {al : Nat → Nat} (ha : ∀ d, d < 4 * c → al d = pn_al S d) {r v : Nat} (h0 : r < 2 * c) (h : rch c S r v) : pm_cn (4 * c) (pn_rt b) al (2 * r) (2 * v) ∧ pm_cn (4 * c) (pn_rt b) al (2 * r) (2 * v + 1) := by
  refine (h (fun u => u < 2 * c ∧ pm_cn (4 * c) (pn_rt b) al (2 * r) (2 * u) ∧ pm_cn (4 * c) (pn_rt b) al (2 * r) (2 * u + 1)) ⟨h0, cn_rf _, ?_⟩ (fun u hu hp => ?_) (fun u hu hp => ?_)).2
  · have := cn_r (n := 4 * c) (al := al) (pn_rt_lt (b := b) (show 2 * r < 4 * c by omega)) (cn_r (show 2 * r < 4 * c by omega) (cn_rf (2 * r)))
    rw [(pn_sq hb r).1] at this
    exact this
  · obtain ⟨-, p1, p2⟩ := hp
    have hn := (hv u hu).1
    have q1 := cn_a (show 2 * u < 4 * c by omega) p1
    rw [ha _ (by omega), pn_al0] at q1
    refine ⟨hn, ?_, q1⟩
    have := cn_r (pn_rt_lt (b := b) (show 2 * S.1 u + 1 < 4 * c by omega)) (cn_r (show 2 * S.1 u + 1 < 4 * c by omega) q1)
    rw [(pn_sq hb _).2] at this
    exact this
  · obtain ⟨-, p1, p2⟩ := hp
    have q1 := cn_r (show 2 * u < 4 * c by omega) p1
    have q2 := cn_r (show 2 * u + 1 < 4 * c by omega) p2
    rw [pn_at0] at q1
    rw [pn_at1] at q2
    refine ⟨mt_lt hu, ?_⟩
    cases e : b u with
    | true =>
      rw [e, if_pos rfl] at q1 q2
      exact ⟨q2, q1⟩
    | false =>
      rw [e, if_neg (by decide)] at q1 q2
      exact ⟨q1, q2⟩
theorem pn_cv (hv : vn c S) (hb : pn_fl b) {al : Nat → Nat} (ha : ∀ d, d < 4 * c → al d = pn_al S d) {R : List Nat} (hR : pn_P c S R) : pm_cv (4 * c) (pn_rt b) al (R.map (fun r => 2 * r)) := by
  intro d hd
  obtain ⟨r, r1, r2, r3⟩ := hR (d / 2) (by omega)
  obtain ⟨k1, k2⟩ := pn_cn hv hb ha r2 r3
  refine ⟨2 * r, List.mem_map.mpr ⟨r, r1, rfl⟩, by omega, ?_⟩
  by_cases e : d % 2 = 0
  · rw [show 2 * (d / 2) = d by omega] at k1
    exact k1
  · rw [show 2 * (d / 2) + 1 = d by omega] at k2
    exact k2
theorem pn_eul (hv : vn c S) (hb : pn_fl b) {R : List Nat} {k : Nat} (hR : pn_P c S R) (hF : pn_F c S b k) : k ≤ c + 2 * R.length := by
  obtain ⟨f, X, f1, f2, f3, f4⟩ := hF
  have hal : ∀ d, d < 4 * c → pm_al (pn_E S (List.range (2 * c))) d = pn_al S d := fun d hd => pn_al_R hv hd
  have := pm_euler (pn_rs (c := c) hb) (pn_ok hv List.nodup_range (fun v h => List.mem_range.mp h)) (pn_cv hv hb hal hR) (f := f) (fun d hd => by rw [hal d hd]; exact f1 d hd) f2 f3
  unfold pn_E at this
  rw [List.length_map, List.length_map, List.length_range] at this
  omega
/-- a plane net has two kinds of visits -/
theorem pn_kap (hv : vn c S) (hb : pn_fl b) (hp : pn_pl c S b) : ∃ κ : Nat → Bool, ∀ d, d < 4 * c → κ (pn_rt b d) = !κ d ∧ κ (pn_al S d) = !κ d := by
  obtain ⟨R, hR, f, X, f1, f2, f3, f4⟩ := hp
  have hal : ∀ d, d < 4 * c → pm_al (pn_E S (List.range (2 * c))) d = pn_al S d := fun d hd => pn_al_R hv hd
  obtain ⟨κ, hκ⟩ := pm_two (k0 := fun d => d / 2 % 2) (pn_rs (c := c) hb) (fun d _ => pn_k0 d) (pn_ok hv List.nodup_range (fun v h => List.mem_range.mp h)) (fun d hd e => by
    rw [hal d hd] at e
    unfold pn_al at e
    split at e <;> omega) (pn_cv hv hb hal hR) (f := f) (fun d hd => by rw [hal d hd]; exact f1 d hd) f2 f3 (by
    unfold pn_E
    rw [List.length_map, List.length_map, List.length_range]
    omega)
  exact ⟨κ, fun d hd => ⟨(hκ d hd).1, by rw [← hal d hd]; exact (hκ d hd).2⟩⟩
theorem pn_ga (hv : vn c S) (hb : pn_fl b) (hp : pn_pl c S b) : ∃ w, gaO c S w := by
  obtain ⟨κ, hκ⟩ := pn_kap hv hb hp
  have io : ∀ u, u < 2 * c → κ (2 * u + 1) = κ (2 * u) := fun u hu => by
    have h1 := (hκ (2 * u) (by omega)).1
    have h2 := (hκ _ (pn_rt_lt (b := b) (show 2 * u < 4 * c by omega))).1
    rw [(pn_sq hb u).1, h1, Bool.not_not] at h2
    exact h2
  refine ⟨fun v => κ (2 * v), fun v hvl => ⟨?_, ?_⟩⟩
  · have h1 := (hκ (2 * v) (by omega)).2
    rw [pn_al0, io _ (hv v hvl).1] at h1
    exact h1
  · have h1 := (hκ (2 * v) (by omega)).1
    rw [pn_at0] at h1
    have h2 := io _ (mt_lt hvl)
    split at h1
    · rw [h2] at h1
      exact h1
    · exact h1
end PN
