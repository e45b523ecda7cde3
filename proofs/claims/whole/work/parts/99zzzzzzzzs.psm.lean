/-! a kink taken out, a crossing smoothed: plane nets stay plane -/
section PSM
variable {c : Nat} {S : ow_NP} {b : Nat → Bool} {u o : Nat}
/-- the strand before u and what is behind o are tied: u and o lie apart; c1 comes before u, u before o -/
theorem iso_ring (hv : vn c S) (hu : u < 2 * c) (ho : o < 2 * c) (hm : mt u = o) (hn : S.1 u = o) (hne : S.2 u ≠ o) : ¬ rch c (np_exchange S (S.2 u) o) (S.2 u) o := by
  obtain ⟨-, c1, -, c4⟩ := hv u hu
  have hv' := vn_exchange hv c1 ho
  have huo : u ≠ o := fun e => by
    unfold mt at hm
    split at hm <;> omega
  have hcu : S.2 u ≠ u := fun e => by
    rw [e] at c4
    exact huo (c4.symm.trans hn)
  have eo : (np_exchange S (S.2 u) o).1 o = u := by rw [np_exchange_1, if_pos rfl, c4]
  have eu : (np_exchange S (S.2 u) o).1 u = o := by rw [np_exchange_1, if_neg huo, if_neg (fun e => hcu e.symm), hn]
  have hm2 : mt o = u := by rw [← hm, mt_mt]
  intro h
  have h2 := rch_sy hv' c1 h
  have := h2 (fun k => k = o ∨ k = u) (Or.inl rfl) (fun j _ hj => by
    rcases hj with rfl | rfl
    · exact Or.inr eo
    · exact Or.inl eu) (fun j _ hj => by
    rcases hj with rfl | rfl
    · exact Or.inr hm2
    · exact Or.inl hm)
  rcases this with e | e
  · exact hne e
  · exact hcu e
/-- a kink u, o laid apart -/
def knS (S : ow_NP) (u o : Nat) : ow_NP := if S.2 u = o then S else np_exchange S (S.2 u) o
theorem knS_ok (hv : vn c S) (hb : pn_fl b) (hp : pn_pl c S b) (hu : u < 2 * c) (ho : o < 2 * c) (hm : mt u = o) (hn : S.1 u = o) : vn c (knS S u o) ∧ pn_pl c (knS S u o) b ∧ ∀ k, k < 2 * c → k ≠ u → k ≠ o → (knS S u o).1 k = if S.1 k = u then S.1 o else S.1 k := by
  obtain ⟨-, c1, -, c4⟩ := hv u hu
  have huo : u ≠ o := fun e => by
    unfold mt at hm
    split at hm <;> omega
  unfold knS
  by_cases e : S.2 u = o
  · rw [if_pos e]
    refine ⟨hv, hp, fun k hk k1 k2 => ?_⟩
    rw [if_neg (fun h9 => k2 ?_)]
    rw [← e, ← h9, (hv k hk).2.2.1]
  · rw [if_neg e]
    have hnr := iso_ring hv hu ho hm hn e
    refine ⟨vn_exchange hv c1 ho, pn_exch hv hb hp c1 ho e ?_, fun k hk k1 k2 => ?_⟩
    · exact Or.inr (Or.inl (ex_bridge hv hb hp c1 ho hnr).1)
    · rw [np_exchange_1, if_neg k2]
      by_cases h9 : S.1 k = u
      · have : k = S.2 u := by rw [← h9, (hv k hk).2.2.1]
        rw [if_pos this, if_pos h9]
      · rw [if_neg (fun h8 => h9 (by rw [h8, c4])), if_neg h9]
end PSM
section PS2
variable {T : ow_NT} {x : Nat}
theorem two_x {x k : Nat} : k / 2 = x ↔ k = 2 * x ∨ k = 2 * x + 1 := by omega
/-- a crossing whose visits stand one behind the other goes -/
theorem pl_kink (hv : vn T.1 T.2.2.1) (hc : T.1 ≤ 12) (hx : x < T.1) (hk : T.2.2.1.1 (2 * x) = 2 * x + 1 ∨ T.2.2.1.1 (2 * x + 1) = 2 * x) (hp : nt_plane T = true) : nt_plane (nt_rm T x) = true := by
  have hpl := (plane_iff hv hc).mp hp
  have l0 : 2 * x < 2 * T.1 := by omega
  have l1 : 2 * x + 1 < 2 * T.1 := by omega
  rcases hk with hk | hk
  · obtain ⟨k1, k2, k3⟩ := knS_ok hv stG_fl hpl l0 l1 (mt_ev x) hk
    refine pl_rm hv hc hx k1 (fun v hvl hne => ?_) k2
    rw [k3 v hvl (by omega) (by omega)]
    unfold skx
    by_cases e : T.2.2.1.1 v = 2 * x
    · rw [if_pos e, if_pos e, if_pos hk]
    · have e2 : T.2.2.1.1 v ≠ 2 * x + 1 := fun e9 => hne (by have := vn_inj hv hvl l0 (e9.trans hk.symm); omega)
      rw [if_neg e, if_neg e, if_neg e2]
  · obtain ⟨k1, k2, k3⟩ := knS_ok hv stG_fl hpl l1 l0 (mt_od x) hk
    refine pl_rm hv hc hx k1 (fun v hvl hne => ?_) k2
    rw [k3 v hvl (by omega) (by omega)]
    unfold skx
    have e2 : T.2.2.1.1 v ≠ 2 * x := fun e9 => hne (by have := vn_inj hv hvl l1 (e9.trans hk.symm); omega)
    by_cases e : T.2.2.1.1 v = 2 * x + 1
    · rw [if_pos e, if_neg e2, if_pos e, if_pos hk]
    · rw [if_neg e, if_neg e2, if_neg e]
/-- a crossing smoothed -/
def ntSm (T : ow_NT) (x : Nat) : ow_NT := nt_rm (T.1, T.2.1, np_exchange T.2.2.1 (2 * x) (2 * x + 1), T.2.2.2) x
theorem pl_smooth (hv : vn T.1 T.2.2.1) (hc : T.1 ≤ 12) (hx : x < T.1) (hp : nt_plane T = true) : nt_plane (ntSm T x) = true := by
  have hpl := (plane_iff hv hc).mp hp
  have l0 : 2 * x < 2 * T.1 := by omega
  have l1 : 2 * x + 1 < 2 * T.1 := by omega
  have hvE := vn_exchange hv l0 l1
  have i2 : ¬ T.2.2.1.1 (2 * x) = T.2.2.1.1 (2 * x + 1) := fun e => by have := vn_inj hv l0 l1 e; omega
  -- what the smoothed net has behind a visit
  have want : ∀ v, v < 2 * T.1 → v / 2 ≠ x → skx (np_exchange T.2.2.1 (2 * x) (2 * x + 1)).1 x ((np_exchange T.2.2.1 (2 * x) (2 * x + 1)).1 v) = if T.2.2.1.1 v = 2 * x then (if T.2.2.1.1 (2 * x + 1) = 2 * x + 1 then T.2.2.1.1 (2 * x) else T.2.2.1.1 (2 * x + 1)) else if T.2.2.1.1 v = 2 * x + 1 then (if T.2.2.1.1 (2 * x) = 2 * x then T.2.2.1.1 (2 * x + 1) else T.2.2.1.1 (2 * x)) else T.2.2.1.1 v := by
    intro v hvl hne
    have e0 : (np_exchange T.2.2.1 (2 * x) (2 * x + 1)).1 (2 * x) = T.2.2.1.1 (2 * x + 1) := by rw [np_exchange_1, if_neg (by omega), if_pos rfl]
    have e1 : (np_exchange T.2.2.1 (2 * x) (2 * x + 1)).1 (2 * x + 1) = T.2.2.1.1 (2 * x) := by rw [np_exchange_1, if_pos rfl]
    have ev : (np_exchange T.2.2.1 (2 * x) (2 * x + 1)).1 v = T.2.2.1.1 v := by rw [np_exchange_1, if_neg (by omega), if_neg (by omega)]
    unfold skx
    rw [e0, e1, ev]
  obtain ⟨a1, a2, a3, a4⟩ := hv (2 * x) l0
  by_cases ha : T.2.2.1.2 (2 * x) = 2 * x + 1
  · -- the visit under comes before the one over
    have hk : T.2.2.1.1 (2 * x + 1) = 2 * x := by rw [← ha]; exact a4
    obtain ⟨k1, k2, k3⟩ := knS_ok hv stG_fl hpl l1 l0 (mt_od x) hk
    refine pl_rm (T := (T.1, T.2.1, np_exchange T.2.2.1 (2 * x) (2 * x + 1), T.2.2.2)) hvE hc hx k1 (fun v hvl hne => ?_) k2
    rw [k3 v hvl (by omega) (by omega)]
    refine Eq.trans ?_ (want v hvl hne).symm
    have e2 : T.2.2.1.1 v ≠ 2 * x := fun e9 => hne (by have := vn_inj hv hvl l1 (e9.trans hk.symm); omega)
    rw [if_neg e2]
    by_cases e : T.2.2.1.1 v = 2 * x + 1
    · rw [if_pos e, if_pos e, if_neg (fun e9 => i2 (e9.trans hk.symm))]
    · rw [if_neg e, if_neg e]
  · -- first the strand before the visit over goes on behind the visit under
    have hS1 : vn T.1 (np_exchange T.2.2.1 (T.2.2.1.2 (2 * x)) (2 * x + 1)) := vn_exchange hv a2 l1
    have f0 : pn_ph T.2.2.1 (stG T.2.2.2) (2 * T.2.2.1.2 (2 * x)) = pn_rt (stG T.2.2.2) (2 * (2 * x) + 1) := by
      unfold pn_ph
      rw [pn_al0, a4]
    have f1 : pn_ph T.2.2.1 (stG T.2.2.2) (2 * T.2.2.1.1 (2 * x + 1) + 1) = pn_rt (stG T.2.2.2) (2 * (2 * x + 1)) := by
      unfold pn_ph
      rw [pn_al1, (hv _ l1).2.2.1]
    have hp1 : pn_pl T.1 (np_exchange T.2.2.1 (T.2.2.1.2 (2 * x)) (2 * x + 1)) (stG T.2.2.2) := by
      refine pn_exch hv stG_fl hpl a2 l1 ha (Or.inr ?_)
      have hfl := stG_fl (G := T.2.2.2) (2 * x)
      rw [mt_ev] at hfl
      cases hb : stG T.2.2.2 (2 * x) with
      | true =>
        left
        refine ⟨1, ?_⟩
        show pn_ph T.2.2.1 (stG T.2.2.2) (2 * T.2.2.1.2 (2 * x)) = _
        rw [f0, pn_at1, hb, if_pos rfl, mt_ev]
      | false =>
        right
        rw [a4]
        refine or_sy (n := 4 * T.1) (fun d hd => pn_ph_lt hv hd) (fun d e hd he q => pn_ph_inj hv stG_fl hd he q) (show 2 * T.2.2.1.1 (2 * x + 1) + 1 < 4 * T.1 by have := (hv _ l1).1; omega) ⟨1, ?_⟩
        show pn_ph T.2.2.1 (stG T.2.2.2) (2 * T.2.2.1.1 (2 * x + 1) + 1) = _
        rw [f1, pn_at0, hfl, hb, mt_od]
        rfl
    have n1 : (np_exchange T.2.2.1 (T.2.2.1.2 (2 * x)) (2 * x + 1)).1 (2 * x + 1) = 2 * x := by rw [np_exchange_1, if_pos rfl, a4]
    obtain ⟨k1, k2, k3⟩ := knS_ok hS1 stG_fl hp1 l1 l0 (mt_od x) n1
    refine pl_rm (T := (T.1, T.2.1, np_exchange T.2.2.1 (2 * x) (2 * x + 1), T.2.2.2)) hvE hc hx k1 (fun v hvl hne => ?_) k2
    rw [k3 v hvl (by omega) (by omega)]
    refine Eq.trans ?_ (want v hvl hne).symm
    have hvu : v ≠ 2 * x + 1 := by omega
    have hvo : v ≠ 2 * x := by omega
    have eo : (np_exchange T.2.2.1 (T.2.2.1.2 (2 * x)) (2 * x + 1)).1 (2 * x) = if T.2.2.1.1 (2 * x) = 2 * x then T.2.2.1.1 (2 * x + 1) else T.2.2.1.1 (2 * x) := by
      rw [np_exchange_1, if_neg (by omega)]
      by_cases e : T.2.2.1.1 (2 * x) = 2 * x
      · rw [if_pos e, if_pos (by rw [← e, a3]; exact e.symm ▸ rfl)]
      · rw [if_neg e, if_neg (fun h9 => e (by rw [← h9] at a4; exact a4))]
    have evv : (np_exchange T.2.2.1 (T.2.2.1.2 (2 * x)) (2 * x + 1)).1 v = if T.2.2.1.1 v = 2 * x then T.2.2.1.1 (2 * x + 1) else T.2.2.1.1 v := by
      rw [np_exchange_1, if_neg hvu]
      by_cases e : T.2.2.1.1 v = 2 * x
      · have : v = T.2.2.1.2 (2 * x) := by rw [← e, (hv v hvl).2.2.1]
        rw [if_pos this, if_pos e]
      · rw [if_neg (fun h8 => e (by rw [h8, a4])), if_neg e]
    rw [evv, eo]
    by_cases e : T.2.2.1.1 v = 2 * x
    · rw [if_pos e, if_pos e]
      by_cases e1 : T.2.2.1.1 (2 * x + 1) = 2 * x + 1
      · rw [if_pos e1, if_pos e1, if_neg (fun e9 => hvo (vn_inj hv hvl l0 (e.trans e9.symm)))]
      · rw [if_neg e1, if_neg e1]
    · rw [if_neg e, if_neg e]
end PS2
