/-! the class: a tidied net is small enough -/
def rnS (f : Nat → Nat) (p : vT) : vT := (f p.1, p.2)
def rnA (f : Nat → Nat) (A : rn_L) : rn_L := A.map (List.map (rnS f))
section RNM
variable {A : rn_L} {sg : Nat → Bool} {f : Nat → Nat} {T : ow_NT}
theorem rnA_fl : (rnA f A).flatten = A.flatten.map (rnS f) := List.map_flatten.symm
theorem rnS_in (h : isoV A sg f T) {p q : vT} (hp : p ∈ A.flatten) (hq : q ∈ A.flatten) (e : rnS f p = rnS f q) : p = q := by
  have e1 : f p.1 = f q.1 := congrArg (fun r : vT => r.1) e
  have e2 : (rnS f p).2 = (rnS f q).2 := by rw [e]
  exact Prod.ext (h.1.2.2.2.2.1 p q hp hq e1) e2
theorem rnA_ok (h : isoV A sg f T) : okF (rnA f A).flatten T.1 := by
  rw [rnA_fl]
  refine ⟨List.pairwise_map.mpr (List.Pairwise.imp_of_mem (fun ha hb hab e => hab (rnS_in h ha hb e)) h.1.1.1), fun q => ⟨fun hq => ?_, fun hq => ?_⟩⟩
  · obtain ⟨p, hp, rfl⟩ := List.mem_map.mp hq
    exact ⟨h.1.2.2.2.1 p hp, (h.1.1.2 p hp).2.1⟩
  · obtain ⟨x0, e, m0, m1⟩ := nm_of h hq.1
    obtain ⟨a, b⟩ := q
    have hb : b = 0 ∨ b = 1 := by
      have := hq.2
      dsimp only at this
      omega
    dsimp only at e
    rcases hb with rfl | rfl
    · exact List.mem_map.mpr ⟨_, m0, by unfold rnS; rw [e]⟩
    · exact List.mem_map.mpr ⟨_, m1, by unfold rnS; rw [e]⟩
theorem rn_cirs : cirs (rnA f A) = cirs A := by
  unfold cirs rnA
  rw [List.countP_map]
  refine List.countP_congr (fun L _ => ?_)
  cases L <;> simp
theorem rn_V (h : isoV A sg f T) : isoV (rnA f A) (fun x => decide (T.2.2.2 x < 0)) (fun x => x) T := by
  have hok := rnA_ok h
  have hsh : shP T.2.2.1 (gl (fun x => x)) (rnA f A) := by
    intro L' hL'
    obtain ⟨L, hL, rfl⟩ := List.mem_map.mp hL'
    intro q hq
    obtain ⟨p, hp, rfl⟩ := List.mem_map.mp hq
    have nL := L_nd h.1.1.1 hL
    rw [sc_map nL (fun a b ha hb e => rnS_in h (List.mem_flatten.mpr ⟨L, hL, ha⟩) (List.mem_flatten.mpr ⟨L, hL, hb⟩) e) hp]
    exact h.2 L hL p hp
  refine ⟨⟨okF_wk (by have := h.1.2.2.1; omega) hok, ?_, h.1.2.2.1, fun p hp => ((hok.2 p).mp hp).1, fun p q _ _ e => e, fun L hL p hp => (hsh L hL p hp).1, fun p _ => ?_, ?_⟩, hsh⟩
  · rw [rnA_fl, List.length_map]
    exact h.1.2.1
  · exact ⟨fun h9 => decide_eq_true h9, fun h9 => of_decide_eq_true h9⟩
  · rw [rn_cirs]
    exact h.1.2.2.2.2.2.2.2
theorem gl_lt (h : isoV A sg f T) {p : vT} (hp : p ∈ A.flatten) : gl f p < 2 * T.1 := by
  have h1 := h.1.2.2.2.1 p hp
  have h2 := (h.1.1.2 p hp).2.1
  unfold gl
  omega
theorem gl_mt {x : Nat} : mt (gl f (x, 0)) = gl f (x, 1) ∧ mt (gl f (x, 1)) = gl f (x, 0) := by
  unfold gl mt
  dsimp only
  constructor
  · rw [if_pos (by omega)]
  · rw [if_neg (by omega)]
    omega
theorem gaT_of {w : vT → Bool} (h : isoV A sg f T) (hw : gaA A w) : gaT T.1 T.2.2.1 := by
  have hex : ∀ k, ∃ b : Bool, ∀ p, p ∈ A.flatten → gl f p = k → w p = b := by
    intro k
    by_cases hk : ∃ p, p ∈ A.flatten ∧ gl f p = k
    · obtain ⟨p, hp, e⟩ := hk
      exact ⟨w p, fun q hq e2 => by rw [gl_gin h.1 q p hq hp (by rw [e, e2])]⟩
    · exact ⟨false, fun p hp e => absurd ⟨p, hp, e⟩ hk⟩
  let w' : Nat → Bool := fun k => Classical.choose (hex k)
  have hw' : ∀ p, p ∈ A.flatten → w' (gl f p) = w p := fun p hp => (Classical.choose_spec (hex (gl f p)) p hp rfl).symm
  refine ⟨w', fun v hv => ?_⟩
  obtain ⟨u, hu, e⟩ := lbv_sur (isoS_iff.mp h.1) hv
  have hm := vAt_mem hu
  have e' : gl f (vAt A u) = v := e
  generalize vAt A u = p at hm e'
  obtain ⟨L, hL, hp⟩ := List.mem_flatten.mp hm
  have nL := L_nd h.1.1.1 hL
  rw [← e']
  refine ⟨?_, ?_⟩
  · rw [(h.2 L hL p hp).1, hw' _ (List.mem_flatten.mpr ⟨L, hL, sc_in hp nL⟩), hw' p hm]
    exact hw.1 L hL p hp
  · obtain ⟨-, p2, p3⟩ := h.1.1.2 p hm
    obtain ⟨a, b⟩ := p
    have hb : b = 0 ∨ b = 1 := by
      dsimp only at p2
      omega
    rcases hb with rfl | rfl
    · rw [gl_mt.1, hw' _ p3, hw' _ hm]
      exact hw.2 a hm
    · have p3' : (a, 0) ∈ A.flatten := p3
      rw [gl_mt.2, hw' _ p3', hw' _ hm, hw.2 a p3', Bool.not_not]
theorem tyI_sz {c ci : Nat} {S : ow_NP} {G : Nat → Int32} (h : tyI (c, ci, S, G)) : c ≤ 8 ∧ gaT c S ∧ (∀ s, s < 2 ^ c → rtsN (uPx S G (tb s) c) (2 * c) ≤ 9) ∧ ∀ h, smH (fun s => mbt (rtsN (uPx S G (tb s) c) (2 * c))) h 0 (2 ^ c) ≤ 1140 := by
  obtain ⟨h1, h2, A, sg, f, w, k, h3, h4, h5, h6, h7, h8⟩ := h
  have hV := rn_V h3
  have hk := pLe_to h3 h6
  have hK := ch_ok2 (rnA_ok h3) (by unfold rnA; rw [List.length_map]; exact h5) hV hk h7 h8
  have h8 : c + k ≤ 9 := h8
  have hc8 : c ≤ 8 := by omega
  have eq : ∀ s, s < 2 ^ c → rtsN (uPx S G (tb s) c) (2 * c) ≤ LcN (rnA f A) (fun x => decide (G x < 0)) s := by
    intro s hs
    have h256 : 2 ^ c ≤ 256 := two_mono (b := 8) hc8
    rw [loops_eq (st := nI s) (isoS_iff.mp hV.1) (isoV_vn hV)]
    · exact Nat.le_add_right _ _
    · intro v hv _
      have hx : crs (rnA f A) v < c := (isoS_iff.mp hV.1).2.2.2.1 v hv
      generalize crs (rnA f A) v = x at hx
      have hG : G x ≠ 0 := h2 x hx
      unfold alS alB sgP tb
      dsimp only
      rw [bit_nI (by omega) (by omega)]
      have hb : btN s x = 0 ∨ btN s x = 1 := by unfold btN; omega
      have hs : decide (0 < G x) = !decide (G x < 0) := by
        by_cases h9 : G x < 0
        · rw [decide_eq_true h9, decide_eq_false (fun h8 => ?_)]
          · rfl
          · rw [Int32.lt_iff_toInt_lt] at h8 h9
            omega
        · rw [decide_eq_false h9, decide_eq_true]
          · rfl
          · rw [Int32.lt_iff_toInt_lt] at h9 ⊢
            have : (G x).toInt ≠ (0 : Int32).toInt := fun h8 => hG (Int32.toInt_inj.mp h8)
            omega
      rw [hs]
      rcases hb with hb | hb
      · rw [hb]
        unfold btN at hb
        rw [hb]
        generalize decide (G x < 0) = b0
        revert b0
        decide
      · rw [hb]
        unfold btN at hb
        rw [hb]
        generalize decide (G x < 0) = b0
        revert b0
        decide
  refine ⟨hc8, gaT_of h3 h4, fun s hs => Nat.le_trans (eq s hs) (hK.2.2.2.1 s hs), fun h => ?_⟩
  exact Nat.le_trans (smH_le _ (fun i hi => by
    rw [Nat.zero_add]
    exact mbt_mono (eq i hi))) (hK.2.2.2.2.2 h)
theorem bkF_sz {c : Nat} {ns : Nat → Nat} {dg : Int} (h9 : ∀ s, s < 2 ^ c → ns s ≤ 9) {h B : Nat} (hB : smH (fun s => mbt (ns s)) h 0 (2 ^ c) ≤ B) : smH (bkF ns dg) h 0 (2 ^ c) ≤ B := by
  refine Nat.le_trans (smH_le _ (fun i hi => ?_)) hB
  rw [Nat.zero_add]
  unfold bkF
  cases hk : kpF (ns i) (pc i) dg with
  | none => exact Nat.zero_le _
  | some k =>
    have := kpF_le hk
    have := h9 i hi
    exact bi_mbt ⟨ns i, by omega⟩ ⟨k, by omega⟩
theorem isoV_cg {T' : ow_NT} (h : isoV A sg f T) (e1 : T'.1 = T.1) (e2 : T'.2.1 = T.2.1) (e3 : ∀ k, k < 2 * T.1 → T'.2.2.1.1 k = T.2.2.1.1 k ∧ T'.2.2.1.2 k = T.2.2.1.2 k) (e4 : ∀ x, x < T.1 → T'.2.2.2 x = T.2.2.2 x) : isoV A sg f T' := by
  have hsh : shP T'.2.2.1 (gl f) A := by
    intro L hL p hp
    have nL := L_nd h.1.1.1 hL
    rw [(e3 _ (gl_lt h (List.mem_flatten.mpr ⟨L, hL, hp⟩))).1, (e3 _ (gl_lt h (List.mem_flatten.mpr ⟨L, hL, sc_in hp nL⟩))).2]
    exact h.2 L hL p hp
  refine ⟨⟨h.1.1, by rw [e1]; exact h.1.2.1, by rw [e1]; exact h.1.2.2.1, by rw [e1]; exact h.1.2.2.2.1, h.1.2.2.2.2.1, fun L hL p hp => (hsh L hL p hp).1, fun p hp => ?_, by rw [e2]; exact h.1.2.2.2.2.2.2.2⟩, hsh⟩
  rw [e4 _ (h.1.2.2.2.1 p hp)]
  exact h.1.2.2.2.2.2.2.1 p hp
theorem tyI_cp {Q : ow_NT} (h : tyI T) (hQ : ow_b24 Q.2.2.1) : tyI (nt_copy Q T) := by
  obtain ⟨h1, h2, A, sg, f, w, k, h3, h4, h5, h6, h7, h8⟩ := h
  have key : ∀ {β : Type} (f g : Nat → β) (n k : Nat), k < n → va_cpy f g 0 0 n k = f k := fun f g n k hk => by
    rw [pk_cpy_in (Nat.zero_le k) (by omega), Nat.zero_add, Nat.sub_zero]
  have g1 : ∀ x, x < T.1 → (nt_copy Q T).2.2.2 x = T.2.2.2 x := fun x hx => key _ _ _ _ hx
  exact ⟨nv_copy h1 hQ, fun x hx => by rw [g1 x hx]; exact h2 x hx, A, sg, f, w, k, isoV_cg h3 rfl rfl (fun k hk => ⟨key _ _ _ _ hk, key _ _ _ _ hk⟩) g1, h4, h5, h6, h7, h8⟩
end RNM
