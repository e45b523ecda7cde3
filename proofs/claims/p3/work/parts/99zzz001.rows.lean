section
/-! 99zzf.rows -/
/-! the reference's rows -/
theorem ml2 : (mX.2 2).2.1 = 32 := rfl
theorem ml4 : (mX.2 4).2.1 = 40 := rfl
theorem ml5 : (mX.2 5).2.1 = 40 := rfl
theorem ml6 : (mX.2 6).2.1 = 40 := rfl
theorem ml7 : (mX.2 7).2.1 = 640 := rfl
theorem ml8 : (mX.2 8).2.1 = 20 := rfl
theorem ml9 : (mX.2 9).2.1 = 20 := rfl
theorem ml10 : (mX.2 10).2.1 = 400 := rfl
theorem ml12 : (mX.2 12).2.1 = 1280 := rfl
theorem ml16 : (mX.2 16).2.1 = 16 := rfl
theorem ml17 : (mX.2 17).2.1 = 16 := rfl
theorem ml18 : (mX.2 18).2.1 = 16 := rfl
theorem ml19 : (mX.2 19).2.1 = 16 := rfl
theorem ml20 : (mX.2 20).2.1 = 86400 := rfl
theorem ml21 : (mX.2 21).2.1 = 2700 := rfl
theorem ml23 : (mX.2 23).2.1 = 32000 := rfl
theorem ml25 : (mX.2 25).2.1 = 9920 := rfl
theorem ml27 : (mX.2 27).2.1 = 32 := rfl
theorem ml28 : (mX.2 28).2.1 = 32 := rfl
theorem ml31 : (mX.2 31).2.1 = 4 := rfl
theorem ml32 : (mX.2 32).2.1 = 4 := rfl
theorem ml33 : (mX.2 33).2.1 = 3 := rfl
theorem ml34 : (mX.2 34).2.1 = 3 := rfl
theorem ml35 : (mX.2 35).2.1 = 512 := rfl
theorem ml37 : (mX.2 37).2.1 = 512 := rfl
theorem ml38 : (mX.2 38).2.1 = 48 := rfl
theorem ml39 : (mX.2 39).2.1 = 16 := rfl
theorem ml41 : (mX.2 41).2.1 = 40 := rfl
theorem ml42 : (mX.2 42).2.1 = 40 := rfl
theorem ml43 : (mX.2 43).2.1 = 32 := rfl
theorem ml44 : (mX.2 44).2.1 = 5289 := rfl
theorem ml45 : (mX.2 45).2.1 = 32 := rfl
theorem ml47 : (mX.2 47).2.1 = 48 := rfl
theorem ml48 : (mX.2 48).2.1 = 201 := rfl
theorem ml50 : (mX.2 50).2.1 = 32 := rfl
theorem ml51 : (mX.2 51).2.1 = 312 := rfl
theorem ml52 : (mX.2 52).2.1 = 80 := rfl
theorem ml53 : (mX.2 53).2.1 = 80 := rfl
theorem ml54 : (mX.2 54).2.1 = 256 := rfl
theorem ml55 : (mX.2 55).2.1 = 256 := rfl
theorem ml56 : (mX.2 56).2.1 = 256 := rfl
theorem ml57 : (mX.2 57).2.1 = 20 := rfl
theorem ml59 : (mX.2 59).2.1 = 40 := rfl
theorem ml60 : (mX.2 60).2.1 = 40 := rfl
theorem ml61 : (mX.2 61).2.1 = 16 := rfl
theorem ml62 : (mX.2 62).2.1 = 16 := rfl
theorem ml63 : (mX.2 63).2.1 = 16 := rfl
theorem ml64 : (mX.2 64).2.1 = 312 := rfl
theorem ml65 : (mX.2 65).2.1 = 32 := rfl
theorem ml66 : (mX.2 66).2.1 = 40 := rfl
theorem ml68 : (mX.2 68).2.1 = 13 := rfl
theorem ml69 : (mX.2 69).2.1 = 24 := rfl
theorem ml72 : (mX.2 72).2.1 = 169 := rfl
theorem ml73 : (mX.2 73).2.1 = 5 := rfl
theorem ml75 : (mX.2 75).2.1 = 2880 := rfl
theorem ml76 : (mX.2 76).2.1 = 2880 := rfl
theorem ml77 : (mX.2 77).2.1 = 40 := rfl
theorem ml78 : (mX.2 78).2.1 = 40 := rfl
theorem ml80 : (mX.2 80).2.1 = 16 := rfl
theorem ml81 : (mX.2 81).2.1 = 8192 := rfl
theorem ml82 : (mX.2 82).2.1 = 256 := rfl
theorem ml83 : (mX.2 83).2.1 = 257 := rfl
theorem ml84 : (mX.2 84).2.1 = 13200 := rfl
theorem ml85 : (mX.2 85).2.1 = 800 := rfl
theorem ml86 : (mX.2 86).2.1 = 800 := rfl
theorem ml87 : (mX.2 87).2.1 = 800 := rfl
theorem ml89 : (mX.2 89).2.1 = 13200 := rfl
theorem ml90 : (mX.2 90).2.1 = 13200 := rfl
theorem ml91 : (mX.2 91).2.1 = 13200 := rfl
theorem ml92 : (mX.2 92).2.1 = 900000 := rfl
theorem ml94 : (mX.2 94).2.1 = 320 := rfl
theorem ml95 : (mX.2 95).2.1 = 20 := rfl
theorem ml96 : (mX.2 96).2.1 = 20 := rfl
theorem ml97 : (mX.2 97).2.1 = 6 := rfl
theorem ml98 : (mX.2 98).2.1 = 3600 := rfl
theorem ml99 : (mX.2 99).2.1 = 7200 := rfl
theorem ml100 : (mX.2 100).2.1 = 720 := rfl
theorem ml101 : (mX.2 101).2.1 = 2880 := rfl
theorem ml102 : (mX.2 102).2.1 = 720 := rfl
theorem ml103 : (mX.2 103).2.1 = 720 := rfl
theorem ml104 : (mX.2 104).2.1 = 2880 := rfl
theorem ml105 : (mX.2 105).2.1 = 2880 := rfl
theorem ml108 : (mX.2 108).2.1 = 600 := rfl
theorem ml110 : (mX.2 110).2.1 = 600 := rfl
theorem ml114 : (mX.2 114).2.1 = 600 := rfl
theorem ml115 : (mX.2 115).2.1 = 8040 := rfl
theorem ml117 : (mX.2 117).2.1 = 40 := rfl
theorem ml118 : (mX.2 118).2.1 = 40 := rfl
theorem ml120 : (mX.2 120).2.1 = 5 := rfl
/-- a row: its size, then its numbers -/
def rc_At (z : ow_MS) (h o : Nat) (T : List Nat) : Prop := T.length ≤ 31 ∧ (∀ t, t ∈ T → t < 200) ∧ z.2.1 h o = nI T.length ∧ ∀ k t, T[k]? = some t → z.2.1 h (o + (k + 1)) = nI t
theorem rc_fr {P : Nat → Prop} {z z1 : ow_MS} {h o : Nat} {T : List Nat} (hf : fr P z z1) (hP : ¬ P h) (hr : rc_At z h o T) : rc_At z1 h o T := by
  obtain ⟨h1, h2, h3, h4⟩ := hr
  have e := (hf h hP).2.1
  exact ⟨h1, h2, by rw [e]; exact h3, fun k t hk => by rw [e]; exact h4 k t hk⟩
theorem rc_get {z : ow_MS} {h o k : Nat} {T : List Nat} (hr : rc_At z h o T) (hk : k < T.length) : ∃ t, T[k]? = some t ∧ t < 200 ∧ z.2.1 h (o + (k + 1)) = nI t := ⟨T[k], List.getElem?_eq_getElem hk, hr.2.1 _ (List.getElem_mem hk), hr.2.2.2 k _ (List.getElem?_eq_getElem hk)⟩
/-- the lesser of two lists -/
def lxb : List Nat → List Nat → Bool
  | _, [] => false
  | [], _ :: _ => true
  | a :: as, b :: bs => if a = b then lxb as bs else decide (a < b)
theorem lxb_drop : ∀ (k : Nat) (S T : List Nat), (∀ j, j < k → S[j]? = T[j]?) → k ≤ S.length → k ≤ T.length → lxb S T = lxb (S.drop k) (T.drop k)
  | 0, S, T, _, _, _ => rfl
  | k + 1, [], T, _, h, _ => by simp at h
  | k + 1, a :: S, [], _, _, h => by simp at h
  | k + 1, a :: S, b :: T, h, h1, h2 => by
    have e : a = b := by
      have := h 0 (by omega)
      simpa using this
    subst e
    have h3 := lxb_drop k S T (fun j hj => by
      have := h (j + 1) (by omega)
      simpa using this) (by simpa using h1) (by simpa using h2)
    rw [List.drop_succ_cons, List.drop_succ_cons, ← h3]
    show (if a = a then lxb S T else decide (a < a)) = lxb S T
    rw [if_pos rfl]
theorem lxb_at {S T : List Nat} {k s t : Nat} (hs : S[k]? = some s) (ht : T[k]? = some t) (hne : s ≠ t) : lxb (S.drop k) (T.drop k) = decide (s < t) := by
  have e1 : S.drop k = s :: S.drop (k + 1) := by
    obtain ⟨h1, h2⟩ := List.getElem?_eq_some_iff.mp hs
    rw [List.drop_eq_getElem_cons h1, h2]
  have e2 : T.drop k = t :: T.drop (k + 1) := by
    obtain ⟨h1, h2⟩ := List.getElem?_eq_some_iff.mp ht
    rw [List.drop_eq_getElem_cons h1, h2]
  rw [e1, e2]
  unfold lxb
  rw [if_neg hne]
theorem lxb_end {S T : List Nat} {k : Nat} (hk : k = S.length ∨ k = T.length) (h1 : k ≤ S.length) (h2 : k ≤ T.length) : lxb (S.drop k) (T.drop k) = decide (S.length < T.length) := by
  by_cases hT : k = T.length
  · rw [List.drop_of_length_le (l := T) (by omega)]
    have : ¬ S.length < T.length := by omega
    unfold lxb
    rw [decide_eq_false this]
  · have hS : k = S.length := hk.resolve_right hT
    rw [List.drop_of_length_le (l := S) (by omega), List.drop_eq_getElem_cons (l := T) (by omega)]
    have : S.length < T.length := by omega
    unfold lxb
    rw [decide_eq_true this]
def bZ (b : Bool) : Int32 := if b then 1 else 0
theorem bZ_01 (b : Bool) : bZ b = 0 ∨ bZ b = 1 := by cases b <;> simp [bZ]
theorem e_X13_isBelow {r0 : Nat} {x1 : Int32} {r2 : Nat} {x3 : Int32} {z : ow_MS} {Q : (Int32 × ow_MS) → Prop} (H : Tt (fun K k => q_X13_isBelow K k 0 x1 x3 0 0 r0 r2 z) Q) : Te (fun K => qe_X13_isBelow K r0 x1 r2 x3 z) Q := w_te H
theorem u_X13_isBelow_0 {x1 : Int32} {x3 : Int32} {x4 : Int32} {x5 : Int32} {r0 : Nat} {r2 : Nat} {z : ow_MS} {Q : (Int32 × ow_MS) → Prop} (H : Tt (fun K k => qm_X13_isBelow_0 K (q_X13_isBelow K k) x1 x3 x4 x5 r0 r2 z) Q) : Tt (fun K k => q_X13_isBelow K k 0 x1 x3 x4 x5 r0 r2 z) Q := w_un (fun _ _ => rfl) H
theorem u_X13_isBelow_1 {x1 : Int32} {x3 : Int32} {x4 : Int32} {x5 : Int32} {r0 : Nat} {r2 : Nat} {z : ow_MS} {Q : (Int32 × ow_MS) → Prop} (H : Tt (fun K k => qm_X13_isBelow_1 K (q_X13_isBelow K k) x1 x3 x4 x5 r0 r2 z) Q) : Tt (fun K k => q_X13_isBelow K k 1 x1 x3 x4 x5 r0 r2 z) Q := w_un (fun _ _ => rfl) H
theorem tr_below {z : ow_MS} {h g o p la lb : Nat} {S T : List Nat} (hla : (mX.2 h).2.1 = la) (hlb : (mX.2 g).2.1 = lb) (ha : la < 2 ^ 30) (hb : lb < 2 ^ 30) (h1 : o + S.length < la) (h2 : p + T.length < lb) (hS : rc_At z h o S) (hT : rc_At z g p T) : Te (fun K => qe_X13_isBelow K h (nI o) g (nI p) z) (fun r => r = (bZ (lxb S T), z)) := by
  obtain ⟨s1, s2, s3, s4⟩ := hS
  obtain ⟨t1, t2, t3, t4⟩ := hT
  refine e_X13_isBelow ?_
  refine u_X13_isBelow_0 ?_; unfold qm_X13_isBelow_0
  refine w_rdI hla rfl (by omega) s3 (w_rdI hlb rfl (by omega) t3 ?_)
  have em : (if nI T.length < nI S.length then nI T.length else nI S.length) = nI (min S.length T.length) := by
    by_cases hc : T.length < S.length
    · rw [if_pos (nI_lt hc (by omega)), Nat.min_eq_right (by omega)]
    · rw [if_neg (nI_nlt (by omega) (by omega)), Nat.min_eq_left (by omega)]
  rw [em]
  have key : ∀ (d k : Nat), k + d = min S.length T.length → (∀ j, j < k → S[j]? = T[j]?) → Tt (fun K i => q_X13_isBelow K i 1 (nI o) (nI p) (nI (min S.length T.length)) (nI (k + 1)) h g z) (fun r => r = (bZ (lxb S T), z)) := by
    intro d
    induction d with
    | zero =>
      intro k hk heq
      have e := (lxb_drop k S T heq (by omega) (by omega)).trans (lxb_end (by omega) (by omega) (by omega))
      refine u_X13_isBelow_1 ?_; unfold qm_X13_isBelow_1
      refine w_ltT (by omega) (by omega) (w_rdI hla rfl (by omega) s3 (w_rdI hlb rfl (by omega) t3 (w_le (by omega) (by omega) (fun h9 => w_okZ (Or.inl rfl) (w_some ?_)) (fun h9 => w_okZ (Or.inr rfl) (w_some ?_)))))
      · rw [e, decide_eq_false (by omega)]
        rfl
      · rw [e, decide_eq_true h9]
        rfl
    | succ d ih =>
      intro k hk heq
      have hks : k < S.length := by omega
      have hkt : k < T.length := by omega
      obtain ⟨a, a1, a2, a3⟩ := rc_get (z := z) (o := o) ⟨s1, s2, s3, s4⟩ hks
      obtain ⟨b, b1, b2, b3⟩ := rc_get (z := z) (o := p) ⟨t1, t2, t3, t4⟩ hkt
      refine u_X13_isBelow_1 ?_; unfold qm_X13_isBelow_1
      rw [nI_add, nI_add]
      refine w_ltF (by omega) (by omega) (w_rdI hla rfl (by omega) a3 (w_rdI hlb rfl (by omega) b3 (w_eqN (by omega) (by omega) (fun h9 => ?_) (fun h9 => w_rdI hla rfl (by omega) a3 (w_rdI hlb rfl (by omega) b3 (w_le (by omega) (by omega) (fun h8 => w_okZ (Or.inl rfl) (w_some ?_)) (fun h8 => w_okZ (Or.inr rfl) (w_some ?_))))))))
      · rw [nI_1]
        refine ih (k + 1) (by omega) (fun j hj => ?_)
        by_cases hjk : j = k
        · rw [hjk, a1, b1, h9]
        · exact heq j (by omega)
      · rw [lxb_drop k S T heq (by omega) (by omega), lxb_at a1 b1 h9, decide_eq_false (by omega)]
        rfl
      · rw [lxb_drop k S T heq (by omega) (by omega), lxb_at a1 b1 h9, decide_eq_true h8]
        rfl
  exact key _ 0 (Nat.zero_add _) (fun j hj => by omega)
/-- the visits of a row -/
def vOf (T : List Nat) : Nat := T.countP (fun t => decide (0 < t))
theorem vOf_take {T : List Nat} {k t : Nat} (h : T[k]? = some t) : vOf (T.take (k + 1)) = vOf (T.take k) + if 0 < t then 1 else 0 := by
  obtain ⟨h1, h2⟩ := List.getElem?_eq_some_iff.mp h
  rw [List.take_succ_eq_append_getElem h1, h2]
  unfold vOf
  rw [List.countP_append]
  by_cases h9 : 0 < t
  · rw [if_pos h9, List.countP_cons_of_pos (by simpa using h9)]
    rfl
  · rw [if_neg h9, List.countP_cons_of_neg (by simpa using h9)]
    rfl
theorem vOf_le (T : List Nat) : vOf T ≤ T.length := List.countP_le_length
theorem e_X13_visitsOf {r0 : Nat} {x1 : Int32} {z : ow_MS} {Q : (Int32 × ow_MS) → Prop} (H : Tt (fun K k => q_X13_visitsOf K k 0 x1 0 0 r0 0 0 z) Q) : Te (fun K => qe_X13_visitsOf K r0 x1 z) Q := w_te H
theorem u_X13_visitsOf_0 {x1 : Int32} {x2 : Int32} {x3 : Int32} {r0 : Nat} {t0 : Int32} {t1 : Int32} {z : ow_MS} {Q : (Int32 × ow_MS) → Prop} (H : Tt (fun K k => qm_X13_visitsOf_0 K (q_X13_visitsOf K k) x1 x2 x3 r0 t0 t1 z) Q) : Tt (fun K k => q_X13_visitsOf K k 0 x1 x2 x3 r0 t0 t1 z) Q := w_un (fun _ _ => rfl) H
theorem u_X13_visitsOf_1 {x1 : Int32} {x2 : Int32} {x3 : Int32} {r0 : Nat} {t0 : Int32} {t1 : Int32} {z : ow_MS} {Q : (Int32 × ow_MS) → Prop} (H : Tt (fun K k => qm_X13_visitsOf_1 K (q_X13_visitsOf K k) x1 x2 x3 r0 t0 t1 z) Q) : Tt (fun K k => q_X13_visitsOf K k 1 x1 x2 x3 r0 t0 t1 z) Q := w_un (fun _ _ => rfl) H
theorem u_X13_visitsOf_2 {x1 : Int32} {x2 : Int32} {x3 : Int32} {r0 : Nat} {t0 : Int32} {t1 : Int32} {z : ow_MS} {Q : (Int32 × ow_MS) → Prop} (H : Tt (fun K k => qm_X13_visitsOf_2 K (q_X13_visitsOf K k) x1 x2 x3 r0 t0 t1 z) Q) : Tt (fun K k => q_X13_visitsOf K k 2 x1 x2 x3 r0 t0 t1 z) Q := w_un (fun _ _ => rfl) H
theorem tr_visits {z : ow_MS} {h o la : Nat} {T : List Nat} (hla : (mX.2 h).2.1 = la) (ha : la < 2 ^ 30) (h1 : o + T.length < la) (hT : rc_At z h o T) : Te (fun K => qe_X13_visitsOf K h (nI o) z) (fun r => r = (nI (vOf T), z)) := by
  obtain ⟨t1, t2, t3, t4⟩ := hT
  refine e_X13_visitsOf ?_
  refine u_X13_visitsOf_0 ?_; unfold qm_X13_visitsOf_0
  have key : ∀ (d k : Nat), k + d = T.length → Tt (fun K i => q_X13_visitsOf K i 1 (nI o) (nI (vOf (T.take k))) (nI (k + 1)) h 0 0 z) (fun r => r = (nI (vOf T), z)) := by
    intro d
    induction d with
    | zero =>
      intro k hk
      refine u_X13_visitsOf_1 ?_; unfold qm_X13_visitsOf_1
      refine w_rdI hla rfl (by omega) t3 (w_ltT (by omega) (by omega) (w_some ?_))
      rw [List.take_of_length_le (by omega)]
    | succ d ih =>
      intro k hk
      obtain ⟨t, a1, a2, a3⟩ := rc_get (z := z) (o := o) ⟨t1, t2, t3, t4⟩ (k := k) (by omega)
      have hv := vOf_take a1
      refine u_X13_visitsOf_1 ?_; unfold qm_X13_visitsOf_1
      rw [nI_add]
      refine w_rdI hla rfl (by omega) t3 (w_ltF (by omega) (by omega) (w_rdI hla rfl (by omega) a3 (w_le (b := 0) (by omega) (by omega) (fun h9 => ?_) (fun h9 => ?_))))
      · refine u_X13_visitsOf_2 ?_; unfold qm_X13_visitsOf_2
        have := ih (k + 1) (by omega)
        rw [hv, if_neg (by omega)] at this
        rw [nI_1, Int32.add_zero]
        exact this
      · refine u_X13_visitsOf_2 ?_; unfold qm_X13_visitsOf_2
        have := ih (k + 1) (by omega)
        rw [hv, if_pos h9] at this
        rw [nI_1, nI_1]
        exact this
  exact key _ 0 (Nat.zero_add _)
/-- the order of the lists of diagrams -/
def lsr (S T : List Nat) : Bool := if vOf S = vOf T then lxb S T else decide (vOf S < vOf T)
theorem e_X13_isLesser {r0 : Nat} {x1 : Int32} {r2 : Nat} {x3 : Int32} {z : ow_MS} {Q : (Int32 × ow_MS) → Prop} (H : Tt (fun K _ => qm_X13_isLesser_0 K x1 x3 r0 r2 z) Q) : Te (fun K => qe_X13_isLesser K r0 x1 r2 x3 z) Q := w_te0 H
theorem tr_lesser {z : ow_MS} {h g o p la lb : Nat} {S T : List Nat} (hla : (mX.2 h).2.1 = la) (hlb : (mX.2 g).2.1 = lb) (ha : la < 2 ^ 30) (hb : lb < 2 ^ 30) (h1 : o + S.length < la) (h2 : p + T.length < lb) (hS : rc_At z h o S) (hT : rc_At z g p T) : Te (fun K => qe_X13_isLesser K h (nI o) g (nI p) z) (fun r => r = (bZ (lsr S T), z)) := by
  have v1 := vOf_le S
  have v2 := vOf_le T
  refine e_X13_isLesser ?_; unfold qm_X13_isLesser_0
  refine w_cs1 (tr_visits hla ha h1 hS) (fun a z1 e => ?_)
  cases e
  refine w_cs1 (tr_visits hlb hb h2 hT) (fun a z1 e => ?_)
  cases e
  refine w_eqN (by omega) (by omega) (fun h9 => w_cs1 (tr_below hla hlb ha hb h1 h2 hS hT) (fun a z1 e => ?_)) (fun h9 => w_le (by omega) (by omega) (fun h8 => w_okZ (Or.inl rfl) (w_some ?_)) (fun h8 => w_okZ (Or.inr rfl) (w_some ?_)))
  · cases e
    refine w_okZ (bZ_01 _) (w_some ?_)
    unfold lsr
    rw [if_pos h9]
  · unfold lsr
    rw [if_neg h9, decide_eq_false (by omega)]
    rfl
  · unfold lsr
    rw [if_neg h9, decide_eq_true h8]
    rfl
theorem e_X13_isSame {r0 : Nat} {x1 : Int32} {r2 : Nat} {x3 : Int32} {z : ow_MS} {Q : (Int32 × ow_MS) → Prop} (H : Tt (fun K k => q_X13_isSame K k 0 x1 x3 0 r0 r2 z) Q) : Te (fun K => qe_X13_isSame K r0 x1 r2 x3 z) Q := w_te H
theorem u_X13_isSame_0 {x1 : Int32} {x3 : Int32} {x4 : Int32} {r0 : Nat} {r2 : Nat} {z : ow_MS} {Q : (Int32 × ow_MS) → Prop} (H : Tt (fun K k => qm_X13_isSame_0 K (q_X13_isSame K k) x1 x3 x4 r0 r2 z) Q) : Tt (fun K k => q_X13_isSame K k 0 x1 x3 x4 r0 r2 z) Q := w_un (fun _ _ => rfl) H
theorem u_X13_isSame_1 {x1 : Int32} {x3 : Int32} {x4 : Int32} {r0 : Nat} {r2 : Nat} {z : ow_MS} {Q : (Int32 × ow_MS) → Prop} (H : Tt (fun K k => qm_X13_isSame_1 K (q_X13_isSame K k) x1 x3 x4 r0 r2 z) Q) : Tt (fun K k => q_X13_isSame K k 1 x1 x3 x4 r0 r2 z) Q := w_un (fun _ _ => rfl) H
theorem tr_same {z : ow_MS} {h g o p la lb : Nat} {S T : List Nat} (hla : (mX.2 h).2.1 = la) (hlb : (mX.2 g).2.1 = lb) (ha : la < 2 ^ 30) (hb : lb < 2 ^ 30) (h1 : o + S.length < la) (h2 : p + S.length < lb) (hS : rc_At z h o S) (hT : rc_At z g p T) : Te (fun K => qe_X13_isSame K h (nI o) g (nI p) z) (fun r => r = (bZ (decide (S = T)), z)) := by
  obtain ⟨s1, s2, s3, s4⟩ := hS
  obtain ⟨t1, t2, t3, t4⟩ := hT
  refine e_X13_isSame ?_
  refine u_X13_isSame_0 ?_; unfold qm_X13_isSame_0
  have key : S.length = T.length → ∀ (d k : Nat), k + d = S.length → (∀ j, j < k → S[j]? = T[j]?) → Tt (fun K i => q_X13_isSame K i 1 (nI o) (nI p) (nI (k + 1)) h g z) (fun r => r = (bZ (decide (S = T)), z)) := by
    intro hlen d
    induction d with
    | zero =>
      intro k hk heq
      refine u_X13_isSame_1 ?_; unfold qm_X13_isSame_1
      refine w_rdI hla rfl (by omega) s3 (w_ltT (by omega) (by omega) (w_okZ (Or.inr rfl) (w_some ?_)))
      have e : S = T := List.ext_getElem? (fun j => by
        by_cases hj : j < k
        · exact heq j hj
        · rw [List.getElem?_eq_none (by omega), List.getElem?_eq_none (by omega)])
      rw [decide_eq_true e]
      rfl
    | succ d ih =>
      intro k hk heq
      obtain ⟨a, a1, a2, a3⟩ := rc_get (z := z) (o := o) ⟨s1, s2, s3, s4⟩ (k := k) (by omega)
      obtain ⟨b, b1, b2, b3⟩ := rc_get (z := z) (o := p) ⟨t1, t2, t3, t4⟩ (k := k) (by omega)
      refine u_X13_isSame_1 ?_; unfold qm_X13_isSame_1
      rw [nI_add, nI_add]
      refine w_rdI hla rfl (by omega) s3 (w_ltF (by omega) (by omega) (w_rdI hla rfl (by omega) a3 (w_rdI hlb rfl (by omega) b3 (w_eqN (by omega) (by omega) (fun h9 => ?_) (fun h9 => w_okZ (Or.inl rfl) (w_some ?_))))))
      · rw [nI_1]
        refine ih (k + 1) (by omega) (fun j hj => ?_)
        by_cases hjk : j = k
        · rw [hjk, a1, b1, h9]
        · exact heq j (by omega)
      · have e : ¬ S = T := fun e => by
          rw [e, b1] at a1
          cases a1
          exact h9 rfl
        rw [decide_eq_false e]
        rfl
  refine u_X13_isSame_1 ?_; unfold qm_X13_isSame_1
  refine w_rdI hla rfl (by omega) s3 (w_ltF (b := 0) (by omega) (by omega) ?_)
  have e0 : ∀ a : Nat, nI a + 0 = nI a := fun a => Int32.add_zero _
  rw [e0, e0]
  refine w_rdI hla rfl (by omega) s3 (w_rdI hlb rfl (by omega) t3 (w_eqN (by omega) (by omega) (fun h9 => ?_) (fun h9 => w_okZ (Or.inl rfl) (w_some ?_))))
  · exact key h9 S.length 0 (Nat.zero_add _) (fun j hj => by omega)
  · have e : ¬ S = T := fun e => h9 (by rw [e])
    rw [decide_eq_false e]
    rfl
/-! a net as a row -/
def tkv (sg : Nat → Bool) (p : Nat × Nat) : Nat := 4 * (p.1 + 1) + 2 * p.2 + if sg p.1 then 1 else 0
def tkc (sg : Nat → Bool) (B : List (Nat × Nat)) : List Nat := B.map (tkv sg) ++ [0]
def tk (sg : Nat → Bool) (A : rn_L) : List Nat := (A.map (tkc sg)).flatten
theorem tkc_len {sg : Nat → Bool} {B : List (Nat × Nat)} : (tkc sg B).length = B.length + 1 := by
  unfold tkc
  rw [List.length_append, List.length_map]
  rfl
theorem tk_len {sg : Nat → Bool} : ∀ A : rn_L, (tk sg A).length = A.flatten.length + A.length
  | [] => rfl
  | B :: A => by
    have := tk_len (sg := sg) A
    unfold tk at this ⊢
    rw [List.map_cons, List.flatten_cons, List.length_append, tkc_len, this, List.flatten_cons, List.length_append, List.length_cons]
    omega
theorem tk_app {sg : Nat → Bool} {A B : rn_L} : tk sg (A ++ B) = tk sg A ++ tk sg B := by
  unfold tk
  rw [List.map_append, List.flatten_append]
theorem tk_cons {sg : Nat → Bool} {B : List (Nat × Nat)} {A : rn_L} : tk sg (B :: A) = B.map (tkv sg) ++ 0 :: tk sg A := by
  unfold tk tkc
  rw [List.map_cons, List.flatten_cons, List.append_assoc]
  rfl
/-- the signs of a net's crossings -/
def rn_sg (z : ow_MS) (n : Nat) (F : List (Nat × Nat)) (sg : Nat → Bool) : Prop := ∀ p, p ∈ F → z.2.1 (n + 6) p.1 = if sg p.1 then -1 else 1
theorem rn_shr2 {a : Nat} (ha : a < 2 ^ 31) : nI a >>> ((2 : Int32) &&& 31) = nI (a / 4) := pk_shrN (n := a) ha ((2 : Int32) &&& 31) 2 (by decide)
theorem u_X13_unpack_1 {x1 : Int32} {x3 : Int32} {x4 : Int32} {r0 : Nat} {r2 : Nat} {t0 : Int32} {t1 : Int32} {z : ow_MS} {Q : ow_MS → Prop} (H : Tt (fun K k => qm_X13_unpack_1 K (q_X13_unpack K k) x1 x3 x4 r0 r2 t0 t1 z) Q) : Tt (fun K k => q_X13_unpack K k 1 x1 x3 x4 r0 r2 t0 t1 z) Q := w_un (fun _ _ => rfl) H
theorem u_X13_unpack_3 {x1 : Int32} {x3 : Int32} {x4 : Int32} {r0 : Nat} {r2 : Nat} {t0 : Int32} {t1 : Int32} {z : ow_MS} {Q : ow_MS → Prop} (H : Tt (fun K k => qm_X13_unpack_3 K (q_X13_unpack K k) x1 x3 x4 r0 r2 t0 t1 z) Q) : Tt (fun K k => q_X13_unpack K k 3 x1 x3 x4 r0 r2 t0 t1 z) Q := w_un (fun _ _ => rfl) H
theorem u_X13_unpack_2 {x1 : Int32} {x3 : Int32} {x4 : Int32} {r0 : Nat} {r2 : Nat} {t0 : Int32} {t1 : Int32} {z : ow_MS} {Q : ow_MS → Prop} (H : Tt (fun K k => qm_X13_unpack_2 K (q_X13_unpack K k) x1 x3 x4 r0 r2 t0 t1 z) Q) : Tt (fun K k => q_X13_unpack K k 2 x1 x3 x4 r0 r2 t0 t1 z) Q := w_un (fun _ _ => rfl) H
theorem e_X13_unpack {r0 : Nat} {x1 : Int32} {r2 : Nat} {z : ow_MS} {Q : ow_MS → Prop} (H : Tt (fun K k => q_X13_unpack K k 0 x1 0 0 r0 r2 0 0 z) Q) : Te (fun K => qe_X13_unpack K r0 x1 r2 z) Q := w_te H
theorem u_X13_unpack_0 {x1 : Int32} {x3 : Int32} {x4 : Int32} {r0 : Nat} {r2 : Nat} {t0 : Int32} {t1 : Int32} {z : ow_MS} {Q : ow_MS → Prop} (H : Tt (fun K k => qm_X13_unpack_0 K (q_X13_unpack K k) x1 x3 x4 r0 r2 t0 t1 z) Q) : Tt (fun K k => q_X13_unpack K k 0 x1 x3 x4 r0 r2 t0 t1 z) Q := w_un (fun _ _ => rfl) H
theorem tr_unpack {z : ow_MS} {h o n la : Nat} {A : rn_L} {sg : Nat → Bool} (hn : mw_net n) (hh : h < 1000) (hla : (mX.2 h).2.1 = la) (ha : la < 2 ^ 30) (h1 : o + (tk sg A).length < la) (hc : A.length ≤ 38) (hl : A.flatten.length ≤ 40) (hx : ∀ p : Nat × Nat, p ∈ A.flatten → p.1 < 40 ∧ p.2 < 2) (hT : rc_At z h o (tk sg A)) : Te (fun K => qe_X13_unpack K h (nI o) n z) (fun z1 => rn_At z1 n A [] ∧ rn_sg z1 n A.flatten sg ∧ fr (fun g => n + 1 ≤ g ∧ g ≤ n + 6) z z1) := by
  have hm := net_mod hn
  have frT : ∀ {P : Nat → Prop} {y y1 : ow_MS}, fr P y y1 → (∀ g, P g → n + 1 ≤ g ∧ g ≤ n + 6) → rc_At y h o (tk sg A) → rc_At y1 h o (tk sg A) := fun hf hP h9 => rc_fr hf (fun h8 => by have := hP _ h8; omega) h9
  let Q : ow_MS → Prop := fun z1 => rn_At z1 n A [] ∧ rn_sg z1 n A.flatten sg ∧ fr (fun g => n + 1 ≤ g ∧ g ≤ n + 6) z z1
  have out : ∀ (A2 A1 : rn_L) (z1 : ow_MS), A1 ++ A2 = A → fr (fun g => n + 1 ≤ g ∧ g ≤ n + 6) z z1 → rc_At z1 h o (tk sg A) → rn_At z1 n A1 [] → rn_sg z1 n A1.flatten sg → Tt (fun K k => q_X13_unpack K k 1 (nI o) (nI ((tk sg A1).length + 1)) 0 h n 0 0 z1) Q := by
    intro A2
    induction A2 with
    | nil =>
      intro A1 z1 hA hf hT hzn hs
      rw [List.append_nil] at hA
      subst hA
      refine u_X13_unpack_1 ?_; unfold qm_X13_unpack_1
      exact w_rdI hla rfl (by omega) hT.2.2.1 (w_ltT (by omega) (by omega) (w_some ⟨hzn, hs, hf⟩))
    | cons B A2 ih =>
      intro A1 z1 hA hf hT hzn hs
      have hC : A1.length + 1 ≤ A.length := by
        rw [← hA, List.length_append, List.length_cons]
        omega
      have eT : tk sg A = tk sg A1 ++ (B.map (tkv sg) ++ 0 :: tk sg A2) := by rw [← hA, tk_app, tk_cons]
      have hLT : (tk sg A1).length + B.length + 1 ≤ (tk sg A).length := by
        rw [eT, List.length_append, List.length_append, List.length_map, List.length_cons]
        omega
      have hL : A1.flatten.length + B.length ≤ A.flatten.length := by
        have : (A1 ++ B :: A2).flatten.length = A1.flatten.length + (B.length + A2.flatten.length) := by simp
        rw [← hA]
        omega
      have inn : ∀ (B2 B1 : List (Nat × Nat)) (z1 : ow_MS), B1 ++ B2 = B → fr (fun g => n + 1 ≤ g ∧ g ≤ n + 6) z z1 → rc_At z1 h o (tk sg A) → rn_At z1 n A1 B1 → rn_sg z1 n (A1.flatten ++ B1) sg → Tt (fun K k => q_X13_unpack K k 1 (nI o) (nI ((tk sg A1).length + B1.length + 1)) 0 h n 0 0 z1) Q := by
        intro B2
        induction B2 with
        | nil =>
          intro B1 z1 hB hf hT hzn hs
          rw [List.append_nil] at hB
          subst hB
          have tok : (tk sg A)[(tk sg A1).length + B1.length]? = some 0 := by
            rw [eT, List.getElem?_append_right (by omega), Nat.add_sub_cancel_left, List.getElem?_append_right (by rw [List.length_map]; omega), List.length_map, Nat.sub_self]
            rfl
          have e0 := hT.2.2.2 _ _ tok
          refine u_X13_unpack_1 ?_; unfold qm_X13_unpack_1
          rw [nI_add]
          refine w_rdI hla rfl (by omega) hT.2.2.1 (w_ltF (by omega) (by omega) (w_rdI hla rfl (by omega) e0 (w_ifT rfl (w_cs0 (tn_end hn hzn (by omega)) (fun z2 ⟨e1, e2⟩ => ?_)))))
          refine u_X13_unpack_3 ?_; unfold qm_X13_unpack_3
          rw [nI_1]
          have := ih (A1 ++ [B1]) z2 (by rw [← hA]; simp) (fr_tr hf (fr_mono (fun g hg => by omega) e2)) (frT e2 (fun g hg => by omega) hT) e1 (fun p hp => by
            rw [(e2 (n + 6) (by omega)).2.1]
            exact hs p (by simpa using hp))
          rw [tk_app, tk_cons, List.length_append, List.length_append, List.length_map] at this
          exact this
        | cons p B2 ihB =>
          intro B1 z1 hB hf hT hzn hs
          have hBl : B1.length + (B2.length + 1) = B.length := by
            rw [← hB, List.length_append]
            rfl
          have hpA : p ∈ A.flatten := by
            rw [← hA, ← hB]
            simp
          obtain ⟨hp1, hp2⟩ := hx p hpA
          have tok : (tk sg A)[(tk sg A1).length + B1.length]? = some (tkv sg p) := by
            rw [eT, List.getElem?_append_right (by omega), Nat.add_sub_cancel_left, List.getElem?_append_left (by rw [List.length_map]; omega), ← hB, List.map_append, List.getElem?_append_right (by rw [List.length_map]; omega), List.length_map, Nat.sub_self]
            rfl
          have e0 := hT.2.2.2 _ _ tok
          have ht : tkv sg p < 200 := hT.2.1 _ (List.mem_of_getElem? tok)
          have hq : tkv sg p / 4 = p.1 + 1 ∧ tkv sg p / 2 % 2 = p.2 ∧ tkv sg p % 2 = (if sg p.1 then 1 else 0) ∧ 0 < tkv sg p := by
            unfold tkv
            cases sg p.1 <;> simp <;> omega
          obtain ⟨q1, q2, q3, q4⟩ := hq
          have eS : nI (tkv sg p) >>> ((2 : Int32) &&& 31) - 1 = nI p.1 := by
            rw [rn_shr2 (by omega), q1]
            exact nI_pred _
          have eU : nI (tkv sg p) >>> ((1 : Int32) &&& 31) &&& 1 = nI p.2 := by
            rw [rn_shr1 (by omega), rn_and1 (by omega), q2]
          have c2 : ∀ t : Int32, t = (if sg p.1 then -1 else 1) → Tt (fun K k => q_X13_unpack K k 2 (nI o) (nI ((tk sg A1).length + B1.length + 1)) (nI (tkv sg p)) h n t (nI p.1) z1) Q := by
            intro t ht
            refine u_X13_unpack_2 ?_; unfold qm_X13_unpack_2
            rw [eS, eU]
            have hA2 : rn_At (usI z1 (n + 6) p.1 t) n A1 B1 := fr_At (P := fun g => g = n + 6) (fr_I rfl) (fun g hg => by omega) hzn
            refine w_wrI (pl6 hn) rfl hp1 (w_cs0 (tn_add hn hA2 (by rw [List.length_append]; omega)) (fun z2 ⟨e1, e2⟩ => ?_))
            refine u_X13_unpack_3 ?_; unfold qm_X13_unpack_3
            rw [nI_1]
            have hf2 : fr (fun g => n + 1 ≤ g ∧ g ≤ n + 6) z1 z2 := fr_tr (fr_I (by omega)) (fr_mono (fun g hg => by omega) e2)
            have := ihB (B1 ++ [p]) z2 (by rw [← hB]; simp) (fr_tr hf hf2) (frT hf2 (fun g hg => hg) hT) e1 (fun p9 hp9 => by
              rw [(e2 (n + 6) (by omega)).2.1]
              by_cases he : p9.1 = p.1
              · rw [he, po_usI_at, ht]
              · rw [po_usI_ne he]
                rw [← List.append_assoc, List.mem_append] at hp9
                rcases hp9 with hp9 | hp9
                · exact hs p9 hp9
                · rw [List.mem_singleton.mp hp9] at he
                  exact absurd rfl he)
            rw [List.length_append] at this
            exact this
          refine u_X13_unpack_1 ?_; unfold qm_X13_unpack_1
          rw [nI_add]
          refine w_rdI hla rfl (by omega) hT.2.2.1 (w_ltF (by omega) (by omega) (w_rdI hla rfl (by omega) e0 (w_ifF (nI_ne0 q4 (by omega)) ?_)))
          rw [rn_and1 (by omega), q3, eS]
          cases hsg : sg p.1 with
          | true => exact w_ifT rfl (c2 _ (by rw [hsg]; rfl))
          | false => exact w_ifF (by decide) (c2 _ (by rw [hsg]; rfl))
      exact inn B [] z1 (List.nil_append _) hf hT hzn (by rw [List.append_nil]; exact hs)
  refine e_X13_unpack ?_
  refine u_X13_unpack_0 ?_; unfold qm_X13_unpack_0
  refine w_cs0 (tn_clear hn) (fun z1 ⟨e1, e2⟩ => ?_)
  exact out A [] z1 (List.nil_append _) (fr_mono (fun g hg => by omega) e2) (frT e2 (fun g hg => by omega) hT) e1 (fun p hp => by simp at hp)
end
section
/-! 99zzg.trav -/
/-! the code from a start, as lists -/
def vAt (A : rn_L) (v : Nat) : Nat × Nat := (A.flatten[v]?).getD (0, 0)
def crs (A : rn_L) (v : Nat) : Nat := (vAt A v).1
def uns (A : rn_L) (v : Nat) : Nat := (vAt A v).2
theorem vAt_of {A : rn_L} {v : Nat} (h : v < A.flatten.length) : A.flatten[v]? = some (vAt A v) := by
  unfold vAt
  rw [List.getElem?_eq_getElem h]
  rfl
theorem vAt_eq {A : rn_L} {v : Nat} {p : Nat × Nat} (h : A.flatten[v]? = some p) : vAt A v = p := by
  unfold vAt
  rw [h]
  rfl
def mtf (A : rn_L) (v : Nat) : Nat := ((List.range A.flatten.length).find? (fun w => decide (w ≠ v) && decide (crs A w = crs A v))).getD 0
theorem mtf_eq {A : rn_L} {v w : Nat} (hd : rn_ok A.flatten) (h : rn_mt A.flatten v w) : mtf A v = w := by
  unfold mtf
  obtain ⟨hv, hw⟩ := rn_mt_lt h
  have hmt : ∀ u, u < A.flatten.length → (decide (u ≠ v) && decide (crs A u = crs A v)) = true → rn_mt A.flatten v u := by
    intro u hu h9
    rw [Bool.and_eq_true, decide_eq_true_iff, decide_eq_true_iff] at h9
    exact ⟨fun e => h9.1 e.symm, _, _, vAt_of hv, vAt_of hu, h9.2.symm⟩
  cases hf : (List.range A.flatten.length).find? (fun w => decide (w ≠ v) && decide (crs A w = crs A v)) with
  | none =>
    have h1 := List.find?_eq_none.mp hf w (List.mem_range.mpr hw)
    exfalso
    apply h1
    obtain ⟨h2, p, q, h3, h4, h5⟩ := h
    rw [Bool.and_eq_true, decide_eq_true_iff, decide_eq_true_iff]
    refine ⟨fun e => h2 e.symm, ?_⟩
    unfold crs
    rw [vAt_eq h3, vAt_eq h4, h5]
  | some u =>
    have h1 := List.find?_some hf
    have h2 := List.mem_range.mp (List.mem_of_find?_eq_some hf)
    exact hd.1.1 v u w (hmt u h2 h1) h
theorem mtf_mt {A : rn_L} {v : Nat} (hd : rn_ok A.flatten) (hv : v < A.flatten.length) : rn_mt A.flatten v (mtf A v) := by
  obtain ⟨w, hw⟩ := hd.2 v hv
  rw [mtf_eq hd hw]
  exact hw
/-- a component's length, and its visits from s on -/
def rlen (A : rn_L) (c : Nat) : Nat := rn_b A (c + 1) - rn_b A c
def rv (A : rn_L) (s j : Nat) : Nat := if s + j < rn_b A (rn_c A s + 1) then s + j else s + j - rlen A (rn_c A s)
theorem rv_0 {A : rn_L} {s : Nat} (hs : s < A.flatten.length) : rv A s 0 = s := by
  obtain ⟨h1, h2, h3⟩ := rn_c_in A s hs
  unfold rv
  rw [if_pos (by omega)]
  rfl
theorem rlen_pos {A : rn_L} {s : Nat} (hs : s < A.flatten.length) : 0 < rlen A (rn_c A s) := by
  obtain ⟨h1, h2, h3⟩ := rn_c_in A s hs
  unfold rlen
  omega
theorem rv_in {A : rn_L} {s j : Nat} (hs : s < A.flatten.length) (hj : j < rlen A (rn_c A s)) : rn_b A (rn_c A s) ≤ rv A s j ∧ rv A s j < rn_b A (rn_c A s + 1) := by
  obtain ⟨h1, h2, h3⟩ := rn_c_in A s hs
  unfold rv
  unfold rlen at hj ⊢
  by_cases h : s + j < rn_b A (rn_c A s + 1)
  · rw [if_pos h]; omega
  · rw [if_neg h]; omega
theorem rv_c {A : rn_L} {s j : Nat} (hs : s < A.flatten.length) (hj : j < rlen A (rn_c A s)) : rn_c A (rv A s j) = rn_c A s := by
  obtain ⟨h1, h2⟩ := rv_in hs hj
  exact rn_c_of A _ _ h1 h2
theorem rv_lt {A : rn_L} {s j : Nat} (hs : s < A.flatten.length) (hj : j < rlen A (rn_c A s)) : rv A s j < A.flatten.length := by
  obtain ⟨h1, h2⟩ := rv_in hs hj
  have := rn_b_le A (rn_c A s + 1)
  omega
theorem rv_nx {A : rn_L} {s j : Nat} (hs : s < A.flatten.length) (hj : j < rlen A (rn_c A s)) : rn_nx A (rv A s j) = if j + 1 = rlen A (rn_c A s) then s else rv A s (j + 1) := by
  obtain ⟨h1, h2, h3⟩ := rn_c_in A s hs
  have hc := rv_c hs hj
  obtain ⟨h4, h5⟩ := rv_in hs hj
  unfold rn_nx
  rw [hc]
  unfold rv at h4 h5 ⊢
  unfold rlen at hj h4 h5 ⊢
  generalize rn_b A (rn_c A s) = b0 at *
  generalize rn_b A (rn_c A s + 1) = b1 at *
  by_cases h : s + j < b1
  · rw [if_pos h] at h4 h5 ⊢
    by_cases h6 : s + j + 1 < b1
    · rw [if_pos h6, if_neg (by omega), if_pos (by omega)]
      omega
    · rw [if_neg h6]
      by_cases h7 : j + 1 = b1 - b0
      · rw [if_pos h7]; omega
      · rw [if_neg h7, if_neg (by omega)]; omega
  · rw [if_neg h] at h4 h5 ⊢
    by_cases h7 : j + 1 = b1 - b0
    · rw [if_pos h7, if_pos (by omega)]; omega
    · rw [if_neg h7, if_pos (by omega), if_neg (by omega)]; omega
theorem rv_ne {A : rn_L} {s j : Nat} (hs : s < A.flatten.length) (hj : j < rlen A (rn_c A s)) (h0 : 0 < j) : rv A s j ≠ s := by
  obtain ⟨h1, h2, h3⟩ := rn_c_in A s hs
  unfold rv
  unfold rlen at hj ⊢
  by_cases h : s + j < rn_b A (rn_c A s + 1)
  · rw [if_pos h]; omega
  · rw [if_neg h]; omega
def rgl (A : rn_L) (s : Nat) : List Nat := (List.range (rlen A (rn_c A s))).map (rv A s)
def vsO (A : rn_L) (S : List Nat) : List Nat := (S.map (rgl A)).flatten
theorem vsO_app {A : rn_L} {S : List Nat} {s : Nat} : vsO A (S ++ [s]) = vsO A S ++ rgl A s := by
  unfold vsO
  rw [List.map_append, List.flatten_append]
  simp
theorem rgl_len {A : rn_L} {s : Nat} : (rgl A s).length = rlen A (rn_c A s) := by
  unfold rgl
  rw [List.length_map, List.length_range]
theorem rgl_mem {A : rn_L} {s v : Nat} (h : v ∈ rgl A s) : ∃ j, j < rlen A (rn_c A s) ∧ v = rv A s j := by
  unfold rgl at h
  obtain ⟨j, h1, h2⟩ := List.mem_map.mp h
  exact ⟨j, List.mem_range.mp h1, h2.symm⟩
/-- the visits that meet a crossing first -/
def fmA (A : rn_L) (a : List Nat) (v : Nat) : List Nat := if crs A v ∈ a.map (crs A) then a else a ++ [v]
def fm (A : rn_L) (vs : List Nat) : List Nat := vs.foldl (fmA A) []
theorem fm_app {A : rn_L} {vs : List Nat} {v : Nat} : fm A (vs ++ [v]) = fmA A (fm A vs) v := by
  unfold fm
  rw [List.foldl_append]
  rfl
theorem fm_rev {A : rn_L} {P : List Nat → Prop} (h0 : P []) (h1 : ∀ vs v, P vs → P (vs ++ [v])) : ∀ vs, P vs := by
  intro vs
  have : ∀ n, ∀ vs : List Nat, vs.length = n → P vs := by
    intro n
    induction n with
    | zero => intro vs h; rw [List.length_eq_zero_iff.mp h]; exact h0
    | succ n ih =>
      intro vs h
      rcases List.eq_nil_or_concat vs with e | ⟨L, b, e⟩
      · rw [e] at h; simp at h
      · rw [e, List.concat_eq_append]
        exact h1 L b (ih L (by rw [e, List.concat_eq_append, List.length_append] at h; simpa using h))
  exact this _ vs rfl
theorem fm_len {A : rn_L} (vs : List Nat) : (fm A vs).length ≤ vs.length := by
  refine fm_rev (A := A) (P := fun vs => (fm A vs).length ≤ vs.length) (Nat.le_refl _) (fun vs v ih => ?_) vs
  rw [fm_app, List.length_append]
  unfold fmA
  by_cases h : crs A v ∈ (fm A vs).map (crs A)
  · rw [if_pos h]; simp; omega
  · rw [if_neg h, List.length_append]; simp; omega
theorem fm_mem {A : rn_L} {u : Nat} (vs : List Nat) : u ∈ fm A vs → u ∈ vs := by
  refine fm_rev (A := A) (P := fun vs => u ∈ fm A vs → u ∈ vs) (fun h => h) (fun vs v ih => ?_) vs
  rw [fm_app]
  unfold fmA
  intro h
  rw [List.mem_append]
  by_cases h9 : crs A v ∈ (fm A vs).map (crs A)
  · rw [if_pos h9] at h; exact Or.inl (ih h)
  · rw [if_neg h9, List.mem_append] at h
    rcases h with h | h
    · exact Or.inl (ih h)
    · exact Or.inr h
theorem fm_cr {A : rn_L} {x : Nat} (vs : List Nat) : x ∈ (fm A vs).map (crs A) ↔ x ∈ vs.map (crs A) := by
  refine fm_rev (A := A) (P := fun vs => x ∈ (fm A vs).map (crs A) ↔ x ∈ vs.map (crs A)) (by exact Iff.rfl) (fun vs v ih => ?_) vs
  rw [fm_app, List.map_append, List.mem_append, ← ih]
  unfold fmA
  by_cases h9 : crs A v ∈ (fm A vs).map (crs A)
  · rw [if_pos h9]
    constructor
    · exact Or.inl
    · rintro (h | h)
      · exact h
      · have e : x = crs A v := by simpa using h
        rw [e]; exact h9
  · rw [if_neg h9, List.map_append, List.mem_append]
theorem fm_nd {A : rn_L} (vs : List Nat) : ((fm A vs).map (crs A)).Nodup := by
  refine fm_rev (A := A) (P := fun vs => ((fm A vs).map (crs A)).Nodup) List.nodup_nil (fun vs v ih => ?_) vs
  rw [fm_app]
  unfold fmA
  by_cases h9 : crs A v ∈ (fm A vs).map (crs A)
  · rw [if_pos h9]; exact ih
  · rw [if_neg h9, List.map_append, List.nodup_append]
    refine ⟨ih, by simp, fun a ha b hb => ?_⟩
    have e : b = crs A v := by simpa using hb
    rw [e]
    exact fun e => h9 (e ▸ ha)
def num (A : rn_L) (vs : List Nat) (x : Nat) : Nat := ((fm A vs).map (crs A)).idxOf x + 1
theorem fm_pre {A : rn_L} (vs ws : List Nat) : ∃ us, fm A (vs ++ ws) = fm A vs ++ us := by
  refine fm_rev (A := A) (P := fun ws => ∃ us, fm A (vs ++ ws) = fm A vs ++ us) ⟨[], by simp⟩ (fun ws v ih => ?_) ws
  obtain ⟨us, h⟩ := ih
  rw [← List.append_assoc, fm_app, h]
  unfold fmA
  by_cases h9 : crs A v ∈ (fm A vs ++ us).map (crs A)
  · exact ⟨us, by rw [if_pos h9]⟩
  · exact ⟨us ++ [v], by rw [if_neg h9, List.append_assoc]⟩
theorem num_st {A : rn_L} {vs ws : List Nat} {x : Nat} (h : x ∈ vs.map (crs A)) : num A (vs ++ ws) x = num A vs x := by
  obtain ⟨us, e⟩ := fm_pre (A := A) vs ws
  unfold num
  rw [e, List.map_append, List.idxOf_append, if_pos ((fm_cr vs).mpr h)]
theorem num_le {A : rn_L} {vs : List Nat} {x : Nat} (h : x ∈ vs.map (crs A)) : num A vs x ≤ (fm A vs).length := by
  have := List.idxOf_lt_length_of_mem ((fm_cr vs).mpr h)
  rw [List.length_map] at this
  unfold num
  omega
theorem num_at {A : rn_L} {vs : List Nat} {x : Nat} (h : x ∈ vs.map (crs A)) : ∃ v, (fm A vs)[num A vs x - 1]? = some v ∧ crs A v = x := by
  have h1 := List.idxOf_lt_length_of_mem ((fm_cr vs).mpr h)
  have h2 := List.getElem_idxOf h1
  have h3 : ((fm A vs).map (crs A)).idxOf x < (fm A vs).length := by rw [List.length_map] at h1; exact h1
  refine ⟨(fm A vs)[((fm A vs).map (crs A)).idxOf x], ?_, ?_⟩
  · unfold num
    rw [Nat.add_sub_cancel, List.getElem?_eq_getElem h3]
  · rw [List.getElem_map] at h2
    exact h2
theorem num_of {A : rn_L} {vs : List Nat} {k v : Nat} (h : (fm A vs)[k]? = some v) : num A vs (crs A v) = k + 1 := by
  obtain ⟨h1, h2⟩ := List.getElem?_eq_some_iff.mp h
  have h3 := (fm_nd (A := A) vs).idxOf_getElem k (by rw [List.length_map]; exact h1)
  rw [List.getElem_map, h2] at h3
  unfold num
  rw [h3]
def tkn (A : rn_L) (sg : Nat → Bool) (vs : List Nat) (v : Nat) : Nat := 4 * num A vs (crs A v) + 2 * uns A v + if sg (crs A v) then 1 else 0
theorem tkn_st {A : rn_L} {sg : Nat → Bool} {vs ws : List Nat} {v : Nat} (h : v ∈ vs) : tkn A sg (vs ++ ws) v = tkn A sg vs v := by
  unfold tkn
  rw [num_st (List.mem_map.mpr ⟨v, h, rfl⟩)]
def tks (A : rn_L) (sg : Nat → Bool) (vs S : List Nat) : List Nat := (S.map (fun s => (rgl A s).map (tkn A sg vs) ++ [0])).flatten
theorem tks_st {A : rn_L} {sg : Nat → Bool} {vs ws : List Nat} : ∀ S : List Nat, (∀ s, s ∈ S → ∀ v, v ∈ rgl A s → v ∈ vs) → tks A sg (vs ++ ws) S = tks A sg vs S
  | [], _ => rfl
  | s :: S, h => by
    have ih := tks_st (sg := sg) (ws := ws) S (fun s hs => h s (List.mem_cons_of_mem _ hs))
    unfold tks at ih ⊢
    rw [List.map_cons, List.flatten_cons, List.map_cons, List.flatten_cons, ih]
    congr 2
    exact List.map_congr_left (fun v hv => tkn_st (h s List.mem_cons_self v hv))
theorem tks_app {A : rn_L} {sg : Nat → Bool} {vs S : List Nat} {s : Nat} : tks A sg vs (S ++ [s]) = tks A sg vs S ++ ((rgl A s).map (tkn A sg vs) ++ [0]) := by
  unfold tks
  rw [List.map_append, List.flatten_append]
  simp
theorem vsO_mem {A : rn_L} {S : List Nat} {s v : Nat} (hs : s ∈ S) (hv : v ∈ rgl A s) : v ∈ vsO A S := by
  unfold vsO
  exact List.mem_flatten.mpr ⟨rgl A s, List.mem_map.mpr ⟨s, hs, rfl⟩, hv⟩
/-- where the walk goes on when the components of S are done -/
def gn (A : rn_L) (S : List Nat) (c : Nat) : Bool := decide (c ∈ S.map (rn_c A))
def nxS (A : rn_L) (S : List Nat) : Option Nat := ((fm A (vsO A S)).find? (fun v => !gn A S (rn_c A (mtf A v)))).map (mtf A)
def trF (A : rn_L) : Nat → List Nat → List Nat
  | 0, S => S
  | f + 1, S => match nxS A S with
    | none => S
    | some w => trF A f (S ++ [w])
def trS (A : rn_L) (s : Nat) : List Nat := trF A A.length [s]
theorem trF_none {A : rn_L} {S : List Nat} (h : nxS A S = none) : ∀ f, trF A f S = S
  | 0 => rfl
  | f + 1 => by
    unfold trF
    rw [h]
theorem trF_some {A : rn_L} {S : List Nat} {f w : Nat} (h : nxS A S = some w) : trF A (f + 1) S = trF A f (S ++ [w]) := by
  show (match nxS A S with | none => S | some w => trF A f (S ++ [w])) = _
  rw [h]
/-- what is left of a sum -/
def rem (g : Nat → Bool) (f : Nat → Nat) : Nat → Nat
  | 0 => 0
  | n + 1 => rem g f n + if g n then 0 else f n
theorem rem_congr {g g' : Nat → Bool} {f : Nat → Nat} : ∀ n, (∀ c, c < n → g c = g' c) → rem g f n = rem g' f n
  | 0, _ => rfl
  | n + 1, h => by
    unfold rem
    rw [rem_congr n (fun c hc => h c (by omega)), h n (by omega)]
theorem rem_st {g g' : Nat → Bool} {f : Nat → Nat} {c : Nat} (h0 : g c = false) (h1 : ∀ b, g' b = (g b || decide (b = c))) : ∀ n, c < n → rem g' f n + f c = rem g f n
  | 0, h => by omega
  | n + 1, h => by
    unfold rem
    by_cases hc : c = n
    · subst hc
      have e : rem g' f c = rem g f c := rem_congr c (fun b hb => by
        rw [h1 b, decide_eq_false (by omega), Bool.or_false])
      rw [e, h1 c, decide_eq_true rfl, Bool.or_true, h0]
      simp
    · have ih := rem_st (f := f) h0 h1 n (by omega)
      rw [h1 n, decide_eq_false (by omega), Bool.or_false]
      omega
theorem rem_b (A : rn_L) : ∀ n, n ≤ A.length → rem (fun _ => false) (rlen A) n = rn_b A n
  | 0, _ => rfl
  | n + 1, h => by
    unfold rem
    rw [rem_b A n (by omega)]
    have := rn_b_mono A n
    unfold rlen
    simp
    omega
theorem rem_1 : ∀ n, rem (fun _ => false) (fun _ => 1) n = n
  | 0 => rfl
  | n + 1 => by
    unfold rem
    rw [rem_1 n]
    rfl
theorem gn_app {A : rn_L} {S : List Nat} {w b : Nat} : gn A (S ++ [w]) b = (gn A S b || decide (b = rn_c A w)) := by
  unfold gn
  rw [List.map_append]
  by_cases h1 : b ∈ S.map (rn_c A)
  · simp [h1]
  · by_cases h2 : b = rn_c A w <;> simp [h1, h2]
/-! rowFrom -/
def rjN (A : rn_L) (z : ow_MS) (vs : List Nat) : Prop := (∀ k v, (fm A vs)[k]? = some v → z.2.1 5 (k + 1) = nI v ∧ z.2.1 4 (crs A v) = nI (k + 1)) ∧ ∀ x, x < 40 → x ∉ (fm A vs).map (crs A) → z.2.1 4 x = 0
def rjT (z : ow_MS) (T : List Nat) : Prop := z.1 3 = nI T.length ∧ ∀ k t, T[k]? = some t → z.2.1 2 (k + 1) = nI t
def rjG (A : rn_L) (z : ow_MS) (S : List Nat) : Prop := ∀ c, c < A.length → z.2.1 6 c = bZ (gn A S c)
theorem rjN_fr {P : Nat → Prop} {A : rn_L} {z z1 : ow_MS} {vs : List Nat} (hf : fr P z z1) (h4 : ¬ P 4) (h5 : ¬ P 5) (h : rjN A z vs) : rjN A z1 vs := by
  have e4 := (hf 4 h4).2.1
  have e5 := (hf 5 h5).2.1
  exact ⟨fun k v hk => by rw [e4, e5]; exact h.1 k v hk, fun x hx hn => by rw [e4]; exact h.2 x hx hn⟩
theorem rjT_fr {P : Nat → Prop} {z z1 : ow_MS} {T : List Nat} (hf : fr P z z1) (h2 : ¬ P 2) (h3 : ¬ P 3) (h : rjT z T) : rjT z1 T := ⟨by rw [(hf 3 h3).1]; exact h.1, fun k t hk => by rw [(hf 2 h2).2.1]; exact h.2 k t hk⟩
theorem rjG_fr {P : Nat → Prop} {A : rn_L} {z z1 : ow_MS} {S : List Nat} (hf : fr P z z1) (h6 : ¬ P 6) (h : rjG A z S) : rjG A z1 S := fun c hc => by rw [(hf 6 h6).2.1]; exact h c hc
theorem rjN_num {A : rn_L} {z : ow_MS} {vs : List Nat} {x : Nat} (h : rjN A z vs) (hx : x ∈ vs.map (crs A)) : z.2.1 4 x = nI (num A vs x) := by
  obtain ⟨v, h1, h2⟩ := num_at hx
  have h3 := (h.1 _ _ h1).2
  have h4 : num A vs x - 1 + 1 = num A vs x := by unfold num; omega
  rw [h2, h4] at h3
  exact h3
/-- a crossing met again -/
theorem rjN_old {A : rn_L} {z : ow_MS} {vs : List Nat} {v : Nat} (h : rjN A z vs) (hv : crs A v ∈ (fm A vs).map (crs A)) : rjN A z (vs ++ [v]) := by
  have e : fm A (vs ++ [v]) = fm A vs := by
    rw [fm_app]
    unfold fmA
    rw [if_pos hv]
  unfold rjN
  rw [e]
  exact h
/-- a crossing met for the first time -/
theorem rjN_new {A : rn_L} {z : ow_MS} {vs : List Nat} {v : Nat} (h : rjN A z vs) (hv : crs A v ∉ (fm A vs).map (crs A)) : rjN A (usI (usI z 4 (crs A v) (nI ((fm A vs).length + 1))) 5 ((fm A vs).length + 1) (nI v)) (vs ++ [v]) := by
  have e : fm A (vs ++ [v]) = fm A vs ++ [v] := by
    rw [fm_app]
    unfold fmA
    rw [if_neg hv]
  unfold rjN
  rw [e]
  refine ⟨fun k u hk => ?_, fun x hx hn => ?_⟩
  · by_cases hkl : k < (fm A vs).length
    · rw [List.getElem?_append_left hkl] at hk
      obtain ⟨h1, h2⟩ := h.1 k u hk
      have hne : crs A u ≠ crs A v := fun e9 => hv (e9 ▸ List.mem_map.mpr ⟨u, List.mem_of_getElem? hk, rfl⟩)
      exact ⟨rd_ne (by omega) (rd_ot (by decide) h1), rd_ot (by decide) (rd_ne hne h2)⟩
    · have hk2 : k = (fm A vs).length := by
        have := (List.getElem?_eq_some_iff.mp hk).1
        rw [List.length_append] at this
        simp at this
        omega
      subst hk2
      rw [List.getElem?_append_right (Nat.le_refl _), Nat.sub_self] at hk
      cases hk
      exact ⟨po_usI_at, rd_ot (by decide) po_usI_at⟩
  · rw [List.map_append, List.mem_append] at hn
    have h1 : x ∉ (fm A vs).map (crs A) := fun h9 => hn (Or.inl h9)
    have h2 : x ≠ crs A v := fun h9 => hn (Or.inr (by simp [h9]))
    exact rd_ot (by decide) (rd_ne h2 (h.2 x hx h1))
theorem rjT_app {z : ow_MS} {T : List Nat} {t : Nat} (h : rjT z T) : rjT (usI (usF z 3 (nI (T.length + 1))) 2 (T.length + 1) (nI t)) (T ++ [t]) := by
  have e0 : (usF z 3 (nI (T.length + 1))).1 3 = nI (T ++ [t]).length := by
    rw [List.length_append]
    exact po_usF_at
  refine ⟨e0, fun k u hk => ?_⟩
  by_cases hkl : k < T.length
  · rw [List.getElem?_append_left hkl] at hk
    exact rd_ne (by omega) (h.2 k u hk)
  · have hk2 : k = T.length := by
      have := (List.getElem?_eq_some_iff.mp hk).1
      rw [List.length_append] at this
      simp at this
      omega
    subst hk2
    rw [List.getElem?_append_right (Nat.le_refl _), Nat.sub_self] at hk
    cases hk
    exact po_usI_at
abbrev frR (g : Nat) : Prop := 2 ≤ g ∧ g ≤ 6
theorem u_X13_rowFrom_2 {x2 : Int32} {x3 : Int32} {x4 : Int32} {x5 : Int32} {x6 : Int32} {x7 : Int32} {r1 : Nat} {t0 : Int32} {t1 : Int32} {t2 : Int32} {z : ow_MS} {Q : ow_MS → Prop} (H : Tt (fun K k => qm_X13_rowFrom_2 K (q_X13_rowFrom K k) x2 x3 x4 x5 x6 x7 r1 t0 t1 t2 z) Q) : Tt (fun K k => q_X13_rowFrom K k 2 x2 x3 x4 x5 x6 x7 r1 t0 t1 t2 z) Q := w_un (fun _ _ => rfl) H
theorem u_X13_rowFrom_5 {x2 : Int32} {x3 : Int32} {x4 : Int32} {x5 : Int32} {x6 : Int32} {x7 : Int32} {r1 : Nat} {t0 : Int32} {t1 : Int32} {t2 : Int32} {z : ow_MS} {Q : ow_MS → Prop} (H : Tt (fun K k => qm_X13_rowFrom_5 K (q_X13_rowFrom K k) x2 x3 x4 x5 x6 x7 r1 t0 t1 t2 z) Q) : Tt (fun K k => q_X13_rowFrom K k 5 x2 x3 x4 x5 x6 x7 r1 t0 t1 t2 z) Q := w_un (fun _ _ => rfl) H
theorem u_X13_rowFrom_4 {x2 : Int32} {x3 : Int32} {x4 : Int32} {x5 : Int32} {x6 : Int32} {x7 : Int32} {r1 : Nat} {t0 : Int32} {t1 : Int32} {t2 : Int32} {z : ow_MS} {Q : ow_MS → Prop} (H : Tt (fun K k => qm_X13_rowFrom_4 K (q_X13_rowFrom K k) x2 x3 x4 x5 x6 x7 r1 t0 t1 t2 z) Q) : Tt (fun K k => q_X13_rowFrom K k 4 x2 x3 x4 x5 x6 x7 r1 t0 t1 t2 z) Q := w_un (fun _ _ => rfl) H
theorem u_X13_rowFrom_3 {x2 : Int32} {x3 : Int32} {x4 : Int32} {x5 : Int32} {x6 : Int32} {x7 : Int32} {r1 : Nat} {t0 : Int32} {t1 : Int32} {t2 : Int32} {z : ow_MS} {Q : ow_MS → Prop} (H : Tt (fun K k => qm_X13_rowFrom_3 K (q_X13_rowFrom K k) x2 x3 x4 x5 x6 x7 r1 t0 t1 t2 z) Q) : Tt (fun K k => q_X13_rowFrom K k 3 x2 x3 x4 x5 x6 x7 r1 t0 t1 t2 z) Q := w_un (fun _ _ => rfl) H
theorem u_X13_rowFrom_6 {x2 : Int32} {x3 : Int32} {x4 : Int32} {x5 : Int32} {x6 : Int32} {x7 : Int32} {r1 : Nat} {t0 : Int32} {t1 : Int32} {t2 : Int32} {z : ow_MS} {Q : ow_MS → Prop} (H : Tt (fun K k => qm_X13_rowFrom_6 K (q_X13_rowFrom K k) x2 x3 x4 x5 x6 x7 r1 t0 t1 t2 z) Q) : Tt (fun K k => q_X13_rowFrom K k 6 x2 x3 x4 x5 x6 x7 r1 t0 t1 t2 z) Q := w_un (fun _ _ => rfl) H
theorem u_X13_rowFrom_8 {x2 : Int32} {x3 : Int32} {x4 : Int32} {x5 : Int32} {x6 : Int32} {x7 : Int32} {r1 : Nat} {t0 : Int32} {t1 : Int32} {t2 : Int32} {z : ow_MS} {Q : ow_MS → Prop} (H : Tt (fun K k => qm_X13_rowFrom_8 K (q_X13_rowFrom K k) x2 x3 x4 x5 x6 x7 r1 t0 t1 t2 z) Q) : Tt (fun K k => q_X13_rowFrom K k 8 x2 x3 x4 x5 x6 x7 r1 t0 t1 t2 z) Q := w_un (fun _ _ => rfl) H
theorem u_X13_rowFrom_7 {x2 : Int32} {x3 : Int32} {x4 : Int32} {x5 : Int32} {x6 : Int32} {x7 : Int32} {r1 : Nat} {t0 : Int32} {t1 : Int32} {t2 : Int32} {z : ow_MS} {Q : ow_MS → Prop} (H : Tt (fun K k => qm_X13_rowFrom_7 K (q_X13_rowFrom K k) x2 x3 x4 x5 x6 x7 r1 t0 t1 t2 z) Q) : Tt (fun K k => q_X13_rowFrom K k 7 x2 x3 x4 x5 x6 x7 r1 t0 t1 t2 z) Q := w_un (fun _ _ => rfl) H
theorem u_X13_rowFrom_1 {x2 : Int32} {x3 : Int32} {x4 : Int32} {x5 : Int32} {x6 : Int32} {x7 : Int32} {r1 : Nat} {t0 : Int32} {t1 : Int32} {t2 : Int32} {z : ow_MS} {Q : ow_MS → Prop} (H : Tt (fun K k => qm_X13_rowFrom_1 K (q_X13_rowFrom K k) x2 x3 x4 x5 x6 x7 r1 t0 t1 t2 z) Q) : Tt (fun K k => q_X13_rowFrom K k 1 x2 x3 x4 x5 x6 x7 r1 t0 t1 t2 z) Q := w_un (fun _ _ => rfl) H
theorem e_X13_rowFrom {r1 : Nat} {x2 : Int32} {z : ow_MS} {Q : ow_MS → Prop} (H : Tt (fun K k => q_X13_rowFrom K k 0 x2 0 0 0 0 0 r1 0 0 0 z) Q) : Te (fun K => qe_X13_rowFrom K r1 x2 z) Q := w_te H
theorem u_X13_rowFrom_0 {x2 : Int32} {x3 : Int32} {x4 : Int32} {x5 : Int32} {x6 : Int32} {x7 : Int32} {r1 : Nat} {t0 : Int32} {t1 : Int32} {t2 : Int32} {z : ow_MS} {Q : ow_MS → Prop} (H : Tt (fun K k => qm_X13_rowFrom_0 K (q_X13_rowFrom K k) x2 x3 x4 x5 x6 x7 r1 t0 t1 t2 z) Q) : Tt (fun K k => q_X13_rowFrom K k 0 x2 x3 x4 x5 x6 x7 r1 t0 t1 t2 z) Q := w_un (fun _ _ => rfl) H
theorem tr_rowFrom {n s : Nat} {z : ow_MS} {A : rn_L} {sg : Nat → Bool} (hn : mw_net n) (hVC : A.flatten.length + A.length ≤ 31) (hd : rn_ok A.flatten) (hL : rn_lk z n A) (hG : rn_sg z n A.flatten sg) (hs : s < A.flatten.length) : Te (fun K => qe_X13_rowFrom K n (nI s) z) (fun z1 => fr frR z z1 ∧ rc_At z1 2 0 (tks A sg (vsO A (trS A s)) (trS A s)) ∧ z1.1 3 = nI (tks A sg (vsO A (trS A s)) (trS A s)).length) := by
  have hm := net_mod hn
  obtain ⟨V, hV⟩ : ∃ V, A.flatten.length = V := ⟨_, rfl⟩
  have frK : ∀ {y y1 : ow_MS}, fr frR y y1 → rn_lk y n A → rn_lk y1 n A := fun hf h => fr_lk hf (fun g hg => by have := hg.2; omega) h
  have frS : ∀ {y y1 : ow_MS}, fr frR y y1 → rn_sg y n A.flatten sg → rn_sg y1 n A.flatten sg := fun hf h p hp => by
    rw [(hf (n + 6) (by omega)).2.1]
    exact h p hp
  let Q : ow_MS → Prop := fun z1 => fr frR z z1 ∧ rc_At z1 2 0 (tks A sg (vsO A (trS A s)) (trS A s)) ∧ z1.1 3 = nI (tks A sg (vsO A (trS A s)) (trS A s)).length
  -- what holds when the components of S are done
  let D : ow_MS → List Nat → Prop := fun z1 S => fr frR z z1 ∧ rjN A z1 (vsO A S) ∧ rjT z1 (tks A sg (vsO A S) S) ∧ rjG A z1 S ∧ (vsO A S).length + rem (gn A S) (rlen A) A.length = V ∧ S.length + rem (gn A S) (fun _ => 1) A.length = A.length ∧ (tks A sg (vsO A S) S).length = (vsO A S).length + S.length ∧ (∀ t, t ∈ tks A sg (vsO A S) S → t < 200) ∧ ∀ v, v ∈ vsO A S → v < V
  have fin : ∀ z1 S, D z1 S → trS A s = S → Tt (fun K k => q_X13_rowFrom K k 2 (nI s) (nI (fm A (vsO A S)).length) (-1) 0 0 0 n 0 0 0 z1) Q := by
    intro z1 S ⟨d1, d2, d3, d4, d5, d6, d7, d8, d9⟩ hR
    refine u_X13_rowFrom_2 ?_; unfold qm_X13_rowFrom_2
    refine w_ifT rfl (w_rdF d3.1 (w_wrI ml2 nI_0.symm (by omega) (w_some ⟨fr_I2 d1 (by decide), ?_⟩)))
    rw [hR]
    refine ⟨⟨by omega, d8, po_usI_at, fun k t hk => ?_⟩, d3.1⟩
    rw [Nat.zero_add]
    exact rd_ne (by omega) (d3.2 k t hk)
  have ring : ∀ (S : List Nat) (w : Nat), w < V → gn A S (rn_c A w) = false → (∀ z2, D z2 (S ++ [w]) → Tt (fun K k => q_X13_rowFrom K k 6 (nI s) (nI (fm A (vsO A (S ++ [w]))).length) (-1) (nI w) 1 0 n 0 0 0 z2) Q) → ∀ (d j : Nat) (z1 : ow_MS), j + 1 + d = rlen A (rn_c A w) → fr frR z z1 → rjN A z1 (vsO A S ++ (List.range j).map (rv A w)) → rjT z1 (tks A sg (vsO A S ++ (List.range j).map (rv A w)) S ++ ((List.range j).map (rv A w)).map (tkn A sg (vsO A S ++ (List.range j).map (rv A w)))) → rjG A z1 (S ++ [w]) → (vsO A S).length + rem (gn A S) (rlen A) A.length = V → S.length + rem (gn A S) (fun _ => 1) A.length = A.length → (tks A sg (vsO A S ++ (List.range j).map (rv A w)) S).length = (vsO A S).length + S.length → (∀ t, t ∈ tks A sg (vsO A S ++ (List.range j).map (rv A w)) S ++ ((List.range j).map (rv A w)).map (tkn A sg (vsO A S ++ (List.range j).map (rv A w))) → t < 200) → (∀ v, v ∈ vsO A S → v < V) → Tt (fun K k => q_X13_rowFrom K k 3 (nI s) (nI (fm A (vsO A S ++ (List.range j).map (rv A w))).length) (nI w) (nI (rv A w j)) 0 0 n 0 0 0 z1) Q := by
    intro S w hw hgw hout d
    have hwA : w < A.flatten.length := by omega
    have hcw := (rn_c_in A w hwA).1
    have r1 := rem_st (f := rlen A) hgw (fun b => gn_app (A := A) (S := S) (w := w) (b := b)) A.length hcw
    have r2 := rem_st (f := fun _ => 1) hgw (fun b => gn_app (A := A) (S := S) (w := w) (b := b)) A.length hcw
    have r2' : rem (gn A (S ++ [w])) (fun _ => 1) A.length + 1 = rem (gn A S) (fun _ => 1) A.length := r2
    induction d with
    | zero =>
      intro j z1 hj hf hN hT hGo h5 h6 h7 h8 h9
      obtain ⟨vs, hvs⟩ : ∃ vs, vs = vsO A S ++ (List.range j).map (rv A w) := ⟨_, rfl⟩
      obtain ⟨T, hTe⟩ : ∃ T, T = tks A sg vs S ++ ((List.range j).map (rv A w)).map (tkn A sg vs) := ⟨_, rfl⟩
      rw [← hvs] at hN hT h7 h8 ⊢
      rw [← hTe] at hT h8
      have hjl : j < rlen A (rn_c A w) := by omega
      have hv := rv_lt hwA hjl
      obtain ⟨v, hve⟩ : ∃ v, v = rv A w j := ⟨_, rfl⟩
      rw [← hve] at hv ⊢
      have hvl : vs.length = (vsO A S).length + j := by rw [hvs, List.length_append, List.length_map, List.length_range]
      have hTl : T.length = (vsO A S).length + S.length + j := by rw [hTe, List.length_append, h7, List.length_map, List.length_map, List.length_range]
      have hp := vAt_of hv
      obtain ⟨hx, hu⟩ := hd.1.2 v _ hp
      have hL1 := frK hf hL
      obtain ⟨e4, e5⟩ := hL1.1.2.2.2 v _ (by rw [List.append_nil]; exact hp)
      have hfl := fm_len (A := A) vs
      have evs : vs ++ [v] = vsO A (S ++ [w]) := by
        rw [vsO_app, hvs, List.append_assoc]
        unfold rgl
        rw [show rlen A (rn_c A w) = j + 1 by omega, List.range_succ, List.map_append, hve]
        rfl
      have inS : ∀ s, s ∈ S → ∀ v, v ∈ rgl A s → v ∈ vs := fun s hs v hv => by
        rw [hvs]
        exact List.mem_append_left _ (vsO_mem hs hv)
      have eT : T ++ [tkn A sg (vs ++ [v]) v] ++ [0] = tks A sg (vsO A (S ++ [w])) (S ++ [w]) := by
        rw [← evs, tks_app, tks_st S inS, hTe]
        have : (rgl A w).map (tkn A sg (vs ++ [v])) = ((List.range j).map (rv A w)).map (tkn A sg vs) ++ [tkn A sg (vs ++ [v]) v] := by
          unfold rgl
          rw [show rlen A (rn_c A w) = j + 1 by omega, List.range_succ, List.map_append, List.map_append, List.map_cons (f := rv A w), List.map_nil, ← hve]
          exact congr (congrArg _ (List.map_congr_left (fun u hu => tkn_st (by rw [hvs]; exact List.mem_append_right _ hu)))) rfl
        rw [this]
        simp
      have hnx : rn_nx A v = w := by
        rw [hve, rv_nx hwA hjl, if_pos (by omega)]
      have enx := (hL1.2.1 v hv).2.1
      -- after the crossing's number is there
      have c4 : ∀ (z2 : ow_MS), fr frR z1 z2 → z2.2.1 2 = z1.2.1 2 → z2.1 3 = z1.1 3 → z2.2.1 6 = z1.2.1 6 → rjN A z2 (vs ++ [v]) → Tt (fun K k => q_X13_rowFrom K k 4 (nI s) (nI (fm A (vs ++ [v])).length) (nI w) (nI v) (nI (crs A v)) 0 n 0 0 0 z2) Q := by
        intro z2 hf2 k2 k3 k6 hN2
        have hT2 : rjT z2 T := ⟨by rw [k3]; exact hT.1, fun k t hk => by rw [k2]; exact hT.2 k t hk⟩
        have hL2 := frK hf2 hL1
        have hG2 := frS hf2 (frS hf hG)
        have hnum := rjN_num hN2 (x := crs A v) (List.mem_map.mpr ⟨v, by simp, rfl⟩)
        have hnle := num_le (A := A) (vs := vs ++ [v]) (x := crs A v) (List.mem_map.mpr ⟨v, by simp, rfl⟩)
        have hfl2 := fm_len (A := A) (vs ++ [v])
        rw [List.length_append] at hfl2
        simp only [List.length_cons, List.length_nil] at hfl2
        have e52 := (hL2.1.2.2.2 v _ (by rw [List.append_nil]; exact hp)).2
        have hsg := hG2 _ (List.mem_of_getElem? hp)
        have c5 : ∀ t0 : Int32, t0 = nI (if sg (crs A v) then 1 else 0) → Tt (fun K k => q_X13_rowFrom K k 5 (nI s) (nI (fm A (vs ++ [v])).length) (nI w) (nI v) (nI (crs A v)) 0 n t0 (nI (4 * num A (vs ++ [v]) (crs A v)) + nI (2 * uns A v)) (nI (T.length + 1)) (usF z2 3 (nI (T.length + 1)))) Q := by
          intro t0 ht0
          obtain ⟨tv, htv⟩ : ∃ tv, tkn A sg (vs ++ [v]) v = tv := ⟨_, rfl⟩
          have hval : nI (4 * num A (vs ++ [v]) (crs A v) + 2 * uns A v + if sg (crs A v) then 1 else 0) = nI tv := by
            rw [← htv]
            rfl
          refine u_X13_rowFrom_5 ?_; unfold qm_X13_rowFrom_5
          rw [ht0, nI_add, nI_add, hval]
          rw [htv] at eT
          have hT3 := rjT_app (t := tv) hT2
          have hle : uns A v < 2 := hu
          have hf3 : fr frR z1 (usI (usF z2 3 (nI (T.length + 1))) 2 (T.length + 1) (nI tv)) := fr_I2 (fr_F2 hf2 (by decide)) (by decide)
          refine w_wrI ml2 rfl (by omega) ?_
          refine w_rdI (pl9 hn) rfl (by omega) ((frK hf3 hL1).2.1 v hv).2.1 ?_
          rw [hnx]
          refine w_ifT rfl (w_rdF hT3.1 (w_wrF (w_rdF (x := nI ((T ++ [tv]).length + 1)) (po_usF_at.trans (nI_1 _)) ?_)))
          have hT4 := rjT_app (t := 0) hT3
          have hl1 : (T ++ [tv]).length = T.length + 1 := by rw [List.length_append]; rfl
          rw [nI_1]
          refine w_wrI ml2 rfl (by omega) ?_
          rw [evs]
          refine hout _ ⟨fr_tr hf (fr_I2 (fr_F2 hf3 (by decide)) (by decide)), ?_, ?_, ?_, ?_, ?_, ?_, ?_, ?_⟩
          · rw [← evs]
            exact rjN_fr (P := fun g => g = 2 ∨ g = 3) (fr_I2 (fr_F2 (fr_I2 (fr_F (Or.inr rfl)) (Or.inl rfl)) (Or.inr rfl)) (Or.inl rfl)) (by decide) (by decide) hN2
          · rw [← eT]
            exact hT4
          · have h66 : rjG A z2 (S ++ [w]) := fun c hc => by rw [k6]; exact hGo c hc
            exact rjG_fr (P := fun g => g = 2 ∨ g = 3) (fr_I2 (fr_F2 (fr_I2 (fr_F (Or.inr rfl)) (Or.inl rfl)) (Or.inr rfl)) (Or.inl rfl)) (by decide) h66
          · rw [← evs, List.length_append, hvl]
            simp only [List.length_cons, List.length_nil]
            omega
          · rw [List.length_append]
            simp only [List.length_cons, List.length_nil]
            omega
          · rw [← eT, ← evs, List.length_append, List.length_append, List.length_append, List.length_append, hTl, hvl]
            simp only [List.length_cons, List.length_nil]
            omega
          · rw [← eT]
            intro t ht
            rw [List.mem_append, List.mem_append] at ht
            rcases ht with (ht | ht) | ht
            · exact h8 t ht
            · have : t = tv := by simpa using ht
              rw [this, ← htv]
              unfold tkn
              by_cases hb : sg (crs A v)
              · rw [if_pos hb]; omega
              · rw [if_neg hb]; omega
            · have : t = 0 := by simpa using ht
              omega
          · rw [vsO_app]
            intro u hu
            rw [List.mem_append] at hu
            rcases hu with hu | hu
            · exact h9 u hu
            · obtain ⟨i, hi, e⟩ := rgl_mem hu
              rw [e]
              have := rv_lt hwA hi
              omega
        refine u_X13_rowFrom_4 ?_; unfold qm_X13_rowFrom_4
        refine w_rdF hT2.1 (w_wrF (w_rdF (x := nI (T.length + 1)) (po_usF_at.trans (nI_1 _)) (w_rdI ml4 rfl hx hnum (w_rdI (pl5 hn) rfl (by omega) e52 (w_rdI (pl6 hn) rfl hx hsg ?_)))))
        rw [show (4 : Int32) * nI (num A (vs ++ [v]) (crs A v)) = nI (4 * num A (vs ++ [v]) (crs A v)) from pk_mul 4 _, show (2 : Int32) * nI (vAt A v).2 = nI (2 * uns A v) from pk_mul 2 _, nI_1]
        show Tt (fun K k => if (0 : Int32) ≤ (if sg (crs A v) then (-1 : Int32) else 1) then _ else _) Q
        cases hsgv : sg (crs A v) with
        | true => exact w_ifF (by decide) (c5 _ (by rw [hsgv]; rfl))
        | false => exact w_ifT (by decide) (c5 _ (by rw [hsgv]; rfl))
      refine u_X13_rowFrom_3 ?_; unfold qm_X13_rowFrom_3
      by_cases hmet : crs A v ∈ (fm A vs).map (crs A)
      · have e1 := rjN_num hN ((fm_cr vs).mp hmet)
        have hn0 : 0 < num A vs (crs A v) := by unfold num; omega
        have hnle := num_le ((fm_cr (A := A) vs).mp hmet)
        refine w_rdI (pl4 hn) rfl (by omega) e4 (w_rdI ml4 rfl hx e1 (w_ifF (nI_ne0 hn0 (by omega)) ?_))
        have := c4 z1 fr_rf rfl rfl rfl (rjN_old hN hmet)
        rw [fm_app] at this
        unfold fmA at this
        rw [if_pos hmet] at this
        exact this
      · have e1 := hN.2 _ hx hmet
        refine w_rdI (pl4 hn) rfl (by omega) e4 (w_rdI ml4 rfl hx e1 (w_ifT rfl ?_))
        rw [nI_1]
        refine w_wrI ml4 rfl hx (w_wrI ml5 rfl (by omega) ?_)
        have := c4 _ (fr_I2 (fr_I (h := 4) (i := crs A v) (x := nI ((fm A vs).length + 1)) (by decide)) (h := 5) (by decide)) (by rw [po_usI_ot (by decide), po_usI_ot (by decide)]) rfl (by rw [po_usI_ot (by decide), po_usI_ot (by decide)]) (rjN_new hN hmet)
        rw [fm_app] at this
        unfold fmA at this
        rw [if_neg hmet, List.length_append] at this
        exact this
    | succ d ih =>
      intro j z1 hj hf hN hT hGo h5 h6 h7 h8 h9
      have hN0 := hN
      have hT0 := hT
      obtain ⟨vs, hvs⟩ : ∃ vs, vs = vsO A S ++ (List.range j).map (rv A w) := ⟨_, rfl⟩
      obtain ⟨T, hTe⟩ : ∃ T, T = tks A sg vs S ++ ((List.range j).map (rv A w)).map (tkn A sg vs) := ⟨_, rfl⟩
      rw [← hvs] at hN hT h7 h8 ⊢
      rw [← hTe] at hT h8
      have hjl : j < rlen A (rn_c A w) := by omega
      have hv := rv_lt hwA hjl
      obtain ⟨v, hve⟩ : ∃ v, v = rv A w j := ⟨_, rfl⟩
      rw [← hve] at hv ⊢
      have hvl : vs.length = (vsO A S).length + j := by rw [hvs, List.length_append, List.length_map, List.length_range]
      have hTl : T.length = (vsO A S).length + S.length + j := by rw [hTe, List.length_append, h7, List.length_map, List.length_map, List.length_range]
      have hp := vAt_of hv
      obtain ⟨hx, hu⟩ := hd.1.2 v _ hp
      have hL1 := frK hf hL
      obtain ⟨e4, e5⟩ := hL1.1.2.2.2 v _ (by rw [List.append_nil]; exact hp)
      have hfl := fm_len (A := A) vs
      have evs : vs ++ [v] = vsO A S ++ (List.range (j + 1)).map (rv A w) := by
        rw [hvs, List.append_assoc, List.range_succ, List.map_append, hve]
        rfl
      have inS : ∀ s, s ∈ S → ∀ v, v ∈ rgl A s → v ∈ vs := fun s hs v hv => by
        rw [hvs]
        exact List.mem_append_left _ (vsO_mem hs hv)
      have eT : T ++ [tkn A sg (vs ++ [v]) v] = tks A sg (vs ++ [v]) S ++ ((List.range (j + 1)).map (rv A w)).map (tkn A sg (vs ++ [v])) := by
        rw [tks_st S inS, hTe, List.range_succ, List.map_append, List.map_append, List.append_assoc, List.map_cons (f := rv A w), List.map_nil, ← hve]
        exact congrArg _ (congr (congrArg _ (List.map_congr_left (fun u hu => (tkn_st (by rw [hvs]; exact List.mem_append_right _ hu)).symm))) rfl)
      have hnx : rn_nx A v = rv A w (j + 1) := by
        rw [hve, rv_nx hwA hjl, if_neg (by omega)]
      have hne := rv_ne (s := w) (j := j + 1) hwA (by omega) (by omega)
      have hlt2 := rv_lt (s := w) (j := j + 1) hwA (by omega)
      have c4 : ∀ (z2 : ow_MS), fr frR z1 z2 → z2.2.1 2 = z1.2.1 2 → z2.1 3 = z1.1 3 → z2.2.1 6 = z1.2.1 6 → rjN A z2 (vs ++ [v]) → Tt (fun K k => q_X13_rowFrom K k 4 (nI s) (nI (fm A (vs ++ [v])).length) (nI w) (nI v) (nI (crs A v)) 0 n 0 0 0 z2) Q := by
        intro z2 hf2 k2 k3 k6 hN2
        have hT2 : rjT z2 T := ⟨by rw [k3]; exact hT.1, fun k t hk => by rw [k2]; exact hT.2 k t hk⟩
        have hL2 := frK hf2 hL1
        have hG2 := frS hf2 (frS hf hG)
        have hnum := rjN_num hN2 (x := crs A v) (List.mem_map.mpr ⟨v, by simp, rfl⟩)
        have hnle := num_le (A := A) (vs := vs ++ [v]) (x := crs A v) (List.mem_map.mpr ⟨v, by simp, rfl⟩)
        have hfl2 := fm_len (A := A) (vs ++ [v])
        rw [List.length_append] at hfl2
        simp only [List.length_cons, List.length_nil] at hfl2
        have e52 := (hL2.1.2.2.2 v _ (by rw [List.append_nil]; exact hp)).2
        have hsg := hG2 _ (List.mem_of_getElem? hp)
        have c5 : ∀ t0 : Int32, t0 = nI (if sg (crs A v) then 1 else 0) → Tt (fun K k => q_X13_rowFrom K k 5 (nI s) (nI (fm A (vs ++ [v])).length) (nI w) (nI v) (nI (crs A v)) 0 n t0 (nI (4 * num A (vs ++ [v]) (crs A v)) + nI (2 * uns A v)) (nI (T.length + 1)) (usF z2 3 (nI (T.length + 1)))) Q := by
          intro t0 ht0
          obtain ⟨tv, htv⟩ : ∃ tv, tkn A sg (vs ++ [v]) v = tv := ⟨_, rfl⟩
          have hval : nI (4 * num A (vs ++ [v]) (crs A v) + 2 * uns A v + if sg (crs A v) then 1 else 0) = nI tv := by
            rw [← htv]
            rfl
          refine u_X13_rowFrom_5 ?_; unfold qm_X13_rowFrom_5
          rw [ht0, nI_add, nI_add, hval]
          rw [htv] at eT
          have hT3 := rjT_app (t := tv) hT2
          have hle : uns A v < 2 := hu
          have hf3 : fr frR z1 (usI (usF z2 3 (nI (T.length + 1))) 2 (T.length + 1) (nI tv)) := fr_I2 (fr_F2 hf2 (by decide)) (by decide)
          refine w_wrI ml2 rfl (by omega) ?_
          refine w_rdI (pl9 hn) rfl (by omega) ((frK hf3 hL1).2.1 v hv).2.1 ?_
          rw [hnx]
          refine w_ifF (fun e => hne ((nI_eq (by omega) (by omega)).mp e)) ?_
          rw [evs]
          refine ih (j + 1) _ (by omega) (fr_tr hf hf3) ?_ ?_ ?_ h5 h6 ?_ ?_ h9
          · rw [← evs]
            exact rjN_fr (P := fun g => g = 2 ∨ g = 3) (fr_I2 (fr_F (Or.inr rfl)) (Or.inl rfl)) (by decide) (by decide) hN2
          · rw [← evs, ← eT]
            exact hT3
          · have h66 : rjG A z2 (S ++ [w]) := fun c hc => by rw [k6]; exact hGo c hc
            exact rjG_fr (P := fun g => g = 2 ∨ g = 3) (fr_I2 (fr_F (Or.inr rfl)) (Or.inl rfl)) (by decide) h66
          · rw [← evs, tks_st S inS]
            exact h7
          · rw [← evs, ← eT]
            intro t ht
            rw [List.mem_append] at ht
            rcases ht with ht | ht
            · exact h8 t ht
            · have : t = tv := by simpa using ht
              rw [this, ← htv]
              unfold tkn
              by_cases hb : sg (crs A v)
              · rw [if_pos hb]; omega
              · rw [if_neg hb]; omega
        refine u_X13_rowFrom_4 ?_; unfold qm_X13_rowFrom_4
        refine w_rdF hT2.1 (w_wrF (w_rdF (x := nI (T.length + 1)) (po_usF_at.trans (nI_1 _)) (w_rdI ml4 rfl hx hnum (w_rdI (pl5 hn) rfl (by omega) e52 (w_rdI (pl6 hn) rfl hx hsg ?_)))))
        rw [show (4 : Int32) * nI (num A (vs ++ [v]) (crs A v)) = nI (4 * num A (vs ++ [v]) (crs A v)) from pk_mul 4 _, show (2 : Int32) * nI (vAt A v).2 = nI (2 * uns A v) from pk_mul 2 _, nI_1]
        show Tt (fun K k => if (0 : Int32) ≤ (if sg (crs A v) then (-1 : Int32) else 1) then _ else _) Q
        cases hsgv : sg (crs A v) with
        | true => exact w_ifF (by decide) (c5 _ (by rw [hsgv]; rfl))
        | false => exact w_ifT (by decide) (c5 _ (by rw [hsgv]; rfl))
      refine u_X13_rowFrom_3 ?_; unfold qm_X13_rowFrom_3
      by_cases hmet : crs A v ∈ (fm A vs).map (crs A)
      · have e1 := rjN_num hN ((fm_cr vs).mp hmet)
        have hn0 : 0 < num A vs (crs A v) := by unfold num; omega
        have hnle := num_le ((fm_cr (A := A) vs).mp hmet)
        refine w_rdI (pl4 hn) rfl (by omega) e4 (w_rdI ml4 rfl hx e1 (w_ifF (nI_ne0 hn0 (by omega)) ?_))
        have := c4 z1 fr_rf rfl rfl rfl (rjN_old hN hmet)
        rw [fm_app] at this
        unfold fmA at this
        rw [if_pos hmet] at this
        exact this
      · have e1 := hN.2 _ hx hmet
        refine w_rdI (pl4 hn) rfl (by omega) e4 (w_rdI ml4 rfl hx e1 (w_ifT rfl ?_))
        rw [nI_1]
        refine w_wrI ml4 rfl hx (w_wrI ml5 rfl (by omega) ?_)
        have := c4 _ (fr_I2 (fr_I (h := 4) (i := crs A v) (x := nI ((fm A vs).length + 1)) (by decide)) (h := 5) (by decide)) (by rw [po_usI_ot (by decide), po_usI_ot (by decide)]) rfl (by rw [po_usI_ot (by decide), po_usI_ot (by decide)]) (rjN_new hN hmet)
        rw [fm_app] at this
        unfold fmA at this
        rw [if_neg hmet, List.length_append] at this
        exact this
  -- from a start on
  have start : ∀ (u : Nat) (S : List Nat) (w : Nat) (z1 : ow_MS), rem (gn A S) (fun _ => 1) A.length ≤ u → w < V → gn A S (rn_c A w) = false → D z1 S → (∀ f, rem (gn A S) (fun _ => 1) A.length ≤ f + 1 → trS A s = trF A f (S ++ [w]) → Tt (fun K k => q_X13_rowFrom K k 2 (nI s) (nI (fm A (vsO A S)).length) (nI w) 0 0 0 n 0 0 0 z1) Q) := by
    intro u
    induction u with
    | zero =>
      intro S w z1 hu hw hgw hD f hf1 hR
      have hcw := (rn_c_in A w (by omega)).1
      have r2 := rem_st (f := fun _ => 1) hgw (fun b => gn_app (A := A) (S := S) (w := w) (b := b)) A.length hcw
      have r2' : rem (gn A (S ++ [w])) (fun _ => 1) A.length + 1 = rem (gn A S) (fun _ => 1) A.length := r2
      omega
    | succ u ih =>
      intro S w z1 hu hw hgw hD f hf1 hR
      have hwA : w < A.flatten.length := by omega
      have hcw := (rn_c_in A w hwA).1
      have r2 := rem_st (f := fun _ => 1) hgw (fun b => gn_app (A := A) (S := S) (w := w) (b := b)) A.length hcw
      have r2' : rem (gn A (S ++ [w])) (fun _ => 1) A.length + 1 = rem (gn A S) (fun _ => 1) A.length := r2
      obtain ⟨d1, d2, d3, d4, d5, d6, d7, d8, d9⟩ := hD
      have hpos := rlen_pos hwA
      -- the search for the next start
      have find : ∀ (z2 : ow_MS), D z2 (S ++ [w]) → ∀ (d k : Nat), k + d = (fm A (vsO A (S ++ [w]))).length → (∀ i v, i < k → (fm A (vsO A (S ++ [w])))[i]? = some v → gn A (S ++ [w]) (rn_c A (mtf A v)) = true) → Tt (fun K i => q_X13_rowFrom K i 6 (nI s) (nI (fm A (vsO A (S ++ [w]))).length) (-1) (nI w) (nI (k + 1)) 0 n 0 0 0 z2) Q := by
        intro z2 hD2 d
        have hfl := fm_len (A := A) (vsO A (S ++ [w]))
        have hb := hD2.2.2.2.2.1
        induction d with
        | zero =>
          intro k hk hall
          have hno : nxS A (S ++ [w]) = none := by
            unfold nxS
            rw [Option.map_eq_none_iff, List.find?_eq_none]
            intro v hv h9
            obtain ⟨i, hi, e⟩ := List.getElem_of_mem hv
            have := hall i v (by omega) (by rw [List.getElem?_eq_getElem hi, e])
            rw [this] at h9
            exact absurd h9 (by decide)
          refine u_X13_rowFrom_6 ?_; unfold qm_X13_rowFrom_6
          refine w_ltT (by omega) (by omega) ?_
          refine u_X13_rowFrom_8 ?_; unfold qm_X13_rowFrom_8
          exact fin z2 _ hD2 (by rw [hR, trF_none hno])
        | succ d ihd =>
          intro k hk hall
          have hkl : k < (fm A (vsO A (S ++ [w]))).length := by omega
          have hkv := List.getElem?_eq_getElem hkl
          obtain ⟨v, hve⟩ : ∃ v, v = (fm A (vsO A (S ++ [w])))[k] := ⟨_, rfl⟩
          rw [← hve] at hkv
          have hvV : v < V := hD2.2.2.2.2.2.2.2.2 v (fm_mem _ (List.mem_of_getElem? hkv))
          have hvA : v < A.flatten.length := by omega
          have hmt := mtf_mt hd hvA
          have hml := (rn_mt_lt hmt).2
          have hL2 := frK hD2.1 hL
          have hcm := (rn_c_in A _ hml).1
          have e6 := hD2.2.2.2.1 _ hcm
          refine u_X13_rowFrom_6 ?_; unfold qm_X13_rowFrom_6
          refine w_ltF (by omega) (by omega) (w_ifT rfl (w_rdI ml5 rfl (by omega) (hD2.2.1.1 k v hkv).1 (w_rdI (pl7 hn) rfl (by omega) (hL2.2.2.2 v _ hvA hml hmt) (w_rdI (pl8 hn) rfl (by omega) (hL2.2.1 _ hml).1 (w_rdI ml6 rfl (by omega) e6 ?_)))))
          cases hgm : gn A (S ++ [w]) (rn_c A (mtf A v)) with
          | false =>
            have hso : nxS A (S ++ [w]) = some (mtf A v) := by
              unfold nxS
              have : (fm A (vsO A (S ++ [w]))).find? (fun v => !gn A (S ++ [w]) (rn_c A (mtf A v))) = some v := by
                rw [List.find?_eq_some_iff_getElem]
                refine ⟨by rw [hgm]; rfl, k, hkl, hve.symm, fun i hi => ?_⟩
                rw [hall i _ hi (List.getElem?_eq_getElem (by omega))]
                rfl
              rw [this]
              rfl
            refine w_ifT rfl ?_
            refine u_X13_rowFrom_7 ?_; unfold qm_X13_rowFrom_7
            have c8 : Tt (fun K i => q_X13_rowFrom K i 8 (nI s) (nI (fm A (vsO A (S ++ [w]))).length) (nI (mtf A v)) (nI w) (nI (k + 1 + 1)) 0 n 0 0 0 z2) Q := by
              refine u_X13_rowFrom_8 ?_; unfold qm_X13_rowFrom_8
              have hcm2 := rem_st (f := fun _ => 1) hgm (fun b => gn_app (A := A) (S := S ++ [w]) (w := mtf A v) (b := b)) A.length hcm
              have hcm3 : rem (gn A ((S ++ [w]) ++ [mtf A v])) (fun _ => 1) A.length + 1 = rem (gn A (S ++ [w])) (fun _ => 1) A.length := hcm2
              obtain ⟨f9, rfl⟩ : ∃ f9, f = f9 + 1 := ⟨f - 1, by omega⟩
              refine ih (S ++ [w]) (mtf A v) z2 (by omega) (by omega) hgm hD2 f9 (by omega) ?_
              rw [hR, trF_some hso]
            refine u_X13_rowFrom_6 ?_; unfold qm_X13_rowFrom_6
            rw [nI_1]
            refine w_lt (by omega) (by omega) (fun _ => c8) (fun _ => w_ifF (rn_neg1 (by omega)) c8)
          | true =>
            refine w_ifF (by decide) ?_
            refine u_X13_rowFrom_7 ?_; unfold qm_X13_rowFrom_7
            rw [nI_1]
            refine ihd (k + 1) (by omega) (fun i u hi hiu => ?_)
            by_cases hik : i = k
            · rw [hik, hkv] at hiu
              cases hiu
              exact hgm
            · exact hall i u (by omega) hiu
      refine u_X13_rowFrom_2 ?_; unfold qm_X13_rowFrom_2
      refine w_ifF (rn_neg1 (by omega)) (w_rdI (pl8 hn) rfl (by omega) ((frK d1 hL).2.1 w hwA).1 (w_wrZ ml6 rfl (by omega) ?_))
      have fr6 : fr (fun g => g = 6) z1 (usI z1 6 (rn_c A w) (vp_nar .boolean 1)) := fr_I rfl
      have hri := ring S w hw hgw (fun z2 hD2 => find z2 hD2 _ 0 (Nat.zero_add _) (fun i v hi => by omega)) (rlen A (rn_c A w) - 1) 0 (usI z1 6 (rn_c A w) (vp_nar .boolean 1)) (by omega) (fr_I2 d1 (by decide))
      rw [rv_0 hwA] at hri
      have e0 : vsO A S ++ (List.range 0).map (rv A w) = vsO A S := List.append_nil _
      have e1 : tks A sg (vsO A S) S ++ ((List.range 0).map (rv A w)).map (tkn A sg (vsO A S)) = tks A sg (vsO A S) S := List.append_nil _
      rw [e0, e1] at hri
      refine hri (rjN_fr fr6 (by decide) (by decide) d2) (rjT_fr fr6 (by decide) (by decide) d3) (fun c hc => ?_) d5 d6 d7 d8 d9
      rw [gn_app]
      by_cases hce : c = rn_c A w
      · rw [hce, po_usI_at, decide_eq_true rfl, Bool.or_true]
        rfl
      · rw [po_usI_ne hce, decide_eq_false hce, Bool.or_false]
        exact d4 c hc
  have zer : ∀ (d i : Nat) (z1 : ow_MS), i + d = 40 → fr frR z z1 → (∀ x, x < i → z1.2.1 4 x = 0 ∧ z1.2.1 6 x = 0) → Tt (fun K k => q_X13_rowFrom K k 1 (nI s) (nI i) 0 0 0 0 n 0 0 0 z1) Q := by
    intro d
    induction d with
    | zero =>
      intro i z1 hi hf hx
      have hcs := (rn_c_in A s hs).1
      have hg0 : ∀ c, gn A [] c = false := fun c => by unfold gn; simp
      have er : ∀ f : Nat → Nat, rem (gn A []) f A.length = rem (fun _ => false) f A.length := fun f => rem_congr _ (fun c _ => hg0 c)
      refine u_X13_rowFrom_1 ?_; unfold qm_X13_rowFrom_1
      refine w_leT (a := 40) (by omega) (by omega) (w_wrF ?_)
      refine start A.length [] s _ (by rw [er, rem_1]; omega) (by omega) (hg0 _) ⟨fr_F2 hf (by decide), ⟨fun k v hk => by simp [fm, vsO] at hk, fun x hx9 _ => (hx x (by omega)).1⟩, ⟨po_usF_at, fun k t hk => by simp [tks] at hk⟩, fun c hc => ?_, ?_, ?_, rfl, fun t ht => by simp [tks] at ht, fun v hv => by simp [vsO] at hv⟩ A.length (by rw [er, rem_1]; omega) rfl
      · rw [hg0]
        exact (hx c (by omega)).2
      · rw [er, rem_b A _ (Nat.le_refl _), rn_b_len]
        show 0 + _ = _
        omega
      · rw [er, rem_1]
        show 0 + _ = _
        omega
    | succ d ih =>
      intro i z1 hi hf hx
      refine u_X13_rowFrom_1 ?_; unfold qm_X13_rowFrom_1
      refine w_leF (a := 40) (by omega) (by omega) (w_wrI ml4 rfl (by omega) (w_wrZ ml6 rfl (by omega) ?_))
      rw [nI_1]
      refine ih (i + 1) _ (by omega) (fr_I2 (fr_I2 hf (by decide)) (by decide)) (fun x hx2 => ?_)
      by_cases hxi : x = i
      · rw [hxi]
        exact ⟨rd_ot (by decide) po_usI_at, po_usI_at⟩
      · exact ⟨rd_ot (by decide) (rd_ne hxi (hx x (by omega)).1), rd_ne hxi (rd_ot (by decide) (hx x (by omega)).2)⟩
  refine e_X13_rowFrom ?_
  refine u_X13_rowFrom_0 ?_; unfold qm_X13_rowFrom_0
  exact zer 40 0 z (by omega) fr_rf (fun x hx => by omega)
end
