/-! the reference's rows -/
theorem ml2 : (mX.2 2).2.1 = 32 := rfl
theorem ml4 : (mX.2 4).2.1 = 40 := rfl
theorem ml5 : (mX.2 5).2.1 = 40 := rfl
theorem ml6 : (mX.2 6).2.1 = 40 := rfl
theorem ml7 : (mX.2 7).2.1 = 640 := rfl
theorem ml8 : (mX.2 8).2.1 = 20 := rfl
theorem ml9 : (mX.2 9).2.1 = 20 := rfl
theorem ml10 : (mX.2 10).2.1 = 400 := rfl
theorem ml12 : (mX.2 12).2.1 = 1280 := rfl
theorem ml16 : (mX.2 16).2.1 = 16 := rfl
theorem ml17 : (mX.2 17).2.1 = 16 := rfl
theorem ml18 : (mX.2 18).2.1 = 16 := rfl
theorem ml19 : (mX.2 19).2.1 = 16 := rfl
theorem ml20 : (mX.2 20).2.1 = 86400 := rfl
theorem ml21 : (mX.2 21).2.1 = 2700 := rfl
theorem ml23 : (mX.2 23).2.1 = 32000 := rfl
theorem ml25 : (mX.2 25).2.1 = 9920 := rfl
theorem ml27 : (mX.2 27).2.1 = 32 := rfl
theorem ml28 : (mX.2 28).2.1 = 32 := rfl
theorem ml31 : (mX.2 31).2.1 = 4 := rfl
theorem ml32 : (mX.2 32).2.1 = 4 := rfl
theorem ml33 : (mX.2 33).2.1 = 3 := rfl
theorem ml34 : (mX.2 34).2.1 = 3 := rfl
theorem ml35 : (mX.2 35).2.1 = 512 := rfl
theorem ml37 : (mX.2 37).2.1 = 512 := rfl
theorem ml38 : (mX.2 38).2.1 = 48 := rfl
theorem ml39 : (mX.2 39).2.1 = 16 := rfl
theorem ml41 : (mX.2 41).2.1 = 40 := rfl
theorem ml42 : (mX.2 42).2.1 = 40 := rfl
theorem ml43 : (mX.2 43).2.1 = 32 := rfl
theorem ml44 : (mX.2 44).2.1 = 5289 := rfl
theorem ml45 : (mX.2 45).2.1 = 32 := rfl
theorem ml47 : (mX.2 47).2.1 = 48 := rfl
theorem ml48 : (mX.2 48).2.1 = 201 := rfl
theorem ml49 : (mX.2 49).2.1 = 201 := rfl
theorem ml50 : (mX.2 50).2.1 = 32 := rfl
theorem ml51 : (mX.2 51).2.1 = 312 := rfl
theorem ml52 : (mX.2 52).2.1 = 80 := rfl
theorem ml53 : (mX.2 53).2.1 = 80 := rfl
theorem ml54 : (mX.2 54).2.1 = 256 := rfl
theorem ml55 : (mX.2 55).2.1 = 256 := rfl
theorem ml56 : (mX.2 56).2.1 = 256 := rfl
theorem ml57 : (mX.2 57).2.1 = 20 := rfl
theorem ml59 : (mX.2 59).2.1 = 40 := rfl
theorem ml60 : (mX.2 60).2.1 = 40 := rfl
theorem ml61 : (mX.2 61).2.1 = 16 := rfl
theorem ml62 : (mX.2 62).2.1 = 16 := rfl
theorem ml63 : (mX.2 63).2.1 = 16 := rfl
theorem ml64 : (mX.2 64).2.1 = 312 := rfl
theorem ml65 : (mX.2 65).2.1 = 32 := rfl
theorem ml66 : (mX.2 66).2.1 = 40 := rfl
theorem ml68 : (mX.2 68).2.1 = 13 := rfl
theorem ml69 : (mX.2 69).2.1 = 24 := rfl
theorem ml72 : (mX.2 72).2.1 = 169 := rfl
theorem ml73 : (mX.2 73).2.1 = 5 := rfl
theorem ml74 : (mX.2 74).2.1 = 480 := rfl
theorem ml75 : (mX.2 75).2.1 = 2880 := rfl
theorem ml76 : (mX.2 76).2.1 = 2880 := rfl
theorem ml77 : (mX.2 77).2.1 = 40 := rfl
theorem ml78 : (mX.2 78).2.1 = 40 := rfl
theorem ml80 : (mX.2 80).2.1 = 16 := rfl
theorem ml81 : (mX.2 81).2.1 = 8192 := rfl
theorem ml82 : (mX.2 82).2.1 = 256 := rfl
theorem ml83 : (mX.2 83).2.1 = 257 := rfl
theorem ml84 : (mX.2 84).2.1 = 13200 := rfl
theorem ml85 : (mX.2 85).2.1 = 800 := rfl
theorem ml86 : (mX.2 86).2.1 = 800 := rfl
theorem ml87 : (mX.2 87).2.1 = 800 := rfl
theorem ml89 : (mX.2 89).2.1 = 13200 := rfl
theorem ml90 : (mX.2 90).2.1 = 13200 := rfl
theorem ml91 : (mX.2 91).2.1 = 13200 := rfl
theorem ml92 : (mX.2 92).2.1 = 900000 := rfl
theorem ml94 : (mX.2 94).2.1 = 320 := rfl
theorem ml95 : (mX.2 95).2.1 = 20 := rfl
theorem ml96 : (mX.2 96).2.1 = 20 := rfl
theorem ml97 : (mX.2 97).2.1 = 6 := rfl
theorem ml98 : (mX.2 98).2.1 = 3600 := rfl
theorem ml99 : (mX.2 99).2.1 = 7200 := rfl
theorem ml100 : (mX.2 100).2.1 = 720 := rfl
theorem ml101 : (mX.2 101).2.1 = 2880 := rfl
theorem ml102 : (mX.2 102).2.1 = 720 := rfl
theorem ml103 : (mX.2 103).2.1 = 720 := rfl
theorem ml104 : (mX.2 104).2.1 = 2880 := rfl
theorem ml105 : (mX.2 105).2.1 = 2880 := rfl
theorem ml106 : (mX.2 106).2.1 = 5 := rfl
theorem ml107 : (mX.2 107).2.1 = 400 := rfl
theorem ml108 : (mX.2 108).2.1 = 600 := rfl
theorem ml110 : (mX.2 110).2.1 = 600 := rfl
theorem ml114 : (mX.2 114).2.1 = 600 := rfl
theorem ml115 : (mX.2 115).2.1 = 8040 := rfl
theorem ml117 : (mX.2 117).2.1 = 40 := rfl
theorem ml118 : (mX.2 118).2.1 = 40 := rfl
theorem ml119 : (mX.2 119).2.1 = 5 := rfl
theorem ml120 : (mX.2 120).2.1 = 5 := rfl
/-- a row: its size, then its numbers -/
def rc_At (z : ow_MS) (h o : Nat) (T : List Nat) : Prop := T.length ≤ 31 ∧ (∀ t, t ∈ T → t < 200) ∧ z.2.1 h o = nI T.length ∧ ∀ k t, T[k]? = some t → z.2.1 h (o + (k + 1)) = nI t
theorem rc_fr {P : Nat → Prop} {z z1 : ow_MS} {h o : Nat} {T : List Nat} (hf : fr P z z1) (hP : ¬ P h) (hr : rc_At z h o T) : rc_At z1 h o T := by
  obtain ⟨h1, h2, h3, h4⟩ := hr
  have e := (hf h hP).2.1
  exact ⟨h1, h2, by rw [e]; exact h3, fun k t hk => by rw [e]; exact h4 k t hk⟩
theorem rc_get {z : ow_MS} {h o k : Nat} {T : List Nat} (hr : rc_At z h o T) (hk : k < T.length) : ∃ t, T[k]? = some t ∧ t < 200 ∧ z.2.1 h (o + (k + 1)) = nI t := ⟨T[k], List.getElem?_eq_getElem hk, hr.2.1 _ (List.getElem_mem hk), hr.2.2.2 k _ (List.getElem?_eq_getElem hk)⟩
/-- the lesser of two lists -/
def lxb : List Nat → List Nat → Bool
  | _, [] => false
  | [], _ :: _ => true
  | a :: as, b :: bs => if a = b then lxb as bs else decide (a < b)
theorem lxb_drop : ∀ (k : Nat) (S T : List Nat), (∀ j, j < k → S[j]? = T[j]?) → k ≤ S.length → k ≤ T.length → lxb S T = lxb (S.drop k) (T.drop k)
  | 0, S, T, _, _, _ => rfl
  | k + 1, [], T, _, h, _ => by simp at h
  | k + 1, a :: S, [], _, _, h => by simp at h
  | k + 1, a :: S, b :: T, h, h1, h2 => by
    have e : a = b := by
      have := h 0 (by omega)
      simpa using this
    subst e
    have h3 := lxb_drop k S T (fun j hj => by
      have := h (j + 1) (by omega)
      simpa using this) (by simpa using h1) (by simpa using h2)
    rw [List.drop_succ_cons, List.drop_succ_cons, ← h3]
    show (if a = a then lxb S T else decide (a < a)) = lxb S T
    rw [if_pos rfl]
theorem lxb_at {S T : List Nat} {k s t : Nat} (hs : S[k]? = some s) (ht : T[k]? = some t) (hne : s ≠ t) : lxb (S.drop k) (T.drop k) = decide (s < t) := by
  have e1 : S.drop k = s :: S.drop (k + 1) := by
    obtain ⟨h1, h2⟩ := List.getElem?_eq_some_iff.mp hs
    rw [List.drop_eq_getElem_cons h1, h2]
  have e2 : T.drop k = t :: T.drop (k + 1) := by
    obtain ⟨h1, h2⟩ := List.getElem?_eq_some_iff.mp ht
    rw [List.drop_eq_getElem_cons h1, h2]
  rw [e1, e2]
  unfold lxb
  rw [if_neg hne]
theorem lxb_end {S T : List Nat} {k : Nat} (hk : k = S.length ∨ k = T.length) (h1 : k ≤ S.length) (h2 : k ≤ T.length) : lxb (S.drop k) (T.drop k) = decide (S.length < T.length) := by
  by_cases hT : k = T.length
  · rw [List.drop_of_length_le (l := T) (by omega)]
    have : ¬ S.length < T.length := by omega
    unfold lxb
    rw [decide_eq_false this]
  · have hS : k = S.length := hk.resolve_right hT
    rw [List.drop_of_length_le (l := S) (by omega), List.drop_eq_getElem_cons (l := T) (by omega)]
    have : S.length < T.length := by omega
    unfold lxb
    rw [decide_eq_true this]
def bZ (b : Bool) : Int32 := if b then 1 else 0
theorem bZ_t : bZ true = 1 := rfl
theorem bZ_f : bZ false = 0 := rfl
theorem bZ_01 (b : Bool) : bZ b = 0 ∨ bZ b = 1 := by cases b <;> simp [bZ]
theorem e_X13_isBelow {r0 : Nat} {x1 : Int32} {r2 : Nat} {x3 : Int32} {z : ow_MS} {Q : (Int32 × ow_MS) → Prop} (H : Tt (fun K k => q_X13_isBelow K k 0 x1 x3 0 0 r0 r2 z) Q) : Te (fun K => qe_X13_isBelow K r0 x1 r2 x3 z) Q := w_te H
theorem u_X13_isBelow_0 {x1 : Int32} {x3 : Int32} {x4 : Int32} {x5 : Int32} {r0 : Nat} {r2 : Nat} {z : ow_MS} {Q : (Int32 × ow_MS) → Prop} (H : Tt (fun K k => qm_X13_isBelow_0 K (q_X13_isBelow K k) x1 x3 x4 x5 r0 r2 z) Q) : Tt (fun K k => q_X13_isBelow K k 0 x1 x3 x4 x5 r0 r2 z) Q := w_un (fun _ _ => rfl) H
theorem u_X13_isBelow_1 {x1 : Int32} {x3 : Int32} {x4 : Int32} {x5 : Int32} {r0 : Nat} {r2 : Nat} {z : ow_MS} {Q : (Int32 × ow_MS) → Prop} (H : Tt (fun K k => qm_X13_isBelow_1 K (q_X13_isBelow K k) x1 x3 x4 x5 r0 r2 z) Q) : Tt (fun K k => q_X13_isBelow K k 1 x1 x3 x4 x5 r0 r2 z) Q := w_un (fun _ _ => rfl) H
theorem tr_below {z : ow_MS} {h g o p la lb : Nat} {S T : List Nat} (hla : (mX.2 h).2.1 = la) (hlb : (mX.2 g).2.1 = lb) (ha : la < 2 ^ 30) (hb : lb < 2 ^ 30) (h1 : o + S.length < la) (h2 : p + T.length < lb) (hS : rc_At z h o S) (hT : rc_At z g p T) : Te (fun K => qe_X13_isBelow K h (nI o) g (nI p) z) (fun r => r = (bZ (lxb S T), z)) := by
  obtain ⟨s1, s2, s3, s4⟩ := hS
  obtain ⟨t1, t2, t3, t4⟩ := hT
  refine e_X13_isBelow ?_
  refine u_X13_isBelow_0 ?_; unfold qm_X13_isBelow_0
  refine w_rdI hla rfl (by omega) s3 (w_rdI hlb rfl (by omega) t3 ?_)
  have em : (if nI T.length < nI S.length then nI T.length else nI S.length) = nI (min S.length T.length) := by
    by_cases hc : T.length < S.length
    · rw [if_pos (nI_lt hc (by omega)), Nat.min_eq_right (by omega)]
    · rw [if_neg (nI_nlt (by omega) (by omega)), Nat.min_eq_left (by omega)]
  rw [em]
  have key : ∀ (d k : Nat), k + d = min S.length T.length → (∀ j, j < k → S[j]? = T[j]?) → Tt (fun K i => q_X13_isBelow K i 1 (nI o) (nI p) (nI (min S.length T.length)) (nI (k + 1)) h g z) (fun r => r = (bZ (lxb S T), z)) := by
    intro d
    induction d with
    | zero =>
      intro k hk heq
      have e := (lxb_drop k S T heq (by omega) (by omega)).trans (lxb_end (by omega) (by omega) (by omega))
      refine u_X13_isBelow_1 ?_; unfold qm_X13_isBelow_1
      refine w_ltT (by omega) (by omega) (w_rdI hla rfl (by omega) s3 (w_rdI hlb rfl (by omega) t3 (w_le (by omega) (by omega) (fun h9 => w_okZ (Or.inl rfl) (w_some ?_)) (fun h9 => w_okZ (Or.inr rfl) (w_some ?_)))))
      · rw [e, decide_eq_false (by omega)]
        rfl
      · rw [e, decide_eq_true h9]
        rfl
    | succ d ih =>
      intro k hk heq
      have hks : k < S.length := by omega
      have hkt : k < T.length := by omega
      obtain ⟨a, a1, a2, a3⟩ := rc_get (z := z) (o := o) ⟨s1, s2, s3, s4⟩ hks
      obtain ⟨b, b1, b2, b3⟩ := rc_get (z := z) (o := p) ⟨t1, t2, t3, t4⟩ hkt
      refine u_X13_isBelow_1 ?_; unfold qm_X13_isBelow_1
      rw [nI_add, nI_add]
      refine w_ltF (by omega) (by omega) (w_rdI hla rfl (by omega) a3 (w_rdI hlb rfl (by omega) b3 (w_eqN (by omega) (by omega) (fun h9 => ?_) (fun h9 => w_rdI hla rfl (by omega) a3 (w_rdI hlb rfl (by omega) b3 (w_le (by omega) (by omega) (fun h8 => w_okZ (Or.inl rfl) (w_some ?_)) (fun h8 => w_okZ (Or.inr rfl) (w_some ?_))))))))
      · rw [nI_1]
        refine ih (k + 1) (by omega) (fun j hj => ?_)
        by_cases hjk : j = k
        · rw [hjk, a1, b1, h9]
        · exact heq j (by omega)
      · rw [lxb_drop k S T heq (by omega) (by omega), lxb_at a1 b1 h9, decide_eq_false (by omega)]
        rfl
      · rw [lxb_drop k S T heq (by omega) (by omega), lxb_at a1 b1 h9, decide_eq_true h8]
        rfl
  exact key _ 0 (Nat.zero_add _) (fun j hj => by omega)
/-- the visits of a row -/
def vOf (T : List Nat) : Nat := T.countP (fun t => decide (0 < t))
theorem vOf_take {T : List Nat} {k t : Nat} (h : T[k]? = some t) : vOf (T.take (k + 1)) = vOf (T.take k) + if 0 < t then 1 else 0 := by
  obtain ⟨h1, h2⟩ := List.getElem?_eq_some_iff.mp h
  rw [List.take_succ_eq_append_getElem h1, h2]
  unfold vOf
  rw [List.countP_append]
  by_cases h9 : 0 < t
  · rw [if_pos h9, List.countP_cons_of_pos (by simpa using h9)]
    rfl
  · rw [if_neg h9, List.countP_cons_of_neg (by simpa using h9)]
    rfl
theorem vOf_le (T : List Nat) : vOf T ≤ T.length := List.countP_le_length
theorem e_X13_visitsOf {r0 : Nat} {x1 : Int32} {z : ow_MS} {Q : (Int32 × ow_MS) → Prop} (H : Tt (fun K k => q_X13_visitsOf K k 0 x1 0 0 r0 0 0 z) Q) : Te (fun K => qe_X13_visitsOf K r0 x1 z) Q := w_te H
theorem u_X13_visitsOf_0 {x1 : Int32} {x2 : Int32} {x3 : Int32} {r0 : Nat} {t0 : Int32} {t1 : Int32} {z : ow_MS} {Q : (Int32 × ow_MS) → Prop} (H : Tt (fun K k => qm_X13_visitsOf_0 K (q_X13_visitsOf K k) x1 x2 x3 r0 t0 t1 z) Q) : Tt (fun K k => q_X13_visitsOf K k 0 x1 x2 x3 r0 t0 t1 z) Q := w_un (fun _ _ => rfl) H
theorem u_X13_visitsOf_1 {x1 : Int32} {x2 : Int32} {x3 : Int32} {r0 : Nat} {t0 : Int32} {t1 : Int32} {z : ow_MS} {Q : (Int32 × ow_MS) → Prop} (H : Tt (fun K k => qm_X13_visitsOf_1 K (q_X13_visitsOf K k) x1 x2 x3 r0 t0 t1 z) Q) : Tt (fun K k => q_X13_visitsOf K k 1 x1 x2 x3 r0 t0 t1 z) Q := w_un (fun _ _ => rfl) H
theorem u_X13_visitsOf_2 {x1 : Int32} {x2 : Int32} {x3 : Int32} {r0 : Nat} {t0 : Int32} {t1 : Int32} {z : ow_MS} {Q : (Int32 × ow_MS) → Prop} (H : Tt (fun K k => qm_X13_visitsOf_2 K (q_X13_visitsOf K k) x1 x2 x3 r0 t0 t1 z) Q) : Tt (fun K k => q_X13_visitsOf K k 2 x1 x2 x3 r0 t0 t1 z) Q := w_un (fun _ _ => rfl) H
theorem tr_visits {z : ow_MS} {h o la : Nat} {T : List Nat} (hla : (mX.2 h).2.1 = la) (ha : la < 2 ^ 30) (h1 : o + T.length < la) (hT : rc_At z h o T) : Te (fun K => qe_X13_visitsOf K h (nI o) z) (fun r => r = (nI (vOf T), z)) := by
  obtain ⟨t1, t2, t3, t4⟩ := hT
  refine e_X13_visitsOf ?_
  refine u_X13_visitsOf_0 ?_; unfold qm_X13_visitsOf_0
  have key : ∀ (d k : Nat), k + d = T.length → Tt (fun K i => q_X13_visitsOf K i 1 (nI o) (nI (vOf (T.take k))) (nI (k + 1)) h 0 0 z) (fun r => r = (nI (vOf T), z)) := by
    intro d
    induction d with
    | zero =>
      intro k hk
      refine u_X13_visitsOf_1 ?_; unfold qm_X13_visitsOf_1
      refine w_rdI hla rfl (by omega) t3 (w_ltT (by omega) (by omega) (w_some ?_))
      rw [List.take_of_length_le (by omega)]
    | succ d ih =>
      intro k hk
      obtain ⟨t, a1, a2, a3⟩ := rc_get (z := z) (o := o) ⟨t1, t2, t3, t4⟩ (k := k) (by omega)
      have hv := vOf_take a1
      refine u_X13_visitsOf_1 ?_; unfold qm_X13_visitsOf_1
      rw [nI_add]
      refine w_rdI hla rfl (by omega) t3 (w_ltF (by omega) (by omega) (w_rdI hla rfl (by omega) a3 (w_le (b := 0) (by omega) (by omega) (fun h9 => ?_) (fun h9 => ?_))))
      · refine u_X13_visitsOf_2 ?_; unfold qm_X13_visitsOf_2
        have := ih (k + 1) (by omega)
        rw [hv, if_neg (by omega)] at this
        rw [nI_1, Int32.add_zero]
        exact this
      · refine u_X13_visitsOf_2 ?_; unfold qm_X13_visitsOf_2
        have := ih (k + 1) (by omega)
        rw [hv, if_pos h9] at this
        rw [nI_1, nI_1]
        exact this
  exact key _ 0 (Nat.zero_add _)
/-- the order of the lists of diagrams -/
def lsr (S T : List Nat) : Bool := if vOf S = vOf T then lxb S T else decide (vOf S < vOf T)
theorem e_X13_isLesser {r0 : Nat} {x1 : Int32} {r2 : Nat} {x3 : Int32} {z : ow_MS} {Q : (Int32 × ow_MS) → Prop} (H : Tt (fun K _ => qm_X13_isLesser_0 K x1 x3 r0 r2 z) Q) : Te (fun K => qe_X13_isLesser K r0 x1 r2 x3 z) Q := w_te0 H
theorem tr_lesser {z : ow_MS} {h g o p la lb : Nat} {S T : List Nat} (hla : (mX.2 h).2.1 = la) (hlb : (mX.2 g).2.1 = lb) (ha : la < 2 ^ 30) (hb : lb < 2 ^ 30) (h1 : o + S.length < la) (h2 : p + T.length < lb) (hS : rc_At z h o S) (hT : rc_At z g p T) : Te (fun K => qe_X13_isLesser K h (nI o) g (nI p) z) (fun r => r = (bZ (lsr S T), z)) := by
  have v1 := vOf_le S
  have v2 := vOf_le T
  refine e_X13_isLesser ?_; unfold qm_X13_isLesser_0
  refine w_cs1 (tr_visits hla ha h1 hS) (fun a z1 e => ?_)
  cases e
  refine w_cs1 (tr_visits hlb hb h2 hT) (fun a z1 e => ?_)
  cases e
  refine w_eqN (by omega) (by omega) (fun h9 => w_cs1 (tr_below hla hlb ha hb h1 h2 hS hT) (fun a z1 e => ?_)) (fun h9 => w_le (by omega) (by omega) (fun h8 => w_okZ (Or.inl rfl) (w_some ?_)) (fun h8 => w_okZ (Or.inr rfl) (w_some ?_)))
  · cases e
    refine w_okZ (bZ_01 _) (w_some ?_)
    unfold lsr
    rw [if_pos h9]
  · unfold lsr
    rw [if_neg h9, decide_eq_false (by omega)]
    rfl
  · unfold lsr
    rw [if_neg h9, decide_eq_true h8]
    rfl
theorem e_X13_isSame {r0 : Nat} {x1 : Int32} {r2 : Nat} {x3 : Int32} {z : ow_MS} {Q : (Int32 × ow_MS) → Prop} (H : Tt (fun K k => q_X13_isSame K k 0 x1 x3 0 r0 r2 z) Q) : Te (fun K => qe_X13_isSame K r0 x1 r2 x3 z) Q := w_te H
theorem u_X13_isSame_0 {x1 : Int32} {x3 : Int32} {x4 : Int32} {r0 : Nat} {r2 : Nat} {z : ow_MS} {Q : (Int32 × ow_MS) → Prop} (H : Tt (fun K k => qm_X13_isSame_0 K (q_X13_isSame K k) x1 x3 x4 r0 r2 z) Q) : Tt (fun K k => q_X13_isSame K k 0 x1 x3 x4 r0 r2 z) Q := w_un (fun _ _ => rfl) H
theorem u_X13_isSame_1 {x1 : Int32} {x3 : Int32} {x4 : Int32} {r0 : Nat} {r2 : Nat} {z : ow_MS} {Q : (Int32 × ow_MS) → Prop} (H : Tt (fun K k => qm_X13_isSame_1 K (q_X13_isSame K k) x1 x3 x4 r0 r2 z) Q) : Tt (fun K k => q_X13_isSame K k 1 x1 x3 x4 r0 r2 z) Q := w_un (fun _ _ => rfl) H
theorem tr_same {z : ow_MS} {h g o p la lb : Nat} {S T : List Nat} (hla : (mX.2 h).2.1 = la) (hlb : (mX.2 g).2.1 = lb) (ha : la < 2 ^ 30) (hb : lb < 2 ^ 30) (h1 : o + S.length < la) (h2 : p + S.length < lb) (hS : rc_At z h o S) (hT : rc_At z g p T) : Te (fun K => qe_X13_isSame K h (nI o) g (nI p) z) (fun r => r = (bZ (decide (S = T)), z)) := by
  obtain ⟨s1, s2, s3, s4⟩ := hS
  obtain ⟨t1, t2, t3, t4⟩ := hT
  refine e_X13_isSame ?_
  refine u_X13_isSame_0 ?_; unfold qm_X13_isSame_0
  have key : S.length = T.length → ∀ (d k : Nat), k + d = S.length → (∀ j, j < k → S[j]? = T[j]?) → Tt (fun K i => q_X13_isSame K i 1 (nI o) (nI p) (nI (k + 1)) h g z) (fun r => r = (bZ (decide (S = T)), z)) := by
    intro hlen d
    induction d with
    | zero =>
      intro k hk heq
      refine u_X13_isSame_1 ?_; unfold qm_X13_isSame_1
      refine w_rdI hla rfl (by omega) s3 (w_ltT (by omega) (by omega) (w_okZ (Or.inr rfl) (w_some ?_)))
      have e : S = T := List.ext_getElem? (fun j => by
        by_cases hj : j < k
        · exact heq j hj
        · rw [List.getElem?_eq_none (by omega), List.getElem?_eq_none (by omega)])
      rw [decide_eq_true e]
      rfl
    | succ d ih =>
      intro k hk heq
      obtain ⟨a, a1, a2, a3⟩ := rc_get (z := z) (o := o) ⟨s1, s2, s3, s4⟩ (k := k) (by omega)
      obtain ⟨b, b1, b2, b3⟩ := rc_get (z := z) (o := p) ⟨t1, t2, t3, t4⟩ (k := k) (by omega)
      refine u_X13_isSame_1 ?_; unfold qm_X13_isSame_1
      rw [nI_add, nI_add]
      refine w_rdI hla rfl (by omega) s3 (w_ltF (by omega) (by omega) (w_rdI hla rfl (by omega) a3 (w_rdI hlb rfl (by omega) b3 (w_eqN (by omega) (by omega) (fun h9 => ?_) (fun h9 => w_okZ (Or.inl rfl) (w_some ?_))))))
      · rw [nI_1]
        refine ih (k + 1) (by omega) (fun j hj => ?_)
        by_cases hjk : j = k
        · rw [hjk, a1, b1, h9]
        · exact heq j (by omega)
      · have e : ¬ S = T := fun e => by
          rw [e, b1] at a1
          cases a1
          exact h9 rfl
        rw [decide_eq_false e]
        rfl
  refine u_X13_isSame_1 ?_; unfold qm_X13_isSame_1
  refine w_rdI hla rfl (by omega) s3 (w_ltF (b := 0) (by omega) (by omega) ?_)
  have e0 : ∀ a : Nat, nI a + 0 = nI a := fun a => Int32.add_zero _
  rw [e0, e0]
  refine w_rdI hla rfl (by omega) s3 (w_rdI hlb rfl (by omega) t3 (w_eqN (by omega) (by omega) (fun h9 => ?_) (fun h9 => w_okZ (Or.inl rfl) (w_some ?_))))
  · exact key h9 S.length 0 (Nat.zero_add _) (fun j hj => by omega)
  · have e : ¬ S = T := fun e => h9 (by rw [e])
    rw [decide_eq_false e]
    rfl
/-! a net as a row -/
def tkv (sg : Nat → Bool) (p : Nat × Nat) : Nat := 4 * (p.1 + 1) + 2 * p.2 + if sg p.1 then 1 else 0
def tkc (sg : Nat → Bool) (B : List (Nat × Nat)) : List Nat := B.map (tkv sg) ++ [0]
def tk (sg : Nat → Bool) (A : rn_L) : List Nat := (A.map (tkc sg)).flatten
theorem tkc_len {sg : Nat → Bool} {B : List (Nat × Nat)} : (tkc sg B).length = B.length + 1 := by
  unfold tkc
  rw [List.length_append, List.length_map]
  rfl
theorem tk_len {sg : Nat → Bool} : ∀ A : rn_L, (tk sg A).length = A.flatten.length + A.length
  | [] => rfl
  | B :: A => by
    have := tk_len (sg := sg) A
    unfold tk at this ⊢
    rw [List.map_cons, List.flatten_cons, List.length_append, tkc_len, this, List.flatten_cons, List.length_append, List.length_cons]
    omega
theorem tk_app {sg : Nat → Bool} {A B : rn_L} : tk sg (A ++ B) = tk sg A ++ tk sg B := by
  unfold tk
  rw [List.map_append, List.flatten_append]
theorem tk_cons {sg : Nat → Bool} {B : List (Nat × Nat)} {A : rn_L} : tk sg (B :: A) = B.map (tkv sg) ++ 0 :: tk sg A := by
  unfold tk tkc
  rw [List.map_cons, List.flatten_cons, List.append_assoc]
  rfl
/-- the signs of a net's crossings -/
def rn_sg (z : ow_MS) (n : Nat) (F : List (Nat × Nat)) (sg : Nat → Bool) : Prop := ∀ p, p ∈ F → z.2.1 (n + 6) p.1 = if sg p.1 then -1 else 1
theorem rn_shr2 {a : Nat} (ha : a < 2 ^ 31) : nI a >>> ((2 : Int32) &&& 31) = nI (a / 4) := pk_shrN (n := a) ha ((2 : Int32) &&& 31) 2 (by decide)
theorem u_X13_unpack_1 {x1 : Int32} {x3 : Int32} {x4 : Int32} {r0 : Nat} {r2 : Nat} {t0 : Int32} {t1 : Int32} {z : ow_MS} {Q : ow_MS → Prop} (H : Tt (fun K k => qm_X13_unpack_1 K (q_X13_unpack K k) x1 x3 x4 r0 r2 t0 t1 z) Q) : Tt (fun K k => q_X13_unpack K k 1 x1 x3 x4 r0 r2 t0 t1 z) Q := w_un (fun _ _ => rfl) H
theorem u_X13_unpack_3 {x1 : Int32} {x3 : Int32} {x4 : Int32} {r0 : Nat} {r2 : Nat} {t0 : Int32} {t1 : Int32} {z : ow_MS} {Q : ow_MS → Prop} (H : Tt (fun K k => qm_X13_unpack_3 K (q_X13_unpack K k) x1 x3 x4 r0 r2 t0 t1 z) Q) : Tt (fun K k => q_X13_unpack K k 3 x1 x3 x4 r0 r2 t0 t1 z) Q := w_un (fun _ _ => rfl) H
theorem u_X13_unpack_2 {x1 : Int32} {x3 : Int32} {x4 : Int32} {r0 : Nat} {r2 : Nat} {t0 : Int32} {t1 : Int32} {z : ow_MS} {Q : ow_MS → Prop} (H : Tt (fun K k => qm_X13_unpack_2 K (q_X13_unpack K k) x1 x3 x4 r0 r2 t0 t1 z) Q) : Tt (fun K k => q_X13_unpack K k 2 x1 x3 x4 r0 r2 t0 t1 z) Q := w_un (fun _ _ => rfl) H
theorem e_X13_unpack {r0 : Nat} {x1 : Int32} {r2 : Nat} {z : ow_MS} {Q : ow_MS → Prop} (H : Tt (fun K k => q_X13_unpack K k 0 x1 0 0 r0 r2 0 0 z) Q) : Te (fun K => qe_X13_unpack K r0 x1 r2 z) Q := w_te H
theorem u_X13_unpack_0 {x1 : Int32} {x3 : Int32} {x4 : Int32} {r0 : Nat} {r2 : Nat} {t0 : Int32} {t1 : Int32} {z : ow_MS} {Q : ow_MS → Prop} (H : Tt (fun K k => qm_X13_unpack_0 K (q_X13_unpack K k) x1 x3 x4 r0 r2 t0 t1 z) Q) : Tt (fun K k => q_X13_unpack K k 0 x1 x3 x4 r0 r2 t0 t1 z) Q := w_un (fun _ _ => rfl) H
theorem tr_unpack {z : ow_MS} {h o n la : Nat} {A : rn_L} {sg : Nat → Bool} (hn : mw_net n) (hh : h < 1000) (hla : (mX.2 h).2.1 = la) (ha : la < 2 ^ 30) (h1 : o + (tk sg A).length < la) (hc : A.length ≤ 38) (hl : A.flatten.length ≤ 40) (hx : ∀ p : Nat × Nat, p ∈ A.flatten → p.1 < 40 ∧ p.2 < 2) (hT : rc_At z h o (tk sg A)) : Te (fun K => qe_X13_unpack K h (nI o) n z) (fun z1 => rn_At z1 n A [] ∧ rn_sg z1 n A.flatten sg ∧ fr (fun g => n + 1 ≤ g ∧ g ≤ n + 6) z z1) := by
  have hm := net_mod hn
  have frT : ∀ {P : Nat → Prop} {y y1 : ow_MS}, fr P y y1 → (∀ g, P g → n + 1 ≤ g ∧ g ≤ n + 6) → rc_At y h o (tk sg A) → rc_At y1 h o (tk sg A) := fun hf hP h9 => rc_fr hf (fun h8 => by have := hP _ h8; omega) h9
  let Q : ow_MS → Prop := fun z1 => rn_At z1 n A [] ∧ rn_sg z1 n A.flatten sg ∧ fr (fun g => n + 1 ≤ g ∧ g ≤ n + 6) z z1
  have out : ∀ (A2 A1 : rn_L) (z1 : ow_MS), A1 ++ A2 = A → fr (fun g => n + 1 ≤ g ∧ g ≤ n + 6) z z1 → rc_At z1 h o (tk sg A) → rn_At z1 n A1 [] → rn_sg z1 n A1.flatten sg → Tt (fun K k => q_X13_unpack K k 1 (nI o) (nI ((tk sg A1).length + 1)) 0 h n 0 0 z1) Q := by
    intro A2
    induction A2 with
    | nil =>
      intro A1 z1 hA hf hT hzn hs
      rw [List.append_nil] at hA
      subst hA
      refine u_X13_unpack_1 ?_; unfold qm_X13_unpack_1
      exact w_rdI hla rfl (by omega) hT.2.2.1 (w_ltT (by omega) (by omega) (w_some ⟨hzn, hs, hf⟩))
    | cons B A2 ih =>
      intro A1 z1 hA hf hT hzn hs
      have hC : A1.length + 1 ≤ A.length := by
        rw [← hA, List.length_append, List.length_cons]
        omega
      have eT : tk sg A = tk sg A1 ++ (B.map (tkv sg) ++ 0 :: tk sg A2) := by rw [← hA, tk_app, tk_cons]
      have hLT : (tk sg A1).length + B.length + 1 ≤ (tk sg A).length := by
        rw [eT, List.length_append, List.length_append, List.length_map, List.length_cons]
        omega
      have hL : A1.flatten.length + B.length ≤ A.flatten.length := by
        have : (A1 ++ B :: A2).flatten.length = A1.flatten.length + (B.length + A2.flatten.length) := by simp
        rw [← hA]
        omega
      have inn : ∀ (B2 B1 : List (Nat × Nat)) (z1 : ow_MS), B1 ++ B2 = B → fr (fun g => n + 1 ≤ g ∧ g ≤ n + 6) z z1 → rc_At z1 h o (tk sg A) → rn_At z1 n A1 B1 → rn_sg z1 n (A1.flatten ++ B1) sg → Tt (fun K k => q_X13_unpack K k 1 (nI o) (nI ((tk sg A1).length + B1.length + 1)) 0 h n 0 0 z1) Q := by
        intro B2
        induction B2 with
        | nil =>
          intro B1 z1 hB hf hT hzn hs
          rw [List.append_nil] at hB
          subst hB
          have tok : (tk sg A)[(tk sg A1).length + B1.length]? = some 0 := by
            rw [eT, List.getElem?_append_right (by omega), Nat.add_sub_cancel_left, List.getElem?_append_right (by rw [List.length_map]; omega), List.length_map, Nat.sub_self]
            rfl
          have e0 := hT.2.2.2 _ _ tok
          refine u_X13_unpack_1 ?_; unfold qm_X13_unpack_1
          rw [nI_add]
          refine w_rdI hla rfl (by omega) hT.2.2.1 (w_ltF (by omega) (by omega) (w_rdI hla rfl (by omega) e0 (w_ifT rfl (w_cs0 (tn_end hn hzn (by omega)) (fun z2 ⟨e1, e2⟩ => ?_)))))
          refine u_X13_unpack_3 ?_; unfold qm_X13_unpack_3
          rw [nI_1]
          have := ih (A1 ++ [B1]) z2 (by rw [← hA]; simp) (fr_tr hf (fr_mono (fun g hg => by omega) e2)) (frT e2 (fun g hg => by omega) hT) e1 (fun p hp => by
            rw [(e2 (n + 6) (by omega)).2.1]
            exact hs p (by simpa using hp))
          rw [tk_app, tk_cons, List.length_append, List.length_append, List.length_map] at this
          exact this
        | cons p B2 ihB =>
          intro B1 z1 hB hf hT hzn hs
          have hBl : B1.length + (B2.length + 1) = B.length := by
            rw [← hB, List.length_append]
            rfl
          have hpA : p ∈ A.flatten := by
            rw [← hA, ← hB]
            simp
          obtain ⟨hp1, hp2⟩ := hx p hpA
          have tok : (tk sg A)[(tk sg A1).length + B1.length]? = some (tkv sg p) := by
            rw [eT, List.getElem?_append_right (by omega), Nat.add_sub_cancel_left, List.getElem?_append_left (by rw [List.length_map]; omega), ← hB, List.map_append, List.getElem?_append_right (by rw [List.length_map]; omega), List.length_map, Nat.sub_self]
            rfl
          have e0 := hT.2.2.2 _ _ tok
          have ht : tkv sg p < 200 := hT.2.1 _ (List.mem_of_getElem? tok)
          have hq : tkv sg p / 4 = p.1 + 1 ∧ tkv sg p / 2 % 2 = p.2 ∧ tkv sg p % 2 = (if sg p.1 then 1 else 0) ∧ 0 < tkv sg p := by
            unfold tkv
            cases sg p.1 <;> simp <;> omega
          obtain ⟨q1, q2, q3, q4⟩ := hq
          have eS : nI (tkv sg p) >>> ((2 : Int32) &&& 31) - 1 = nI p.1 := by
            rw [rn_shr2 (by omega), q1]
            exact nI_pred _
          have eU : nI (tkv sg p) >>> ((1 : Int32) &&& 31) &&& 1 = nI p.2 := by
            rw [rn_shr1 (by omega), rn_and1 (by omega), q2]
          have c2 : ∀ t : Int32, t = (if sg p.1 then -1 else 1) → Tt (fun K k => q_X13_unpack K k 2 (nI o) (nI ((tk sg A1).length + B1.length + 1)) (nI (tkv sg p)) h n t (nI p.1) z1) Q := by
            intro t ht
            refine u_X13_unpack_2 ?_; unfold qm_X13_unpack_2
            rw [eS, eU]
            have hA2 : rn_At (usI z1 (n + 6) p.1 t) n A1 B1 := fr_At (P := fun g => g = n + 6) (fr_I rfl) (fun g hg => by omega) hzn
            refine w_wrI (pl6 hn) rfl hp1 (w_cs0 (tn_add hn hA2 (by rw [List.length_append]; omega)) (fun z2 ⟨e1, e2⟩ => ?_))
            refine u_X13_unpack_3 ?_; unfold qm_X13_unpack_3
            rw [nI_1]
            have hf2 : fr (fun g => n + 1 ≤ g ∧ g ≤ n + 6) z1 z2 := fr_tr (fr_I (by omega)) (fr_mono (fun g hg => by omega) e2)
            have := ihB (B1 ++ [p]) z2 (by rw [← hB]; simp) (fr_tr hf hf2) (frT hf2 (fun g hg => hg) hT) e1 (fun p9 hp9 => by
              rw [(e2 (n + 6) (by omega)).2.1]
              by_cases he : p9.1 = p.1
              · rw [he, po_usI_at, ht]
              · rw [po_usI_ne he]
                rw [← List.append_assoc, List.mem_append] at hp9
                rcases hp9 with hp9 | hp9
                · exact hs p9 hp9
                · rw [List.mem_singleton.mp hp9] at he
                  exact absurd rfl he)
            rw [List.length_append] at this
            exact this
          refine u_X13_unpack_1 ?_; unfold qm_X13_unpack_1
          rw [nI_add]
          refine w_rdI hla rfl (by omega) hT.2.2.1 (w_ltF (by omega) (by omega) (w_rdI hla rfl (by omega) e0 (w_ifF (nI_ne0 q4 (by omega)) ?_)))
          rw [rn_and1 (by omega), q3, eS]
          cases hsg : sg p.1 with
          | true => exact w_ifT rfl (c2 _ (by rw [hsg]; rfl))
          | false => exact w_ifF (by decide) (c2 _ (by rw [hsg]; rfl))
      exact inn B [] z1 (List.nil_append _) hf hT hzn (by rw [List.append_nil]; exact hs)
  refine e_X13_unpack ?_
  refine u_X13_unpack_0 ?_; unfold qm_X13_unpack_0
  refine w_cs0 (tn_clear hn) (fun z1 ⟨e1, e2⟩ => ?_)
  exact out A [] z1 (List.nil_append _) (fr_mono (fun g hg => by omega) e2) (frT e2 (fun g hg => by omega) hT) e1 (fun p hp => by simp at hp)
