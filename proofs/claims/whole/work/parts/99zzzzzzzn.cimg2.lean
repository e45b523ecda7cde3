/-! the class: D of a generator stays in its degree -/
def kpF (n h : Nat) (dg : Int) : Option Nat := if ((n : Int) + dg - h) % 2 = 0 ∧ 0 ≤ (n : Int) + dg - h ∧ (n : Int) + dg - h ≤ 2 * n then some (((n : Int) + dg - h) / 2).toNat else none
def bkF (ns : Nat → Nat) (dg : Int) (s : Nat) : Nat := match kpF (ns s) (pc s) dg with
  | some k => biN (ns s) k
  | none => 0
theorem kpF_m {n h k : Nat} {dg : Int} (hk : kpF (n + 1) h dg = some (k + 1)) : kpF n (h + 1) dg = some k := by
  unfold kpF at hk ⊢
  split at hk
  · rename_i h1
    injection hk with hk
    rw [if_pos (by omega)]
    congr 1
    omega
  · cases hk
theorem kpF_s {n h k : Nat} {dg : Int} (hk : kpF n h dg = some k) : kpF (n + 1) (h + 1) dg = some k := by
  unfold kpF at hk ⊢
  split at hk
  · rename_i h1
    injection hk with hk
    rw [if_pos (by omega)]
    congr 1
    omega
  · cases hk
theorem kpF_le {n h k : Nat} {dg : Int} (hk : kpF n h dg = some k) : k ≤ n := by
  unfold kpF at hk
  split at hk
  · injection hk with hk
    omega
  · cases hk
theorem bt_flip {s x : Nat} (h : btN s x = 0) (k : Nat) : btN (s + 2 ^ x) k = if k = x then 1 else btN s k := by
  have e1 : s % 2 ^ (x + 1) < 2 ^ x := by
    have h1 : s % 2 ^ (x + 1) < 2 ^ (x + 1) := Nat.mod_lt _ (Nat.two_pow_pos _)
    unfold btN at h
    have h2 : s % 2 ^ (x + 1) / 2 ^ x = s / 2 ^ x % 2 := by
      rw [Nat.pow_succ, Nat.mod_mul_right_div_self]
    rw [h] at h2
    rcases Nat.lt_or_ge (s % 2 ^ (x + 1)) (2 ^ x) with h3 | h3
    · exact h3
    · have := Nat.div_pos h3 (Nat.two_pow_pos x)
      omega
  have e2 : s = 2 ^ (x + 1) * (s / 2 ^ (x + 1)) + s % 2 ^ (x + 1) := (Nat.div_add_mod _ _).symm
  generalize s / 2 ^ (x + 1) = q at e2
  generalize s % 2 ^ (x + 1) = r at e1 e2
  have p1 : 2 ^ (x + 1) = 2 ^ x * 2 := Nat.pow_succ 2 x
  unfold btN
  rcases Nat.lt_trichotomy k x with hk | hk | hk
  · rw [if_neg (by omega)]
    have e3 : 2 ^ x = 2 ^ k * (2 * 2 ^ (x - k - 1)) := by
      rw [← Nat.pow_succ', ← Nat.pow_add]
      congr 1
      omega
    rw [e3, Nat.add_mul_div_left _ _ (Nat.two_pow_pos k), Nat.add_mul_mod_self_left]
  · subst hk
    rw [if_pos rfl]
    have : s + 2 ^ k = r + 2 ^ k * (2 * q + 1) := by
      rw [e2, p1, Nat.mul_add, Nat.mul_one, ← Nat.mul_assoc]
      omega
    rw [this, Nat.add_mul_div_left _ _ (Nat.two_pow_pos k), Nat.div_eq_of_lt e1]
    omega
  · rw [if_neg (by omega)]
    have e3 : 2 ^ k = 2 ^ (x + 1) * 2 ^ (k - x - 1) := by
      rw [← Nat.pow_add]
      congr 1
      omega
    have dd : ∀ u, u < 2 ^ (x + 1) → (u + 2 ^ (x + 1) * q) / 2 ^ k = q / 2 ^ (k - x - 1) := by
      intro u hu
      rw [e3, ← Nat.div_div_eq_div_mul, Nat.add_mul_div_left _ _ (Nat.two_pow_pos _), Nat.div_eq_of_lt hu, Nat.zero_add]
    have f1 : s = r + 2 ^ (x + 1) * q := by omega
    have f2 : s + 2 ^ x = (r + 2 ^ x) + 2 ^ (x + 1) * q := by omega
    rw [f2, dd _ (by omega), f1, dd _ (by omega)]
theorem or_add {k l : Nat} (h : btN k l = 0) : k ||| 2 ^ l = k + 2 ^ l := by
  refine Nat.eq_of_testBit_eq (fun i => ?_)
  rw [Nat.testBit_or, Nat.testBit_two_pow]
  have h1 := bt_flip h i
  unfold btN at h1
  rw [Nat.testBit_eq_decide_div_mod_eq, Nat.testBit_eq_decide_div_mod_eq, h1]
  by_cases e : i = l
  · rw [if_pos e, decide_eq_true (show l = i from e.symm)]
    simp
  · rw [if_neg e, decide_eq_false (show ¬ l = i from fun h9 => e h9.symm), Bool.or_false]
theorem cpN_lt {m n : Nat} (hn : n < 32) (hm : m < 2 ^ n) : cpN (pc m) m < biN n (pc m) := by
  rw [← cpN_bi n (pc m) hn]
  have h1 : cpN (pc m) (m + 1) = cpN (pc m) m + 1 := by
    show cpN (pc m) m + (if pc m = pc m then 1 else 0) = _
    rw [if_pos rfl]
  have h2 := cpN_mono (r := pc m) (a := m + 1) (2 ^ n) hm
  omega
/-- the place of a generator -/
theorem ix_lt {ns : Nat → Nat} {dg : Int} {c t m : Nat} (ht : t < 2 ^ c) (hn : ns t ≤ 9) (hm : m < 2 ^ ns t) (hk : kpF (ns t) (pc t) dg = some (pc m)) : smH (bkF ns dg) (pc t) 0 t + cpN (pc m) m < smH (bkF ns dg) (pc t) 0 (2 ^ c) := by
  have h1 := cpN_lt (show ns t < 32 by omega) hm
  have h2 : smH (bkF ns dg) (pc t) 0 (t + 1) = smH (bkF ns dg) (pc t) 0 t + bkF ns dg t := by
    show smH _ _ _ t + (if pc t = pc t then bkF ns dg (0 + t) else 0) = _
    rw [if_pos rfl, Nat.zero_add]
  have h3 := smH_mono (w := bkF ns dg) (h := pc t) (t := 0) (a := t + 1) (2 ^ c) ht
  have h4 : bkF ns dg t = biN (ns t) (pc m) := by
    unfold bkF
    rw [hk]
  omega
/-- how the states are laid out for a degree -/
def LyY (y : ow_MS) (c : Nat) (ns : Nat → Nat) (dg : Int) : Prop := (∀ s, s < 2 ^ c → y.2.1 43007 s = oM (kpF (ns s) (pc s) dg) ∧ y.2.1 43008 s = nI (smH (bkF ns dg) (pc s) 0 s)) ∧ ∀ h, h < 10 → y.2.1 43009 h = nI (smH (bkF ns dg) h 0 (2 ^ c))
theorem LyY_fr {P : Nat → Prop} {y y1 : ow_MS} {c : Nat} {ns : Nat → Nat} {dg : Int} (hf : fr P y y1) (hP : ¬ P 43007 ∧ ¬ P 43008 ∧ ¬ P 43009) (h : LyY y c ns dg) : LyY y1 c ns dg := by
  obtain ⟨h1, h2⟩ := h
  refine ⟨fun s hs => ?_, fun k hk => ?_⟩
  · rw [(hf _ hP.1).2.1, (hf _ hP.2.1).2.1]
    exact h1 s hs
  · rw [(hf _ hP.2.2).2.1]
    exact h2 k hk
theorem tbP_fr {P : Nat → Prop} {y y1 : ow_MS} (hf : fr P y y1) (hP : ¬ P 43005) (h : tbP y) : tbP y1 := fun m hm => by
  rw [(hf _ hP).2.1]
  exact h m hm
section IM2
variable {vl : Nat → Nat} {y : ow_MS} {S : ow_NP} {G : Nat → Int32} {c ci : Nat} {Ls : Nat → Nat → Nat} {ns : Nat → Nat}
theorem tb_flip {s x : Nat} (h : btN s x = 0) : ∀ k, tb (s + 2 ^ x) k = seB (tb s) x true k := by
  intro k
  unfold tb seB
  have := bt_flip h k
  unfold btN at this
  by_cases e : k = x
  · rw [if_pos e] at this ⊢
    rw [this]
    rfl
  · rw [if_neg e] at this ⊢
    rw [this]
theorem u_X1_writeImage_1 {vl : Nat → Nat} {x1 : Int32} {x2 : Int32} {x3 : Int32} {x4 : Int32} {x5 : Int32} {x6 : Int32} {x7 : Int32} {x8 : Int32} {x9 : Int32} {x10 : Int32} {x11 : Int32} {x12 : Int32} {r0 : Nat} {t0 : Int32} {t1 : Int32} {z : ow_MS} {Q : ow_MS → Prop} (H : Tt (fun K k => cm_X1_writeImage_1 vl K (c_X1_writeImage vl K k) x1 x2 x3 x4 x5 x6 x7 x8 x9 x10 x11 x12 r0 t0 t1 z) Q) : Tt (fun K k => c_X1_writeImage vl K k 1 x1 x2 x3 x4 x5 x6 x7 x8 x9 x10 x11 x12 r0 t0 t1 z) Q := w_un (fun _ _ => rfl) H
theorem u_X1_writeImage_8 {vl : Nat → Nat} {x1 : Int32} {x2 : Int32} {x3 : Int32} {x4 : Int32} {x5 : Int32} {x6 : Int32} {x7 : Int32} {x8 : Int32} {x9 : Int32} {x10 : Int32} {x11 : Int32} {x12 : Int32} {r0 : Nat} {t0 : Int32} {t1 : Int32} {z : ow_MS} {Q : ow_MS → Prop} (H : Tt (fun K k => cm_X1_writeImage_8 vl K (c_X1_writeImage vl K k) x1 x2 x3 x4 x5 x6 x7 x8 x9 x10 x11 x12 r0 t0 t1 z) Q) : Tt (fun K k => c_X1_writeImage vl K k 8 x1 x2 x3 x4 x5 x6 x7 x8 x9 x10 x11 x12 r0 t0 t1 z) Q := w_un (fun _ _ => rfl) H
theorem u_X1_writeImage_7 {vl : Nat → Nat} {x1 : Int32} {x2 : Int32} {x3 : Int32} {x4 : Int32} {x5 : Int32} {x6 : Int32} {x7 : Int32} {x8 : Int32} {x9 : Int32} {x10 : Int32} {x11 : Int32} {x12 : Int32} {r0 : Nat} {t0 : Int32} {t1 : Int32} {z : ow_MS} {Q : ow_MS → Prop} (H : Tt (fun K k => cm_X1_writeImage_7 vl K (c_X1_writeImage vl K k) x1 x2 x3 x4 x5 x6 x7 x8 x9 x10 x11 x12 r0 t0 t1 z) Q) : Tt (fun K k => c_X1_writeImage vl K k 7 x1 x2 x3 x4 x5 x6 x7 x8 x9 x10 x11 x12 r0 t0 t1 z) Q := w_un (fun _ _ => rfl) H
theorem u_X1_writeImage_6 {vl : Nat → Nat} {x1 : Int32} {x2 : Int32} {x3 : Int32} {x4 : Int32} {x5 : Int32} {x6 : Int32} {x7 : Int32} {x8 : Int32} {x9 : Int32} {x10 : Int32} {x11 : Int32} {x12 : Int32} {r0 : Nat} {t0 : Int32} {t1 : Int32} {z : ow_MS} {Q : ow_MS → Prop} (H : Tt (fun K k => cm_X1_writeImage_6 vl K (c_X1_writeImage vl K k) x1 x2 x3 x4 x5 x6 x7 x8 x9 x10 x11 x12 r0 t0 t1 z) Q) : Tt (fun K k => c_X1_writeImage vl K k 6 x1 x2 x3 x4 x5 x6 x7 x8 x9 x10 x11 x12 r0 t0 t1 z) Q := w_un (fun _ _ => rfl) H
theorem u_X1_writeImage_5 {vl : Nat → Nat} {x1 : Int32} {x2 : Int32} {x3 : Int32} {x4 : Int32} {x5 : Int32} {x6 : Int32} {x7 : Int32} {x8 : Int32} {x9 : Int32} {x10 : Int32} {x11 : Int32} {x12 : Int32} {r0 : Nat} {t0 : Int32} {t1 : Int32} {z : ow_MS} {Q : ow_MS → Prop} (H : Tt (fun K k => cm_X1_writeImage_5 vl K (c_X1_writeImage vl K k) x1 x2 x3 x4 x5 x6 x7 x8 x9 x10 x11 x12 r0 t0 t1 z) Q) : Tt (fun K k => c_X1_writeImage vl K k 5 x1 x2 x3 x4 x5 x6 x7 x8 x9 x10 x11 x12 r0 t0 t1 z) Q := w_un (fun _ _ => rfl) H
theorem u_X1_writeImage_4 {vl : Nat → Nat} {x1 : Int32} {x2 : Int32} {x3 : Int32} {x4 : Int32} {x5 : Int32} {x6 : Int32} {x7 : Int32} {x8 : Int32} {x9 : Int32} {x10 : Int32} {x11 : Int32} {x12 : Int32} {r0 : Nat} {t0 : Int32} {t1 : Int32} {z : ow_MS} {Q : ow_MS → Prop} (H : Tt (fun K k => cm_X1_writeImage_4 vl K (c_X1_writeImage vl K k) x1 x2 x3 x4 x5 x6 x7 x8 x9 x10 x11 x12 r0 t0 t1 z) Q) : Tt (fun K k => c_X1_writeImage vl K k 4 x1 x2 x3 x4 x5 x6 x7 x8 x9 x10 x11 x12 r0 t0 t1 z) Q := w_un (fun _ _ => rfl) H
theorem u_X1_writeImage_3 {vl : Nat → Nat} {x1 : Int32} {x2 : Int32} {x3 : Int32} {x4 : Int32} {x5 : Int32} {x6 : Int32} {x7 : Int32} {x8 : Int32} {x9 : Int32} {x10 : Int32} {x11 : Int32} {x12 : Int32} {r0 : Nat} {t0 : Int32} {t1 : Int32} {z : ow_MS} {Q : ow_MS → Prop} (H : Tt (fun K k => cm_X1_writeImage_3 vl K (c_X1_writeImage vl K k) x1 x2 x3 x4 x5 x6 x7 x8 x9 x10 x11 x12 r0 t0 t1 z) Q) : Tt (fun K k => c_X1_writeImage vl K k 3 x1 x2 x3 x4 x5 x6 x7 x8 x9 x10 x11 x12 r0 t0 t1 z) Q := w_un (fun _ _ => rfl) H
theorem u_X1_writeImage_2 {vl : Nat → Nat} {x1 : Int32} {x2 : Int32} {x3 : Int32} {x4 : Int32} {x5 : Int32} {x6 : Int32} {x7 : Int32} {x8 : Int32} {x9 : Int32} {x10 : Int32} {x11 : Int32} {x12 : Int32} {r0 : Nat} {t0 : Int32} {t1 : Int32} {z : ow_MS} {Q : ow_MS → Prop} (H : Tt (fun K k => cm_X1_writeImage_2 vl K (c_X1_writeImage vl K k) x1 x2 x3 x4 x5 x6 x7 x8 x9 x10 x11 x12 r0 t0 t1 z) Q) : Tt (fun K k => c_X1_writeImage vl K k 2 x1 x2 x3 x4 x5 x6 x7 x8 x9 x10 x11 x12 r0 t0 t1 z) Q := w_un (fun _ _ => rfl) H
theorem e_X1_writeImage {vl : Nat → Nat} {r0 : Nat} {x1 : Int32} {x2 : Int32} {z : ow_MS} {Q : ow_MS → Prop} (H : Tt (fun K k => c_X1_writeImage vl K k 0 x1 x2 0 0 0 0 0 0 0 0 0 0 r0 0 0 z) Q) : Te (fun K => ce_X1_writeImage vl K r0 x1 x2 z) Q := w_te H
theorem u_X1_writeImage_0 {vl : Nat → Nat} {x1 : Int32} {x2 : Int32} {x3 : Int32} {x4 : Int32} {x5 : Int32} {x6 : Int32} {x7 : Int32} {x8 : Int32} {x9 : Int32} {x10 : Int32} {x11 : Int32} {x12 : Int32} {r0 : Nat} {t0 : Int32} {t1 : Int32} {z : ow_MS} {Q : ow_MS → Prop} (H : Tt (fun K k => cm_X1_writeImage_0 vl K (c_X1_writeImage vl K k) x1 x2 x3 x4 x5 x6 x7 x8 x9 x10 x11 x12 r0 t0 t1 z) Q) : Tt (fun K k => c_X1_writeImage vl K k 0 x1 x2 x3 x4 x5 x6 x7 x8 x9 x10 x11 x12 r0 t0 t1 z) Q := w_un (fun _ _ => rfl) H
theorem tc_writeImage {s m W p : Nat} {dg : Int} {w : Nat → Bool} (hy : cAt y 44000 (c, ci, S, G)) (hv : vn c S) (hc : c ≤ 8) (hw : gaO c S w) (hL : LpY y S G c Ls ns) (hly : LyY y c ns dg) (htb : tbP y) (hs : s < 2 ^ c) (hm : m < 2 ^ ns s) (hk : kpF (ns s) (pc s) dg = some (pc m)) (hW : vl 43011 = W) (hW2 : W < 2 ^ 31) (hsz : smH (bkF ns dg) (pc s + 1) 0 (2 ^ c) ≤ W) (h10 : y.1 43010 = nI p) (hp1 : 2 ≤ p) (hp2 : p ≤ 997) : Te (fun K => ce_X1_writeImage vl K 43000 (nI s) (nI m) y) (fun y1 => fr (fun g => g = 43011) y y1) := by
  let Q : ow_MS → Prop := fun y1 => fr (fun g => g = 43011) y y1
  have h256 : 2 ^ c ≤ 256 := two_mono (b := 8) hc
  have hns := (hL s hs).2
  have hm10 : m < 1024 := Nat.lt_of_lt_of_le hm (two_mono (b := 10) (by omega))
  have c1 : ∀ (d x : Nat) (z : ow_MS), x + d = c → Q z → Tt (fun K k => c_X1_writeImage vl K k 1 (nI s) (nI m) (nI x) 0 0 0 0 0 0 0 0 0 43000 0 0 z) Q := by
    intro d
    induction d with
    | zero =>
      intro x z hx hz
      have hz4 : cAt z 44000 (c, ci, S, G) := cAt_fr hz (fun g hg h9 => by unfold cP at hg; omega) hy
      refine u_X1_writeImage_1 ?_; unfold cm_X1_writeImage_1
      exact w_rdF hz4.1 (w_leT (by show x < 2 ^ 31; omega) (show c ≤ x by omega) (w_some hz))
    | succ d ih =>
      intro x z hx hz
      have hz4 : cAt z 44000 (c, ci, S, G) := cAt_fr hz (fun g hg h9 => by unfold cP at hg; omega) hy
      have hLz : LpY z S G c Ls ns := LpY_fr hz (by decide) hL
      have c8 : ∀ z1, Q z1 → Tt (fun K k => c_X1_writeImage vl K k 8 (nI s) (nI m) (nI x) 0 0 0 0 0 0 0 0 0 43000 0 0 z1) Q := by
        intro z1 hz1
        refine u_X1_writeImage_8 ?_; unfold cm_X1_writeImage_8
        rw [nI_1]
        exact ih (x + 1) z1 (by omega) hz1
      have hxc : x < c := by omega
      by_cases hb : btN s x = 0
      · have ht : s + 2 ^ x < 2 ^ c := st_lt hs hxc hb
        generalize hte : s + 2 ^ x = t at ht
        have hpt : pc t = pc s + 1 := by rw [← hte]; exact pc_add (by omega) hb
        have l1 := (hv (2 * x) (by omega)).2.1
        obtain ⟨⟨s1, s2, s3, s4, s5⟩, s6⟩ := hLz s hs
        obtain ⟨⟨t1, t2, t3, t4, t5⟩, t6⟩ := hLz t ht
        have hbs : tb s x = false := by
          unfold tb
          unfold btN at hb
          rw [hb]
          rfl
        have eT : uPx S G (tb t) c = uPx S G (seB (tb s) x true) c := by
          rw [← hte]
          exact (uPx_c c (fun k _ => tb_flip hb k)).1
        have kind := st_kind (G := G) hv hw hxc hbs
        rw [← eT] at kind
        have labx := lab_x2 (show 2 * x < 2 * c by omega) l1 s4 t4 kind
        have ab : Ls s (2 * x) ≠ Ls s (S.2 (2 * x)) ∧ ns t + 1 = ns s ∨ Ls s (2 * x) = Ls s (S.2 (2 * x)) ∧ ns t = ns s + 1 := by
          rcases kind with k | k
          · refine Or.inl ⟨fun h9 => k.1 ((s4 _ _ (by omega) l1).mp h9), ?_⟩
            have := k.2.2
            omega
          · refine Or.inr ⟨(s4 _ _ (by omega) l1).mpr ((k.2.1 _ _ (by omega) l1).mpr (Or.inr ⟨Or.inl rfl, Or.inr rfl⟩)), ?_⟩
            have := k.2.2
            omega
        have la := (s1 (2 * x) (by omega)).2
        have lb' := (s1 _ l1).2
        have lc := (t1 (2 * x) (by omega)).2
        have le := (t1 _ l1).2
        -- adding at a set of the right size
        have ad : ∀ (z1 : ow_MS) (m' : Nat) (x3 : Int32), Q z1 → m' < 2 ^ ns t → kpF (ns t) (pc t) dg = some (pc m') → Te (fun K => ce_X1_addTo vl K 43000 (nI t) (nI m') x3 z1) Q := by
          intro z1 m' x3 hz1 hm' hk'
          have hm10' : m' < 1024 := Nat.lt_of_lt_of_le hm' (two_mono (b := 10) (by omega))
          have hix := ix_lt ht t6 hm' hk'
          rw [hpt] at hix
          refine w_monoE (tc_addTo (bg := smH (bkF ns dg) (pc t) 0 t) (W := W) (p := p) (by omega) hm10' (tbP_fr hz1 (by decide) htb) ?_ hW hW2 (by rw [hpt]; omega) ?_ hp1 hp2) (fun r hr => fr_tr hz1 hr)
          · rw [(hz1 43008 (by decide)).2.1]
            exact (hly.1 t ht).2
          · rw [(hz1 43010 (by decide)).1]
            exact h10
        have main : ∀ (kp : Nat) (ga : Nat → Nat) (nm : Int32), (∀ l, l < ns t → ga l < 2 * c ∧ Ls t (ga l) = l) → crF m (Ls t (2 * x)) (Ls t (S.2 (2 * x))) (ns t) (fun l => Ls s (ga l)) kp → Tt (fun K k => c_X1_writeImage vl K k 2 (nI s) (nI m) (nI x) (nI t) (nI (Ls s (2 * x))) (nI (Ls s (S.2 (2 * x)))) (nI (Ls t (2 * x))) (nI (Ls t (S.2 (2 * x)))) (nI kp) 0 0 0 43000 nm 0 z) Q := by
          intro kp ga nm hga hkp
          obtain ⟨k1, k2, k3, k4⟩ := hkp
          have hsum := crr_sum (n := ns s) (n' := ns t) (ga := ga) m (show 2 * x < 2 * c by omega) l1 (fun g hg => (s1 g hg).2) (fun g hg => (t1 g hg).2) (fun l hl => by
            obtain ⟨g, g1, -, g3⟩ := s3 l hl
            exact ⟨g, g1, g3⟩) hga labx
          rw [← k2, ← pc_sbt (by omega) hm] at hsum
          have ba : btN m (Ls s (2 * x)) = 0 ∨ btN m (Ls s (2 * x)) = 1 := by unfold btN; omega
          have bb : btN m (Ls s (S.2 (2 * x))) = 0 ∨ btN m (Ls s (S.2 (2 * x))) = 1 := by unfold btN; omega
          have or1 : ∀ l, l < ns t → btN kp l = 0 → nI kp ||| ((1 : Int32) <<< (nI l &&& 31)) = nI (kp + 2 ^ l) := by
            intro l hl hbl
            have h9 : 2 ^ l ≤ 2 ^ 9 := two_mono (by omega)
            have h9' : kp < 2 ^ 9 := Nat.lt_of_lt_of_le k1 (two_mono t6)
            rw [shl1 (by omega), ow_or (by omega) (by omega), or_add hbl]
          have add1 : ∀ l, l < ns t → btN kp l = 0 → kp + 2 ^ l < 2 ^ ns t ∧ pc (kp + 2 ^ l) = pc kp + 1 := fun l hl hbl => ⟨add_lt k1 hl hbl, pc_add (by omega) hbl⟩
          have c7 : ∀ (m' : Nat) (x5 x6 x7 x8 x9 x10 x11 x12 : Int32), m' < 2 ^ ns t → kpF (ns t) (pc t) dg = some (pc m') → Tt (fun K k => c_X1_writeImage vl K k 7 (nI s) (nI m) (nI x) (nI t) x5 x6 x7 x8 x9 x10 x11 x12 43000 (nI m') (nI t) z) Q := by
            intro m' x5 x6 x7 x8 x9 x10 x11 x12 hm' hk'
            refine u_X1_writeImage_7 ?_; unfold cm_X1_writeImage_7
            exact w_cs0 (ad z m' x10 hz hm' hk') (fun z1 h1 => c8 z1 h1)
          -- both bits known
          have c4 : ∀ (fa fb : Nat), fa = btN m (Ls s (2 * x)) → fb = btN m (Ls s (S.2 (2 * x))) → Tt (fun K k => c_X1_writeImage vl K k 4 (nI s) (nI m) (nI x) (nI t) (nI (Ls s (2 * x))) (nI (Ls s (S.2 (2 * x)))) (nI (Ls t (2 * x))) (nI (Ls t (S.2 (2 * x)))) (nI kp) nm (nI fa) 0 43000 (nI fb) 0 z) Q := by
            intro fa fb hfa hfb
            have fa01 : fa = 0 ∨ fa = 1 := by omega
            have fb01 : fb = 0 ∨ fb = 1 := by omega
            rcases ab with ⟨hne, hn1⟩ | ⟨heq, hn1⟩
            · -- two loops become one
              rw [if_neg hne, ← hfa, ← hfb] at hsum
              rw [← hn1] at hk
              have c5 : 1 ≤ fa + fb → Tt (fun K k => c_X1_writeImage vl K k 5 (nI s) (nI m) (nI x) (nI t) (nI (Ls s (2 * x))) (nI (Ls s (S.2 (2 * x)))) (nI (Ls t (2 * x))) (nI (Ls t (S.2 (2 * x)))) (nI kp) nm (nI fa) (nI fb) 43000 0 0 z) Q := by
                intro hab
                have hkt : kpF (ns t) (pc t) dg = some (pc m - 1) := by
                  rw [hpt]
                  refine kpF_m ?_
                  rw [hk]
                  exact congrArg some (by omega)
                have c6 : fa + fb = 1 → Tt (fun K k => c_X1_writeImage vl K k 6 (nI s) (nI m) (nI x) (nI t) (nI (Ls s (2 * x))) (nI (Ls s (S.2 (2 * x)))) (nI (Ls t (2 * x))) (nI (Ls t (S.2 (2 * x)))) (nI kp) nm (nI fa) (nI fb) 43000 (nI t) 0 z) Q := by
                  intro h1
                  refine u_X1_writeImage_6 ?_; unfold cm_X1_writeImage_6
                  exact c7 kp _ _ _ _ _ _ _ _ k1 (by rw [hkt]; exact congrArg some (by omega))
                refine u_X1_writeImage_5 ?_; unfold cm_X1_writeImage_5
                rcases fa01 with h9 | h9
                · exact w_ifT (by rw [h9]; rfl) (c6 (by omega))
                · refine w_ifF (by rw [h9]; decide) ?_
                  rcases fb01 with h8 | h8
                  · exact w_ifT (by rw [h8]; rfl) (c6 (by omega))
                  · refine w_ifF (by rw [h8]; decide) ?_
                    rw [or1 _ lc k3]
                    obtain ⟨d1, d2⟩ := add1 _ lc k3
                    exact c7 _ _ _ _ _ _ _ _ _ d1 (by rw [hkt, d2]; exact congrArg some (by omega))
              refine u_X1_writeImage_4 ?_; unfold cm_X1_writeImage_4
              refine w_ifF (fun h9 => hne (nI_inj9 (by omega) (by omega) h9)) ?_
              rcases fa01 with h9 | h9
              · refine w_ifT (by rw [h9]; rfl) ?_
                rcases fb01 with h8 | h8
                · exact w_ifT (by rw [h8]; rfl) (c8 z hz)
                · exact w_ifF (by rw [h8]; decide) (c5 (by omega))
              · exact w_ifF (by rw [h9]; decide) (c5 (by omega))
            · -- one loop becomes two
              rw [if_pos heq, ← hfa] at hsum
              have hkt : kpF (ns t) (pc t) dg = some (pc m) := by
                rw [hpt, hn1]
                exact kpF_s hk
              refine u_X1_writeImage_4 ?_; unfold cm_X1_writeImage_4
              refine w_ifT (by rw [heq]) ?_
              rcases fa01 with h9 | h9
              · exact w_ifT (by rw [h9]; rfl) (w_cs0 (ad z kp nm hz k1 (by rw [hkt]; exact congrArg some (by omega))) (fun z1 h1 => c8 z1 h1))
              · refine w_ifF (by rw [h9]; decide) ?_
                rw [or1 _ lc k3, or1 _ le k4]
                obtain ⟨d1, d2⟩ := add1 _ lc k3
                obtain ⟨d3, d4⟩ := add1 _ le k4
                exact w_cs0 (ad z _ nm hz d1 (by rw [hkt, d2]; exact congrArg some (by omega))) (fun z1 h1 => w_cs0 (ad z1 _ nm h1 d3 (by rw [hkt, d4]; exact congrArg some (by omega))) (fun z2 h2 => c8 z2 h2))
          have c3 : ∀ fa : Nat, fa = btN m (Ls s (2 * x)) → Tt (fun K k => c_X1_writeImage vl K k 3 (nI s) (nI m) (nI x) (nI t) (nI (Ls s (2 * x))) (nI (Ls s (S.2 (2 * x)))) (nI (Ls t (2 * x))) (nI (Ls t (S.2 (2 * x)))) (nI kp) nm 0 0 43000 (nI fa) 0 z) Q := by
            intro fa hfa
            refine u_X1_writeImage_3 ?_; unfold cm_X1_writeImage_3
            rw [crS hm10 (by omega)]
            rcases bb with h9 | h9
            · exact w_ifT (by rw [h9]; rfl) (c4 fa 0 hfa h9.symm)
            · exact w_ifF (by rw [h9]; decide) (c4 fa 1 hfa h9.symm)
          refine u_X1_writeImage_2 ?_; unfold cm_X1_writeImage_2
          rw [crS hm10 (by omega)]
          rcases ba with h9 | h9
          · exact w_ifT (by rw [h9]; rfl) (c3 0 h9.symm)
          · exact w_ifF (by rw [h9]; decide) (c3 1 h9.symm)
        have eor : nI s ||| ((1 : Int32) <<< (nI x &&& 31)) = nI t := by
          rw [← hte]
          exact st_or (by omega) (by omega) hb
        refine u_X1_writeImage_1 ?_; unfold cm_X1_writeImage_1
        rw [bit_nI (by omega) (by omega), hb, eor, rn_mul2, i16, i16]
        refine w_rdF hz4.1 (w_leF (show c < 2 ^ 31 by omega) (show x < c by omega) (w_ifT rfl (w_crI ch_43002 rfl (by omega) (s1 (2 * x) (by omega)).1 (w_cs1 (tc_otherLoop hz4 hv hc hLz hs hxc) ?_))))
        rintro v1 z1 e1
        cases e1
        refine w_crI ch_43002 rfl (by omega) (t1 (2 * x) (by omega)).1 (w_cs1 (tc_otherLoop hz4 hv hc hLz ht hxc) ?_)
        rintro v2 z2 e2
        cases e2
        refine w_cs1 (tc_carry hc hLz hs ht hm10 (show Ls t (2 * x) < 10 by omega) (show Ls t (S.2 (2 * x)) < 10 by omega)) ?_
        rintro v3 z3 ⟨e3, kp, ga, q1, q2, q3⟩
        dsimp only at e3 q2
        rw [e3, q2]
        exact w_if (fun _ => main kp ga _ q1 q3) (fun _ => w_rdF rfl (main kp ga _ q1 q3))
      · have hb1 : btN s x = 1 := by unfold btN at hb ⊢; omega
        refine u_X1_writeImage_1 ?_; unfold cm_X1_writeImage_1
        rw [bit_nI (by omega) (by omega), hb1]
        exact w_rdF hz4.1 (w_leF (show c < 2 ^ 31 by omega) (show x < c by omega) (w_ifF (by decide) (c8 z hz)))
  refine e_X1_writeImage ?_
  refine u_X1_writeImage_0 ?_; unfold cm_X1_writeImage_0
  exact c1 c 0 y (by omega) fr_rf
end IM2
