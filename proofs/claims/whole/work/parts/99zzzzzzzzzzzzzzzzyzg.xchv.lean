-- CHAIN: the class's work row holds D of the generator (made by tools/mkchv.py out of cimg, cimg2)
def wk9 (z : ow_MS) (p w : Nat) (v : vc9) : Prop := ∀ j, j < w → ∃ a, z.2.1 43011 j = nI a ∧ a < p ∧ (p : Int) ∣ (a : Int) - v j
def crB (m a b l : Nat) (φ : Nat → Nat) (k : Nat) : Prop := k < 2 ^ l ∧ ∀ j, btN k j = if j < l ∧ j ≠ a ∧ j ≠ b then btN m (φ j) else 0
theorem crB_s {m a b l k : Nat} {φ : Nat → Nat} (h : crB m a b l φ k) : (l ≠ a → l ≠ b → crB m a b (l + 1) φ (k + btN m (φ l) * 2 ^ l)) ∧ ((l = a ∨ l = b) → crB m a b (l + 1) φ k) := by
  obtain ⟨h1, h2⟩ := h
  have pw : (2 : Nat) ^ (l + 1) = 2 ^ l + 2 ^ l := by
    rw [Nat.pow_succ]
    omega
  have old : ∀ j, j ≠ l → (if j < l ∧ j ≠ a ∧ j ≠ b then btN m (φ j) else 0) = (if j < l + 1 ∧ j ≠ a ∧ j ≠ b then btN m (φ j) else 0) := fun j hj => by
    by_cases c : j < l ∧ j ≠ a ∧ j ≠ b
    · rw [if_pos c, if_pos ⟨by omega, c.2⟩]
    · rw [if_neg c, if_neg (fun h9 => c ⟨by omega, h9.2⟩)]
  constructor
  · intro ha hb
    rcases bt_01 m (φ l) with e | e
    · rw [e, Nat.zero_mul]
      show crB m a b (l + 1) φ k
      refine ⟨by omega, fun j => ?_⟩
      by_cases c : j = l
      · rw [c, if_pos ⟨by omega, ha, hb⟩, e]
        exact bt_lt h1 (Nat.le_refl l)
      · rw [h2 j, old j c]
    · rw [e, Nat.one_mul]
      refine ⟨by omega, fun j => ?_⟩
      rw [bt_add h1]
      by_cases c : j = l
      · rw [if_pos c, c, if_pos ⟨by omega, ha, hb⟩, e]
      · rw [if_neg c, h2 j, old j c]
  · intro hab
    refine ⟨by omega, fun j => ?_⟩
    by_cases c : j = l
    · rw [c, if_neg (fun h9 => hab.elim h9.2.1 h9.2.2)]
      exact bt_lt h1 (Nat.le_refl l)
    · rw [h2 j, old j c]
theorem nb_k : ∀ s : Fin 256, ∀ x : Fin 8, (((ow_bc (nI s.val &&& (((1 : Int32) <<< (nI x.val &&& 31)) - 1))) &&& 1 = 0) ↔ par9 (tb s.val) x.val = 1) ∧ (par9 (tb s.val) x.val = 1 ∨ par9 (tb s.val) x.val = -1) := by decide +kernel
section XCJ2
variable {vl : Nat → Nat} {y : ow_MS} {S : ow_NP} {G : Nat → Int32} {c ci : Nat} {Ls : Nat → Nat → Nat} {ns : Nat → Nat}
theorem wk_cg {z : ow_MS} {p w : Nat} {v v' : vc9} (h : wk9 z p w v) (e : zq9 p w v v') : wk9 z p w v' := fun j hj => by
  obtain ⟨a, a1, a2, a3⟩ := h j hj
  refine ⟨a, a1, a2, ?_⟩
  have := Int.dvd_add a3 (e j hj)
  rw [show (a : Int) - v j + (v j - v' j) = a - v' j by omega] at this
  exact this
theorem wk_fr {P : Nat → Prop} {z z1 : ow_MS} {p w : Nat} {v : vc9} (hf : fr P z z1) (hP : ¬ P 43011) (h : wk9 z p w v) : wk9 z1 p w v := fun j hj => by
  rw [(hf 43011 hP).2.1]
  exact h j hj
theorem te_carry {s t m a b : Nat} (hc : c ≤ 8) (hL : LpY y S G c Ls ns) (hs : s < 2 ^ c) (ht : t < 2 ^ c) (hm : m < 1024) (ha : a < 10) (hb : b < 10) : Te (fun K => ce_X1_carry vl K 43000 (nI s) (nI m) (nI t) (nI a) (nI b) y) (fun r => r.2 = y ∧ ∃ (k : Nat) (ga : Nat → Nat), (∀ l, l < ns t → ga l < 2 * c ∧ Ls t (ga l) = l) ∧ r.1 = nI k ∧ crB m a b (ns t) (fun l => Ls s (ga l)) k) := by
  obtain ⟨⟨h1, h2, h3, h4, h5⟩, h6⟩ := hL s hs
  obtain ⟨⟨t1, t2, t3, t4, t5⟩, t6⟩ := hL t ht
  have h256 : 2 ^ c ≤ 256 := two_mono (b := 8) hc
  obtain ⟨ga, hga⟩ : ∃ ga : Nat → Nat, ∀ l, l < ns t → ga l < 2 * c ∧ y.2.1 43004 (10 * t + l) = nI (ga l) ∧ Ls t (ga l) = l := by
    refine ⟨fun l => if h : l < ns t then Classical.choose (t3 l h) else 0, fun l hl => ?_⟩
    dsimp only
    rw [dif_pos hl]
    exact Classical.choose_spec (t3 l hl)
  let Q : Int32 × ow_MS → Prop := fun r => r.2 = y ∧ ∃ (k : Nat) (ga : Nat → Nat), (∀ l, l < ns t → ga l < 2 * c ∧ Ls t (ga l) = l) ∧ r.1 = nI k ∧ crB m a b (ns t) (fun l => Ls s (ga l)) k
  have c1 : ∀ (d l k : Nat), l + d = ns t → crB m a b l (fun l => Ls s (ga l)) k → Tt (fun K i => c_X1_carry vl K i 1 (nI s) (nI m) (nI t) (nI a) (nI b) (nI k) (nI l) 43000 y) Q := by
    intro d
    induction d with
    | zero =>
      intro l k hl hk
      have hl : l = ns t := by omega
      subst hl
      refine u_X1_carry_1 ?_; unfold cm_X1_carry_1
      exact w_crI ch_43003 rfl (by omega) t2 (w_leT (by omega) (by omega) (w_some ⟨rfl, k, ga, fun l hl => ⟨(hga l hl).1, (hga l hl).2.2⟩, rfl, hk⟩))
    | succ d ih =>
      intro l k hl hk
      obtain ⟨g1, g2, g3⟩ := hga l (by omega)
      obtain ⟨o1, o2⟩ := h1 _ g1
      have c2 : ∀ k', crB m a b (l + 1) (fun l => Ls s (ga l)) k' → Tt (fun K i => c_X1_carry vl K i 2 (nI s) (nI m) (nI t) (nI a) (nI b) (nI k') (nI l) 43000 y) Q := by
        intro k' hk'
        refine u_X1_carry_2 ?_; unfold cm_X1_carry_2
        rw [nI_1]
        exact ih (l + 1) k' (by omega) hk'
      obtain ⟨f1, f2⟩ := crB_s hk
      refine u_X1_carry_1 ?_; unfold cm_X1_carry_1
      refine w_crI ch_43003 rfl (by omega) t2 (w_leF (by omega) (by omega) (w_eqN (by omega) (by omega) (fun e => c2 k (f2 (Or.inl e))) (fun e1 => w_eqN (by omega) (by omega) (fun e => c2 k (f2 (Or.inr e))) (fun e2 => ?_))))
      rw [i10]
      refine w_crI ch_43004 rfl (by omega) g2 ?_
      rw [i16]
      refine w_crI ch_43002 rfl (by omega) o1 ?_
      rw [crS hm (by omega), crO hk.1 (by omega) (by unfold btN; omega)]
      exact c2 _ (f1 e1 e2)
  refine e_X1_carry ?_
  refine u_X1_carry_0 ?_; unfold cm_X1_carry_0
  refine c1 (ns t) 0 0 (by omega) ⟨by decide, fun j => ?_⟩
  rw [if_neg (fun h9 => Nat.not_lt_zero _ h9.1)]
  unfold btN
  rw [Nat.zero_div]
theorem te_addTo {t m bg W w p nb : Nat} {v : vc9} (ht : t < 256) (hm : m < 1024) (hp : tbP y) (hbg : y.2.1 43008 t = nI bg) (hW : vl 43011 = W) (hW2 : W < 2 ^ 31) (hwW : w ≤ W) (hix : bg + cpN (pc m) m < w) (h10 : y.1 43010 = nI p) (hp1 : 2 ≤ p) (hp2 : p ≤ 997) (hnb : nb < p) (hk : wk9 y p w v) : Te (fun K => ce_X1_addTo vl K 43000 (nI t) (nI m) (nI nb) y) (fun y1 => fr (fun g => g = 43011) y y1 ∧ wk9 y1 p w (fun j => v j + if j = bg + cpN (pc m) m then (nb : Int) else 0)) := by
  have hnz : nI p ≠ 0 := fun h9 => by
    have := (nI_eq (a := p) (b := 0) (by omega) (by omega)).mp h9
    omega
  obtain ⟨a, a1, a2, a3⟩ := hk _ hix
  refine e_X1_addTo ?_; unfold cm_X1_addTo_0
  refine w_crI ch_43008 rfl ht hbg (w_crI ch_43005 rfl hm (hp m hm) ?_)
  rw [nI_add]
  refine w_crI (ch_43011.trans hW) rfl (by omega) a1 (w_rdF h10 (w_nzI hnz ?_))
  rw [nI_add, pk_rem (show a + nb < 2 ^ 31 by omega) (by omega) (by omega)]
  refine w_ctI (ch_43011.trans hW) rfl (by omega) (w_some ⟨fr_I rfl, fun j hj => ?_⟩)
  by_cases e : j = bg + cpN (pc m) m
  · refine ⟨(a + nb) % p, ?_, Nat.mod_lt _ (by omega), ?_⟩
    · rw [e]
      exact po_usI_at
    · dsimp only
      rw [if_pos e]
      have h1 : (p : Int) ∣ (((a + nb) % p : Nat) : Int) - ((a + nb : Nat) : Int) := dv_md (Nat.mod_mod _ _)
      rw [e]
      have := Int.dvd_add h1 a3
      rw [show (((a + nb) % p : Nat) : Int) - ((a + nb : Nat) : Int) + ((a : Int) - v (bg + cpN (pc m) m)) = (((a + nb) % p : Nat) : Int) - (v (bg + cpN (pc m) m) + (nb : Int)) by omega] at this
      exact this
  · obtain ⟨a', b1, b2, b3⟩ := hk j hj
    refine ⟨a', ?_, b2, ?_⟩
    · exact (po_usI_ne e).trans b1
    · dsimp only
      rw [if_neg e, Int.add_zero]
      exact b3
end XCJ2
section XCJ3
variable {vl : Nat → Nat} {y : ow_MS} {S : ow_NP} {G : Nat → Int32} {c ci : Nat} {Ls : Nat → Nat → Nat} {ns : Nat → Nat}
theorem te_writeImage {s m W p : Nat} {dg : Int} {w : Nat → Bool} (hy : cAt y 44000 (c, ci, S, G)) (hv : vn c S) (hc : c ≤ 8) (hw : gaO c S w) (hL : LpY y S G c Ls ns) (hly : LyY y c ns dg) (htb : tbP y) (hs : s < 2 ^ c) (hm : m < 2 ^ ns s) (hk : kpF (ns s) (pc s) dg = some (pc m)) (hW : vl 43011 = W) (hW2 : W < 2 ^ 31) (hsz : smH (bkF ns dg) (pc s + 1) 0 (2 ^ c) ≤ W) (h10 : y.1 43010 = nI p) (hp1 : 2 ≤ p) (hp2 : p ≤ 997) {rel : (Nat → Bool) → Nat → Nat → Prop} (hC : cu9 c 2000 (fun g => g < 2 * c) (fun x => 2 * x) (fun x => S.2 (2 * x)) (fun x => S.2 (2 * x)) rel) (hLT : LT9 c (fun g => g < 2 * c) rel Ls ns) (hw0 : wk9 y p (sz9 c ns dg (pc s + 1)) (fun _ => 0)) : Te (fun K => ce_X1_writeImage vl K 43000 (nI s) (nI m) y) (fun y1 => fr (fun g => g = 43011) y y1 ∧ wk9 y1 p (sz9 c ns dg (pc s + 1)) (row9 (fun g => g < 2 * c) Ls ns (fun x => 2 * x) (fun x => S.2 (2 * x)) dg s m c)) := by
  let Qx : Nat → ow_MS → Prop := fun n y1 => fr (fun g => g = 43011) y y1 ∧ wk9 y1 p (sz9 c ns dg (pc s + 1)) (row9 (fun g => g < 2 * c) Ls ns (fun x => 2 * x) (fun x => S.2 (2 * x)) dg s m n)
  let Q : ow_MS → Prop := Qx c
  have h256 : 2 ^ c ≤ 256 := two_mono (b := 8) hc
  have hns := (hL s hs).2
  have hm10 : m < 1024 := Nat.lt_of_lt_of_le hm (two_mono (b := 10) (by omega))
  have c1 : ∀ (d x : Nat) (z : ow_MS), x + d = c → Qx x z → Tt (fun K k => c_X1_writeImage vl K k 1 (nI s) (nI m) (nI x) 0 0 0 0 0 0 0 0 0 43000 0 0 z) Q := by
    intro d
    induction d with
    | zero =>
      intro x z hx hz
      have hz4 : cAt z 44000 (c, ci, S, G) := cAt_fr hz.1 (fun g hg h9 => by unfold cP at hg; omega) hy
      refine u_X1_writeImage_1 ?_; unfold cm_X1_writeImage_1
      exact w_rdF hz4.1 (w_leT (by show x < 2 ^ 31; omega) (show c ≤ x by omega) (w_some (by rw [show x = c by omega] at hz; exact hz)))
    | succ d ih =>
      intro x z hx hz
      have hz4 : cAt z 44000 (c, ci, S, G) := cAt_fr hz.1 (fun g hg h9 => by unfold cP at hg; omega) hy
      have hLz : LpY z S G c Ls ns := LpY_fr hz.1 (by decide) hL
      have c8 : ∀ z1, Qx (x + 1) z1 → Tt (fun K k => c_X1_writeImage vl K k 8 (nI s) (nI m) (nI x) 0 0 0 0 0 0 0 0 0 43000 0 0 z1) Q := by
        intro z1 hz1
        refine u_X1_writeImage_8 ?_; unfold cm_X1_writeImage_8
        rw [nI_1]
        exact ih (x + 1) z1 (by omega) hz1
      have hxc : x < c := by omega
      by_cases hb : btN s x = 0
      · have ht : s + 2 ^ x < 2 ^ c := st_lt hs hxc hb
        generalize hte : s + 2 ^ x = t at ht
        have hpt : pc t = pc s + 1 := by rw [← hte]; exact pc_add (by omega) hb
        have l1 := (hv (2 * x) (by omega)).2.1
        obtain ⟨⟨s1, s2, s3, s4, s5⟩, s6⟩ := hLz s hs
        obtain ⟨⟨t1, t2, t3, t4, t5⟩, t6⟩ := hLz t ht
        have hbs : tb s x = false := by
          unfold tb
          unfold btN at hb
          rw [hb]
          rfl
        have eT : uPx S G (tb t) c = uPx S G (seB (tb s) x true) c := by
          rw [← hte]
          exact (uPx_c c (fun k _ => tb_flip hb k)).1
        have kind := st_kind (G := G) hv hw hxc hbs
        rw [← eT] at kind
        have ab : Ls s (2 * x) ≠ Ls s (S.2 (2 * x)) ∧ ns t + 1 = ns s ∨ Ls s (2 * x) = Ls s (S.2 (2 * x)) ∧ ns t = ns s + 1 := by
          rcases kind with k | k
          · refine Or.inl ⟨fun h9 => k.1 ((s4 _ _ (by omega) l1).mp h9), ?_⟩
            have := k.2.2
            omega
          · refine Or.inr ⟨(s4 _ _ (by omega) l1).mpr ((k.2.1 _ _ (by omega) l1).mpr (Or.inr ⟨Or.inl rfl, Or.inr rfl⟩)), ?_⟩
            have := k.2.2
            omega
        have la := (s1 (2 * x) (by omega)).2
        have lb' := (s1 _ l1).2
        have lc := (t1 (2 * x) (by omega)).2
        have le := (t1 _ l1).2
        -- adding at a set of the right size
        have hxn : ∀ j, row9 (fun g => g < 2 * c) Ls ns (fun x => 2 * x) (fun x => S.2 (2 * x)) dg s m (x + 1) j = row9 (fun g => g < 2 * c) Ls ns (fun x => 2 * x) (fun x => S.2 (2 * x)) dg s m x j + rwX (fun g => g < 2 * c) Ls ns (fun x => 2 * x) (fun x => S.2 (2 * x)) dg s m x j := fun _ => rfl
        have hrw : ∀ j, rwX (fun g => g < 2 * c) Ls ns (fun x => 2 * x) (fun x => S.2 (2 * x)) dg s m x j = par9 (tb s) x * cnI (ix9 ns dg t) j (di9 (fun g => g < 2 * c) Ls ns (fun x => 2 * x) (fun x => S.2 (2 * x)) s m x) := fun j => by
          unfold rwX
          rw [if_neg (by omega), hte]
        have ad : ∀ (z1 : ow_MS) (m' nb : Nat) (v : vc9), fr (fun g => g = 43011) y z1 → wk9 z1 p (sz9 c ns dg (pc s + 1)) v → m' < 2 ^ ns t → kpF (ns t) (pc t) dg = some (pc m') → nb < p → Te (fun K => ce_X1_addTo vl K 43000 (nI t) (nI m') (nI nb) z1) (fun z2 => fr (fun g => g = 43011) y z2 ∧ wk9 z2 p (sz9 c ns dg (pc s + 1)) (fun j => v j + if j = ix9 ns dg t m' then (nb : Int) else 0)) := by
          intro z1 m' nb v hz1 hk1 hm' hk' hnb
          have hm10' : m' < 1024 := Nat.lt_of_lt_of_le hm' (two_mono (b := 10) (by omega))
          have hix := ix_lt ht t6 hm' hk'
          rw [hpt] at hix
          have hsz2 : sz9 c ns dg (pc s + 1) ≤ W := hsz
          refine w_monoE (te_addTo (bg := smH (bkF ns dg) (pc t) 0 t) (W := W) (w := sz9 c ns dg (pc s + 1)) (p := p) (by omega) hm10' (tbP_fr hz1 (by decide) htb) ?_ hW hW2 hsz2 (by rw [hpt]; exact hix) ?_ hp1 hp2 hnb hk1) (fun r hr => ⟨fr_tr hz1 hr.1, hr.2⟩)
          · rw [(hz1 43008 (by decide)).2.1]
            exact (hly.1 t ht).2
          · rw [(hz1 43010 (by decide)).1]
            exact h10
        have main : ∀ (kp : Nat) (ga : Nat → Nat) (nb : Nat), nb < p → (p : Int) ∣ (nb : Int) - par9 (tb s) x → (∀ l, l < ns t → ga l < 2 * c ∧ Ls t (ga l) = l) → crB m (Ls t (2 * x)) (Ls t (S.2 (2 * x))) (ns t) (fun l => Ls s (ga l)) kp → Tt (fun K k => c_X1_writeImage vl K k 2 (nI s) (nI m) (nI x) (nI t) (nI (Ls s (2 * x))) (nI (Ls s (S.2 (2 * x)))) (nI (Ls t (2 * x))) (nI (Ls t (S.2 (2 * x)))) (nI kp) 0 0 0 43000 (nI nb) 0 z) Q := by
          intro kp ga nb hnb hpar hga hkp
          -- the number of the loops that stay
          have eK : kp = K9 (fun g => g < 2 * c) Ls ns (fun x => 2 * x) (fun x => S.2 (2 * x)) s m x := by
            have sp := (K_sp (G := fun g => g < 2 * c) (Ls := Ls) (ns := ns) (P1 := fun x => 2 * x) (P2 := fun x => S.2 (2 * x)) (s := s) (m := m) (x := x)).1
            rw [hte] at sp
            refine tb_in (ns t) hkp.1 sp (fun l hl => ?_)
            obtain ⟨g1, g2⟩ := hga l hl
            have kb := K_bt (m := m) hC hLT hs hxc hb (g := ga l) g1
            rw [hte, g2] at kb
            have h2 := hkp.2 l
            rw [tb_b, tb_b]
            by_cases q : l = Ls t (2 * x) ∨ l = Ls t (S.2 (2 * x))
            · rw [kb.1 q, h2, if_neg (fun h9 => q.elim h9.2.1 h9.2.2)]
            · rw [kb.2 q, h2, if_pos ⟨hl, fun h9 => q (Or.inl h9), fun h9 => q (Or.inr h9)⟩]
          have k1 := hkp.1
          have k3 : btN kp (Ls t (2 * x)) = 0 := (hkp.2 _).trans (if_neg (fun h9 => h9.2.1 rfl))
          have k4 : btN kp (Ls t (S.2 (2 * x))) = 0 := (hkp.2 _).trans (if_neg (fun h9 => h9.2.2 rfl))
          have vd : ∀ m', m' ∈ di9 (fun g => g < 2 * c) Ls ns (fun x => 2 * x) (fun x => S.2 (2 * x)) s m x → m' < 2 ^ ns t ∧ kpF (ns t) (pc t) dg = some (pc m') := fun m' hm' => by
            have := va_di hC hLT (by omega) (show va9 c ns dg (pc s) s m from ⟨hs, rfl, hm, hk⟩) hxc hb hm'
            rw [hte] at this
            exact ⟨this.2.2.1, this.2.2.2⟩
          have di : di9 (fun g => g < 2 * c) Ls ns (fun x => 2 * x) (fun x => S.2 (2 * x)) s m x = if Ls s (2 * x) = Ls s (S.2 (2 * x)) then (if btN m (Ls s (2 * x)) = 0 then [kp] else [kp + 2 ^ Ls t (S.2 (2 * x)), kp + 2 ^ Ls t (2 * x)]) else (if btN m (Ls s (2 * x)) = 0 ∧ btN m (Ls s (S.2 (2 * x))) = 0 then [] else if btN m (Ls s (2 * x)) = 0 ∨ btN m (Ls s (S.2 (2 * x))) = 0 then [kp] else [kp + 2 ^ Ls t (2 * x)]) := by
            unfold di9
            rw [← eK, hte]
          have one : ∀ (z2 : ow_MS) (m1 : Nat), di9 (fun g => g < 2 * c) Ls ns (fun x => 2 * x) (fun x => S.2 (2 * x)) s m x = [m1] → fr (fun g => g = 43011) y z2 → wk9 z2 p (sz9 c ns dg (pc s + 1)) (fun j => row9 (fun g => g < 2 * c) Ls ns (fun x => 2 * x) (fun x => S.2 (2 * x)) dg s m x j + if j = ix9 ns dg t m1 then (nb : Int) else 0) → Qx (x + 1) z2 := fun z2 m1 e h1 h2 => ⟨h1, wk_cg h2 (fun j _ => by
            rw [hxn j, hrw j, e]
            show (p : Int) ∣ _ - (_ + par9 (tb s) x * ((if ix9 ns dg t m1 = j then 1 else 0) + 0))
            by_cases q : j = ix9 ns dg t m1
            · rw [if_pos q, if_pos q.symm]
              have e9 : ∀ a b : Int, a + (nb : Int) - (a + b * (1 + 0)) = nb - b := fun a b => by omega
              rw [e9]
              exact hpar
            · rw [if_neg q, if_neg (fun h9 => q h9.symm)]
              have e9 : ∀ a b : Int, a + 0 - (a + b * (0 + 0)) = 0 := fun a b => by omega
              rw [e9]
              exact Int.dvd_zero _)⟩
          have two : ∀ (z2 : ow_MS) (m1 m2 : Nat), di9 (fun g => g < 2 * c) Ls ns (fun x => 2 * x) (fun x => S.2 (2 * x)) s m x = [m2, m1] → fr (fun g => g = 43011) y z2 → wk9 z2 p (sz9 c ns dg (pc s + 1)) (fun j => (row9 (fun g => g < 2 * c) Ls ns (fun x => 2 * x) (fun x => S.2 (2 * x)) dg s m x j + if j = ix9 ns dg t m1 then (nb : Int) else 0) + if j = ix9 ns dg t m2 then (nb : Int) else 0) → Qx (x + 1) z2 := fun z2 m1 m2 e h1 h2 => ⟨h1, wk_cg h2 (fun j _ => by
            rw [hxn j, hrw j, e]
            show (p : Int) ∣ _ - (_ + par9 (tb s) x * ((if ix9 ns dg t m2 = j then 1 else 0) + ((if ix9 ns dg t m1 = j then 1 else 0) + 0)))
            have sy : ∀ a : Nat, (if a = j then (1 : Int) else 0) = if j = a then 1 else 0 := fun a => by
              by_cases q : j = a
              · rw [if_pos q, if_pos q.symm]
              · rw [if_neg q, if_neg (fun h9 => q h9.symm)]
            rw [sy, sy]
            generalize row9 (fun g => g < 2 * c) Ls ns (fun x => 2 * x) (fun x => S.2 (2 * x)) dg s m x j = R9
            generalize par9 (tb s) x = P9 at hpar ⊢
            by_cases q1 : j = ix9 ns dg t m1
            · rw [if_pos q1, if_pos q1]
              by_cases q2 : j = ix9 ns dg t m2
              · rw [if_pos q2, if_pos q2, show R9 + (nb : Int) + nb - (R9 + P9 * (1 + (1 + 0))) = 2 * ((nb : Int) - P9) by omega]
                exact dvr9 2 hpar
              · rw [if_neg q2, if_neg q2, show R9 + (nb : Int) + 0 - (R9 + P9 * (0 + (1 + 0))) = (nb : Int) - P9 by omega]
                exact hpar
            · rw [if_neg q1, if_neg q1]
              by_cases q2 : j = ix9 ns dg t m2
              · rw [if_pos q2, if_pos q2, show R9 + 0 + (nb : Int) - (R9 + P9 * (1 + (0 + 0))) = (nb : Int) - P9 by omega]
                exact hpar
              · rw [if_neg q2, if_neg q2, show R9 + 0 + (0 : Int) - (R9 + P9 * (0 + (0 + 0))) = 0 by omega]
                exact Int.dvd_zero _)⟩
          have non : di9 (fun g => g < 2 * c) Ls ns (fun x => 2 * x) (fun x => S.2 (2 * x)) s m x = [] → Qx (x + 1) z := fun e => ⟨hz.1, wk_cg hz.2 (fun j _ => by
            rw [hxn j, hrw j, e]
            show (p : Int) ∣ _ - (_ + par9 (tb s) x * 0)
            rw [Int.mul_zero, Int.add_zero, Int.sub_self]
            exact Int.dvd_zero _)⟩
          have ba : btN m (Ls s (2 * x)) = 0 ∨ btN m (Ls s (2 * x)) = 1 := by unfold btN; omega
          have bb : btN m (Ls s (S.2 (2 * x))) = 0 ∨ btN m (Ls s (S.2 (2 * x))) = 1 := by unfold btN; omega
          have or1 : ∀ l, l < ns t → btN kp l = 0 → nI kp ||| ((1 : Int32) <<< (nI l &&& 31)) = nI (kp + 2 ^ l) := by
            intro l hl hbl
            have h9 : 2 ^ l ≤ 2 ^ 9 := two_mono (by omega)
            have h9' : kp < 2 ^ 9 := Nat.lt_of_lt_of_le k1 (two_mono t6)
            rw [shl1 (by omega), ow_or (by omega) (by omega), or_add hbl]
          have c7 : ∀ (m' : Nat) (x5 x6 x7 x8 x9 x11 x12 : Int32), di9 (fun g => g < 2 * c) Ls ns (fun x => 2 * x) (fun x => S.2 (2 * x)) s m x = [m'] → Tt (fun K k => c_X1_writeImage vl K k 7 (nI s) (nI m) (nI x) (nI t) x5 x6 x7 x8 x9 (nI nb) x11 x12 43000 (nI m') (nI t) z) Q := by
            intro m' x5 x6 x7 x8 x9 x11 x12 e
            have v := vd m' (by rw [e]; exact List.mem_cons_self)
            refine u_X1_writeImage_7 ?_; unfold cm_X1_writeImage_7
            exact w_cs0 (ad z m' nb _ hz.1 hz.2 v.1 v.2 hnb) (fun z1 h1 => c8 z1 (one z1 m' e h1.1 h1.2))
          -- both bits known
          have c4 : ∀ (fa fb : Nat), fa = btN m (Ls s (2 * x)) → fb = btN m (Ls s (S.2 (2 * x))) → Tt (fun K k => c_X1_writeImage vl K k 4 (nI s) (nI m) (nI x) (nI t) (nI (Ls s (2 * x))) (nI (Ls s (S.2 (2 * x)))) (nI (Ls t (2 * x))) (nI (Ls t (S.2 (2 * x)))) (nI kp) (nI nb) (nI fa) 0 43000 (nI fb) 0 z) Q := by
            intro fa fb hfa hfb
            have fa01 : fa = 0 ∨ fa = 1 := by omega
            have fb01 : fb = 0 ∨ fb = 1 := by omega
            rw [← hfa, ← hfb] at di
            rcases ab with ⟨hne, hn1⟩ | ⟨heq, hn1⟩
            · -- two loops become one
              rw [if_neg hne] at di
              have c5 : 1 ≤ fa + fb → Tt (fun K k => c_X1_writeImage vl K k 5 (nI s) (nI m) (nI x) (nI t) (nI (Ls s (2 * x))) (nI (Ls s (S.2 (2 * x)))) (nI (Ls t (2 * x))) (nI (Ls t (S.2 (2 * x)))) (nI kp) (nI nb) (nI fa) (nI fb) 43000 0 0 z) Q := by
                intro hab
                rw [if_neg (by omega)] at di
                have c6 : fa + fb = 1 → Tt (fun K k => c_X1_writeImage vl K k 6 (nI s) (nI m) (nI x) (nI t) (nI (Ls s (2 * x))) (nI (Ls s (S.2 (2 * x)))) (nI (Ls t (2 * x))) (nI (Ls t (S.2 (2 * x)))) (nI kp) (nI nb) (nI fa) (nI fb) 43000 (nI t) 0 z) Q := by
                  intro h1
                  rw [if_pos (by omega)] at di
                  refine u_X1_writeImage_6 ?_; unfold cm_X1_writeImage_6
                  exact c7 kp _ _ _ _ _ _ _ di
                refine u_X1_writeImage_5 ?_; unfold cm_X1_writeImage_5
                rcases fa01 with h9 | h9
                · exact w_ifT (by rw [h9]; rfl) (c6 (by omega))
                · refine w_ifF (by rw [h9]; decide) ?_
                  rcases fb01 with h8 | h8
                  · exact w_ifT (by rw [h8]; rfl) (c6 (by omega))
                  · refine w_ifF (by rw [h8]; decide) ?_
                    rw [or1 _ lc k3]
                    rw [if_neg (by omega)] at di
                    exact c7 _ _ _ _ _ _ _ _ di
              refine u_X1_writeImage_4 ?_; unfold cm_X1_writeImage_4
              refine w_ifF (fun h9 => hne (nI_inj9 (by omega) (by omega) h9)) ?_
              rcases fa01 with h9 | h9
              · refine w_ifT (by rw [h9]; rfl) ?_
                rcases fb01 with h8 | h8
                · refine w_ifT (by rw [h8]; rfl) (c8 z (non ?_))
                  rw [if_pos ⟨h9, h8⟩] at di
                  exact di
                · exact w_ifF (by rw [h8]; decide) (c5 (by omega))
              · exact w_ifF (by rw [h9]; decide) (c5 (by omega))
            · -- one loop becomes two
              rw [if_pos heq] at di
              refine u_X1_writeImage_4 ?_; unfold cm_X1_writeImage_4
              refine w_ifT (by rw [heq]) ?_
              rcases fa01 with h9 | h9
              · rw [if_pos h9] at di
                have v := vd kp (by rw [di]; exact List.mem_cons_self)
                exact w_ifT (by rw [h9]; rfl) (w_cs0 (ad z kp nb _ hz.1 hz.2 v.1 v.2 hnb) (fun z1 h1 => c8 z1 (one z1 kp di h1.1 h1.2)))
              · rw [if_neg (by omega)] at di
                refine w_ifF (by rw [h9]; decide) ?_
                rw [or1 _ lc k3, or1 _ le k4]
                have v1 := vd (kp + 2 ^ Ls t (S.2 (2 * x))) (by rw [di]; exact List.mem_cons_self)
                have v2 := vd (kp + 2 ^ Ls t (2 * x)) (by rw [di]; exact List.mem_cons_of_mem _ List.mem_cons_self)
                exact w_cs0 (ad z _ nb _ hz.1 hz.2 v2.1 v2.2 hnb) (fun z1 h1 => w_cs0 (ad z1 _ nb _ h1.1 h1.2 v1.1 v1.2 hnb) (fun z2 h2 => c8 z2 (two z2 _ _ di h2.1 h2.2)))
          have c3 : ∀ fa : Nat, fa = btN m (Ls s (2 * x)) → Tt (fun K k => c_X1_writeImage vl K k 3 (nI s) (nI m) (nI x) (nI t) (nI (Ls s (2 * x))) (nI (Ls s (S.2 (2 * x)))) (nI (Ls t (2 * x))) (nI (Ls t (S.2 (2 * x)))) (nI kp) (nI nb) 0 0 43000 (nI fa) 0 z) Q := by
            intro fa hfa
            refine u_X1_writeImage_3 ?_; unfold cm_X1_writeImage_3
            rw [crS hm10 (by omega)]
            rcases bb with h9 | h9
            · exact w_ifT (by rw [h9]; rfl) (c4 fa 0 hfa h9.symm)
            · exact w_ifF (by rw [h9]; decide) (c4 fa 1 hfa h9.symm)
          refine u_X1_writeImage_2 ?_; unfold cm_X1_writeImage_2
          rw [crS hm10 (by omega)]
          rcases ba with h9 | h9
          · exact w_ifT (by rw [h9]; rfl) (c3 0 h9.symm)
          · exact w_ifF (by rw [h9]; decide) (c3 1 h9.symm)
        have eor : nI s ||| ((1 : Int32) <<< (nI x &&& 31)) = nI t := by
          rw [← hte]
          exact st_or (by omega) (by omega) hb
        refine u_X1_writeImage_1 ?_; unfold cm_X1_writeImage_1
        rw [bit_nI (by omega) (by omega), hb, eor, rn_mul2, i16, i16]
        refine w_rdF hz4.1 (w_leF (show c < 2 ^ 31 by omega) (show x < c by omega) (w_ifT rfl (w_crI ch_43002 rfl (by omega) (s1 (2 * x) (by omega)).1 (w_cs1 (tc_otherLoop hz4 hv hc hLz hs hxc) ?_))))
        rintro v1 z1 e1
        cases e1
        refine w_crI ch_43002 rfl (by omega) (t1 (2 * x) (by omega)).1 (w_cs1 (tc_otherLoop hz4 hv hc hLz ht hxc) ?_)
        rintro v2 z2 e2
        cases e2
        refine w_cs1 (te_carry hc hLz hs ht hm10 (show Ls t (2 * x) < 10 by omega) (show Ls t (S.2 (2 * x)) < 10 by omega)) ?_
        rintro v3 z3 ⟨e3, kp, ga, q1, q2, q3⟩
        dsimp only at e3 q2
        rw [e3, q2]
        have nk := nb_k ⟨s, by omega⟩ ⟨x, by omega⟩
        have ez : z.1 43010 = nI p := by
          rw [(hz.1 43010 (by decide)).1]
          exact h10
        refine w_if (fun h9 => ?_) (fun h9 => w_rdF ez ?_)
        · have e1 : par9 (tb s) x = 1 := nk.1.mp h9
          exact main kp ga 1 (by omega) (by rw [e1]; exact Int.dvd_zero _) q1 q3
        · have e1 : par9 (tb s) x = -1 := nk.2.elim (fun h8 => absurd (nk.1.mpr h8) h9) id
          rw [show nI p - 1 = nI (p - 1) from pk_sub (b := 1) (by omega)]
          refine main kp ga (p - 1) (by omega) ?_ q1 q3
          rw [e1]
          exact ⟨1, by omega⟩
      · have hb1 : btN s x = 1 := by unfold btN at hb ⊢; omega
        refine u_X1_writeImage_1 ?_; unfold cm_X1_writeImage_1
        rw [bit_nI (by omega) (by omega), hb1]
        refine w_rdF hz4.1 (w_leF (show c < 2 ^ 31 by omega) (show x < c by omega) (w_ifF (by decide) (c8 z ⟨hz.1, wk_cg hz.2 (fun j _ => ?_)⟩)))
        have e0 : rwX (fun g => g < 2 * c) Ls ns (fun x => 2 * x) (fun x => S.2 (2 * x)) dg s m x j = 0 := by
          unfold rwX
          exact if_pos hb1
        show (p : Int) ∣ row9 (fun g => g < 2 * c) Ls ns (fun x => 2 * x) (fun x => S.2 (2 * x)) dg s m x j - (row9 (fun g => g < 2 * c) Ls ns (fun x => 2 * x) (fun x => S.2 (2 * x)) dg s m x j + rwX (fun g => g < 2 * c) Ls ns (fun x => 2 * x) (fun x => S.2 (2 * x)) dg s m x j)
        rw [e0, Int.add_zero, Int.sub_self]
        exact Int.dvd_zero _
  refine e_X1_writeImage ?_
  refine u_X1_writeImage_0 ?_; unfold cm_X1_writeImage_0
  exact c1 c 0 y (by omega) ⟨fr_rf, hw0⟩
end XCJ3
