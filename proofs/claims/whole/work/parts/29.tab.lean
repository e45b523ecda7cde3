/-! the tables of simple braids that the reference makes, and word reversing: pure -/
def ow_EB2 : Nat := 32776
def ow_EB3 : Nat := 377808920617404394930312
def ow_EB4 : Nat := 5948958897068753817210974572962173885546867928441332012211887236436028725196283441148894883401186819475080
def ow_EB5 : Nat := 1456572530763604360879728601539294400302906731103714933808773080753700595081417498863382765006800222331243726923280087091948659854442964793187306257143829420169796679305312553716089829194803426307233761618411873171134085557297697633687015120225810969857668168859518399203695969676689455529388943405370735038222389345237225778551992448276489698669376954460406553087512594711402267801573752451248246141060790402940361147646364006506498095159234294174558698720307194159113027476122691615493634469070876669667347470558386783669623182324960118408
def ow_EB (n : Nat) : Nat := if n = 5 then ow_EB5 else if n = 4 then ow_EB4 else if n = 3 then ow_EB3 else ow_EB2
def ow_CB2 : Nat := 2361183250299635106049
def ow_CB3 : Nat := 9873032088820773825728651786498797223611041555699233701746491649
def ow_CB4 : Nat := 175968249827732254326089242939865700591401280750066552244676097666093503935389428876855155762592542619331142696147100528634691364510291051816607157132958759340181132253644221876332936296209465547327978618491488875070797261152790364123338238126654207607041
def ow_CB5 : Nat := 2561941940811124908226878276562712830786730392680502343412695703740898771488003730900999814779343183538528818088474601679417563097595859667033163705654002424921107941903174911008109757917039356323110361835621571062863527447304737950473372060780315040702969910802058206768385928682595406225537852031714765080296944801403310251667931197454570203742703954705469305944832048645139615762500083463855392102415327950148542777091118835787351228913551147846280582335713381502964148317750665577089639173567737339723686470287023279323378797891891659771595617994479853095964393126321393847128124600977154551011274948655992510642867579025518159618311432843236842095713355973254142628540191635256987088980704497349891572032089331575217142646903191163775739106204510551932057164930886820687954698778009051281751449917638729731002792819156587647690184525013683874506883780588758034956065874187106864712504733432696883905542729086151049946608685707618742950440548997002623291327026687744622809682741214554460329073994683829144565184582725190528955222495504690826332140679864686505628099119415694076010105729637994948693713075744980930038395737474603818379808057334985177585532092591738735855115173438893348471153493931402552040992139057992500181046584493444248399148947661108965064961
def ow_CB (n : Nat) : Nat := if n = 5 then ow_CB5 else if n = 4 then ow_CB4 else if n = 3 then ow_CB3 else ow_CB2
def ow_TB2 : Nat := 1
def ow_TB3 : Nat := 3323069989559003748116918463908282625
def ow_TB4 : Nat := 102476693562855989733918205226701034338475156626498421750652767261516371818566242281901976258775877621650882256790756059621379048587298368011853935516294315267773955595501735671154137408520449
def ow_TB5 : Nat := 10006507936052917495056762356686683169978379497557729341775245163541936744608189897862012107618564056851367057566257895978757667940345255303321079206035317827367029858007615595433116748182825103213770029321734015062634811391323013765424385540154604608518210076155812541065378910391801949475102386451384217484863074877024121046780700908662987381656112405987240703665418496983155523688732286754029865637697821464960845338119285507420908380904539092896461799297206805829466715416726754313695181634250248249079431454466519576149181024099133161257331222909597304654592655655298201364422450723529306949382001192834210091854645739636929149976469024356339375315771757965418074729578077824457251861511323633412101913836063009725247809121739842083406228296217061064140891671346882894565893653497421602510303028453132032583623938216972996425718007850421303994643879759238181743655316414840549986396737034640627854517210478933766628600009521487378783388686700911510632339514351194946164123067637966689447433918791937
def ow_TB (n : Nat) : Nat := if n = 5 then ow_TB5 else if n = 4 then ow_TB4 else if n = 3 then ow_TB3 else ow_TB2
def ow_ZB2 : Nat := 16
def ow_ZB3 : Nat := 3285264
def ow_ZB4 : Nat := 31361067066764797883944407312
def ow_ZB5 : Nat := 2068158216108917202748388987360102722374714558573408194932136495947631584927206519762697498627005291327241659131905714077903806322849917526151440
def ow_ZB (n : Nat) : Nat := if n = 5 then ow_ZB5 else if n = 4 then ow_ZB4 else if n = 3 then ow_ZB3 else ow_ZB2
def ow_LB2 : Nat := 0
def ow_LB3 : Nat := 5070603609843348907733926543360
def ow_LB4 : Nat := 1155127264313350806750759635332833240623997700299448215390618734004183266885665032738068749177254065239471823625760801226154396939009245839360
def ow_LB5 : Nat := 31378668008484255983248215507953752744702274712667365470868416597826098735321106908426816967941011925917967773385571876871409999655154031346837227701395534811517920798067477934636612081574866691109650991785743534330970043008897291090988857526408481806308548035378531042528521741239349909126489364686611343724508330877138099128348535568978189795426297215126795504734679888658562108084316010223345594017642116977046434704126658938932098784062287113816077636488386964694136714298638090706749910288202214184434221382257159221396916134116059040412121559183331281493567912251264159027966671280970409468965179218202065553790165105517111599219310765777785068682174707345773942480074478595954702706970383102780392534388135847526400
def ow_LB (n : Nat) : Nat := if n = 5 then ow_LB5 else if n = 4 then ow_LB4 else if n = 3 then ow_LB3 else ow_LB2
def ow_cn (n : Nat) : Nat := if n = 5 then 120 else if n = 4 then 24 else if n = 3 then 6 else 2
/-- where strand a of simple k ends -/
def ow_E (n k a : Nat) : Nat := ow_EB n / 2 ^ (15 * k + 3 * a) % 8
/-- how many simples there are before letter j of simple k is tried -/
def ow_C (n k j : Nat) : Nat := ow_CB n / 2 ^ (7 * (5 * k + j)) % 128
def ow_T (n k j : Nat) : Nat := ow_TB n / 2 ^ (7 * (4 * k + j)) % 128
def ow_Z (n k : Nat) : Nat := ow_ZB n / 2 ^ (4 * k) % 16
def ow_L (n k t : Nat) : Nat := ow_LB n / 2 ^ (2 * (10 * k + t)) % 4
/-- the last place below s whose end is j (0 if none is) -/
def ow_pa (n k j : Nat) : Nat → Nat
  | 0 => 0
  | s + 1 => if ow_E n k s = j then s else ow_pa n k j s
def ow_sw (n k j a : Nat) : Nat := if a = ow_pa n k (j + 1) n then j else if a = ow_pa n k j n then j + 1 else ow_E n k a
abbrev ow_ckP1 (n k j : Nat) : Prop := ow_pa n k j n < n ∧ ow_pa n k (j + 1) n < n ∧ k < ow_C n k j ∧ ow_C n k j ≤ ow_cn n ∧ (¬ ow_pa n k j n < ow_pa n k (j + 1) n → ow_C n k (j + 1) = ow_C n k j)
abbrev ow_ckP2 (n k j : Nat) : Prop := ow_pa n k j n < ow_pa n k (j + 1) n → ∀ a, a < n → ow_sw n k j a = ow_E n (ow_T n k j) a
abbrev ow_ckP3 (n k j : Nat) : Prop := ow_pa n k j n < ow_pa n k (j + 1) n → ow_T n k j < ow_cn n ∧ ((ow_T n k j < ow_C n k j ∧ ow_C n k (j + 1) = ow_C n k j) ∨ (ow_T n k j = ow_C n k j ∧ ow_C n k (j + 1) = ow_C n k j + 1))
abbrev ow_ckP4 (n k j : Nat) : Prop := ow_pa n k j n < ow_pa n k (j + 1) n → ow_T n k j = ow_C n k j → ow_Z n (ow_T n k j) = ow_Z n k + 1 ∧ ow_Z n k < 10 ∧ ow_L n (ow_T n k j) (ow_Z n k) = j
abbrev ow_ckP5 (n k j : Nat) : Prop := ow_pa n k j n < ow_pa n k (j + 1) n → ow_T n k j = ow_C n k j → ∀ t, t < ow_Z n k → ow_L n (ow_T n k j) t = ow_L n k t
set_option maxRecDepth 100000 in
theorem ow_ck1_2 : ∀ k, k < 2 → ∀ j, j < 1 → ow_ckP1 2 k j := by decide +kernel
set_option maxRecDepth 100000 in
theorem ow_ck1_3 : ∀ k, k < 6 → ∀ j, j < 2 → ow_ckP1 3 k j := by decide +kernel
set_option maxRecDepth 100000 in
theorem ow_ck1_4 : ∀ k, k < 24 → ∀ j, j < 3 → ow_ckP1 4 k j := by decide +kernel
set_option maxRecDepth 100000 in
theorem ow_ck1_5 : ∀ k, k < 120 → ∀ j, j < 4 → ow_ckP1 5 k j := by decide +kernel
theorem ow_ck1 {n k j : Nat} (h2 : 2 ≤ n) (h5 : n ≤ 5) (hk : k < ow_cn n) (hj : j + 1 < n) : ow_ckP1 n k j := by
  rcases (show n = 2 ∨ n = 3 ∨ n = 4 ∨ n = 5 by omega) with rfl | rfl | rfl | rfl
  · exact ow_ck1_2 k hk j (by omega)
  · exact ow_ck1_3 k hk j (by omega)
  · exact ow_ck1_4 k hk j (by omega)
  · exact ow_ck1_5 k hk j (by omega)
set_option maxRecDepth 100000 in
theorem ow_ck2_2 : ∀ k, k < 2 → ∀ j, j < 1 → ow_ckP2 2 k j := by decide +kernel
set_option maxRecDepth 100000 in
theorem ow_ck2_3 : ∀ k, k < 6 → ∀ j, j < 2 → ow_ckP2 3 k j := by decide +kernel
set_option maxRecDepth 100000 in
theorem ow_ck2_4 : ∀ k, k < 24 → ∀ j, j < 3 → ow_ckP2 4 k j := by decide +kernel
set_option maxRecDepth 100000 in
theorem ow_ck2_5 : ∀ k, k < 120 → ∀ j, j < 4 → ow_ckP2 5 k j := by decide +kernel
theorem ow_ck2 {n k j : Nat} (h2 : 2 ≤ n) (h5 : n ≤ 5) (hk : k < ow_cn n) (hj : j + 1 < n) : ow_ckP2 n k j := by
  rcases (show n = 2 ∨ n = 3 ∨ n = 4 ∨ n = 5 by omega) with rfl | rfl | rfl | rfl
  · exact ow_ck2_2 k hk j (by omega)
  · exact ow_ck2_3 k hk j (by omega)
  · exact ow_ck2_4 k hk j (by omega)
  · exact ow_ck2_5 k hk j (by omega)
set_option maxRecDepth 100000 in
theorem ow_ck3_2 : ∀ k, k < 2 → ∀ j, j < 1 → ow_ckP3 2 k j := by decide +kernel
set_option maxRecDepth 100000 in
theorem ow_ck3_3 : ∀ k, k < 6 → ∀ j, j < 2 → ow_ckP3 3 k j := by decide +kernel
set_option maxRecDepth 100000 in
theorem ow_ck3_4 : ∀ k, k < 24 → ∀ j, j < 3 → ow_ckP3 4 k j := by decide +kernel
set_option maxRecDepth 100000 in
theorem ow_ck3_5 : ∀ k, k < 120 → ∀ j, j < 4 → ow_ckP3 5 k j := by decide +kernel
theorem ow_ck3 {n k j : Nat} (h2 : 2 ≤ n) (h5 : n ≤ 5) (hk : k < ow_cn n) (hj : j + 1 < n) : ow_ckP3 n k j := by
  rcases (show n = 2 ∨ n = 3 ∨ n = 4 ∨ n = 5 by omega) with rfl | rfl | rfl | rfl
  · exact ow_ck3_2 k hk j (by omega)
  · exact ow_ck3_3 k hk j (by omega)
  · exact ow_ck3_4 k hk j (by omega)
  · exact ow_ck3_5 k hk j (by omega)
set_option maxRecDepth 100000 in
theorem ow_ck4_2 : ∀ k, k < 2 → ∀ j, j < 1 → ow_ckP4 2 k j := by decide +kernel
set_option maxRecDepth 100000 in
theorem ow_ck4_3 : ∀ k, k < 6 → ∀ j, j < 2 → ow_ckP4 3 k j := by decide +kernel
set_option maxRecDepth 100000 in
theorem ow_ck4_4 : ∀ k, k < 24 → ∀ j, j < 3 → ow_ckP4 4 k j := by decide +kernel
set_option maxRecDepth 100000 in
theorem ow_ck4_5 : ∀ k, k < 120 → ∀ j, j < 4 → ow_ckP4 5 k j := by decide +kernel
theorem ow_ck4 {n k j : Nat} (h2 : 2 ≤ n) (h5 : n ≤ 5) (hk : k < ow_cn n) (hj : j + 1 < n) : ow_ckP4 n k j := by
  rcases (show n = 2 ∨ n = 3 ∨ n = 4 ∨ n = 5 by omega) with rfl | rfl | rfl | rfl
  · exact ow_ck4_2 k hk j (by omega)
  · exact ow_ck4_3 k hk j (by omega)
  · exact ow_ck4_4 k hk j (by omega)
  · exact ow_ck4_5 k hk j (by omega)
set_option maxRecDepth 100000 in
theorem ow_ck5_2 : ∀ k, k < 2 → ∀ j, j < 1 → ow_ckP5 2 k j := by decide +kernel
set_option maxRecDepth 100000 in
theorem ow_ck5_3 : ∀ k, k < 6 → ∀ j, j < 2 → ow_ckP5 3 k j := by decide +kernel
set_option maxRecDepth 100000 in
theorem ow_ck5_4 : ∀ k, k < 24 → ∀ j, j < 3 → ow_ckP5 4 k j := by decide +kernel
set_option maxRecDepth 100000 in
theorem ow_ck5_5 : ∀ k, k < 120 → ∀ j, j < 4 → ow_ckP5 5 k j := by decide +kernel
theorem ow_ck5 {n k j : Nat} (h2 : 2 ≤ n) (h5 : n ≤ 5) (hk : k < ow_cn n) (hj : j + 1 < n) : ow_ckP5 n k j := by
  rcases (show n = 2 ∨ n = 3 ∨ n = 4 ∨ n = 5 by omega) with rfl | rfl | rfl | rfl
  · exact ow_ck5_2 k hk j (by omega)
  · exact ow_ck5_3 k hk j (by omega)
  · exact ow_ck5_4 k hk j (by omega)
  · exact ow_ck5_5 k hk j (by omega)
set_option maxRecDepth 100000 in
theorem ow_ds2 : ∀ k, k < 2 → ∀ j, j < k → ∃ a, a < 2 ∧ ow_E 2 k a ≠ ow_E 2 j a := by decide +kernel
set_option maxRecDepth 100000 in
theorem ow_ds3 : ∀ k, k < 6 → ∀ j, j < k → ∃ a, a < 3 ∧ ow_E 3 k a ≠ ow_E 3 j a := by decide +kernel
set_option maxRecDepth 100000 in
theorem ow_ds4 : ∀ k, k < 24 → ∀ j, j < k → ∃ a, a < 4 ∧ ow_E 4 k a ≠ ow_E 4 j a := by decide +kernel
set_option maxRecDepth 100000 in
theorem ow_ds5 : ∀ k, k < 120 → ∀ j, j < k → ∃ a, a < 5 ∧ ow_E 5 k a ≠ ow_E 5 j a := by decide +kernel
theorem ow_ds0 {n k j : Nat} (h2 : 2 ≤ n) (h5 : n ≤ 5) (hk : k < ow_cn n) (hj : j < k) : ∃ a, a < n ∧ ow_E n k a ≠ ow_E n j a := by
  rcases (show n = 2 ∨ n = 3 ∨ n = 4 ∨ n = 5 by omega) with rfl | rfl | rfl | rfl
  · exact ow_ds2 k hk j hj
  · exact ow_ds3 k hk j hj
  · exact ow_ds4 k hk j hj
  · exact ow_ds5 k hk j hj
/-- the rows are different -/
theorem ow_ds {n k j : Nat} (h2 : 2 ≤ n) (h5 : n ≤ 5) (hk : k < ow_cn n) (hj : j < ow_cn n) (h : ∀ a, a < n → ow_E n k a = ow_E n j a) : k = j := by
  rcases Nat.lt_trichotomy k j with q | q | q
  · obtain ⟨a, ha, hn⟩ := ow_ds0 h2 h5 hj q
    exact absurd (h a ha).symm hn
  · exact q
  · obtain ⟨a, ha, hn⟩ := ow_ds0 h2 h5 hk q
    exact absurd (h a ha) hn
theorem ow_fr2 : ow_C 2 0 0 = 1 ∧ ow_C 2 2 0 = 2 ∧ ow_Z 2 0 = 0 ∧ (∀ a, a < 2 → ow_E 2 0 a = a) ∧ (∀ k, k < 2 → ow_C 2 k 1 = ow_C 2 (k + 1) 0) ∧ (∀ k, k < 2 → ow_Z 2 k ≤ 10) := by decide +kernel
theorem ow_fr3 : ow_C 3 0 0 = 1 ∧ ow_C 3 6 0 = 6 ∧ ow_Z 3 0 = 0 ∧ (∀ a, a < 3 → ow_E 3 0 a = a) ∧ (∀ k, k < 6 → ow_C 3 k 2 = ow_C 3 (k + 1) 0) ∧ (∀ k, k < 6 → ow_Z 3 k ≤ 10) := by decide +kernel
theorem ow_fr4 : ow_C 4 0 0 = 1 ∧ ow_C 4 24 0 = 24 ∧ ow_Z 4 0 = 0 ∧ (∀ a, a < 4 → ow_E 4 0 a = a) ∧ (∀ k, k < 24 → ow_C 4 k 3 = ow_C 4 (k + 1) 0) ∧ (∀ k, k < 24 → ow_Z 4 k ≤ 10) := by decide +kernel
theorem ow_fr5 : ow_C 5 0 0 = 1 ∧ ow_C 5 120 0 = 120 ∧ ow_Z 5 0 = 0 ∧ (∀ a, a < 5 → ow_E 5 0 a = a) ∧ (∀ k, k < 120 → ow_C 5 k 4 = ow_C 5 (k + 1) 0) ∧ (∀ k, k < 120 → ow_Z 5 k ≤ 10) := by decide +kernel
theorem ow_fr {n : Nat} (h2 : 2 ≤ n) (h5 : n ≤ 5) : ow_C n 0 0 = 1 ∧ ow_C n (ow_cn n) 0 = ow_cn n ∧ ow_Z n 0 = 0 ∧ (∀ a, a < n → ow_E n 0 a = a) ∧ (∀ k, k < ow_cn n → ow_C n k (n - 1) = ow_C n (k + 1) 0) ∧ (∀ k, k < ow_cn n → ow_Z n k ≤ 10) := by
  rcases (show n = 2 ∨ n = 3 ∨ n = 4 ∨ n = 5 by omega) with rfl | rfl | rfl | rfl
  · exact ow_fr2
  · exact ow_fr3
  · exact ow_fr4
  · exact ow_fr5
theorem ow_cn120 (n : Nat) : 2 ≤ ow_cn n ∧ ow_cn n ≤ 120 := by
  unfold ow_cn
  split
  · decide
  split
  · decide
  split
  · decide
  · decide
/-- a word of signed letters as a number: x is x, -x is 8 + x -/
def ow_dg (w t : Nat) : Nat := w / 16 ^ t % 16
def ow_enc (g : Nat → Nat) : Nat → Nat
  | 0 => 0
  | n + 1 => ow_enc g n + 16 ^ n * g n
theorem ow_enc_lt {g : Nat → Nat} (hg : ∀ t, g t < 16) (n : Nat) : ow_enc g n < 16 ^ n := by
  induction n with
  | zero => exact Nat.one_pos
  | succ n ih =>
    show ow_enc g n + 16 ^ n * g n < 16 ^ n * 16
    have h1 := Nat.mul_le_mul_left (16 ^ n) (show g n ≤ 15 from Nat.le_of_lt_succ (hg n))
    omega
theorem ow_dg_enc {g : Nat → Nat} (hg : ∀ t, g t < 16) (n : Nat) : ∀ t, t < n → ow_dg (ow_enc g n) t = g t := by
  induction n with
  | zero => intro t ht; omega
  | succ n ih =>
    intro t ht
    show (ow_enc g n + 16 ^ n * g n) / 16 ^ t % 16 = g t
    rcases Nat.lt_or_ge t n with q | q
    · have h1 := ih t q
      have h2 : 16 ^ n * g n = 16 ^ t * (16 * (16 ^ (n - t - 1) * g n)) := by
        rw [← Nat.mul_assoc, ← Nat.mul_assoc, ← Nat.pow_succ, ← Nat.pow_add]
        congr 2
        omega
      rw [h2, Nat.add_mul_div_left _ _ (Nat.pow_pos (by decide)), Nat.add_mul_mod_self_left]
      exact h1
    · obtain rfl : t = n := by omega
      rw [Nat.add_mul_div_left _ _ (Nat.pow_pos (by decide)), Nat.div_eq_of_lt (ow_enc_lt hg t), Nat.zero_add]
      exact Nat.mod_eq_of_lt (hg t)
theorem ow_dg16 (w t : Nat) : ow_dg w t < 16 := Nat.mod_lt _ (by decide)
def ow_frc (w : Nat) (k : Nat → Bool) : Bool := match w with
  | 0 => k 0
  | p + 1 => k (p + 1)
theorem ow_frc_eq (w : Nat) (k : Nat → Bool) : ow_frc w k = k w := by
  cases w <;> rfl
def ow_del (w i t : Nat) : Nat := if t < i then ow_dg w t else ow_dg w (t + 2)
def ow_ins (w i t : Nat) : Nat := if t < i then ow_dg w t else if t = i then ow_dg w (i + 1) else if t = i + 1 then ow_dg w i - 8 else if t = i + 2 then (ow_dg w (i + 1) + 8) % 16 else if t = i + 3 then ow_dg w i else ow_dg w (t - 2)
def ow_swp (w i t : Nat) : Nat := if t = i then ow_dg w (i + 1) else if t = i + 1 then ow_dg w i else ow_dg w t
/-- the reversing ends (fuel, size, place, word) and never has more than 40 letters -/
def ow_rv : Nat → Nat → Nat → Nat → Bool
  | 0, _, _, _ => false
  | f + 1, n, i, w => if i + 1 < n then
      (if 8 ≤ ow_dg w i ∧ ow_dg w (i + 1) < 8 then
        (if ow_dg w i = ow_dg w (i + 1) + 8 then ow_frc (ow_enc (ow_del w i) (n - 2)) (fun w1 => ow_rv f (n - 2) 0 w1)
        else if ow_dg w i = ow_dg w (i + 1) + 9 ∨ ow_dg w i + 1 = ow_dg w (i + 1) + 8 then (if n + 2 ≤ 40 then ow_frc (ow_enc (ow_ins w i) (n + 2)) (fun w1 => ow_rv f (n + 2) 0 w1) else false)
        else ow_frc (ow_enc (ow_swp w i) n) (fun w1 => ow_rv f n 0 w1))
      else ow_rv f n (i + 1) w)
    else true
def ow_g0 (n k j t : Nat) : Nat := if t < ow_Z n k then 9 + ow_L n k (ow_Z n k - 1 - t) else (1 + j) % 16
def ow_w0 (n k j : Nat) : Nat := ow_enc (ow_g0 n k j) (ow_Z n k + 1)
set_option maxRecDepth 100000 in
theorem ow_rv2 : ∀ k, k < 2 → ∀ j, j < 1 → ow_frc (ow_w0 2 k j) (fun w => ow_rv 128 (ow_Z 2 k + 1) 0 w) = true := by decide +kernel
set_option maxRecDepth 100000 in
theorem ow_rv3 : ∀ k, k < 6 → ∀ j, j < 2 → ow_frc (ow_w0 3 k j) (fun w => ow_rv 128 (ow_Z 3 k + 1) 0 w) = true := by decide +kernel
set_option maxRecDepth 100000 in
theorem ow_rv4 : ∀ k, k < 24 → ∀ j, j < 3 → ow_frc (ow_w0 4 k j) (fun w => ow_rv 128 (ow_Z 4 k + 1) 0 w) = true := by decide +kernel
set_option maxRecDepth 100000 in
theorem ow_rv5 : ∀ k, k < 120 → ∀ j, j < 4 → ow_frc (ow_w0 5 k j) (fun w => ow_rv 128 (ow_Z 5 k + 1) 0 w) = true := by decide +kernel
theorem ow_rvt {n k j : Nat} (h2 : 2 ≤ n) (h5 : n ≤ 5) (hk : k < ow_cn n) (hj : j + 1 < n) : ow_rv 128 (ow_Z n k + 1) 0 (ow_w0 n k j) = true := by
  rw [← ow_frc_eq (ow_w0 n k j) (fun w => ow_rv 128 (ow_Z n k + 1) 0 w)]
  rcases (show n = 2 ∨ n = 3 ∨ n = 4 ∨ n = 5 by omega) with rfl | rfl | rfl | rfl
  · exact ow_rv2 k hk j (by omega)
  · exact ow_rv3 k hk j (by omega)
  · exact ow_rv4 k hk j (by omega)
  · exact ow_rv5 k hk j (by omega)
def ow_sg (d : Nat) : Int32 := if d < 8 then nI d else 0 - nI (d - 8)
abbrev ow_ok (d : Nat) : Prop := (1 ≤ d ∧ d ≤ 4) ∨ (9 ≤ d ∧ d ≤ 12)
theorem ow_sgN : ∀ d, d < 16 → ow_ok d → (ow_sg d < 0 ↔ 8 ≤ d) := by decide +kernel
theorem ow_sgP : ∀ d, d < 16 → ow_ok d → (ow_sg d ≤ 0 ↔ 8 ≤ d) := by decide +kernel
theorem ow_sgI : ∀ d, d < 16 → 8 ≤ d → 0 - ow_sg d = nI (d - 8) := by decide +kernel
theorem ow_sgJ : ∀ d, d < 8 → ow_sg d = nI d := by decide +kernel
theorem ow_sgK : ∀ d, d < 16 → 8 ≤ d → 0 - nI (d - 8) = ow_sg d := by decide +kernel
theorem ow_sgM : ∀ d, d < 8 → 0 - nI d = ow_sg (d + 8) := by decide +kernel
theorem ow_abs : ∀ a, a < 8 → ∀ b, b < 8 → (if 0 ≤ nI a - nI b then nI a - nI b else 0 - (nI a - nI b)) = nI (if b ≤ a then a - b else b - a) := by decide +kernel
theorem ow_m1 : ∀ d, d < 8 → -1 - nI d = ow_sg (9 + d) := by decide +kernel
