/-! tables as numbers: t p is the hop of prefix p, 8: it is out -/
theorem ck_t {α : Type} (x : Option α) : ck_O true x = x := if_pos (rfl : true = true)
theorem lt_b {α β : Type} (x : α) (f : α → Option β) : lt_O x f = f x := Eq.trans (rfl : lt_O x f = f x) (Eq.trans rfl rfl)
theorem sh_r {x c : Nat} (hx : x < 2 ^ 31) (hc : c < 32) : nI x >>> (nI c &&& 31) = nI (x / 2 ^ c) := pk_shrN hx _ c (s_l c hc)
theorem sh_l {x c : Nat} (hc : c < 32) (h : x * 2 ^ c < 2 ^ 32) : nI x <<< (nI c &&& 31) = nI (x * 2 ^ c) := pk_shlN _ c (s_l c hc) h
theorem in_bn {i n : Nat} (h : i < n) (hn : n < 2 ^ 31) : in_b (nI i) n = true := decide_eq_true (show ¬ (nI i < 0 ∨ n ≤ (nI i).toNatClampNeg) from nI_in h hn)
theorem uN_bv (y : Int64) : y.toBitVec.toNat = uN y := rfl
theorem lo4_N (y : Int64) : (Int64.toInt32 y) &&& 15 = nI (uN y % 16) := by
  rw [pk_and (Int64.toInt32 y) (m := 15) 4 (by decide)]
  have e : (Int64.toInt32 y).toBitVec.toNat = uN y % 2 ^ 32 := by
    rw [← uN_bv]
    show (y.toBitVec.signExtend 32).toNat = _
    rw [BitVec.signExtend_eq_setWidth_of_le _ (by decide), BitVec.toNat_setWidth]
  rw [e, Nat.mod_mod_of_dvd _ (by decide)]
def nb_N (pl : Nat → Int64) (p : Nat) : Nat := (uN (pl (p / 16)) / 2 ^ (4 * (p % 16))) % 16
theorem nb_lt (pl : Nat → Int64) (p : Nat) : nb_N pl p < 16 := Nat.mod_lt _ (by decide)
theorem fo_p {p : Nat} (h2 : p < 512) : (4 : Int32) * (nI p &&& 15) = nI (4 * (p % 16)) := by
  rw [pk_andN (by omega) (m := 15) 4 (by decide)]
  exact pk_mul 4 (p % 16)
theorem hopAt_nb {pl : Nat → Int64} {p : Nat} (h1 : 1 ≤ p) (h2 : p < 512) : pf_X3_hopAt pl (nI p) = some (if nb_N pl p = 0 then (-4) else nI (nb_N pl p - 1)) := by
  have e1 : nI p >>> ((4 : Int32) &&& 31) = nI (p / 16) := sh_r (x := p) (c := 4) (by omega) (by decide)
  unfold pf_X3_hopAt
  rw [if_neg (show ¬ nI p < 1 from nI_nlt (b := 1) h1 (by omega)), if_pos (show nI p < 512 from nI_lt (b := 512) h2 (by decide)), e1, in_bn (by omega) (by decide), nI_clamp (by omega), fo_p h2, lo4_N, uN_sk _ (by omega)]
  show (if nI (nb_N pl p) = 0 then some (-4) else some (nI (nb_N pl p) - 1)) = _
  have hl := nb_lt pl p
  by_cases h0 : nb_N pl p = 0
  · rw [h0]; rfl
  · rw [if_neg (nI_ne0 (by omega) (by omega)), if_neg h0, show (1 : Int32) = nI 1 from rfl, pk_sub (by omega)]
theorem hopAt_lo {pl : Nat → Int64} {x : Int32} (h : x < 1) : pf_X3_hopAt pl x = some (-4) := by unfold pf_X3_hopAt; rw [if_pos h]
theorem hopAt_hi {pl : Nat → Int64} {x : Int32} (h : ¬ x < 1) (h2 : ¬ x < 512) : pf_X3_hopAt pl x = some (-4) := by unfold pf_X3_hopAt; rw [if_neg h, if_neg h2]
theorem tb_sl (x s i : Nat) : (x * 2 ^ s).testBit i = (decide (s ≤ i) && x.testBit (i - s)) := by rw [← Nat.shiftLeft_eq, Nat.testBit_shiftLeft]
theorem nb_bit (X v j j2 : Nat) (hj : j < 16) (hv : v < 16) (h2 : j2 < 16) : (((X &&& ((15 * 2 ^ (4 * j)) ^^^ (2 ^ 64 - 1))) ||| (v * 2 ^ (4 * j))) / 2 ^ (4 * j2)) % 16 = if j2 = j then v else (X / 2 ^ (4 * j2)) % 16 := by
  have f15 : ∀ i, (15 : Nat).testBit i = decide (i < 4) := fun i => Nat.testBit_two_pow_sub_one 4 i
  apply Nat.eq_of_testBit_eq
  intro i
  rw [show (16 : Nat) = 2 ^ 4 from rfl, Nat.testBit_mod_two_pow, Nat.testBit_div_two_pow, Nat.testBit_or, Nat.testBit_and, Nat.testBit_xor, tb_sl, tb_sl, Nat.testBit_two_pow_sub_one, f15]
  by_cases hi : i < 4
  · by_cases e : j2 = j
    · subst e
      rw [if_pos rfl]
      have a1 : (4 * j2 ≤ i + 4 * j2) := by omega
      have a2 : i + 4 * j2 - 4 * j2 = i := by omega
      have a3 : i + 4 * j2 < 64 := by omega
      simp [hi, a1, a2, a3]
    · rw [if_neg e, Nat.testBit_mod_two_pow, Nat.testBit_div_two_pow]
      have a3 : i + 4 * j2 < 64 := by omega
      have a4 : (decide (4 * j ≤ i + 4 * j2) && decide (i + 4 * j2 - 4 * j < 4)) = false := by
        by_cases q : 4 * j ≤ i + 4 * j2
        · have : ¬ (i + 4 * j2 - 4 * j < 4) := by omega
          simp [this]
        · simp [q]
      have a5 : (decide (4 * j ≤ i + 4 * j2) && v.testBit (i + 4 * j2 - 4 * j)) = false := by
        by_cases q : 4 * j ≤ i + 4 * j2
        · have q4 : 4 ≤ i + 4 * j2 - 4 * j := by omega
          have hlt : v < 2 ^ (i + 4 * j2 - 4 * j) := Nat.lt_of_lt_of_le (show v < 2 ^ 4 from hv) (Nat.pow_le_pow_right (by decide) q4)
          rw [Nat.testBit_lt_two_pow hlt, Bool.and_false]
        · simp [q]
      rw [a4, a5]
      simp [hi, a3]
  · have b1 : (if j2 = j then v else X / 2 ^ (4 * j2) % 2 ^ 4).testBit i = false := by
      apply Nat.testBit_lt_two_pow
      have hle : 2 ^ 4 ≤ 2 ^ i := Nat.pow_le_pow_right (by decide) (by omega)
      split
      · omega
      · have := Nat.mod_lt (X / 2 ^ (4 * j2)) (show 0 < 2 ^ 4 by decide)
        omega
    rw [b1]
    simp [hi]
theorem setPlace_nb {pl : Nat → Int64} {p v : Nat} (h1 : 1 ≤ p) (h2 : p < 512) (hv : v < 16) : ∃ pl2, pf_X3_setPlace pl (nI p) (nI v) = some pl2 ∧ ∀ q, q < 512 → nb_N pl2 q = if q = p then v else nb_N pl q := by
  have e1 : nI p >>> ((4 : Int32) &&& 31) = nI (p / 16) := sh_r (x := p) (c := 4) (by omega) (by decide)
  unfold pf_X3_setPlace
  rw [if_neg (show ¬ nI p < 1 from nI_nlt (b := 1) h1 (by omega)), if_neg (show ¬ 512 ≤ nI p from nI_ge (b := 512) h2 (by decide)), e1, in_bn (by omega) (by decide), nI_clamp (by omega), fo_p h2, nI_l (n := v) (by omega)]
  refine ⟨_, rfl, fun q hq => ?_⟩
  obtain ⟨X, hX, eX⟩ := wb_of (pl (p / 16))
  have eU : uN (pl (p / 16)) = X := by rw [eX]; exact wb_tn hX
  have hb15 : 15 * 2 ^ (4 * (p % 16)) < 2 ^ 64 := by
    have : 2 ^ (4 * (p % 16)) ≤ 2 ^ 60 := Nat.pow_le_pow_right (by decide) (by omega)
    omega
  have hbv : v * 2 ^ (4 * (p % 16)) < 2 ^ 64 := by
    have h3 : 2 ^ (4 * (p % 16)) ≤ 2 ^ 60 := Nat.pow_le_pow_right (by decide) (by omega)
    have h4 : v * 2 ^ (4 * (p % 16)) ≤ 15 * 2 ^ 60 := Nat.mul_le_mul (by omega) h3
    omega
  have hx64 : (15 * 2 ^ (4 * (p % 16))) ^^^ (2 ^ 64 - 1) < 2 ^ 64 := Nat.xor_lt_two_pow hb15 (by decide)
  have ha64 : X &&& ((15 * 2 ^ (4 * (p % 16))) ^^^ (2 ^ 64 - 1)) < 2 ^ 64 := Nat.lt_of_le_of_lt Nat.and_le_left hX
  have eN : (pl (p / 16) &&& (((15 : Int64) <<< ((nI (4 * (p % 16))).toInt64 &&& 63)) ^^^ (-1))) ||| (lN v <<< ((nI (4 * (p % 16))).toInt64 &&& 63)) = lN ((X &&& ((15 * 2 ^ (4 * (p % 16))) ^^^ (2 ^ 64 - 1))) ||| (v * 2 ^ (4 * (p % 16)))) := by
    rw [show (15 : Int64) = lN 15 from rfl, wb_shl 15 (by omega), wb_shl v (by omega), show (-1 : Int64) = lN (2 ^ 64 - 1) from by decide, lN_xor, eX, wb_and hX hx64, wb_or ha64 hbv]
  have hO : (X &&& ((15 * 2 ^ (4 * (p % 16))) ^^^ (2 ^ 64 - 1))) ||| (v * 2 ^ (4 * (p % 16))) < 2 ^ 64 := Nat.or_lt_two_pow ha64 hbv
  show (uN (vp_updL pl (p / 16) _ (q / 16)) / 2 ^ (4 * (q % 16))) % 16 = _
  rw [eN]
  unfold vp_updL nb_N
  by_cases hqp : q / 16 = p / 16
  · rw [if_pos hqp, show uN (lN ((X &&& ((15 * 2 ^ (4 * (p % 16))) ^^^ (2 ^ 64 - 1))) ||| (v * 2 ^ (4 * (p % 16))))) = (X &&& ((15 * 2 ^ (4 * (p % 16))) ^^^ (2 ^ 64 - 1))) ||| (v * 2 ^ (4 * (p % 16))) from wb_tn hO, nb_bit X v (p % 16) (q % 16) (by omega) hv (by omega), hqp, eU]
    by_cases hm : q % 16 = p % 16
    · rw [if_pos hm, if_pos (by omega)]
    · rw [if_neg hm, if_neg (fun h => hm (by rw [h]))]
  · rw [if_neg hqp, if_neg (fun h => hqp (by rw [h]))]
/-- the hop as the class tells it -/
def hv_I (v : Nat) : Int32 := if v = 8 then (-4) else nI v
def ct_N (t : Nat → Nat) : Nat := fb_ct (fun j => decide (t (j + 1) ≠ 8)) 511
/-- a table of the class stands for t -/
def tr_P (pl : Nat → Int64) (sz : Int32) (t : Nat → Nat) : Prop := (∀ p, 1 ≤ p → p < 512 → t p ≤ 8 ∧ nb_N pl p = if t p = 8 then 0 else t p + 1) ∧ sz = nI (ct_N t)
theorem hopAt_t {pl : Nat → Int64} {sz : Int32} {t : Nat → Nat} (h : tr_P pl sz t) {p : Nat} (h1 : 1 ≤ p) (h2 : p < 512) : pf_X3_hopAt pl (nI p) = some (hv_I (t p)) := by
  obtain ⟨a, b⟩ := h.1 p h1 h2
  rw [hopAt_nb h1 h2, b]
  unfold hv_I
  by_cases e : t p = 8
  · rw [if_pos e, if_pos e, if_pos rfl]
  · rw [if_neg e, if_neg e, if_neg (by omega), Nat.add_sub_cancel]
theorem ct_le (t : Nat → Nat) : ct_N t ≤ 511 := fb_ct_le _ _
theorem ct_up (t : Nat → Nat) {p : Nat} (v : Nat) (h1 : 1 ≤ p) (h2 : p < 512) : ct_N (va_up t p v) + (if t p ≠ 8 then 1 else 0) = ct_N t + (if v ≠ 8 then 1 else 0) := by
  have := fb_ct_upd (fun j => decide (t (j + 1) ≠ 8)) (decide (v ≠ 8)) (i := p - 1) (n := 511) (by omega)
  have e : (fun k => if k = p - 1 then decide (v ≠ 8) else decide (t (k + 1) ≠ 8)) = (fun j => decide (va_up t p v (j + 1) ≠ 8)) := by
    funext j
    unfold va_up
    by_cases hj : j = p - 1
    · rw [if_pos hj, if_pos (by omega)]
    · rw [if_neg hj, if_neg (by omega)]
  rw [e, show p - 1 + 1 = p by omega] at this
  simp only [decide_eq_true_eq] at this
  exact this
theorem isPrefix_y {p : Nat} (h1 : 1 ≤ p) (h2 : p < 512) : pf_X6_isPrefix (nI p) = some 1 := by
  unfold pf_X6_isPrefix
  rw [if_neg (show ¬ nI p < 1 from nI_nlt (b := 1) h1 (by omega)), if_neg (show ¬ 512 ≤ nI p from nI_ge (b := 512) h2 (by decide))]
theorem isHop_y {h : Nat} (h1 : h < 8) : pf_X6_isHop (nI h) = some 1 := by
  unfold pf_X6_isHop
  rw [if_neg (nI_pos (by omega)), if_neg (show ¬ 8 ≤ nI h from nI_ge (b := 8) h1 (by decide))]
theorem tr_set {pl pl2 : Nat → Int64} {sz : Int32} {t : Nat → Nat} {p v : Nat} (h : tr_P pl sz t) (hv : v ≤ 8) (hs : ∀ q, q < 512 → nb_N pl2 q = if q = p then (if v = 8 then 0 else v + 1) else nb_N pl q) {sz2 : Int32} (hz : sz2 = nI (ct_N (va_up t p v))) : tr_P pl2 sz2 (va_up t p v) := by
  refine ⟨fun q q1 q2 => ?_, hz⟩
  rw [hs q q2]
  unfold va_up
  by_cases e : q = p
  · rw [if_pos e, if_pos e]; exact ⟨hv, rfl⟩
  · rw [if_neg e, if_neg e]; exact h.1 q q1 q2
theorem nI_m4 {x : Nat} (hx : x < 2 ^ 31) : ¬ nI x = (-4) := fun h => by
  have h1 := congrArg Int32.toInt h
  rw [nI_toInt hx] at h1
  have e : (-4 : Int32).toInt = -4 := by decide
  omega
theorem hv_m4 {v : Nat} (h : v ≤ 8) : hv_I v = (-4) ↔ v = 8 := by
  unfold hv_I
  by_cases e : v = 8
  · rw [if_pos e]; exact ⟨fun _ => e, fun _ => rfl⟩
  · rw [if_neg e]; exact ⟨fun h2 => absurd h2 (nI_m4 (by omega)), fun h2 => absurd h2 e⟩
theorem hv_in {v : Nat} (e : ¬ v = 8) : hv_I v = nI v := if_neg e
theorem put_t {pl : Nat → Int64} {sz : Int32} {t : Nat → Nat} (h : tr_P pl sz t) {p v : Nat} (h1 : 1 ≤ p) (h2 : p < 512) (hv : v < 8) : ∃ o, pf_X3_put pl sz (nI p) (nI v) = some o ∧ tr_P o.1 o.2 (va_up t p v) := by
  obtain ⟨pl2, e2, hs⟩ := setPlace_nb (pl := pl) (v := v + 1) h1 h2 (by omega)
  have hs2 : ∀ q, q < 512 → nb_N pl2 q = if q = p then (if v = 8 then 0 else v + 1) else nb_N pl q := fun q hq => by rw [hs q hq, if_neg (show ¬ v = 8 by omega)]
  have hc := ct_up t v h1 h2
  rw [if_pos (show v ≠ 8 by omega)] at hc
  unfold pf_X3_put
  rw [isPrefix_y h1 h2, Option.bind_some, if_neg (show ¬ (1 : Int32) = 0 by decide), isHop_y hv, Option.bind_some, if_neg (show ¬ (1 : Int32) = 0 by decide), hopAt_t h h1 h2, Option.bind_some, nI_1 v, e2]
  by_cases e : t p = 8
  · rw [if_pos ((hv_m4 (h.1 p h1 h2).1).mpr e), Option.bind_some]
    rw [if_neg (show ¬ t p ≠ 8 from fun q => q e)] at hc
    refine ⟨_, rfl, tr_set h (by omega) hs2 ?_⟩
    show sz + 1 = _
    rw [h.2, nI_1]
    exact congrArg nI (by omega)
  · rw [if_neg (fun q => e ((hv_m4 (h.1 p h1 h2).1).mp q)), Option.bind_some]
    rw [if_pos e] at hc
    refine ⟨_, rfl, tr_set h (by omega) hs2 ?_⟩
    show sz + 0 = _
    rw [h.2, show (0 : Int32) = nI 0 from rfl, nI_add]
    exact congrArg nI (by omega)
theorem takeOut_t {pl : Nat → Int64} {sz : Int32} {t : Nat → Nat} (h : tr_P pl sz t) {p : Nat} (h1 : 1 ≤ p) (h2 : p < 512) (hp : t p ≠ 8) : ∃ o, pf_X3_takeOut pl sz (nI p) = some o ∧ tr_P o.1 o.2 (va_up t p 8) := by
  obtain ⟨pl2, e2, hs⟩ := setPlace_nb (pl := pl) (v := 0) h1 h2 (by omega)
  have hs2 : ∀ q, q < 512 → nb_N pl2 q = if q = p then (if 8 = 8 then 0 else 8 + 1) else nb_N pl q := hs
  have hc := ct_up t 8 h1 h2
  rw [if_neg (show ¬ (8 : Nat) ≠ 8 from fun q => q rfl), if_pos hp] at hc
  unfold pf_X3_takeOut
  rw [hopAt_t h h1 h2, Option.bind_some, if_neg (fun q => hp ((hv_m4 (h.1 p h1 h2).1).mp q)), show (0 : Int32) = nI 0 from rfl, e2, Option.bind_some]
  refine ⟨_, rfl, tr_set h (by omega) hs2 ?_⟩
  show sz - 1 = _
  rw [h.2, show (1 : Int32) = nI 1 from rfl, pk_sub (by omega)]
  exact congrArg nI (by omega)
theorem fill_lp (x1 : Int64) {N : Nat} (hN : N < 2 ^ 31) : ∀ (d i n : Nat) (f : Nat → Int64), i + d = N → d < n → ∃ g, lp_J7_fill_d0a16_6 N x1 (nI N) n f (nI i) = some g ∧ (∀ j, j < N → i ≤ j → g j = x1) ∧ (∀ j, j < i → g j = f j) := by
  intro d
  induction d with
  | zero =>
    intro i n f hi hn
    obtain ⟨n, rfl⟩ : ∃ k, n = k + 1 := ⟨n - 1, by omega⟩
    rw [lp_J7_fill_d0a16_6, if_pos (nI_le (by omega) (by omega))]
    exact ⟨f, rfl, fun j h1 h2 => by omega, fun _ _ => rfl⟩
  | succ d ih =>
    intro i n f hi hn
    obtain ⟨n, rfl⟩ : ∃ k, n = k + 1 := ⟨n - 1, by omega⟩
    rw [lp_J7_fill_d0a16_6, if_neg (nI_ge (by omega) (by omega)), in_bn (by omega) hN, nI_clamp (by omega), nI_1]
    obtain ⟨g, e, g1, g2⟩ := ih (i + 1) n (vp_updL f i x1) (by omega) (by omega)
    refine ⟨g, e, fun j h1 h2 => ?_, fun j hj => ?_⟩
    · by_cases hji : j = i
      · rw [hji, g2 i (by omega)]; exact pk_uLs
      · exact g1 j h1 (by omega)
    · rw [g2 j (by omega)]; exact pk_uLn (by omega)
theorem makeEmpty_t (pl : Nat → Int64) (sz : Int32) : ∃ o, pf_X3_makeEmpty pl sz = some o ∧ tr_P o.1 o.2 (fun _ => 8) := by
  obtain ⟨g, e, g1, -⟩ := fill_lp 0 (N := 32) (by decide) 32 0 fu_N pl (by omega) (by decide)
  have e : pf_J7_fill_d0a16 pl 32 0 = some g := e
  unfold pf_X3_makeEmpty
  rw [e, Option.bind_some]
  refine ⟨_, rfl, fun p h1 h2 => ⟨Nat.le_refl 8, ?_⟩, ?_⟩
  · show nb_N g p = 0
    unfold nb_N
    rw [g1 (p / 16) (by omega) (by omega), show uN 0 = 0 from rfl, Nat.zero_div]
  · show (0 : Int32) = nI (ct_N fun _ => 8)
    have : ct_N (fun _ => 8) = 0 := fb_ct_zero.mpr (fun k _ => by simp)
    rw [this]; rfl
theorem takeFrom_t {pl pl2 : Nat → Int64} {sz sz2 : Int32} {t : Nat → Nat} (h : tr_P pl2 sz2 t) : ∃ o, pf_X3_takeFrom pl sz pl2 sz2 = some o ∧ tr_P o.1 o.2 t := by
  refine ⟨_, rfl, fun p h1 h2 => ?_, h.2⟩
  obtain ⟨a, b⟩ := h.1 p h1 h2
  refine ⟨a, ?_⟩
  rw [← b]
  unfold nb_N
  show (uN (va_cpy pl2 pl 0 0 32 (p / 16)) / _) % 16 = _
  rw [pk_cpy_in (by omega) (by omega), Nat.zero_add, Nat.sub_zero]
/-- the decider, by halves -/
def dc_N (t : Nat → Nat) : Nat → Nat → Nat
  | 0, _ => 0
  | n + 1, p => if p = 0 then 0 else if t p = 8 then dc_N t n (p / 2) else p
def hf_N (t : Nat → Nat) (n p : Nat) : Nat := if dc_N t n p = 0 then 0 else t (dc_N t n p)
def hd_N (t : Nat → Nat) (p : Nat) : Nat := hf_N t 9 p
def en_I (p : Nat) : Int32 := if p = 0 then (-4) else nI p
theorem dc_0 (t : Nat → Nat) : ∀ n, dc_N t n 0 = 0
  | 0 => rfl
  | _ + 1 => if_pos rfl
theorem dc_more (t : Nat → Nat) : ∀ (n m p : Nat), p < 2 ^ n → n ≤ m → dc_N t m p = dc_N t n p := by
  intro n
  induction n with
  | zero =>
    intro m p hp _
    obtain rfl : p = 0 := by omega
    rw [dc_0, dc_0]
  | succ n ih =>
    intro m p hp hm
    obtain ⟨m, rfl⟩ : ∃ k, m = k + 1 := ⟨m - 1, by omega⟩
    rw [dc_N, dc_N]
    have : p / 2 < 2 ^ n := by rw [Nat.pow_succ] at hp; omega
    rw [ih m (p / 2) this (by omega)]
theorem dc_le (t : Nat → Nat) : ∀ (n p : Nat), dc_N t n p ≤ p ∧ (dc_N t n p ≠ 0 → t (dc_N t n p) ≠ 8) := by
  intro n
  induction n with
  | zero => intro p; exact ⟨Nat.zero_le _, fun h => absurd rfl h⟩
  | succ n ih =>
    intro p
    rw [dc_N]
    by_cases h0 : p = 0
    · rw [if_pos h0]; exact ⟨Nat.zero_le _, fun h => absurd rfl h⟩
    · rw [if_neg h0]
      by_cases h8 : t p = 8
      · rw [if_pos h8]
        have := ih (p / 2)
        exact ⟨by omega, this.2⟩
      · rw [if_neg h8]; exact ⟨Nat.le_refl _, fun _ => h8⟩
theorem hd_0 (t : Nat → Nat) : hd_N t 0 = 0 := by unfold hd_N hf_N; rw [dc_0, if_pos rfl]
theorem hd_rec (t : Nat → Nat) {p : Nat} (h1 : 1 ≤ p) (h2 : p < 512) : hd_N t p = if t p = 8 then hd_N t (p / 2) else t p := by
  unfold hd_N hf_N
  have e : dc_N t 9 p = if t p = 8 then dc_N t 9 (p / 2) else p := by
    rw [dc_N, if_neg (by omega), dc_more t 8 9 (p / 2) (by omega) (by omega)]
  rw [e]
  by_cases h8 : t p = 8
  · rw [if_pos h8, if_pos h8]
  · rw [if_neg h8, if_neg h8, if_neg (by omega)]
/-- hops are below 8 -/
def ok_T (t : Nat → Nat) : Prop := ∀ p, 1 ≤ p → p < 512 → t p ≤ 8
theorem hd_lt {t : Nat → Nat} (h : ok_T t) {p : Nat} (h2 : p < 512) : hd_N t p < 8 := by
  unfold hd_N hf_N
  have := dc_le t 9 p
  by_cases e : dc_N t 9 p = 0
  · rw [if_pos e]; omega
  · rw [if_neg e]
    have h3 := h _ (by omega) (show dc_N t 9 p < 512 by omega)
    have h4 := this.2 e
    omega
theorem tr_ok {pl : Nat → Int64} {sz : Int32} {t : Nat → Nat} (h : tr_P pl sz t) : ok_T t := fun p h1 h2 => (h.1 p h1 h2).1
theorem dec_lp {pl : Nat → Int64} {sz : Int32} {t : Nat → Nat} (h : tr_P pl sz t) {a : Nat} (ha : a < 256) : ∀ (d c n : Nat), c + d = 9 → d < n → lp_X3_deciderOf_2 pl (nI a) n (nI c) = some (en_I (dc_N t d ((256 + a) / 2 ^ c))) := by
  intro d
  induction d with
  | zero =>
    intro c n hc hn
    obtain ⟨n, rfl⟩ : ∃ k, n = k + 1 := ⟨n - 1, by omega⟩
    obtain rfl : c = 9 := by omega
    rw [lp_X3_deciderOf_2, if_pos (show 8 < nI 9 by decide)]
    rfl
  | succ d ih =>
    intro c n hc hn
    obtain ⟨n, rfl⟩ : ∃ k, n = k + 1 := ⟨n - 1, by omega⟩
    have hp1 : 1 ≤ (256 + a) / 2 ^ c := by
      have h3 : 2 ^ c ≤ 2 ^ 8 := Nat.pow_le_pow_right (by decide) (by omega)
      exact (Nat.one_le_div_iff (Nat.two_pow_pos c)).mpr (by omega)
    have hp2 : (256 + a) / 2 ^ c < 512 := Nat.lt_of_le_of_lt (Nat.div_le_self _ _) (by omega)
    rw [lp_X3_deciderOf_2, if_neg (show ¬ 8 < nI c from nI_nlt (a := 8) (by omega) (by decide)), show (256 : Int32) = nI 256 from rfl, nI_add, sh_r (by omega) (by omega), nI_1]
    show (pf_X3_hopAt pl (nI ((256 + a) / 2 ^ c))).bind _ = _
    rw [hopAt_t h hp1 hp2, Option.bind_some, dc_N, if_neg (show ¬ (256 + a) / 2 ^ c = 0 by omega)]
    by_cases e : t ((256 + a) / 2 ^ c) = 8
    · rw [if_pos ((hv_m4 (h.1 _ hp1 hp2).1).mpr e), if_pos e, ih (c + 1) n (by omega) (by omega), Nat.div_div_eq_div_mul, Nat.pow_succ]
    · rw [if_neg (fun q => e ((hv_m4 (h.1 _ hp1 hp2).1).mp q)), if_neg e]
      unfold en_I
      rw [if_neg (by omega)]
theorem decider_t {pl : Nat → Int64} {sz : Int32} {t : Nat → Nat} (h : tr_P pl sz t) {a : Nat} (ha : a < 256) : pf_X3_deciderOf pl (nI a) = some (en_I (dc_N t 9 (256 + a))) := by
  have := dec_lp h ha 9 0 fu_N (by omega) (by decide)
  rw [Nat.pow_zero, Nat.div_one] at this
  exact this
theorem en_m4 {p : Nat} (h : p < 2 ^ 31) : en_I p = (-4) ↔ p = 0 := by
  unfold en_I
  by_cases e : p = 0
  · rw [if_pos e]; exact ⟨fun _ => e, fun _ => rfl⟩
  · rw [if_neg e]; exact ⟨fun q => absurd q (nI_m4 h), fun q => absurd q e⟩
theorem en_in {p : Nat} (h : ¬ p = 0) : en_I p = nI p := if_neg h
theorem hopAddr_t {pl : Nat → Int64} {sz : Int32} {t : Nat → Nat} (h : tr_P pl sz t) {a : Nat} (ha : a < 256) : pf_X3_hopOfAddress pl (nI a) = some (nI (hd_N t (256 + a))) := by
  have hle := dc_le t 9 (256 + a)
  unfold pf_X3_hopOfAddress hd_N hf_N
  rw [decider_t h ha, Option.bind_some]
  by_cases e : dc_N t 9 (256 + a) = 0
  · rw [if_pos ((en_m4 (by omega)).mpr e), if_pos e]; rfl
  · rw [if_neg (fun q => e ((en_m4 (by omega)).mp q)), if_neg e, en_in e, hopAt_t h (by omega) (by omega), Option.bind_some, hv_in (hle.2 e)]
theorem above_lp {pl : Nat → Int64} {sz : Int32} {t : Nat → Nat} (h : tr_P pl sz t) {p : Nat} (hp : p < 512) : ∀ (d c n : Nat), c + d = 9 → d < n → lp_X3_hopFromAbove_2 pl (nI p) n (nI c) = some (nI (hf_N t d (p / 2 ^ c))) := by
  intro d
  induction d with
  | zero =>
    intro c n hc hn
    obtain ⟨n, rfl⟩ : ∃ k, n = k + 1 := ⟨n - 1, by omega⟩
    obtain rfl : c = 9 := by omega
    rw [lp_X3_hopFromAbove_2, if_pos (show 8 < nI 9 by decide)]
    rfl
  | succ d ih =>
    intro c n hc hn
    obtain ⟨n, rfl⟩ : ∃ k, n = k + 1 := ⟨n - 1, by omega⟩
    have hp2 : p / 2 ^ c < 512 := Nat.lt_of_le_of_lt (Nat.div_le_self _ _) hp
    have hdd : p / 2 ^ (c + 1) = p / 2 ^ c / 2 := by rw [Nat.div_div_eq_div_mul, Nat.pow_succ]
    rw [lp_X3_hopFromAbove_2, if_neg (show ¬ 8 < nI c from nI_nlt (a := 8) (by omega) (by decide)), sh_r (by omega) (by omega), nI_1]
    by_cases h0 : p / 2 ^ c = 0
    · rw [h0, hopAt_lo (by decide), Option.bind_some, if_pos rfl, ih (c + 1) n (by omega) (by omega), hdd, h0]
      unfold hf_N
      rw [dc_0, dc_0]
    · rw [hopAt_t h (Nat.pos_of_ne_zero h0) hp2, Option.bind_some]
      have e9 : hf_N t (d + 1) (p / 2 ^ c) = if t (p / 2 ^ c) = 8 then hf_N t d (p / 2 ^ c / 2) else t (p / 2 ^ c) := by
        unfold hf_N
        rw [dc_N, if_neg h0]
        by_cases e : t (p / 2 ^ c) = 8
        · rw [if_pos e, if_pos e]
        · rw [if_neg e, if_neg e, if_neg h0]
      rw [e9]
      by_cases e : t (p / 2 ^ c) = 8
      · rw [if_pos ((hv_m4 (h.1 _ (Nat.pos_of_ne_zero h0) hp2).1).mpr e), if_pos e, ih (c + 1) n (by omega) (by omega), hdd]
      · rw [if_neg (fun q => e ((hv_m4 (h.1 _ (Nat.pos_of_ne_zero h0) hp2).1).mp q)), if_neg e, hv_in e]
theorem above_t {pl : Nat → Int64} {sz : Int32} {t : Nat → Nat} (h : tr_P pl sz t) {p : Nat} (hp : p < 512) : pf_X3_hopFromAbove pl (nI p) = some (nI (hd_N t (p / 2))) := by
  have := above_lp h hp 8 1 fu_N (by omega) (by decide)
  have e : hf_N t 8 (p / 2 ^ 1) = hd_N t (p / 2) := by
    unfold hd_N hf_N
    rw [Nat.pow_one, dc_more t 8 9 (p / 2) (by omega) (by omega)]
  rw [e] at this
  exact this
