/-! what follows from a table: sets of hops, the best ones, the least table -/
def lv_N (p : Nat) : Nat := 8 - Nat.log2 p
theorem lv_hi : ∀ p, p < 512 → 256 ≤ p → lv_N p = 0 := by decide +kernel
theorem lv_lo : ∀ p, p < 256 → 1 ≤ p → lv_N p = lv_N (2 * p) + 1 ∧ lv_N (2 * p + 1) = lv_N (2 * p) := by decide +kernel
theorem lv_le (p : Nat) : lv_N p ≤ 8 := Nat.sub_le _ _
def hs_N (t : Nat → Nat) : Nat → Nat → Nat
  | 0, p => 2 ^ hd_N t p
  | l + 1, p => hs_N t l (2 * p) ||| hs_N t l (2 * p + 1)
def hS_N (t : Nat → Nat) (p : Nat) : Nat := hs_N t (lv_N p) p
theorem hS_hi (t : Nat → Nat) {p : Nat} (h1 : 256 ≤ p) (h2 : p < 512) : hS_N t p = 2 ^ hd_N t p := by unfold hS_N; rw [lv_hi p h2 h1]; rfl
theorem hS_lo (t : Nat → Nat) {p : Nat} (h1 : 1 ≤ p) (h2 : p < 256) : hS_N t p = hS_N t (2 * p) ||| hS_N t (2 * p + 1) := by
  unfold hS_N
  rw [(lv_lo p h2 h1).1, (lv_lo p h2 h1).2]
  rfl
/-- from all prefixes of eight bits up to the top -/
theorem up_ind {P : Nat → Prop} (hi : ∀ p, 256 ≤ p → p < 512 → P p) (lo : ∀ p, 1 ≤ p → p < 256 → P (2 * p) → P (2 * p + 1) → P p) : ∀ p, 1 ≤ p → p < 512 → P p := by
  have : ∀ d p, 1 ≤ p → p < 512 → 512 ≤ p + d → P p := by
    intro d
    induction d with
    | zero => intro p _ h2 h3; omega
    | succ d ih =>
      intro p h1 h2 h3
      by_cases h : 256 ≤ p
      · exact hi p h h2
      · exact lo p h1 (by omega) (ih (2 * p) (by omega) (by omega) (by omega)) (ih (2 * p + 1) (by omega) (by omega) (by omega))
  intro p h1 h2
  exact this 512 p h1 h2 (by omega)
theorem p2_lt {v : Nat} (h : v < 8) : 2 ^ v < 256 := Nat.lt_of_lt_of_le (Nat.pow_lt_pow_right (by decide) h) (Nat.le_refl _)
theorem hS_b {t : Nat → Nat} (ok : ok_T t) : ∀ p, 1 ≤ p → p < 512 → hS_N t p < 256 ∧ hS_N t p ≠ 0 := by
  refine up_ind (fun p h1 h2 => ?_) (fun p h1 h2 a b => ?_)
  · rw [hS_hi t h1 h2]
    exact ⟨p2_lt (hd_lt ok h2), Nat.pos_iff_ne_zero.mp (Nat.two_pow_pos _)⟩
  · rw [hS_lo t h1 h2]
    refine ⟨Nat.or_lt_two_pow (n := 8) a.1 b.1, fun h => a.2 ?_⟩
    exact (Nat.or_eq_zero_iff.mp h).1
theorem one_sh {v : Nat} (h : v < 8) : (1 : Int32) <<< (nI v &&& 31) = nI (2 ^ v) := by
  have := sh_l (x := 1) (c := v) (by omega) (by have := p2_lt h; omega)
  rw [Nat.one_mul] at this
  exact this
theorem two_p (p : Nat) : (2 : Int32) * nI p = nI (2 * p) := pk_mul 2 p
theorem spread2 {t : Nat → Nat} : ∀ (p n : Nat) (f : Nat → Int32), p ≤ 255 → p < n → (∀ q, p < q → q < 512 → f q = nI (hS_N t q)) → ∃ g, lp_X5_spread_59 512 n f (nI p) = some g ∧ ∀ q, 1 ≤ q → q < 512 → g q = nI (hS_N t q) := by
  intro p
  induction p with
  | zero =>
    intro n f _ hn hf
    obtain ⟨n, rfl⟩ : ∃ k, n = k + 1 := ⟨n - 1, by omega⟩
    rw [lp_X5_spread_59, if_pos (show nI 0 < 1 by decide)]
    exact ⟨f, rfl, fun q q1 q2 => hf q (by omega) q2⟩
  | succ p ih =>
    intro n f hp hn hf
    obtain ⟨n, rfl⟩ : ∃ k, n = k + 1 := ⟨n - 1, by omega⟩
    rw [lp_X5_spread_59, if_neg (show ¬ nI (p + 1) < 1 from nI_nlt (b := 1) (by omega) (by omega)), two_p, nI_1, in_bn (by omega) (by decide), in_bn (by omega) (by decide), in_bn (by omega) (by decide), nI_clamp (by omega), nI_clamp (by omega), nI_clamp (by omega), pk_m1]
    show ∃ g, lp_X5_spread_59 512 n _ (nI p) = some g ∧ _
    rw [hf (2 * (p + 1)) (by omega) (by omega), hf (2 * (p + 1) + 1) (by omega) (by omega), fa_or, ← hS_lo t (by omega) (by omega)]
    refine ih n _ (by omega) (by omega) (fun q q1 q2 => ?_)
    by_cases e : q = p + 1
    · rw [e]; exact pk_us
    · rw [pk_un e]; exact hf q (by omega) q2
theorem spread1 {pl : Nat → Int64} {sz : Int32} {t : Nat → Nat} (h : tr_P pl sz t) : ∀ (d p n : Nat) (f : Nat → Int32), p + d = 512 → 2 ≤ p → d < n → (∀ q, 1 ≤ q → q < p → f q = nI (2 ^ hd_N t q)) → ∃ g, lp_X5_spread_16 512 pl n f (nI p) = some g ∧ ∀ q, 1 ≤ q → q < 512 → g q = nI (hS_N t q) := by
  intro d
  induction d with
  | zero =>
    intro p n f hp h2 hn hf
    obtain ⟨n, rfl⟩ : ∃ k, n = k + 1 := ⟨n - 1, by omega⟩
    obtain rfl : p = 512 := by omega
    rw [lp_X5_spread_16, if_pos (show 512 ≤ nI 512 by decide)]
    refine spread2 255 fu_N f (by omega) (by decide) (fun q q1 q2 => ?_)
    rw [hf q (by omega) q2, hS_hi t (by omega) q2]
  | succ d ih =>
    intro p n f hp h2 hn hf
    obtain ⟨n, rfl⟩ : ∃ k, n = k + 1 := ⟨n - 1, by omega⟩
    have hr := hd_rec t (show 1 ≤ p by omega) (show p < 512 by omega)
    have sh1 : nI p >>> ((1 : Int32) &&& 31) = nI (p / 2) := sh_r (x := p) (c := 1) (by omega) (by decide)
    rw [lp_X5_spread_16, if_neg (show ¬ 512 ≤ nI p from nI_ge (b := 512) (by omega) (by decide)), hopAt_t h (by omega) (by omega), Option.bind_some, sh1, nI_1, in_bn (i := p / 2) (by omega) (by decide), in_bn (i := p) (by omega) (by decide), nI_clamp (n := p) (by omega), nI_clamp (n := p / 2) (by omega)]
    by_cases e : t p = 8
    · rw [if_pos ((hv_m4 (h.1 p (by omega) (by omega)).1).mpr e)]
      show ∃ g, lp_X5_spread_16 512 pl n _ (nI (p + 1)) = some g ∧ _
      refine ih (p + 1) n _ (by omega) (by omega) (by omega) (fun q q1 q2 => ?_)
      by_cases eq : q = p
      · rw [eq, pk_us, hf (p / 2) (by omega) (by omega), hr, if_pos e]
      · rw [pk_un eq]; exact hf q q1 (by omega)
    · rw [if_neg (fun q => e ((hv_m4 (h.1 p (by omega) (by omega)).1).mp q)), hv_in e, one_sh (by have := (h.1 p (by omega) (by omega)).1; omega)]
      show ∃ g, lp_X5_spread_16 512 pl n _ (nI (p + 1)) = some g ∧ _
      refine ih (p + 1) n _ (by omega) (by omega) (by omega) (fun q q1 q2 => ?_)
      by_cases eq : q = p
      · rw [eq, pk_us, hr, if_neg e]
      · rw [pk_un eq]; exact hf q q1 (by omega)
theorem spread_t {pl : Nat → Int64} {sz : Int32} {t : Nat → Nat} (h : tr_P pl sz t) (f : Nat → Int32) : ∃ g, pf_X5_spread pl f 512 = some g ∧ ∀ q, 1 ≤ q → q < 512 → g q = nI (hS_N t q) := by
  have h8 := (h.1 1 (by omega) (by omega)).1
  have hr := hd_rec t (show 1 ≤ 1 by omega) (show 1 < 512 by omega)
  rw [show 1 / 2 = 0 from rfl, hd_0] at hr
  have e1 : (1 : Int32) <<< ((if hv_I (t 1) < 0 then 0 else hv_I (t 1)) &&& 31) = nI (2 ^ hd_N t 1) := by
    rw [hr]
    by_cases e : t 1 = 8
    · rw [if_pos e, e]; decide
    · rw [if_neg e, hv_in e, if_neg (nI_pos (by omega)), one_sh (by omega)]
  unfold pf_X5_spread
  rw [show pf_X3_hopAt pl 1 = some (hv_I (t 1)) from hopAt_t h (p := 1) (by omega) (by omega), Option.bind_some, show in_b 1 512 = true from by decide, ck_t, e1, show (2 : Int32) = nI 2 from rfl]
  refine spread1 h 510 2 fu_N _ (by omega) (by omega) (by decide) (fun q q1 q2 => ?_)
  obtain rfl : q = 1 := by omega
  exact pk_us
/-- the best hops (bits), and their cost -/
def be_N (t : Nat → Nat) : Nat → Nat → Nat × Nat
  | 0, p => (2 ^ hd_N t p, 0)
  | l + 1, p => if (be_N t l (2 * p)).1 &&& (be_N t l (2 * p + 1)).1 = 0 then ((be_N t l (2 * p)).1 ||| (be_N t l (2 * p + 1)).1, (be_N t l (2 * p)).2 + (be_N t l (2 * p + 1)).2 + 1) else ((be_N t l (2 * p)).1 &&& (be_N t l (2 * p + 1)).1, (be_N t l (2 * p)).2 + (be_N t l (2 * p + 1)).2)
def bs_N (t : Nat → Nat) (p : Nat) : Nat := (be_N t (lv_N p) p).1
def es_N (t : Nat → Nat) (p : Nat) : Nat := (be_N t (lv_N p) p).2
theorem bs_hi (t : Nat → Nat) {p : Nat} (h1 : 256 ≤ p) (h2 : p < 512) : bs_N t p = 2 ^ hd_N t p ∧ es_N t p = 0 := by unfold bs_N es_N; rw [lv_hi p h2 h1]; exact ⟨rfl, rfl⟩
theorem bs_lo (t : Nat → Nat) {p : Nat} (h1 : 1 ≤ p) (h2 : p < 256) : bs_N t p = (if bs_N t (2 * p) &&& bs_N t (2 * p + 1) = 0 then bs_N t (2 * p) ||| bs_N t (2 * p + 1) else bs_N t (2 * p) &&& bs_N t (2 * p + 1)) ∧ es_N t p = es_N t (2 * p) + es_N t (2 * p + 1) + (if bs_N t (2 * p) &&& bs_N t (2 * p + 1) = 0 then 1 else 0) := by
  unfold bs_N es_N
  rw [(lv_lo p h2 h1).1, (lv_lo p h2 h1).2, be_N]
  split <;> exact ⟨rfl, rfl⟩
theorem bs_b {t : Nat → Nat} (ok : ok_T t) : ∀ p, 1 ≤ p → p < 512 → bs_N t p < 256 ∧ bs_N t p ≠ 0 := by
  refine up_ind (fun p h1 h2 => ?_) (fun p h1 h2 a b => ?_)
  · rw [(bs_hi t h1 h2).1]
    exact ⟨p2_lt (hd_lt ok h2), Nat.pos_iff_ne_zero.mp (Nat.two_pow_pos _)⟩
  · rw [(bs_lo t h1 h2).1]
    by_cases e : bs_N t (2 * p) &&& bs_N t (2 * p + 1) = 0
    · rw [if_pos e]
      exact ⟨Nat.or_lt_two_pow (n := 8) a.1 b.1, fun h => a.2 (Nat.or_eq_zero_iff.mp h).1⟩
    · rw [if_neg e]
      exact ⟨Nat.lt_of_le_of_lt Nat.and_le_left a.1, e⟩
theorem es_b (t : Nat → Nat) : ∀ p, 1 ≤ p → p < 512 → es_N t p + 1 ≤ 2 ^ lv_N p := by
  refine up_ind (fun p h1 h2 => ?_) (fun p h1 h2 a b => ?_)
  · rw [(bs_hi t h1 h2).2, lv_hi p h2 h1]; decide
  · rw [(bs_lo t h1 h2).2, (lv_lo p h2 h1).1, Nat.pow_succ]
    rw [(lv_lo p h2 h1).2] at b
    split <;> omega
theorem es_lt (t : Nat → Nat) {p : Nat} (h1 : 1 ≤ p) (h2 : p < 512) : es_N t p < 256 := by
  have h := es_b t p h1 h2
  have : 2 ^ lv_N p ≤ 2 ^ 8 := Nat.pow_le_pow_right (by decide) (lv_le p)
  omega
theorem fb2 {t : Nat → Nat} (ok : ok_T t) : ∀ (p n : Nat) (f g : Nat → Int32), p ≤ 255 → p < n → (∀ q, p < q → q < 512 → f q = nI (bs_N t q) ∧ g q = nI (es_N t q)) → ∃ o, lp_X5_findBest_40 n f g (nI p) = some o ∧ ∀ q, 1 ≤ q → q < 512 → o.1 q = nI (bs_N t q) ∧ o.2 q = nI (es_N t q) := by
  intro p
  induction p with
  | zero =>
    intro n f g _ hn hf
    obtain ⟨n, rfl⟩ : ∃ k, n = k + 1 := ⟨n - 1, by omega⟩
    rw [lp_X5_findBest_40, if_pos (show nI 0 < 1 by decide)]
    exact ⟨(f, g), rfl, fun q q1 q2 => hf q (by omega) q2⟩
  | succ p ih =>
    intro n f g hp hn hf
    obtain ⟨n, rfl⟩ : ∃ k, n = k + 1 := ⟨n - 1, by omega⟩
    obtain ⟨a1, a2⟩ := hf (2 * (p + 1)) (by omega) (by omega)
    obtain ⟨b1, b2⟩ := hf (2 * (p + 1) + 1) (by omega) (by omega)
    have hb := bs_lo t (show 1 ≤ p + 1 by omega) (show p + 1 < 256 by omega)
    have hA := (bs_b ok (2 * (p + 1)) (by omega) (by omega)).1
    have fin : ∀ (x z : Int32), x = nI (bs_N t (p + 1)) → z = nI (es_N t (p + 1)) → ∃ o, lp_X5_findBest_40 n (upd f (p + 1) x) (upd g (p + 1) z) (nI p) = some o ∧ ∀ q, 1 ≤ q → q < 512 → o.1 q = nI (bs_N t q) ∧ o.2 q = nI (es_N t q) := by
      intro x z hx hz
      refine ih n _ _ (by omega) (by omega) (fun q q1 q2 => ?_)
      by_cases e : q = p + 1
      · rw [e, pk_us, pk_us]; exact ⟨hx, hz⟩
      · rw [pk_un e, pk_un e]; exact hf q (by omega) q2
    rw [lp_X5_findBest_40, if_neg (show ¬ nI (p + 1) < 1 from nI_nlt (b := 1) (by omega) (by omega)), two_p, nI_1, in_bn (i := 2 * (p + 1)) (by omega) (by decide), in_bn (i := 2 * (p + 1) + 1) (by omega) (by decide), nI_clamp (n := 2 * (p + 1)) (by omega), nI_clamp (n := 2 * (p + 1) + 1) (by omega), a1, b1, fa_and]
    simp only [ck_t, lt_b]
    by_cases e : bs_N t (2 * (p + 1)) &&& bs_N t (2 * (p + 1) + 1) = 0
    · rw [if_pos e, if_pos e] at hb
      rw [if_pos (show nI (bs_N t (2 * (p + 1)) &&& bs_N t (2 * (p + 1) + 1)) = 0 by rw [e]; rfl)]
      unfold lp_X5_findBest_97
      rw [two_p, nI_1, in_bn (i := p + 1) (by omega) (by decide), in_bn (i := 2 * (p + 1)) (by omega) (by decide), in_bn (i := 2 * (p + 1) + 1) (by omega) (by decide), nI_clamp (n := 2 * (p + 1)) (by omega), nI_clamp (n := 2 * (p + 1) + 1) (by omega), nI_clamp (n := p + 1) (by omega), e, a2, b2, fa_or, pk_m1]
      simp only [ck_t]
      rw [if_pos (show nI 0 = 0 from rfl)]
      refine fin _ _ (by rw [hb.1]) ?_
      rw [nI_add, nI_1, hb.2]
    · rw [if_neg e, if_neg e] at hb
      rw [if_neg (nI_ne0 (by omega) (by have := Nat.and_le_left (n := bs_N t (2 * (p + 1))) (m := bs_N t (2 * (p + 1) + 1)); omega))]
      unfold lp_X5_findBest_97
      rw [two_p, nI_1, in_bn (i := p + 1) (by omega) (by decide), in_bn (i := 2 * (p + 1)) (by omega) (by decide), in_bn (i := 2 * (p + 1) + 1) (by omega) (by decide), nI_clamp (n := 2 * (p + 1)) (by omega), nI_clamp (n := 2 * (p + 1) + 1) (by omega), nI_clamp (n := p + 1) (by omega), a2, b2, pk_m1]
      simp only [ck_t]
      rw [if_neg (nI_ne0 (by omega) (by have := Nat.and_le_left (n := bs_N t (2 * (p + 1))) (m := bs_N t (2 * (p + 1) + 1)); omega))]
      refine fin _ _ (by rw [hb.1]) ?_
      rw [show (0 : Int32) = nI 0 from rfl, nI_add, nI_add, hb.2]
theorem fb1 {t : Nat → Nat} (ok : ok_T t) {sent : Nat → Int32} (hs : ∀ q, 1 ≤ q → q < 512 → sent q = nI (hS_N t q)) : ∀ (d p n : Nat) (f g : Nat → Int32), p + d = 512 → 256 ≤ p → d < n → (∀ q, 256 ≤ q → q < p → f q = nI (bs_N t q) ∧ g q = nI (es_N t q)) → ∃ o, lp_X5_findBest_4 sent n f g (nI p) = some o ∧ ∀ q, 1 ≤ q → q < 512 → o.1 q = nI (bs_N t q) ∧ o.2 q = nI (es_N t q) := by
  intro d
  induction d with
  | zero =>
    intro p n f g hp h2 hn hf
    obtain ⟨n, rfl⟩ : ∃ k, n = k + 1 := ⟨n - 1, by omega⟩
    obtain rfl : p = 512 := by omega
    rw [lp_X5_findBest_4, if_pos (show 512 ≤ nI 512 by decide)]
    exact fb2 ok 255 fu_N f g (by omega) (by decide) (fun q q1 q2 => hf q (by omega) q2)
  | succ d ih =>
    intro p n f g hp h2 hn hf
    obtain ⟨n, rfl⟩ : ∃ k, n = k + 1 := ⟨n - 1, by omega⟩
    rw [lp_X5_findBest_4, if_neg (show ¬ 512 ≤ nI p from nI_ge (b := 512) (by omega) (by decide)), in_bn (i := p) (by omega) (by decide), nI_clamp (n := p) (by omega), nI_1]
    show ∃ o, lp_X5_findBest_4 sent n _ _ (nI (p + 1)) = some o ∧ _
    refine ih (p + 1) n _ _ (by omega) (by omega) (by omega) (fun q q1 q2 => ?_)
    by_cases e : q = p
    · rw [e, pk_us, pk_us, hs p (by omega) (by omega), hS_hi t h2 (by omega), (bs_hi t h2 (by omega)).1, (bs_hi t h2 (by omega)).2]
      exact ⟨rfl, rfl⟩
    · rw [pk_un e, pk_un e]; exact hf q q1 (by omega)
theorem findBest_t {t : Nat → Nat} (ok : ok_T t) {sent : Nat → Int32} (hs : ∀ q, 1 ≤ q → q < 512 → sent q = nI (hS_N t q)) (f g : Nat → Int32) : ∃ o, pf_X5_findBest sent f g = some o ∧ ∀ q, 1 ≤ q → q < 512 → o.1 q = nI (bs_N t q) ∧ o.2 q = nI (es_N t q) := fb1 ok hs 256 256 fu_N f g (by omega) (by omega) (by decide) (fun q q1 q2 => by omega)
/-- the lowest bit -/
def lo_N : Nat → Nat → Nat
  | 0, _ => 8
  | n + 1, b => if b % 2 = 1 then 0 else 1 + lo_N n (b / 2)
theorem lo_t : ∀ b, b < 256 → 1 ≤ b → pf_X6_lowestHop (nI b) = some (nI (lo_N 8 b)) := by decide +kernel
theorem lo_lt : ∀ b, b < 256 → 1 ≤ b → lo_N 8 b < 8 ∧ b.testBit (lo_N 8 b) = true ∧ ∀ i, i < lo_N 8 b → b.testBit i = false := by decide +kernel
/-- what goes on from a prefix -/
def co_N (t : Nat → Nat) : Nat → Nat → Nat
  | 0, _ => 0
  | n + 1, p => if p = 0 then 0 else if (bs_N t p).testBit (co_N t n (p / 2)) = true then co_N t n (p / 2) else lo_N 8 (bs_N t p)
def cu_N (t : Nat → Nat) (p : Nat) : Nat := co_N t 9 p
def le_N (t : Nat → Nat) (p : Nat) : Nat := if (bs_N t p).testBit (cu_N t (p / 2)) = true then 8 else lo_N 8 (bs_N t p)
theorem co_0 (t : Nat → Nat) : ∀ n, co_N t n 0 = 0
  | 0 => rfl
  | _ + 1 => if_pos rfl
theorem co_more (t : Nat → Nat) : ∀ (n m p : Nat), p < 2 ^ n → n ≤ m → co_N t m p = co_N t n p := by
  intro n
  induction n with
  | zero =>
    intro m p hp _
    obtain rfl : p = 0 := by omega
    rw [co_0, co_0]
  | succ n ih =>
    intro m p hp hm
    obtain ⟨m, rfl⟩ : ∃ k, m = k + 1 := ⟨m - 1, by omega⟩
    rw [co_N, co_N]
    have : p / 2 < 2 ^ n := by rw [Nat.pow_succ] at hp; omega
    rw [ih m (p / 2) this (by omega)]
theorem cu_0 (t : Nat → Nat) : cu_N t 0 = 0 := co_0 t 9
theorem cu_rec (t : Nat → Nat) {p : Nat} (h1 : 1 ≤ p) (h2 : p < 512) : cu_N t p = if (bs_N t p).testBit (cu_N t (p / 2)) = true then cu_N t (p / 2) else lo_N 8 (bs_N t p) := by
  unfold cu_N
  rw [co_N, if_neg (by omega), co_more t 8 9 (p / 2) (by omega) (by omega)]
theorem cu_lt {t : Nat → Nat} (ok : ok_T t) : ∀ p, p < 512 → cu_N t p < 8 := by
  intro p
  induction p using Nat.strongRecOn with
  | _ p ih =>
    intro h2
    by_cases h0 : p = 0
    · rw [h0, cu_0]; decide
    · rw [cu_rec t (by omega) h2]
      have hb := bs_b ok p (by omega) h2
      split
      · exact ih (p / 2) (by omega) (by omega)
      · exact (lo_lt _ hb.1 (by omega)).1
theorem le_le {t : Nat → Nat} (ok : ok_T t) {p : Nat} (h1 : 1 ≤ p) (h2 : p < 512) : le_N t p ≤ 8 := by
  unfold le_N
  have hb := bs_b ok p h1 h2
  split
  · exact Nat.le_refl 8
  · exact Nat.le_of_lt (lo_lt _ hb.1 (by omega)).1
theorem tr_cg {pl : Nat → Int64} {sz : Int32} {u v : Nat → Nat} (h : tr_P pl sz u) (e : ∀ q, 1 ≤ q → q < 512 → u q = v q) : tr_P pl sz v := by
  refine ⟨fun q q1 q2 => by rw [← e q q1 q2]; exact h.1 q q1 q2, ?_⟩
  rw [h.2, ct_cf, ct_cf]
  exact congrArg nI (cf_cg _ _ (fun q q1 q2 => by unfold in_T; rw [e q q1 (by omega)]))
theorem bit_t {b c : Nat} (hb : b < 2 ^ 31) (hc : c < 32) : pf_X5_hasBit (nI b) (nI c) = some (if b.testBit c = true then 1 else 0) := by
  unfold pf_X5_hasBit
  rw [sh_r hb hc, pk_andN (by have := Nat.div_le_self b (2 ^ c); omega) (m := 1) 1 (by decide)]
  have e : b.testBit c = decide (b / 2 ^ c % 2 = 1) := Nat.testBit_eq_decide_div_mod_eq
  rw [e]
  by_cases q : b / 2 ^ c % 2 = 1
  · rw [if_pos (by rw [show (2 : Nat) ^ 1 = 2 from rfl, q]; rfl), if_pos (by simp [q])]
  · have q0 : b / 2 ^ c % 2 = 0 := by omega
    rw [if_neg (by rw [show (2 : Nat) ^ 1 = 2 from rfl, q0]; decide), if_neg (by simp [q])]
theorem fl_lp {t : Nat → Nat} (ok : ok_T t) {best : Nat → Int32} (hb : ∀ q, 1 ≤ q → q < 512 → best q = nI (bs_N t q)) : ∀ (d p n : Nat) (f : Nat → Int32) (pl : Nat → Int64) (sz : Int32), p + d = 512 → 1 ≤ p → d < n → (∀ q, 1 ≤ q → q < p → f q = nI (cu_N t q)) → tr_P pl sz (fun q => if q < p then le_N t q else 8) → ∃ o, lp_X5_findLeast_9 best n f pl sz (nI p) = some o ∧ tr_P o.2.1 o.2.2 (le_N t) := by
  intro d
  induction d with
  | zero =>
    intro p n f pl sz hp h1 hn hf ht
    obtain ⟨n, rfl⟩ : ∃ k, n = k + 1 := ⟨n - 1, by omega⟩
    obtain rfl : p = 512 := by omega
    rw [lp_X5_findLeast_9, if_pos (show 512 ≤ nI 512 by decide)]
    exact ⟨_, rfl, tr_cg ht (fun q _ q2 => if_pos q2)⟩
  | succ d ih =>
    intro p n f pl sz hp h1 hn hf ht
    obtain ⟨n, rfl⟩ : ∃ k, n = k + 1 := ⟨n - 1, by omega⟩
    have hbb := bs_b ok p h1 (by omega)
    have hcl := cu_lt ok (p / 2) (by omega)
    have hlo := lo_lt _ hbb.1 (show 1 ≤ bs_N t p by omega)
    have main : ∃ o, lp_X5_findLeast_33 best f pl sz (nI p) (nI (cu_N t (p / 2))) (lp_X5_findLeast_9 best n) = some o ∧ tr_P o.2.1 o.2.2 (le_N t) := by
      unfold lp_X5_findLeast_33
      rw [in_bn (i := p) (by omega) (by decide), nI_clamp (n := p) (by omega), hb p h1 (by omega), bit_t (by omega) (by omega)]
      show ∃ o, (if (if (bs_N t p).testBit (cu_N t (p / 2)) = true then (1 : Int32) else 0) = 0 then _ else _) = some o ∧ _
      by_cases e : (bs_N t p).testBit (cu_N t (p / 2)) = true
      · rw [if_pos e, if_neg (show ¬ (1 : Int32) = 0 by decide), nI_1]
        show ∃ o, lp_X5_findLeast_9 best n _ pl sz (nI (p + 1)) = some o ∧ _
        refine ih (p + 1) n _ pl sz (by omega) (by omega) (by omega) (fun q q1 q2 => ?_) (tr_cg ht (fun q q1 q2 => ?_))
        · by_cases eq : q = p
          · rw [eq, pk_us, cu_rec t h1 (by omega), if_pos e]
          · rw [pk_un eq]; exact hf q q1 (by omega)
        · by_cases eq : q = p
          · rw [if_neg (by omega), if_pos (by omega), eq]; unfold le_N; rw [if_pos e]
          · by_cases hq : q < p
            · rw [if_pos hq, if_pos (by omega)]
            · rw [if_neg hq, if_neg (by omega)]
      · rw [if_neg e, if_pos rfl, lo_t _ hbb.1 (by omega)]
        simp only [ck_t, Option.bind_some, pk_us, nI_1]
        obtain ⟨w, e1, e2⟩ := put_t ht (v := lo_N 8 (bs_N t p)) h1 (by omega) hlo.1
        rw [e1, Option.bind_some]
        refine ih (p + 1) n _ w.1 w.2 (by omega) (by omega) (by omega) (fun q q1 q2 => ?_) (tr_cg e2 (fun q q1 q2 => ?_))
        · by_cases eq : q = p
          · rw [eq, pk_us, cu_rec t h1 (by omega), if_neg e]
          · rw [pk_un eq]; exact hf q q1 (by omega)
        · by_cases eq : q = p
          · rw [eq, va_up_self, if_pos (by omega)]; unfold le_N; rw [if_neg e]
          · rw [va_up_ne _ _ eq]
            by_cases hq : q < p
            · rw [if_pos hq, if_pos (by omega)]
            · rw [if_neg hq, if_neg (by omega)]
    rw [lp_X5_findLeast_9, if_neg (show ¬ 512 ≤ nI p from nI_ge (b := 512) (by omega) (by decide))]
    by_cases e1 : p = 1
    · rw [if_pos (by rw [e1]; rfl)]
      rw [show cu_N t (p / 2) = 0 by rw [e1]; exact cu_0 t] at main
      exact main
    · have sh1 : nI p >>> ((1 : Int32) &&& 31) = nI (p / 2) := sh_r (x := p) (c := 1) (by omega) (by decide)
      rw [if_neg (show ¬ nI p = 1 from fun q => e1 ((nI_eq (b := 1) (by omega) (by decide)).mp q)), sh1, in_bn (i := p / 2) (by omega) (by decide), nI_clamp (n := p / 2) (by omega), hf (p / 2) (by omega) (by omega)]
      exact main
theorem findLeast_t {t : Nat → Nat} (ok : ok_T t) {best : Nat → Int32} (hb : ∀ q, 1 ≤ q → q < 512 → best q = nI (bs_N t q)) (f : Nat → Int32) (pl : Nat → Int64) (sz : Int32) : ∃ o, pf_X5_findLeast best f pl sz = some o ∧ tr_P o.2.1 o.2.2 (le_N t) := by
  obtain ⟨w, e1, e2⟩ := makeEmpty_t pl sz
  unfold pf_X5_findLeast
  rw [e1, Option.bind_some]
  exact fl_lp ok hb 511 1 fu_N f w.1 w.2 (by omega) (by omega) (by decide) (fun q q1 q2 => by omega) (tr_cg e2 (fun q q1 _ => (if_neg (by omega)).symm))
/-- the view is that of t and t2 -/
def vw_P (sent sentI best ease : Nat → Int32) (vi_pl : Nat → Int64) (vi_sz : Int32) (vl_pl : Nat → Int64) (vl_sz : Int32) (t t2 : Nat → Nat) : Prop := (∀ q, 1 ≤ q → q < 512 → sent q = nI (hS_N t q)) ∧ (∀ q, 1 ≤ q → q < 512 → sentI q = nI (hS_N t2 q)) ∧ (∀ q, 1 ≤ q → q < 512 → best q = nI (bs_N t q) ∧ ease q = nI (es_N t q)) ∧ tr_P vi_pl vi_sz t2 ∧ tr_P vl_pl vl_sz (le_N t)
theorem make_t {t t2 : Nat → Nat} {pl pl2 : Nat → Int64} {sz sz2 : Int32} (h : tr_P pl sz t) (h2 : tr_P pl2 sz2 t2) (a b c d f : Nat → Int32) (vi : Nat → Int64) (vz : Int32) (vl : Nat → Int64) (lz : Int32) : ∃ o, pf_X5_make a b c d f vi vz vl lz pl pl2 sz2 = some o ∧ vw_P o.1 o.2.1 o.2.2.1 o.2.2.2.1 o.2.2.2.2.2.1 o.2.2.2.2.2.2.1 o.2.2.2.2.2.2.2.1 o.2.2.2.2.2.2.2.2 t t2 := by
  obtain ⟨w1, e1, f1⟩ := takeFrom_t (pl := vi) (sz := vz) h2
  obtain ⟨w2, e2, f2⟩ := spread_t h a
  obtain ⟨w3, e3, f3⟩ := spread_t f1 b
  obtain ⟨w4, e4, f4⟩ := findBest_t (tr_ok h) f2 c d
  obtain ⟨w5, e5, f5⟩ := findLeast_t (tr_ok h) (fun q q1 q2 => (f4 q q1 q2).1) f vl lz
  unfold pf_X5_make
  rw [e1, Option.bind_some, e2, Option.bind_some, e3, Option.bind_some, e4, Option.bind_some, e5, Option.bind_some]
  exact ⟨_, rfl, f2, f3, f4, f1, f5⟩
