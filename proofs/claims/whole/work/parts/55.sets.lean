/-! changes, unlike addresses, sets of hops, the proof: class and reference -/
theorem hv_inj {v w : Nat} (hv : v ≤ 8) (hw : w ≤ 8) : hv_I v = hv_I w ↔ v = w := by
  unfold hv_I
  by_cases e : v = 8 <;> by_cases f : w = 8
  · rw [if_pos e, if_pos f]; exact ⟨fun _ => by omega, fun _ => rfl⟩
  · rw [if_pos e, if_neg f]; exact ⟨fun q => absurd q.symm (nI_m4 (by omega)), fun q => by omega⟩
  · rw [if_neg e, if_pos f]; exact ⟨fun q => absurd q (nI_m4 (by omega)), fun q => by omega⟩
  · rw [if_neg e, if_neg f]; exact nI_eq (by omega) (by omega)
/-- what a change is -/
def kc_I (v u : Nat) : Int32 := if v = u then (-4) else if u = 8 then 0 else if v = 8 then 1 else 2
theorem kind_t {vi vl : Nat → Int64} {vz lz : Int32} {v u : Nat → Nat} (hi : tr_P vi vz v) (hl : tr_P vl lz u) {p : Nat} (h1 : 1 ≤ p) (h2 : p < 512) : pf_X5_kindOfChange vi vl (nI p) = some (kc_I (v p) (u p)) := by
  have o1 := (hi.1 p h1 h2).1
  have o2 := (hl.1 p h1 h2).1
  unfold pf_X5_kindOfChange kc_I
  rw [hopAt_t hi h1 h2, Option.bind_some, hopAt_t hl h1 h2, Option.bind_some]
  by_cases e : v p = u p
  · rw [if_pos ((hv_inj o1 o2).mpr e), if_pos e]
  · rw [if_neg (fun q => e ((hv_inj o1 o2).mp q)), if_neg e]
    by_cases e2 : u p = 8
    · rw [if_pos ((hv_m4 o2).mpr e2), if_pos e2]
    · rw [if_neg (fun q => e2 ((hv_m4 o2).mp q)), if_neg e2]
      by_cases e3 : v p = 8
      · rw [if_pos ((hv_m4 o1).mpr e3), if_pos e3]
      · rw [if_neg (fun q => e3 ((hv_m4 o1).mp q)), if_neg e3]
theorem kc_m4 (v u : Nat) : kc_I v u = (-4) ↔ v = u := by
  unfold kc_I
  by_cases e : v = u
  · rw [if_pos e]; exact ⟨fun _ => e, fun _ => rfl⟩
  · rw [if_neg e]
    refine ⟨fun q => ?_, fun q => absurd q e⟩
    exfalso
    revert q
    split
    · decide
    · split <;> decide
theorem cchg_lp {vi vl : Nat → Int64} {vz lz : Int32} {v u : Nat → Nat} (hi : tr_P vi vz v) (hl : tr_P vl lz u) : ∀ (d p n r : Nat), p + d = 512 → 1 ≤ p → d < n → lp_X5_countChanges_4 vi vl n (nI r) (nI p) = some (nI (r + cf_N (ch_B u v) d p)) := by
  intro d
  induction d with
  | zero =>
    intro p n r hp h1 hn
    obtain ⟨n, rfl⟩ : ∃ k, n = k + 1 := ⟨n - 1, by omega⟩
    obtain rfl : p = 512 := by omega
    rw [lp_X5_countChanges_4, if_pos (show 512 ≤ nI 512 by decide)]
    rfl
  | succ d ih =>
    intro p n r hp h1 hn
    obtain ⟨n, rfl⟩ : ∃ k, n = k + 1 := ⟨n - 1, by omega⟩
    rw [lp_X5_countChanges_4, if_neg (show ¬ 512 ≤ nI p from nI_ge (b := 512) (by omega) (by decide)), kind_t hi hl h1 (by omega), Option.bind_some, nI_1, nI_1, cf_N]
    unfold ch_B
    by_cases e : v p = u p
    · rw [if_pos ((kc_m4 _ _).mpr e), if_neg (show ¬ decide (u p ≠ v p) = true by simp [e]), ih (p + 1) n r (by omega) (by omega) (by omega), Nat.zero_add]
      rfl
    · rw [if_neg (fun q => e ((kc_m4 _ _).mp q)), if_pos (show decide (u p ≠ v p) = true from decide_eq_true (fun q => e q.symm)), ih (p + 1) n (r + 1) (by omega) (by omega) (by omega), Nat.add_assoc]
      rfl
theorem cchg_t {vi vl : Nat → Int64} {vz lz : Int32} {v u : Nat → Nat} (hi : tr_P vi vz v) (hl : tr_P vl lz u) : pf_X5_countChanges vi vl = some (nI (cf_N (ch_B u v) 511 1)) := by
  have := cchg_lp hi hl 511 1 fu_N 0 (by omega) (by omega) (by decide)
  rw [Nat.zero_add] at this
  exact this
theorem nchg_lp {vi vl : Nat → Int64} {vz lz : Int32} {v u : Nat → Nat} (hi : tr_P vi vz v) (hl : tr_P vl lz u) {k : Nat} (hk : k < 2 ^ 31) : ∀ (d p n a : Nat), p + d = 512 → 1 ≤ p → d < n → a ≤ k → lp_X5_changeNumber_4 vi vl (nI k) n (nI a) (nI p) = some (en_I (kt_N (ch_B u v) d p (k - a))) := by
  intro d
  induction d with
  | zero =>
    intro p n a hp h1 hn ha
    obtain ⟨n, rfl⟩ : ∃ k, n = k + 1 := ⟨n - 1, by omega⟩
    obtain rfl : p = 512 := by omega
    rw [lp_X5_changeNumber_4, if_pos (show 512 ≤ nI 512 by decide)]
    rfl
  | succ d ih =>
    intro p n a hp h1 hn ha
    obtain ⟨n, rfl⟩ : ∃ k, n = k + 1 := ⟨n - 1, by omega⟩
    rw [lp_X5_changeNumber_4, if_neg (show ¬ 512 ≤ nI p from nI_ge (b := 512) (by omega) (by decide)), kind_t hi hl h1 (by omega), Option.bind_some, nI_1, nI_1, kt_N]
    unfold ch_B
    by_cases e : v p = u p
    · rw [if_pos ((kc_m4 _ _).mpr e), if_neg (show ¬ decide (u p ≠ v p) = true by simp [e]), ih (p + 1) n a (by omega) (by omega) (by omega) ha]
      rfl
    · rw [if_neg (fun q => e ((kc_m4 _ _).mp q)), if_pos (show decide (u p ≠ v p) = true from decide_eq_true (fun q => e q.symm))]
      by_cases hak : a = k
      · rw [if_pos (show nI a = nI k by rw [hak]), if_pos (show k - a = 0 by omega), en_in (by omega)]
      · rw [if_neg (fun q => hak ((nI_eq (by omega) hk).mp q)), if_neg (show ¬ k - a = 0 by omega), ih (p + 1) n (a + 1) (by omega) (by omega) (by omega) (by omega), show k - (a + 1) = k - a - 1 by omega]
        rfl
theorem nchg_t {vi vl : Nat → Int64} {vz lz : Int32} {v u : Nat → Nat} (hi : tr_P vi vz v) (hl : tr_P vl lz u) {k : Nat} (hk : k < 2 ^ 31) : pf_X5_changeNumber vi vl (nI k) = some (en_I (kt_N (ch_B u v) 511 1 k)) := nchg_lp hi hl hk 511 1 fu_N 0 (by omega) (by omega) (by decide) (by omega)
/-- the first place from a on (d places) at which b holds -/
def ff_I (b : Nat → Bool) : Nat → Nat → Int32
  | 0, _ => -4
  | d + 1, a => if b a = true then nI a else ff_I b d (a + 1)
def ul_B (t t2 : Nat → Nat) (a : Nat) : Bool := decide (hd_N t (256 + a) ≠ hd_N t2 (256 + a))
theorem p2_inj : ∀ x, x < 8 → ∀ y, y < 8 → (nI (2 ^ x) = nI (2 ^ y) ↔ x = y) := by decide +kernel
theorem fse_lp {s1 s2 : Nat → Int32} {t t2 : Nat → Nat} (ok : ok_T t) (ok2 : ok_T t2) (h1 : ∀ q, 1 ≤ q → q < 512 → s1 q = nI (hS_N t q)) (h2 : ∀ q, 1 ≤ q → q < 512 → s2 q = nI (hS_N t2 q)) : ∀ (d a n : Nat), a + d = 256 → d < n → lp_X5_firstSentElsewhere_2 s1 s2 n (nI a) = some (ff_I (ul_B t t2) d a) := by
  intro d
  induction d with
  | zero =>
    intro a n ha hn
    obtain ⟨n, rfl⟩ : ∃ k, n = k + 1 := ⟨n - 1, by omega⟩
    obtain rfl : a = 256 := by omega
    rw [lp_X5_firstSentElsewhere_2, if_pos (show 256 ≤ nI 256 by decide)]
    rfl
  | succ d ih =>
    intro a n ha hn
    obtain ⟨n, rfl⟩ : ∃ k, n = k + 1 := ⟨n - 1, by omega⟩
    have b1 := hd_lt ok (show 256 + a < 512 by omega)
    have b2 := hd_lt ok2 (show 256 + a < 512 by omega)
    rw [lp_X5_firstSentElsewhere_2, if_neg (show ¬ 256 ≤ nI a from nI_ge (b := 256) (by omega) (by decide)), show (256 : Int32) + nI a = nI (256 + a) from nI_add 256 a, in_bn (i := 256 + a) (by omega) (by decide), ck_t, ck_t, nI_clamp (n := 256 + a) (by omega), h1 _ (by omega) (by omega), h2 _ (by omega) (by omega), hS_hi t (by omega) (by omega), hS_hi t2 (by omega) (by omega), nI_1, ff_I]
    unfold ul_B
    by_cases e : hd_N t (256 + a) = hd_N t2 (256 + a)
    · rw [if_pos ((p2_inj _ b1 _ b2).mpr e), if_neg (show ¬ decide (hd_N t (256 + a) ≠ hd_N t2 (256 + a)) = true by simp [e]), ih (a + 1) n (by omega) (by omega)]
      rfl
    · rw [if_neg (fun q => e ((p2_inj _ b1 _ b2).mp q)), if_pos (show decide (hd_N t (256 + a) ≠ hd_N t2 (256 + a)) = true by simp [e])]
theorem fse_t {s1 s2 : Nat → Int32} {t t2 : Nat → Nat} (ok : ok_T t) (ok2 : ok_T t2) (h1 : ∀ q, 1 ≤ q → q < 512 → s1 q = nI (hS_N t q)) (h2 : ∀ q, 1 ≤ q → q < 512 → s2 q = nI (hS_N t2 q)) : pf_X5_firstSentElsewhere s1 s2 = some (ff_I (ul_B t t2) 256 0) := fse_lp ok ok2 h1 h2 256 0 fu_N (by omega) (by decide)
theorem fun_lp {hops : Nat → Int32} {t t2 : Nat → Nat} (ok : ok_T t) (ok2 : ok_T t2) (hh : ho_P hops t t2) : ∀ (d a n : Nat), a + d = 256 → d < n → lp_X7_firstUnlike_2 hops n (nI a) = some (ff_I (ul_B t t2) d a) := by
  intro d
  induction d with
  | zero =>
    intro a n ha hn
    obtain ⟨n, rfl⟩ : ∃ k, n = k + 1 := ⟨n - 1, by omega⟩
    obtain rfl : a = 256 := by omega
    rw [lp_X7_firstUnlike_2, if_pos (show 256 ≤ nI 256 by decide), if_pos (show 256 ≤ nI 256 by decide)]
    rfl
  | succ d ih =>
    intro a n ha hn
    obtain ⟨n, rfl⟩ : ∃ k, n = k + 1 := ⟨n - 1, by omega⟩
    have b1 := hd_lt ok (show 256 + a < 512 by omega)
    have b2 := hd_lt ok2 (show 256 + a < 512 by omega)
    have hlt : ¬ 256 ≤ nI a := nI_ge (b := 256) (by omega) (by decide)
    rw [lp_X7_firstUnlike_2, if_neg hlt, if_neg hlt, show (256 : Int32) + nI a = nI (256 + a) from nI_add 256 a, in_bn (i := a) (by omega) (by decide), in_bn (i := 256 + a) (by omega) (by decide), ck_t, ck_t, nI_clamp (n := a) (by omega), nI_clamp (n := 256 + a) (by omega), (hh a (by omega)).1, (hh a (by omega)).2, nI_1, ff_I]
    unfold ul_B
    by_cases e : hd_N t (256 + a) = hd_N t2 (256 + a)
    · rw [if_pos (show nI (hd_N t (256 + a)) = nI (hd_N t2 (256 + a)) by rw [e]), if_neg (show ¬ decide (hd_N t (256 + a) ≠ hd_N t2 (256 + a)) = true by simp [e]), ih (a + 1) n (by omega) (by omega)]
      rfl
    · rw [if_neg (fun q => e ((nI_eq (by omega) (by omega)).mp q)), if_pos (show decide (hd_N t (256 + a) ≠ hd_N t2 (256 + a)) = true by simp [e])]
theorem fun_t {hops : Nat → Int32} {t t2 : Nat → Nat} (ok : ok_T t) (ok2 : ok_T t2) (hh : ho_P hops t t2) : pf_X7_firstUnlike hops = some (ff_I (ul_B t t2) 256 0) := fun_lp ok ok2 hh 256 0 fu_N (by omega) (by decide)
/-- whether an address has a prefix -/
def hb_N (p : Nat) : Nat → Nat → Bool
  | 0, _ => false
  | d + 1, x => if x ≤ p then decide (x = p) else hb_N p d (x / 2)
def ha_B (p a : Nat) : Bool := hb_N p 9 (256 + a)
theorem hb_iff {p : Nat} (h1 : 1 ≤ p) : ∀ (d x : Nat), x < 2 ^ d → (hb_N p d x = true ↔ ∃ k, k < d ∧ x / 2 ^ k = p) := by
  intro d
  induction d with
  | zero => intro x _; exact ⟨fun h => (by cases h), fun ⟨k, hk, _⟩ => by omega⟩
  | succ d ih =>
    intro x hx
    rw [hb_N]
    by_cases h : x ≤ p
    · rw [if_pos h, decide_eq_true_eq]
      constructor
      · intro e; exact ⟨0, by omega, by rw [Nat.pow_zero, Nat.div_one]; exact e⟩
      · rintro ⟨k, -, e⟩
        have := Nat.div_le_self x (2 ^ k)
        omega
    · rw [if_neg h, ih (x / 2) (by rw [Nat.pow_succ] at hx; omega)]
      constructor
      · rintro ⟨k, hk, e⟩
        exact ⟨k + 1, by omega, by rw [← e, Nat.div_div_eq_div_mul, Nat.pow_succ, Nat.mul_comm]⟩
      · rintro ⟨k, hk, e⟩
        cases k with
        | zero => rw [Nat.pow_zero, Nat.div_one] at e; omega
        | succ k => exact ⟨k, by omega, by rw [← e, Nat.div_div_eq_div_mul, Nat.pow_succ, Nat.mul_comm]⟩
theorem ha_iff {p a : Nat} (h1 : 1 ≤ p) (ha : a < 256) : ha_B p a = true ↔ ∃ k, k < 9 ∧ (256 + a) / 2 ^ k = p := hb_iff h1 9 (256 + a) (by omega)
theorem has_lp {p : Nat} (h1 : 1 ≤ p) (h2 : p < 512) : ∀ (d x n : Nat), x < 2 ^ d → d ≤ 9 → d < n → lp_X7_has_6 (nI p) n (nI x) = some (if hb_N p d x = true then 1 else 0) := by
  intro d
  induction d with
  | zero =>
    intro x n hx _ hn
    obtain ⟨n, rfl⟩ : ∃ k, n = k + 1 := ⟨n - 1, by omega⟩
    obtain rfl : x = 0 := by omega
    rw [lp_X7_has_6, if_pos (nI_le (by omega) (by omega)), if_neg (fun q => by have := (nI_eq (by omega) (by omega)).mp q; omega)]
    rfl
  | succ d ih =>
    intro x n hx hd hn
    obtain ⟨n, rfl⟩ : ∃ k, n = k + 1 := ⟨n - 1, by omega⟩
    have hx9 : x < 512 := Nat.lt_of_lt_of_le hx (show 2 ^ (d + 1) ≤ 2 ^ 9 from Nat.pow_le_pow_right (by decide) hd)
    rw [lp_X7_has_6, hb_N, half_I (by omega)]
    by_cases h : x ≤ p
    · rw [if_pos (nI_le h (by omega)), if_pos h]
      by_cases e : x = p
      · rw [if_pos (show nI x = nI p by rw [e]), if_pos (show decide (x = p) = true by simp [e])]
      · rw [if_neg (fun q => e ((nI_eq (by omega) (by omega)).mp q)), if_neg (show ¬ decide (x = p) = true by simp [e])]
    · rw [if_neg (fun q => h ((nI_leI (by omega) (by omega)).mp q)), if_neg h, ih (x / 2) n (by rw [Nat.pow_succ] at hx; omega) (by omega) (by omega)]
theorem has_t {p a : Nat} (h1 : 1 ≤ p) (h2 : p < 512) (ha : a < 256) : pf_X7_has (nI a) (nI p) = some (if ha_B p a = true then 1 else 0) := by
  unfold pf_X7_has
  rw [show (256 : Int32) + nI a = nI (256 + a) from nI_add 256 a]
  exact has_lp h1 h2 9 (256 + a) fu_N (by omega) (by omega) (by decide)
theorem ha_hi {p a : Nat} (h1 : 256 ≤ p) (h2 : p < 512) (ha : a < 256) : ha_B p a = true ↔ 256 + a = p := by
  rw [ha_iff (by omega) ha]
  constructor
  · rintro ⟨k, hk, e⟩
    cases k with
    | zero => rw [Nat.pow_zero, Nat.div_one] at e; exact e
    | succ k =>
      have h3 : (256 + a) / 2 ^ (k + 1) ≤ (256 + a) / 2 ^ 1 := Nat.div_le_div_left (Nat.pow_le_pow_right (by decide) (by omega)) (by decide)
      omega
  · intro e; exact ⟨0, by omega, by rw [Nat.pow_zero, Nat.div_one]; exact e⟩
theorem ha_lo {p a : Nat} (h1 : 1 ≤ p) (h2 : p < 256) (ha : a < 256) : ha_B p a = true ↔ ha_B (2 * p) a = true ∨ ha_B (2 * p + 1) a = true := by
  rw [ha_iff h1 ha, ha_iff (by omega) ha, ha_iff (by omega) ha]
  constructor
  · rintro ⟨k, hk, e⟩
    cases k with
    | zero => rw [Nat.pow_zero, Nat.div_one] at e; omega
    | succ k =>
      have e2 : (256 + a) / 2 ^ k / 2 = p := by rw [Nat.div_div_eq_div_mul, ← Nat.pow_succ]; exact e
      rcases (show (256 + a) / 2 ^ k = 2 * p ∨ (256 + a) / 2 ^ k = 2 * p + 1 by omega) with q | q
      · exact Or.inl ⟨k, by omega, q⟩
      · exact Or.inr ⟨k, by omega, q⟩
  · have key : ∀ k q, k < 9 → (256 + a) / 2 ^ k = q → q / 2 = p → ∃ k, k < 9 ∧ (256 + a) / 2 ^ k = p := by
      intro k q hk e e2
      refine ⟨k + 1, ?_, by rw [Nat.pow_succ, ← Nat.div_div_eq_div_mul, e]; exact e2⟩
      by_cases h8 : k = 8
      · have : (256 + a) / 2 ^ 8 = 1 := by omega
        rw [h8, this] at e
        omega
      · omega
    rintro (⟨k, hk, e⟩ | ⟨k, hk, e⟩)
    · exact key k _ hk e (by omega)
    · exact key k _ hk e (by omega)
theorem hS_bit {t : Nat → Nat} : ∀ p, 1 ≤ p → p < 512 → ∀ h, (hS_N t p).testBit h = true ↔ ∃ a, a < 256 ∧ ha_B p a = true ∧ hd_N t (256 + a) = h := by
  refine up_ind (fun p h1 h2 => ?_) (fun p h1 h2 x y => ?_)
  · intro h
    rw [hS_hi t h1 h2, Nat.testBit_two_pow, decide_eq_true_eq]
    constructor
    · intro e; exact ⟨p - 256, by omega, (ha_hi h1 h2 (by omega)).mpr (by omega), by rw [show 256 + (p - 256) = p by omega]; exact e⟩
    · rintro ⟨a, ha, e1, e2⟩
      rw [(ha_hi h1 h2 ha).mp e1] at e2
      exact e2
  · intro h
    rw [hS_lo t h1 h2, Nat.testBit_or, Bool.or_eq_true, x h, y h]
    constructor
    · rintro (⟨a, ha, e1, e2⟩ | ⟨a, ha, e1, e2⟩)
      · exact ⟨a, ha, (ha_lo h1 h2 ha).mpr (Or.inl e1), e2⟩
      · exact ⟨a, ha, (ha_lo h1 h2 ha).mpr (Or.inr e1), e2⟩
    · rintro ⟨a, ha, e1, e2⟩
      rcases (ha_lo h1 h2 ha).mp e1 with q | q
      · exact Or.inl ⟨a, ha, q, e2⟩
      · exact Or.inr ⟨a, ha, q, e2⟩
/-- the hops of the addresses from a on (d) that have p -/
def oh_N (t : Nat → Nat) (p : Nat) : Nat → Nat → Nat
  | 0, _ => 0
  | d + 1, a => (if ha_B p a = true then 2 ^ hd_N t (256 + a) else 0) ||| oh_N t p d (a + 1)
theorem oh_bit (t : Nat → Nat) (p : Nat) : ∀ d a h, (oh_N t p d a).testBit h = true ↔ ∃ b, a ≤ b ∧ b < a + d ∧ ha_B p b = true ∧ hd_N t (256 + b) = h := by
  intro d
  induction d with
  | zero => intro a h; rw [oh_N, Nat.zero_testBit]; exact ⟨fun q => (by cases q), fun ⟨b, h1, h2, _⟩ => by omega⟩
  | succ d ih =>
    intro a h
    rw [oh_N, Nat.testBit_or, Bool.or_eq_true, ih]
    constructor
    · rintro (q | ⟨b, h1, h2, h3⟩)
      · by_cases e : ha_B p a = true
        · rw [if_pos e, Nat.testBit_two_pow, decide_eq_true_eq] at q
          exact ⟨a, Nat.le_refl _, by omega, e, q⟩
        · rw [if_neg e, Nat.zero_testBit] at q; cases q
      · exact ⟨b, by omega, by omega, h3⟩
    · rintro ⟨b, h1, h2, h3, h4⟩
      by_cases e : b = a
      · subst e
        left
        rw [if_pos h3, Nat.testBit_two_pow, decide_eq_true_eq]
        exact h4
      · exact Or.inr ⟨b, by omega, by omega, h3, h4⟩
theorem oh_hS {t : Nat → Nat} {p : Nat} (h1 : 1 ≤ p) (h2 : p < 512) : oh_N t p 256 0 = hS_N t p := by
  apply Nat.eq_of_testBit_eq
  intro i
  rw [Bool.eq_iff_iff, oh_bit, hS_bit p h1 h2]
  constructor
  · rintro ⟨b, _, hb, e⟩; exact ⟨b, by omega, e⟩
  · rintro ⟨b, hb, e⟩; exact ⟨b, by omega, by omega, e⟩
theorem hopsIn_lp {hops : Nat → Int32} {t t2 : Nat → Nat} (ok : ok_T t) (hh : ho_P hops t t2) {p : Nat} (h1 : 1 ≤ p) (h2 : p < 512) : ∀ (d a n x : Nat), a + d = 256 → d < n → lp_X7_hopsIn_4 hops (nI p) n (nI x) (nI a) = some (nI (x ||| oh_N t p d a)) := by
  intro d
  induction d with
  | zero =>
    intro a n x ha hn
    obtain ⟨n, rfl⟩ : ∃ k, n = k + 1 := ⟨n - 1, by omega⟩
    obtain rfl : a = 256 := by omega
    rw [lp_X7_hopsIn_4, if_pos (show 256 ≤ nI 256 by decide), oh_N, Nat.or_zero]
  | succ d ih =>
    intro a n x ha hn
    obtain ⟨n, rfl⟩ : ∃ k, n = k + 1 := ⟨n - 1, by omega⟩
    rw [lp_X7_hopsIn_4, if_neg (show ¬ 256 ≤ nI a from nI_ge (b := 256) (by omega) (by decide)), has_t h1 h2 (by omega), Option.bind_some, in_bn (i := a) (by omega) (by decide), ck_t, lt_b, nI_clamp (n := a) (by omega), (hh a (by omega)).1, one_sh (hd_lt ok (by omega)), fa_or, nI_1, oh_N, show nI x ||| 0 = nI (x ||| 0) from fa_or x 0]
    by_cases e : ha_B p a = true
    · rw [if_pos e, if_neg (show ¬ (1 : Int32) = 0 by decide), ih (a + 1) n _ (by omega) (by omega), if_pos e, Nat.or_assoc]
    · rw [if_neg e, if_pos rfl, ih (a + 1) n _ (by omega) (by omega), if_neg e, Nat.or_assoc]
theorem hopsIn_t {hops : Nat → Int32} {t t2 : Nat → Nat} (ok : ok_T t) (hh : ho_P hops t t2) {p : Nat} (h1 : 1 ≤ p) (h2 : p < 512) : pf_X7_hopsIn hops (nI p) = some (nI (hS_N t p)) := by
  have := hopsIn_lp ok hh h1 h2 256 0 fu_N 0 (by omega) (by decide)
  rw [Nat.zero_or, oh_hS h1 h2] at this
  exact this
