/-! the reference's rows: hops, costs, the least table -/
def rw_P (f : Nat → Int32) (o : Nat) (t : Nat → Nat) : Prop := ∀ p, 1 ≤ p → p < 512 → f (o + p) = nI (t p)
theorem nI_8 {v : Nat} (h : v ≤ 8) : nI v = 8 ↔ v = 8 := nI_eq (b := 8) (by omega) (by decide)
theorem half_I {p : Nat} (h : p < 2 ^ 31) : nI p / 2 = nI (p / 2) := pk_div (d := 2) h (by decide) (by decide)
theorem decides_lp {f : Nat → Int32} {o N : Nat} {t : Nat → Nat} (hf : rw_P f o t) (ok : ok_T t) (hN : o + 512 ≤ N) (hN2 : N < 2 ^ 31) {w : Nat} (hw : w < 512) : ∀ (d p n : Nat), p < 2 ^ d → d ≤ 9 → d < n → lp_X7_decides_7 N f (nI o) (nI w) n (nI p) = some (en_I (dc_N (va_up t w 8) d p)) := by
  intro d
  induction d with
  | zero =>
    intro p n hp _ hn
    obtain ⟨n, rfl⟩ : ∃ k, n = k + 1 := ⟨n - 1, by omega⟩
    obtain rfl : p = 0 := by omega
    rw [lp_X7_decides_7, if_pos (show nI 0 ≤ 0 by decide)]
    rfl
  | succ d ih =>
    intro p n hp hd hn
    obtain ⟨n, rfl⟩ : ∃ k, n = k + 1 := ⟨n - 1, by omega⟩
    have hp9 : p < 512 := Nat.lt_of_lt_of_le hp (show 2 ^ (d + 1) ≤ 2 ^ 9 from Nat.pow_le_pow_right (by decide) hd)
    have hp2 : p / 2 < 2 ^ d := by rw [Nat.pow_succ] at hp; omega
    rw [lp_X7_decides_7, dc_N]
    by_cases h0 : p = 0
    · rw [h0, if_pos (show nI 0 ≤ 0 by decide), if_pos rfl]; rfl
    · rw [if_neg (nI_nle (by omega) (by omega)), if_neg h0, nI_add, in_bn (i := o + p) (by omega) hN2, nI_clamp (n := o + p) (by omega), hf p (by omega) hp9, half_I (by omega)]
      show (if nI (t p) = 8 then _ else _) = _
      by_cases e : t p = 8
      · have e2 : va_up t w 8 p = 8 := by unfold va_up; split; rfl; exact e
        rw [if_pos ((nI_8 (ok p (by omega) hp9)).mpr e), if_pos e2, ih (p / 2) n hp2 (by omega) (by omega)]
      · rw [if_neg (fun q => e ((nI_8 (ok p (by omega) hp9)).mp q))]
        by_cases ew : p = w
        · rw [if_pos (by rw [ew]), if_pos (by rw [ew]; exact va_up_self _ _ _), ih (p / 2) n hp2 (by omega) (by omega)]
        · rw [if_neg (fun q => ew ((nI_eq (by omega) (by omega)).mp q)), if_neg (by rw [va_up_ne _ _ ew]; exact e), en_in h0]
theorem decides_t {f : Nat → Int32} {o N : Nat} {t : Nat → Nat} (hf : rw_P f o t) (ok : ok_T t) (hN : o + 512 ≤ N) (hN2 : N < 2 ^ 31) {w a : Nat} (hw : w < 512) (ha : a < 256) : pf_X7_decides f N (nI o) (nI a) (nI w) = some (en_I (dc_N (va_up t w 8) 9 (256 + a))) := by
  unfold pf_X7_decides
  rw [show (256 : Int32) = nI 256 from rfl, nI_add]
  exact decides_lp hf ok hN hN2 hw 9 (256 + a) fu_N (by omega) (by omega) (by decide)
theorem hopBy_t {f : Nat → Int32} {o N : Nat} {t : Nat → Nat} (hf : rw_P f o t) (ok : ok_T t) (hN : o + 512 ≤ N) (hN2 : N < 2 ^ 31) {w a : Nat} (hw : w < 512) (ha : a < 256) : pf_X7_hopBy f N (nI o) (nI a) (nI w) = some (nI (hd_N (va_up t w 8) (256 + a))) := by
  have hle := dc_le (va_up t w 8) 9 (256 + a)
  unfold pf_X7_hopBy hd_N hf_N
  rw [decides_t hf ok hN hN2 hw ha, Option.bind_some]
  by_cases e : dc_N (va_up t w 8) 9 (256 + a) = 0
  · rw [if_pos ((en_m4 (by omega)).mpr e), if_pos e]; rfl
  · have hne : dc_N (va_up t w 8) 9 (256 + a) ≠ w := fun q => by
      have := hle.2 e
      rw [q, va_up_self] at this
      exact this rfl
    rw [if_neg (fun q => e ((en_m4 (by omega)).mp q)), if_neg e, en_in e, nI_add, in_bn (by omega) hN2, nI_clamp (by omega), hf _ (by omega) (by omega), va_up_ne _ _ hne]
    rfl
theorem dc_w0 (t : Nat → Nat) : ∀ n p, dc_N (va_up t 0 8) n p = dc_N t n p := by
  intro n
  induction n with
  | zero => intro p; rfl
  | succ n ih =>
    intro p
    rw [dc_N, dc_N]
    by_cases h0 : p = 0
    · rw [if_pos h0, if_pos h0]
    · rw [if_neg h0, if_neg h0, va_up_ne _ _ h0, ih]
theorem hd_w0 (t : Nat → Nat) (p : Nat) : hd_N (va_up t 0 8) p = hd_N t p := by
  unfold hd_N hf_N
  rw [dc_w0]
  by_cases e : dc_N t 9 p = 0
  · rw [if_pos e, if_pos e]
  · rw [if_neg e, if_neg e, va_up_ne _ _ e]
def ho_P (hops : Nat → Int32) (t t2 : Nat → Nat) : Prop := ∀ a, a < 256 → hops a = nI (hd_N t (256 + a)) ∧ hops (256 + a) = nI (hd_N t2 (256 + a))
theorem laysHops_lp {st : Nat → Int32} {t t2 : Nat → Nat} (h1 : rw_P st 0 t) (h2 : rw_P st 512 t2) (ok : ok_T t) (ok2 : ok_T t2) : ∀ (d a n : Nat) (f : Nat → Int32), a + d = 256 → d < n → (∀ b, b < a → f b = nI (hd_N t (256 + b)) ∧ f (256 + b) = nI (hd_N t2 (256 + b))) → ∃ g, lp_X7_laysHops_2 st n f (nI a) = some g ∧ ho_P g t t2 := by
  intro d
  induction d with
  | zero =>
    intro a n f ha hn hf
    obtain ⟨n, rfl⟩ : ∃ k, n = k + 1 := ⟨n - 1, by omega⟩
    obtain rfl : a = 256 := by omega
    rw [lp_X7_laysHops_2, if_pos (show 256 ≤ nI 256 by decide)]
    exact ⟨f, rfl, hf⟩
  | succ d ih =>
    intro a n f ha hn hf
    obtain ⟨n, rfl⟩ : ∃ k, n = k + 1 := ⟨n - 1, by omega⟩
    have q1 := hopBy_t (o := 0) (N := 1025) (w := 0) h1 ok (by omega) (by decide) (by omega) (show a < 256 by omega)
    have q2 := hopBy_t (o := 512) (N := 1025) (w := 0) h2 ok2 (by omega) (by decide) (by omega) (show a < 256 by omega)
    rw [hd_w0] at q1 q2
    have q1 : pf_X7_hopBy st 1025 0 (nI a) 0 = _ := q1
    have q2 : pf_X7_hopBy st 1025 512 (nI a) 0 = _ := q2
    rw [lp_X7_laysHops_2, if_neg (show ¬ 256 ≤ nI a from nI_ge (b := 256) (by omega) (by decide)), q1, Option.bind_some, q2, show (256 : Int32) = nI 256 from rfl, nI_add, in_bn (i := a) (by omega) (by decide), in_bn (i := 256 + a) (by omega) (by decide), nI_clamp (n := a) (by omega), nI_clamp (n := 256 + a) (by omega), nI_1]
    show ∃ g, lp_X7_laysHops_2 st n _ (nI (a + 1)) = some g ∧ _
    refine ih (a + 1) n _ (by omega) (by omega) (fun b hb => ?_)
    by_cases e : b = a
    · rw [e, pk_un (show a ≠ 256 + a by omega), pk_us, pk_us]; exact ⟨rfl, rfl⟩
    · rw [pk_un (show b ≠ 256 + a by omega), pk_un e, pk_un (show 256 + b ≠ 256 + a by omega), pk_un (show 256 + b ≠ a by omega)]
      exact hf b (by omega)
theorem laysHops_t {st : Nat → Int32} {t t2 : Nat → Nat} (h1 : rw_P st 0 t) (h2 : rw_P st 512 t2) (ok : ok_T t) (ok2 : ok_T t2) (f : Nat → Int32) : ∃ g, pf_X7_laysHops st f = some g ∧ ho_P g t t2 := laysHops_lp h1 h2 ok ok2 256 0 fu_N f (by omega) (by decide) (fun b hb => by omega)
/-- the cost of p by a hop h from above -/
def z1_N (b h : Nat) : Nat := if b.testBit h = true then 0 else 1
def cs_N (t : Nat → Nat) (p h : Nat) : Nat := es_N t p + z1_N (bs_N t p) h
theorem z1_le (b h : Nat) : z1_N b h ≤ 1 := by unfold z1_N; split <;> omega
theorem lesser_t {a b : Nat} (ha : a < 2 ^ 31) (hb : b < 2 ^ 31) : pf_X7_lesser (nI a) (nI b) = some (nI (min a b)) := by
  unfold pf_X7_lesser
  by_cases h : b ≤ a
  · rw [if_pos (nI_le h ha), Nat.min_eq_right h]
  · rw [if_neg (fun q => h ((nI_leI hb ha).mp q)), Nat.min_eq_left (by omega)]
/-- the least of z1 of two sets, below h -/
def mz_N (b c : Nat) : Nat → Nat
  | 0 => 2
  | h + 1 => min (mz_N b c h) (z1_N b h + z1_N c h)
theorem mz_le2 (b c : Nat) : ∀ h, mz_N b c h ≤ 2
  | 0 => Nat.le_refl 2
  | h + 1 => Nat.le_trans (Nat.min_le_left _ _) (mz_le2 b c h)
theorem mz_le (b c : Nat) : ∀ h j, j < h → mz_N b c h ≤ z1_N b j + z1_N c j := by
  intro h
  induction h with
  | zero => intro j hj; omega
  | succ h ih =>
    intro j hj
    rw [mz_N]
    by_cases e : j = h
    · rw [e]; exact Nat.min_le_right _ _
    · exact Nat.le_trans (Nat.min_le_left _ _) (ih j (by omega))
theorem mz_ge (b c m : Nat) (hm : m ≤ 2) : ∀ h, (∀ j, j < h → m ≤ z1_N b j + z1_N c j) → m ≤ mz_N b c h := by
  intro h
  induction h with
  | zero => intro _; exact hm
  | succ h ih =>
    intro hj
    rw [mz_N]
    exact Nat.le_min.mpr ⟨ih (fun j q => hj j (by omega)), hj h (by omega)⟩
theorem mz_v {b c : Nat} (hb : b < 256) (hc : c < 256) (b0 : b ≠ 0) (c0 : c ≠ 0) : mz_N b c 8 = if b &&& c = 0 then 1 else 0 := by
  by_cases e : b &&& c = 0
  · rw [if_pos e]
    apply Nat.le_antisymm
    · obtain ⟨l1, l2, -⟩ := lo_lt b hb (by omega)
      have := mz_le b c 8 (lo_N 8 b) l1
      have h1 : z1_N b (lo_N 8 b) = 0 := by unfold z1_N; rw [if_pos l2]
      have h2 := z1_le c (lo_N 8 b)
      omega
    · refine mz_ge b c 1 (by omega) 8 (fun j hj => ?_)
      have hbit := Nat.testBit_and b c j
      rw [e, Nat.zero_testBit] at hbit
      unfold z1_N
      cases h1 : b.testBit j <;> cases h2 : c.testBit j <;> simp [h1, h2] at hbit ⊢
  · rw [if_neg e]
    have hlt : b &&& c < 256 := Nat.lt_of_le_of_lt Nat.and_le_left hb
    obtain ⟨l1, l2, -⟩ := lo_lt (b &&& c) hlt (by omega)
    rw [Nat.testBit_and] at l2
    have := mz_le b c 8 (lo_N 8 (b &&& c)) l1
    have h1 : z1_N b (lo_N 8 (b &&& c)) = 0 := by unfold z1_N; rw [if_pos (Bool.and_eq_true_iff.mp l2).1]
    have h2 : z1_N c (lo_N 8 (b &&& c)) = 0 := by unfold z1_N; rw [if_pos (Bool.and_eq_true_iff.mp l2).2]
    omega
def cp_P (costs : Nat → Int32) (t : Nat → Nat) (p : Nat) : Prop := ∀ q, p ≤ q → q < 512 → ∀ h, h < 8 → costs (8 * q + h) = nI (cs_N t q h)
theorem lc12 {costs hops : Nat → Int32} {t : Nat → Nat} {p : Nat} (h1 : 1 ≤ p) (h2 : p < 256) (hc : cp_P costs t (p + 1)) (g : (Nat → Int32) → Int32 → Option (Nat → Int32)) : ∀ (d h n : Nat) (x : Int32), h + d = 8 → d < n → (1 ≤ h → x = nI (es_N t (2 * p) + es_N t (2 * p + 1) + 1 + mz_N (bs_N t (2 * p)) (bs_N t (2 * p + 1)) h)) → lp_X7_laysCosts_12 costs hops (nI p) g n x (nI h) = lp_X7_laysCosts_81 hops (nI p) (nI (es_N t (2 * p) + es_N t (2 * p + 1) + 1 + mz_N (bs_N t (2 * p)) (bs_N t (2 * p + 1)) 8)) g fu_N costs 0 := by
  intro d
  induction d with
  | zero =>
    intro h n x hh hn hx
    obtain ⟨n, rfl⟩ : ∃ k, n = k + 1 := ⟨n - 1, by omega⟩
    obtain rfl : h = 8 := by omega
    rw [lp_X7_laysCosts_12, if_pos (show 8 ≤ nI 8 by decide), hx (by omega)]
  | succ d ih =>
    intro h n x hh hn hx
    obtain ⟨n, rfl⟩ : ∃ k, n = k + 1 := ⟨n - 1, by omega⟩
    have a1 := hc (2 * p) (by omega) (by omega) h (by omega)
    have a2 := hc (2 * p + 1) (by omega) (by omega) h (by omega)
    have b1 := es_lt t (show 1 ≤ 2 * p by omega) (show 2 * p < 512 by omega)
    have b2 := es_lt t (show 1 ≤ 2 * p + 1 by omega) (show 2 * p + 1 < 512 by omega)
    have z1 := z1_le (bs_N t (2 * p)) h
    have z2 := z1_le (bs_N t (2 * p + 1)) h
    have hm := mz_le2 (bs_N t (2 * p)) (bs_N t (2 * p + 1)) h
    have ex1 : (16 : Int32) * nI p + nI h = nI (8 * (2 * p) + h) := by rw [show (16 : Int32) = nI 16 from rfl, pk_mul, nI_add]; exact congrArg nI (by omega)
    have ex2 : (16 : Int32) * nI p + 8 + nI h = nI (8 * (2 * p + 1) + h) := by rw [show (16 : Int32) = nI 16 from rfl, show (8 : Int32) = nI 8 from rfl, pk_mul, nI_add, nI_add]; exact congrArg nI (by omega)
    rw [lp_X7_laysCosts_12, if_neg (show ¬ 8 ≤ nI h from nI_ge (b := 8) (by omega) (by decide)), if_neg (show ¬ 256 ≤ nI p from nI_ge (b := 256) (by omega) (by decide)), ex1, ex2, in_bn (i := 8 * (2 * p) + h) (by omega) (by decide), in_bn (i := 8 * (2 * p + 1) + h) (by omega) (by decide), nI_clamp (n := 8 * (2 * p) + h) (by omega), nI_clamp (n := 8 * (2 * p + 1) + h) (by omega), a1, a2, nI_add]
    show (if nI h = 0 then lp_X7_laysCosts_12 costs hops (nI p) g n (nI (cs_N t (2 * p) h + cs_N t (2 * p + 1) h) + 1) (nI h + 1) else (pf_X7_lesser x (nI (cs_N t (2 * p) h + cs_N t (2 * p + 1) h) + 1)).bind _) = _
    rw [nI_1, nI_1]
    unfold cs_N
    by_cases e : h = 0
    · subst e
      rw [if_pos (show nI 0 = 0 from rfl)]
      refine ih 1 n _ (by omega) (by omega) (fun _ => ?_)
      refine congrArg nI ?_
      rw [mz_N, mz_N, Nat.min_eq_right (by omega)]
      omega
    · rw [if_neg (nI_ne0 (by omega) (by omega)), hx (by omega), lesser_t (by omega) (by omega), Option.bind_some]
      refine ih (h + 1) n _ (by omega) (by omega) (fun _ => ?_)
      refine congrArg nI ?_
      rw [mz_N]
      omega
theorem lc81 {hops : Nat → Int32} {t : Nat → Nat} {p x : Nat} (h1 : 1 ≤ p) (h2 : p < 512) (hx : x < 2000) (ok : ok_T t) (g : (Nat → Int32) → Int32 → Option (Nat → Int32))
    (hhi : 256 ≤ p → hops (p - 256) = nI (hd_N t p)) (hv : ∀ h, h < 8 → min (if p < 256 then cs_N t (2 * p) h + cs_N t (2 * p + 1) h else if hd_N t p = h then 0 else 1) x = cs_N t p h) : ∀ (d h n : Nat) (costs : Nat → Int32), h + d = 8 → d < n → cp_P costs t (p + 1) → (∀ j, j < h → costs (8 * p + j) = nI (cs_N t p j)) → ∃ c2, lp_X7_laysCosts_81 hops (nI p) (nI x) g n costs (nI h) = g c2 (nI (p - 1)) ∧ cp_P c2 t p := by
  intro d
  induction d with
  | zero =>
    intro h n costs hh hn hc hj
    obtain ⟨n, rfl⟩ : ∃ k, n = k + 1 := ⟨n - 1, by omega⟩
    obtain rfl : h = 8 := by omega
    rw [lp_X7_laysCosts_81, if_pos (show 8 ≤ nI 8 by decide), sb_m1 (by omega)]
    refine ⟨costs, rfl, fun q q1 q2 j j8 => ?_⟩
    by_cases e : q = p
    · rw [e]; exact hj j j8
    · exact hc q (by omega) q2 j j8
  | succ d ih =>
    intro h n costs hh hn hc hj
    obtain ⟨n, rfl⟩ : ∃ k, n = k + 1 := ⟨n - 1, by omega⟩
    have ex0 : (8 : Int32) * nI p + nI h = nI (8 * p + h) := by rw [show (8 : Int32) = nI 8 from rfl, pk_mul, nI_add]
    have step : ∀ v, v = cs_N t p h → ∃ c2, lp_X7_laysCosts_81 hops (nI p) (nI x) g n (upd costs (8 * p + h) (nI v)) (nI (h + 1)) = g c2 (nI (p - 1)) ∧ cp_P c2 t p := by
      intro v hv2
      refine ih (h + 1) n _ (by omega) (by omega) (fun q q1 q2 j j8 => ?_) (fun j hj2 => ?_)
      · rw [pk_un (by omega)]; exact hc q q1 q2 j j8
      · by_cases e : j = h
        · rw [e, pk_us, hv2]
        · rw [pk_un (by omega)]; exact hj j (by omega)
    have hvh := hv h (by omega)
    rw [lp_X7_laysCosts_81, if_neg (show ¬ 8 ≤ nI h from nI_ge (b := 8) (by omega) (by decide)), ex0, in_bn (i := 8 * p + h) (by omega) (by decide), nI_clamp (n := 8 * p + h) (by omega), nI_1]
    by_cases e : p < 256
    · have a1 := hc (2 * p) (by omega) (by omega) h (by omega)
      have a2 := hc (2 * p + 1) (by omega) (by omega) h (by omega)
      have b1 := es_lt t (show 1 ≤ 2 * p by omega) (show 2 * p < 512 by omega)
      have b2 := es_lt t (show 1 ≤ 2 * p + 1 by omega) (show 2 * p + 1 < 512 by omega)
      have z1 := z1_le (bs_N t (2 * p)) h
      have z2 := z1_le (bs_N t (2 * p + 1)) h
      have ex1 : (16 : Int32) * nI p + nI h = nI (8 * (2 * p) + h) := by rw [show (16 : Int32) = nI 16 from rfl, pk_mul, nI_add]; exact congrArg nI (by omega)
      have ex2 : (16 : Int32) * nI p + 8 + nI h = nI (8 * (2 * p + 1) + h) := by rw [show (16 : Int32) = nI 16 from rfl, show (8 : Int32) = nI 8 from rfl, pk_mul, nI_add, nI_add]; exact congrArg nI (by omega)
      rw [if_pos e] at hvh
      rw [if_pos (show nI p < 256 from nI_lt (b := 256) e (by decide)), ex1, ex2, in_bn (i := 8 * (2 * p) + h) (by omega) (by decide), in_bn (i := 8 * (2 * p + 1) + h) (by omega) (by decide), nI_clamp (n := 8 * (2 * p) + h) (by omega), nI_clamp (n := 8 * (2 * p + 1) + h) (by omega), a1, a2, nI_add]
      show ∃ c2, (pf_X7_lesser (nI (cs_N t (2 * p) h + cs_N t (2 * p + 1) h)) (nI x)).bind _ = _ ∧ _
      rw [lesser_t (by unfold cs_N; omega) (by omega), Option.bind_some]
      exact step _ hvh
    · have ex3 : nI p - 256 = nI (p - 256) := pk_sub (b := 256) (by omega)
      have hd8 := hd_lt ok h2
      rw [if_neg e] at hvh
      rw [if_neg (show ¬ nI p < 256 from nI_nlt (b := 256) (by omega) (by omega)), ex3, in_bn (i := p - 256) (by omega) (by decide), nI_clamp (n := p - 256) (by omega), hhi (by omega)]
      show ∃ c2, (if nI (hd_N t p) = nI h then _ else _) = _ ∧ _
      by_cases e2 : hd_N t p = h
      · rw [if_pos e2] at hvh
        rw [if_pos (by rw [e2]), show (0 : Int32) = nI 0 from rfl, lesser_t (by omega) (by omega), Option.bind_some]
        exact step _ hvh
      · rw [if_neg e2] at hvh
        rw [if_neg (fun q => e2 ((nI_eq (by omega) (by omega)).mp q)), show (1 : Int32) = nI 1 from rfl, lesser_t (by omega) (by omega), Option.bind_some]
        exact step _ hvh
theorem lc4 {hops : Nat → Int32} {t t2 : Nat → Nat} (ok : ok_T t) (hh : ho_P hops t t2) : ∀ (p n : Nat) (costs : Nat → Int32), p < 512 → p < n → cp_P costs t (p + 1) → ∃ c2, lp_X7_laysCosts_4 hops n costs (nI p) = some c2 ∧ cp_P c2 t 1 := by
  intro p
  induction p with
  | zero =>
    intro n costs _ hn hc
    obtain ⟨n, rfl⟩ : ∃ k, n = k + 1 := ⟨n - 1, by omega⟩
    rw [lp_X7_laysCosts_4, if_pos (show nI 0 ≤ 0 by decide)]
    exact ⟨costs, rfl, hc⟩
  | succ p ih =>
    intro n costs hp hn hc
    obtain ⟨n, rfl⟩ : ∃ k, n = k + 1 := ⟨n - 1, by omega⟩
    rw [lp_X7_laysCosts_4, if_neg (nI_nle (by omega) (by omega))]
    have hbp := bs_b ok (p + 1) (by omega) hp
    by_cases e : p + 1 < 256
    · have hb := bs_lo t (show 1 ≤ p + 1 by omega) e
      have hA := bs_b ok (2 * (p + 1)) (by omega) (by omega)
      have hB := bs_b ok (2 * (p + 1) + 1) (by omega) (by omega)
      have hmz := mz_v hA.1 hB.1 hA.2 hB.2
      have b1 := es_lt t (show 1 ≤ 2 * (p + 1) by omega) (show 2 * (p + 1) < 512 by omega)
      have b2 := es_lt t (show 1 ≤ 2 * (p + 1) + 1 by omega) (show 2 * (p + 1) + 1 < 512 by omega)
      have e12 := lc12 (hops := hops) (show 1 ≤ p + 1 by omega) e hc (lp_X7_laysCosts_4 hops n) 8 0 fu_N 1 (by omega) (by decide) (fun q => by omega)
      have e12 : lp_X7_laysCosts_12 costs hops (nI (p + 1)) (lp_X7_laysCosts_4 hops n) fu_N 1 0 = _ := e12
      rw [e12]
      obtain ⟨c2, e1, e2⟩ := lc81 (hops := hops) (t := t) (p := p + 1) (x := es_N t (2 * (p + 1)) + es_N t (2 * (p + 1) + 1) + 1 + mz_N (bs_N t (2 * (p + 1))) (bs_N t (2 * (p + 1) + 1)) 8) (by omega) hp (by have := mz_le2 (bs_N t (2 * (p + 1))) (bs_N t (2 * (p + 1) + 1)) 8; omega) ok (lp_X7_laysCosts_4 hops n) (fun q => by omega) (fun h h8 => by
        rw [if_pos e, hmz]
        unfold cs_N z1_N
        rw [hb.1, hb.2]
        by_cases q : bs_N t (2 * (p + 1)) &&& bs_N t (2 * (p + 1) + 1) = 0
        · rw [if_pos q, if_pos q, Nat.testBit_or]
          have hbit := Nat.testBit_and (bs_N t (2 * (p + 1))) (bs_N t (2 * (p + 1) + 1)) h
          rw [q, Nat.zero_testBit] at hbit
          cases h1 : (bs_N t (2 * (p + 1))).testBit h <;> cases h2 : (bs_N t (2 * (p + 1) + 1)).testBit h <;> simp [h1, h2] at hbit ⊢ <;> omega
        · rw [if_neg q, if_neg q, Nat.testBit_and]
          cases h1 : (bs_N t (2 * (p + 1))).testBit h <;> cases h2 : (bs_N t (2 * (p + 1) + 1)).testBit h <;> simp <;> omega) 8 0 fu_N costs (by omega) (by decide) hc (fun j hj => by omega)
      have e1 : lp_X7_laysCosts_81 hops (nI (p + 1)) _ (lp_X7_laysCosts_4 hops n) fu_N costs 0 = _ := e1
      rw [e1, Nat.add_sub_cancel]
      exact ih n c2 (by omega) (by omega) e2
    · have e12 : lp_X7_laysCosts_12 costs hops (nI (p + 1)) (lp_X7_laysCosts_4 hops n) fu_N 1 0 = lp_X7_laysCosts_81 hops (nI (p + 1)) 1 (lp_X7_laysCosts_4 hops n) fu_N costs 0 := by
        rw [show fu_N = 9999 + 1 from rfl, lp_X7_laysCosts_12, if_neg (show ¬ (8 : Int32) ≤ 0 by decide), if_pos (show 256 ≤ nI (p + 1) from nI_le (a := 256) (by omega) (by omega))]
        rfl
      have hb := bs_hi t (show 256 ≤ p + 1 by omega) hp
      have hh1 := (hh (p + 1 - 256) (by omega)).1
      rw [show 256 + (p + 1 - 256) = p + 1 by omega] at hh1
      obtain ⟨c2, e1, e2⟩ := lc81 (hops := hops) (t := t) (p := p + 1) (x := 1) (by omega) hp (by omega) ok (lp_X7_laysCosts_4 hops n) (fun _ => hh1) (fun h h8 => by
        rw [if_neg e]
        unfold cs_N z1_N
        rw [hb.1, hb.2, Nat.testBit_two_pow]
        by_cases q : hd_N t (p + 1) = h
        · rw [if_pos q, if_pos (by simp [q])]; rfl
        · rw [if_neg q, if_neg (by simp [q])]; rfl) 8 0 fu_N costs (by omega) (by decide) hc (fun j hj => by omega)
      have e1 : lp_X7_laysCosts_81 hops (nI (p + 1)) 1 (lp_X7_laysCosts_4 hops n) fu_N costs 0 = _ := e1
      rw [e12, e1, Nat.add_sub_cancel]
      exact ih n c2 (by omega) (by omega) e2
theorem laysCosts_t {hops : Nat → Int32} {t t2 : Nat → Nat} (ok : ok_T t) (hh : ho_P hops t t2) (costs : Nat → Int32) : ∃ c2, pf_X7_laysCosts costs hops = some c2 ∧ cp_P c2 t 1 := lc4 ok hh 511 fu_N costs (by omega) (by decide) (fun q q1 q2 => by omega)
/-- ease and set of a prefix, out of the costs -/
def me_N (b : Nat) : Nat → Nat
  | 0 => 1
  | h + 1 => min (me_N b h) (z1_N b h)
theorem me_le1 (b : Nat) : ∀ h, me_N b h ≤ 1
  | 0 => Nat.le_refl 1
  | h + 1 => Nat.le_trans (Nat.min_le_left _ _) (me_le1 b h)
theorem me_le (b : Nat) : ∀ h j, j < h → me_N b h ≤ z1_N b j := by
  intro h
  induction h with
  | zero => intro j hj; omega
  | succ h ih =>
    intro j hj
    rw [me_N]
    by_cases e : j = h
    · rw [e]; exact Nat.min_le_right _ _
    · exact Nat.le_trans (Nat.min_le_left _ _) (ih j (by omega))
theorem me_8 {b : Nat} (hb : b < 256) (b0 : b ≠ 0) : me_N b 8 = 0 := by
  obtain ⟨l1, l2, -⟩ := lo_lt b hb (by omega)
  have := me_le b 8 (lo_N 8 b) l1
  have h1 : z1_N b (lo_N 8 b) = 0 := by unfold z1_N; rw [if_pos l2]
  omega
theorem ease_lp {costs : Nat → Int32} {t : Nat → Nat} {p : Nat} (h1 : 1 ≤ p) (h2 : p < 512) (hc : cp_P costs t 1) : ∀ (d h n : Nat), h + d = 8 → d < n → lp_X7_ease_12 costs (nI p) n (nI (es_N t p + me_N (bs_N t p) h)) (nI h) = some (nI (es_N t p + me_N (bs_N t p) 8)) := by
  intro d
  induction d with
  | zero =>
    intro h n hh hn
    obtain ⟨n, rfl⟩ : ∃ k, n = k + 1 := ⟨n - 1, by omega⟩
    obtain rfl : h = 8 := by omega
    rw [lp_X7_ease_12, if_pos (show 8 ≤ nI 8 by decide)]
  | succ d ih =>
    intro h n hh hn
    obtain ⟨n, rfl⟩ : ∃ k, n = k + 1 := ⟨n - 1, by omega⟩
    have b1 := es_lt t h1 h2
    have z1 := z1_le (bs_N t p) h
    have m1 := me_le1 (bs_N t p) h
    have ex0 : (8 : Int32) * nI p + nI h = nI (8 * p + h) := by rw [show (8 : Int32) = nI 8 from rfl, pk_mul, nI_add]
    rw [lp_X7_ease_12, if_neg (show ¬ 8 ≤ nI h from nI_ge (b := 8) (by omega) (by decide)), ex0, in_bn (i := 8 * p + h) (by omega) (by decide), nI_clamp (n := 8 * p + h) (by omega), hc p h1 h2 h (by omega), nI_1]
    show (pf_X7_lesser _ _).bind _ = _
    unfold cs_N
    rw [lesser_t (by omega) (by omega), Option.bind_some, show min (es_N t p + me_N (bs_N t p) h) (es_N t p + z1_N (bs_N t p) h) = es_N t p + me_N (bs_N t p) (h + 1) by rw [me_N]; omega]
    exact ih (h + 1) n (by omega) (by omega)
theorem ease_t {costs : Nat → Int32} {t : Nat → Nat} (ok : ok_T t) {p : Nat} (h1 : 1 ≤ p) (h2 : p < 512) (hc : cp_P costs t 1) : pf_X7_ease costs (nI p) = some (nI (es_N t p)) := by
  have hb := bs_b ok p h1 h2
  have z1 := z1_le (bs_N t p) 0
  have h0 := hc p h1 h2 0 (by omega)
  unfold pf_X7_ease
  rw [show (8 : Int32) = nI 8 from rfl, pk_mul, in_bn (by omega) (by decide), nI_clamp (by omega), show 8 * p = 8 * p + 0 from rfl, h0]
  have := ease_lp h1 h2 hc 7 1 fu_N (by omega) (by decide)
  rw [me_8 hb.1 hb.2, Nat.add_zero] at this
  rw [← this]
  show lp_X7_ease_12 costs (nI p) fu_N (nI (cs_N t p 0)) 1 = _
  unfold cs_N
  rw [show me_N (bs_N t p) 1 = z1_N (bs_N t p) 0 by rw [me_N, me_N]; omega]
  rfl
theorem setOf_lp {costs : Nat → Int32} {t : Nat → Nat} (ok : ok_T t) {p : Nat} (h1 : 1 ≤ p) (h2 : p < 512) (hc : cp_P costs t 1) : ∀ (d h n : Nat), h + d = 8 → d < n → lp_X7_setOf_4 costs (nI p) n (nI (bs_N t p % 2 ^ h)) (nI h) = some (nI (bs_N t p)) := by
  have hb := bs_b ok p h1 h2
  intro d
  induction d with
  | zero =>
    intro h n hh hn
    obtain ⟨n, rfl⟩ : ∃ k, n = k + 1 := ⟨n - 1, by omega⟩
    obtain rfl : h = 8 := by omega
    rw [lp_X7_setOf_4, if_pos (show 8 ≤ nI 8 by decide), Nat.mod_eq_of_lt (show bs_N t p < 2 ^ 8 from hb.1)]
  | succ d ih =>
    intro h n hh hn
    obtain ⟨n, rfl⟩ : ∃ k, n = k + 1 := ⟨n - 1, by omega⟩
    have b1 := es_lt t h1 h2
    have z1 := z1_le (bs_N t p) h
    have ex0 : (8 : Int32) * nI p + nI h = nI (8 * p + h) := by rw [show (8 : Int32) = nI 8 from rfl, pk_mul, nI_add]
    rw [lp_X7_setOf_4, if_neg (show ¬ 8 ≤ nI h from nI_ge (b := 8) (by omega) (by decide)), ex0, in_bn (i := 8 * p + h) (by omega) (by decide), nI_clamp (n := 8 * p + h) (by omega), hc p h1 h2 h (by omega), nI_1, ease_t ok h1 h2 hc]
    show (if nI (cs_N t p h) = nI (es_N t p) then _ else _) = _
    unfold cs_N z1_N
    by_cases e : (bs_N t p).testBit h = true
    · rw [if_pos e, if_pos (by rw [Nat.add_zero]), one_sh (by omega), fa_or]
      show lp_X7_setOf_4 costs (nI p) n _ (nI (h + 1)) = _
      rw [show bs_N t p % 2 ^ h ||| 2 ^ h = bs_N t p % 2 ^ (h + 1) from ?_]
      · exact ih (h + 1) n (by omega) (by omega)
      · apply Nat.eq_of_testBit_eq
        intro i
        rw [Nat.testBit_or, Nat.testBit_mod_two_pow, Nat.testBit_mod_two_pow, Nat.testBit_two_pow]
        by_cases q : h = i
        · subst q; simp [e]
        · by_cases q2 : i < h
          · simp [q, q2, show i < h + 1 by omega]
          · simp [q, q2, show ¬ i < h + 1 by omega]
    · rw [if_neg e, if_neg (fun q => by have := (nI_eq (by omega) (by omega)).mp q; omega)]
      rw [show nI (bs_N t p % 2 ^ h) ||| 0 = nI (bs_N t p % 2 ^ (h + 1)) from ?_]
      · exact ih (h + 1) n (by omega) (by omega)
      · rw [show (0 : Int32) = nI 0 from rfl, fa_or, Nat.or_zero]
        refine congrArg nI ?_
        apply Nat.eq_of_testBit_eq
        intro i
        rw [Nat.testBit_mod_two_pow, Nat.testBit_mod_two_pow]
        by_cases q : h = i
        · subst q; simp [e]
        · by_cases q2 : i < h
          · simp [q2, show i < h + 1 by omega]
          · simp [q2, show ¬ i < h + 1 by omega]
theorem setOf_t {costs : Nat → Int32} {t : Nat → Nat} (ok : ok_T t) {p : Nat} (h1 : 1 ≤ p) (h2 : p < 512) (hc : cp_P costs t 1) : pf_X7_setOf costs (nI p) = some (nI (bs_N t p)) := by
  have := setOf_lp ok h1 h2 hc 8 0 fu_N (by omega) (by decide)
  rw [Nat.pow_zero, Nat.mod_one] at this
  exact this
