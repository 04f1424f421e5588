/-! the reference: the least table, how many, the k-th, redundant ones -/
theorem bit_z {b c : Nat} (hb : b < 2 ^ 31) (hc : c < 32) : ((nI b >>> (nI c &&& 31)) &&& 1 = 0) ↔ ¬ b.testBit c = true := by
  rw [sh_r hb hc, pk_andN (by have := Nat.div_le_self b (2 ^ c); omega) (m := 1) 1 (by decide)]
  have e : b.testBit c = decide (b / 2 ^ c % 2 = 1) := Nat.testBit_eq_decide_div_mod_eq
  rw [e, show (2 : Nat) ^ 1 = 2 from rfl]
  by_cases q : b / 2 ^ c % 2 = 1
  · rw [q]; simp; decide
  · have q0 : b / 2 ^ c % 2 = 0 := by omega
    rw [q0]; simp; rfl
theorem ll45 {t : Nat → Nat} (least comes : Nat → Int32) {p b : Nat} (h2 : p < 512) (hb : b < 256) (b0 : b ≠ 0) (g : (Nat → Int32) → (Nat → Int32) → Int32 → Option ((Nat → Int32) × (Nat → Int32))) : ∀ (d h n : Nat), h + d = lo_N 8 b → d < n → lp_X7_laysLeast_45 least comes (nI p) (nI b) g n (nI h) = lp_X7_laysLeast_73 (upd least p (nI (lo_N 8 b))) (upd comes p (nI (lo_N 8 b))) (nI p) g := by
  obtain ⟨l1, l2, l3⟩ := lo_lt b hb (by omega)
  intro d
  induction d with
  | zero =>
    intro h n hh hn
    obtain ⟨n, rfl⟩ : ∃ k, n = k + 1 := ⟨n - 1, by omega⟩
    obtain rfl : h = lo_N 8 b := by omega
    rw [lp_X7_laysLeast_45, if_neg (fun q => (bit_z (by omega) (by omega)).mp q l2), in_bn (i := p) (n := 512) (by omega) (by decide), in_bn (i := p) (n := 1024) (by omega) (by decide), ck_t, ck_t, nI_clamp (n := p) (by omega)]
  | succ d ih =>
    intro h n hh hn
    obtain ⟨n, rfl⟩ : ∃ k, n = k + 1 := ⟨n - 1, by omega⟩
    rw [lp_X7_laysLeast_45, if_pos ((bit_z (by omega) (by omega)).mpr (by rw [l3 h (by omega)]; decide)), nI_1]
    exact ih (h + 1) n (by omega) (by omega)
theorem ll9 {costs : Nat → Int32} {t : Nat → Nat} (ok : ok_T t) (hc : cp_P costs t 1) : ∀ (d p n : Nat) (least comes : Nat → Int32), p + d = 512 → 1 ≤ p → d < n → (∀ q, p ≤ q → q < 2 * p → comes q = nI (cu_N t (q / 2))) → (∀ q, 1 ≤ q → q < p → least q = nI (le_N t q)) → ∃ o, lp_X7_laysLeast_9 costs n least comes (nI p) = some o ∧ ∀ q, 1 ≤ q → q < 512 → o.1 q = nI (le_N t q) := by
  intro d
  induction d with
  | zero =>
    intro p n least comes hp h1 hn hco hle
    obtain ⟨n, rfl⟩ : ∃ k, n = k + 1 := ⟨n - 1, by omega⟩
    obtain rfl : p = 512 := by omega
    rw [lp_X7_laysLeast_9, if_pos (show 512 ≤ nI 512 by decide)]
    exact ⟨_, rfl, hle⟩
  | succ d ih =>
    intro p n least comes hp h1 hn hco hle
    obtain ⟨n, rfl⟩ : ∃ k, n = k + 1 := ⟨n - 1, by omega⟩
    have hb := bs_b ok p h1 (by omega)
    have hcl := cu_lt ok (p / 2) (by omega)
    obtain ⟨l1, l2, l3⟩ := lo_lt (bs_N t p) hb.1 (by omega)
    have fin : ∀ (lf cm : Nat → Int32), lf p = nI (le_N t p) → (∀ q, q ≠ p → lf q = least q) → cm p = nI (cu_N t p) → (∀ q, q ≠ p → cm q = comes q) → ∃ o, lp_X7_laysLeast_73 lf cm (nI p) (lp_X7_laysLeast_9 costs n) = some o ∧ ∀ q, 1 ≤ q → q < 512 → o.1 q = nI (le_N t q) := by
      intro lf cm a1 a2 a3 a4
      unfold lp_X7_laysLeast_73
      rw [two_p, nI_1, nI_1, in_bn (i := p) (n := 1024) (by omega) (by decide), in_bn (i := 2 * p) (by omega) (by decide), in_bn (i := 2 * p + 1) (by omega) (by decide), ck_t, ck_t, ck_t, ck_t, nI_clamp (n := p) (by omega), nI_clamp (n := 2 * p) (by omega), nI_clamp (n := 2 * p + 1) (by omega)]
      refine ih (p + 1) n _ _ (by omega) (by omega) (by omega) (fun q q1 q2 => ?_) (fun q q1 q2 => ?_)
      · by_cases e1 : q = 2 * p + 1
        · rw [e1, pk_us, pk_un (show p ≠ 2 * p by omega), a3, show (2 * p + 1) / 2 = p by omega]
        · rw [pk_un e1]
          by_cases e2 : q = 2 * p
          · rw [e2, pk_us, a3, show 2 * p / 2 = p by omega]
          · rw [pk_un e2, a4 q (by omega)]; exact hco q (by omega) (by omega)
      · by_cases e1 : q = p
        · rw [e1]; exact a1
        · rw [a2 q e1]; exact hle q q1 (by omega)
    rw [lp_X7_laysLeast_9, if_neg (show ¬ 512 ≤ nI p from nI_ge (b := 512) (by omega) (by decide)), setOf_t ok h1 (by omega) hc, Option.bind_some, in_bn (i := p) (n := 512) (by omega) (by decide), in_bn (i := p) (n := 1024) (by omega) (by decide), ck_t, ck_t, nI_clamp (n := p) (by omega), hco p (Nat.le_refl _) (by omega)]
    by_cases e : (bs_N t p).testBit (cu_N t (p / 2)) = true
    · rw [if_neg (fun q => (bit_z (by omega) (by omega)).mp q e)]
      refine fin _ _ ?_ (fun q hq => pk_un hq) ?_ (fun _ _ => rfl)
      · rw [pk_us]; unfold le_N; rw [if_pos e]; rfl
      · rw [hco p (Nat.le_refl _) (by omega), cu_rec t h1 (by omega), if_pos e]
    · rw [if_pos ((bit_z (by omega) (by omega)).mpr e), show (0 : Int32) = nI 0 from rfl, ll45 (t := t) _ _ (by omega) hb.1 hb.2 _ (lo_N 8 (bs_N t p)) 0 fu_N (by omega) (by have : fu_N = 10000 := rfl; omega)]
      refine fin _ _ ?_ (fun q hq => by rw [pk_un hq, pk_un hq]) ?_ (fun q hq => pk_un hq)
      · rw [pk_us]; unfold le_N; rw [if_neg e]
      · rw [pk_us, cu_rec t h1 (by omega), if_neg e]
theorem laysLeast_t {costs : Nat → Int32} {t : Nat → Nat} (ok : ok_T t) (hc : cp_P costs t 1) (least comes : Nat → Int32) : ∃ o, pf_X7_laysLeast least costs comes = some o ∧ rw_P o.1 0 (le_N t) := by
  obtain ⟨o, e1, e2⟩ := ll9 ok hc 511 1 fu_N least (upd comes 1 0) (by omega) (by omega) (by decide) (fun q q1 q2 => by
    obtain rfl : q = 1 := by omega
    rw [pk_us, show 1 / 2 = 0 from rfl, cu_0]; rfl) (fun q q1 q2 => by omega)
  exact ⟨o, e1, fun p h1 h2 => by rw [Nat.zero_add]; exact e2 p h1 h2⟩
/-- the reference's rows are those of t and t2 -/
def ly_P (least costs hops : Nat → Int32) (t t2 : Nat → Nat) : Prop := rw_P least 0 (le_N t) ∧ cp_P costs t 1 ∧ ho_P hops t t2
theorem lays_t {st : Nat → Int32} {t t2 : Nat → Nat} (h1 : rw_P st 0 t) (h2 : rw_P st 512 t2) (ok : ok_T t) (ok2 : ok_T t2) (a b c d : Nat → Int32) : ∃ o, pf_X7_lays st a b c d = some o ∧ ly_P o.1 o.2.1 o.2.2.1 t t2 := by
  obtain ⟨g, e1, f1⟩ := laysHops_t h1 h2 ok ok2 c
  obtain ⟨c2, e2, f2⟩ := laysCosts_t ok f1 b
  obtain ⟨o, e3, f3⟩ := laysLeast_t ok f2 a d
  unfold pf_X7_lays
  rw [e1, Option.bind_some, e2, Option.bind_some, e3, Option.bind_some]
  exact ⟨_, rfl, f3, f2, f1⟩
theorem many_lp {f : Nat → Int32} {o N : Nat} {t : Nat → Nat} (hf : rw_P f o t) (ok : ok_T t) (hN : o + 512 ≤ N) (hN2 : N < 2 ^ 31) : ∀ (d p n r : Nat), p + d = 512 → 1 ≤ p → d < n → lp_X7_many_4 N f (nI o) n (nI r) (nI p) = some (nI (r + cf_N (in_T t) d p)) := by
  intro d
  induction d with
  | zero =>
    intro p n r hp h1 hn
    obtain ⟨n, rfl⟩ : ∃ k, n = k + 1 := ⟨n - 1, by omega⟩
    obtain rfl : p = 512 := by omega
    rw [lp_X7_many_4, if_pos (show 512 ≤ nI 512 by decide)]
    rfl
  | succ d ih =>
    intro p n r hp h1 hn
    obtain ⟨n, rfl⟩ : ∃ k, n = k + 1 := ⟨n - 1, by omega⟩
    rw [lp_X7_many_4, if_neg (show ¬ 512 ≤ nI p from nI_ge (b := 512) (by omega) (by decide)), nI_add, in_bn (i := o + p) (by omega) hN2, ck_t, nI_clamp (n := o + p) (by omega), hf p h1 (by omega), nI_1, nI_1, cf_N]
    unfold in_T
    by_cases e : t p = 8
    · rw [if_pos ((nI_8 (ok p h1 (by omega))).mpr e), if_neg (show ¬ decide (t p ≠ 8) = true by simp [e]), show (0 : Int32) = nI 0 from rfl, nI_add, ih (p + 1) n (r + 0) (by omega) (by omega) (by omega), Nat.zero_add, Nat.add_zero]
      rfl
    · rw [if_neg (fun q => e ((nI_8 (ok p h1 (by omega))).mp q)), if_pos (show decide (t p ≠ 8) = true by simp [e]), ih (p + 1) n (r + 1) (by omega) (by omega) (by omega), Nat.add_assoc]
      rfl
theorem many_t {f : Nat → Int32} {o N : Nat} {t : Nat → Nat} (hf : rw_P f o t) (ok : ok_T t) (hN : o + 512 ≤ N) (hN2 : N < 2 ^ 31) : pf_X7_many f N (nI o) = some (nI (ct_N t)) := by
  have := many_lp hf ok hN hN2 511 1 fu_N 0 (by omega) (by omega) (by decide)
  rw [Nat.zero_add, ← ct_cf] at this
  exact this
theorem le_ok {t : Nat → Nat} (ok : ok_T t) : ok_T (le_N t) := fun _ h1 h2 => le_le ok h1 h2
theorem leastAt_lp {f : Nat → Int32} {u : Nat → Nat} (hf : rw_P f 0 u) (ok : ok_T u) : ∀ (d p n k : Nat), p + d = 512 → 1 ≤ p → d < n → k < 2 ^ 31 → lp_X7_leastAt_4 f n (nI k) (nI p) = some (en_I (kt_N (in_T u) d p k)) := by
  intro d
  induction d with
  | zero =>
    intro p n k hp h1 hn hk
    obtain ⟨n, rfl⟩ : ∃ k, n = k + 1 := ⟨n - 1, by omega⟩
    obtain rfl : p = 512 := by omega
    rw [lp_X7_leastAt_4, if_pos (show 512 ≤ nI 512 by decide)]
    rfl
  | succ d ih =>
    intro p n k hp h1 hn hk
    obtain ⟨n, rfl⟩ : ∃ k, n = k + 1 := ⟨n - 1, by omega⟩
    have hfp := hf p h1 (by omega)
    rw [Nat.zero_add] at hfp
    rw [lp_X7_leastAt_4, if_neg (show ¬ 512 ≤ nI p from nI_ge (b := 512) (by omega) (by decide)), in_bn (i := p) (by omega) (by decide), ck_t, nI_clamp (n := p) (by omega), hfp, nI_1, kt_N]
    unfold in_T
    by_cases e : u p = 8
    · rw [if_pos ((nI_8 (ok p h1 (by omega))).mpr e), if_neg (show ¬ decide (u p ≠ 8) = true by simp [e]), ih (p + 1) n k (by omega) (by omega) (by omega) hk]
      rfl
    · rw [if_neg (fun q => e ((nI_8 (ok p h1 (by omega))).mp q)), if_pos (show decide (u p ≠ 8) = true by simp [e])]
      by_cases hk0 : k = 0
      · rw [if_pos (show nI k = 0 by rw [hk0]; rfl), if_pos hk0, en_in (by omega)]
      · rw [if_neg (nI_ne0 (by omega) hk), if_neg hk0, sb_m1 (by omega), ih (p + 1) n (k - 1) (by omega) (by omega) (by omega) (by omega)]
        rfl
theorem leastAt_t {f : Nat → Int32} {u : Nat → Nat} (hf : rw_P f 0 u) (ok : ok_T u) {k : Nat} (hk : k < 2 ^ 31) : pf_X7_leastAt f (nI k) = some (en_I (kt_N (in_T u) 511 1 k)) := leastAt_lp hf ok 511 1 fu_N k (by omega) (by omega) (by decide) hk
def ch_B (u v : Nat → Nat) (p : Nat) : Bool := decide (u p ≠ v p)
theorem changeAt_lp {st f : Nat → Int32} {u v : Nat → Nat} (hf : rw_P f 0 u) (hs : rw_P st 512 v) (ok : ok_T u) (okv : ok_T v) : ∀ (d p n k : Nat), p + d = 512 → 1 ≤ p → d < n → k < 2 ^ 31 → lp_X7_changeAt_4 st f n (nI k) (nI p) = some (en_I (kt_N (ch_B u v) d p k)) := by
  intro d
  induction d with
  | zero =>
    intro p n k hp h1 hn hk
    obtain ⟨n, rfl⟩ : ∃ k, n = k + 1 := ⟨n - 1, by omega⟩
    obtain rfl : p = 512 := by omega
    rw [lp_X7_changeAt_4, if_pos (show 512 ≤ nI 512 by decide)]
    rfl
  | succ d ih =>
    intro p n k hp h1 hn hk
    obtain ⟨n, rfl⟩ : ∃ k, n = k + 1 := ⟨n - 1, by omega⟩
    have hfp := hf p h1 (by omega)
    rw [Nat.zero_add] at hfp
    have o1 := ok p h1 (by omega)
    have o2 := okv p h1 (by omega)
    rw [lp_X7_changeAt_4, if_neg (show ¬ 512 ≤ nI p from nI_ge (b := 512) (by omega) (by decide)), show (512 : Int32) + nI p = nI (512 + p) from nI_add 512 p, in_bn (i := p) (by omega) (by decide), in_bn (i := 512 + p) (by omega) (by decide), ck_t, ck_t, nI_clamp (n := p) (by omega), nI_clamp (n := 512 + p) (by omega), hfp, hs p h1 (by omega), nI_1, kt_N]
    unfold ch_B
    by_cases e : u p = v p
    · rw [if_pos (show nI (u p) = nI (v p) by rw [e]), if_neg (show ¬ decide (u p ≠ v p) = true by simp [e]), ih (p + 1) n k (by omega) (by omega) (by omega) hk]
      rfl
    · rw [if_neg (fun q => e ((nI_eq (by omega) (by omega)).mp q)), if_pos (show decide (u p ≠ v p) = true by simp [e])]
      by_cases hk0 : k = 0
      · rw [if_pos (show nI k = 0 by rw [hk0]; rfl), if_pos hk0, en_in (by omega)]
      · rw [if_neg (nI_ne0 (by omega) hk), if_neg hk0, sb_m1 (by omega), ih (p + 1) n (k - 1) (by omega) (by omega) (by omega) (by omega)]
        rfl
theorem changeAt_t {st f : Nat → Int32} {u v : Nat → Nat} (hf : rw_P f 0 u) (hs : rw_P st 512 v) (ok : ok_T u) (okv : ok_T v) {k : Nat} (hk : k < 2 ^ 31) : pf_X7_changeAt st f (nI k) = some (en_I (kt_N (ch_B u v) 511 1 k)) := changeAt_lp hf hs ok okv 511 1 fu_N k (by omega) (by omega) (by decide) hk
theorem changes_lp {st f : Nat → Int32} {u v : Nat → Nat} (hf : rw_P f 0 u) (hs : rw_P st 512 v) (ok : ok_T u) (okv : ok_T v) : ∀ (d p n r : Nat), p + d = 512 → 1 ≤ p → d < n → lp_X7_changes_4 st f n (nI r) (nI p) = some (nI (r + cf_N (ch_B u v) d p)) := by
  intro d
  induction d with
  | zero =>
    intro p n r hp h1 hn
    obtain ⟨n, rfl⟩ : ∃ k, n = k + 1 := ⟨n - 1, by omega⟩
    obtain rfl : p = 512 := by omega
    rw [lp_X7_changes_4, if_pos (show 512 ≤ nI 512 by decide)]
    rfl
  | succ d ih =>
    intro p n r hp h1 hn
    obtain ⟨n, rfl⟩ : ∃ k, n = k + 1 := ⟨n - 1, by omega⟩
    have hfp := hf p h1 (by omega)
    rw [Nat.zero_add] at hfp
    have o1 := ok p h1 (by omega)
    have o2 := okv p h1 (by omega)
    rw [lp_X7_changes_4, if_neg (show ¬ 512 ≤ nI p from nI_ge (b := 512) (by omega) (by decide)), show (512 : Int32) + nI p = nI (512 + p) from nI_add 512 p, in_bn (i := p) (by omega) (by decide), in_bn (i := 512 + p) (by omega) (by decide), ck_t, ck_t, nI_clamp (n := p) (by omega), nI_clamp (n := 512 + p) (by omega), hfp, hs p h1 (by omega), nI_1, nI_1, cf_N]
    unfold ch_B
    by_cases e : u p = v p
    · rw [if_pos (show nI (u p) = nI (v p) by rw [e]), if_neg (show ¬ decide (u p ≠ v p) = true by simp [e]), show (0 : Int32) = nI 0 from rfl, nI_add, ih (p + 1) n (r + 0) (by omega) (by omega) (by omega), Nat.zero_add, Nat.add_zero]
      rfl
    · rw [if_neg (fun q => e ((nI_eq (by omega) (by omega)).mp q)), if_pos (show decide (u p ≠ v p) = true by simp [e]), ih (p + 1) n (r + 1) (by omega) (by omega) (by omega), Nat.add_assoc]
      rfl
theorem changes_t {st f : Nat → Int32} {u v : Nat → Nat} (hf : rw_P f 0 u) (hs : rw_P st 512 v) (ok : ok_T u) (okv : ok_T v) : pf_X7_changes st f = some (nI (cf_N (ch_B u v) 511 1)) := by
  have := changes_lp hf hs ok okv 511 1 fu_N 0 (by omega) (by omega) (by decide)
  rw [Nat.zero_add] at this
  exact this
/-- what is sent without p -/
theorem dc_rec (t : Nat → Nat) {p : Nat} (h1 : 1 ≤ p) (h2 : p < 512) : dc_N t 9 p = if t p = 8 then dc_N t 9 (p / 2) else p := by
  rw [dc_N, if_neg (by omega), dc_more t 8 9 (p / 2) (by omega) (by omega)]
theorem hd_wo {t : Nat → Nat} {p : Nat} (h1 : 1 ≤ p) (h8 : t p ≠ 8) : ∀ x, x < 512 → hd_N (va_up t p 8) x = if dc_N t 9 x = p then hd_N t (p / 2) else hd_N t x := by
  intro x
  induction x using Nat.strongRecOn with
  | _ x ih =>
    intro hx
    by_cases h0 : x = 0
    · rw [h0, hd_0, hd_0, dc_0, if_neg (by omega)]
    · rw [hd_rec _ (by omega) hx, dc_rec t (by omega) hx]
      by_cases e : x = p
      · rw [e, va_up_self, if_pos rfl, if_neg h8, if_pos rfl, ih (p / 2) (by omega) (by omega), if_neg (by have := (dc_le t 9 (p / 2)).1; omega)]
      · rw [va_up_ne _ _ e, hd_rec t (by omega) hx]
        by_cases e8 : t x = 8
        · rw [if_pos e8, if_pos e8, if_pos e8, ih (x / 2) (by omega) (by omega)]
        · rw [if_neg e8, if_neg e8, if_neg e8, if_neg e]
theorem dc_anc (t : Nat → Nat) : ∀ (n x : Nat), dc_N t n x ≠ 0 → ∃ k, k < n ∧ dc_N t n x = x / 2 ^ k := by
  intro n
  induction n with
  | zero => intro x h; exact absurd rfl h
  | succ n ih =>
    intro x h
    rw [dc_N] at h ⊢
    by_cases h0 : x = 0
    · rw [if_pos h0] at h; exact absurd rfl h
    · rw [if_neg h0] at h ⊢
      by_cases h8 : t x = 8
      · rw [if_pos h8] at h ⊢
        obtain ⟨k, hk, e⟩ := ih (x / 2) h
        exact ⟨k + 1, by omega, by rw [e, Nat.div_div_eq_div_mul, Nat.pow_succ, Nat.mul_comm]⟩
      · rw [if_neg h8]; exact ⟨0, by omega, by rw [Nat.pow_zero, Nat.div_one]⟩
theorem fi_anc : ∀ a, a < 256 → ∀ k, k < 9 → fi_N ((256 + a) / 2 ^ k) ≤ a ∧ a < fi_N ((256 + a) / 2 ^ k) + wi_N ((256 + a) / 2 ^ k) := by decide +kernel
theorem cf_0 {b : Nat → Bool} : ∀ d p, cf_N b d p = 0 ↔ ∀ q, p ≤ q → q < p + d → b q = false := by
  intro d
  induction d with
  | zero => intro p; exact ⟨fun _ q q1 q2 => by omega, fun _ => rfl⟩
  | succ d ih =>
    intro p
    rw [cf_N]
    constructor
    · intro h q q1 q2
      by_cases e : b p = true
      · rw [if_pos e] at h; omega
      · rw [if_neg e, Nat.zero_add] at h
        by_cases eq : q = p
        · rw [eq]; exact Bool.eq_false_iff.mpr e
        · exact (ih (p + 1)).mp h q (by omega) (by omega)
    · intro h
      rw [if_neg (by rw [h p (Nat.le_refl _) (by omega)]; decide), Nat.zero_add]
      exact (ih (p + 1)).mpr (fun q q1 q2 => h q (by omega) (by omega))
theorem rd_eq {t : Nat → Nat} {p : Nat} (h1 : 1 ≤ p) (h2 : p < 512) (h8 : t p ≠ 8) : (∀ a, a < 256 → hd_N (va_up t p 8) (256 + a) = hd_N t (256 + a)) ↔ rd_B t p = true := by
  have hdp : ∀ a, a < 256 → dc_N t 9 (256 + a) = p → hd_N t (256 + a) = t p := fun a _ e => by
    unfold hd_N hf_N
    rw [e, if_neg (by omega)]
  unfold rd_B
  rw [Bool.or_eq_true, decide_eq_true_eq, decide_eq_true_eq, cf_0]
  constructor
  · intro h
    by_cases e : t p = hd_N t (p / 2)
    · exact Or.inl e
    · refine Or.inr (fun q q1 q2 => ?_)
      have hr := fi_rng p h2 h1
      rw [decide_eq_false_iff_not]
      intro hq
      have := h q (by omega)
      rw [hd_wo h1 h8 (256 + q) (by omega), if_pos hq, hdp q (by omega) hq] at this
      exact e this.symm
  · intro h a ha
    rw [hd_wo h1 h8 (256 + a) (by omega)]
    by_cases e : dc_N t 9 (256 + a) = p
    · rw [if_pos e, hdp a ha e]
      rcases h with h | h
      · exact h.symm
      · obtain ⟨k, hk, ek⟩ := dc_anc t 9 (256 + a) (by omega)
        have hf := fi_anc a ha k hk
        rw [← ek, e] at hf
        have := h a hf.1 hf.2
        rw [decide_eq_false_iff_not] at this
        exact absurd e this
    · rw [if_neg e]
theorem isRed_0 (st hops : Nat → Int32) (x : Int32) (n : Nat) (a : Int32) : lp_X7_isRedundant_4 st hops x (n + 1) 0 a = some 0 := by
  rw [lp_X7_isRedundant_4]
  by_cases h : 256 ≤ a
  · rw [if_pos h]; rfl
  · rw [if_neg h, if_pos rfl]; rfl
theorem isRed_lp {st hops : Nat → Int32} {t t2 : Nat → Nat} (h1 : rw_P st 0 t) (ok : ok_T t) (hh : ho_P hops t t2) {p : Nat} (hp1 : 1 ≤ p) (hp : p < 512) : ∀ (d a n : Nat), a + d = 256 → d + 1 < n → lp_X7_isRedundant_4 st hops (nI p) n 1 (nI a) = some (if cf_N (fun b => decide (hd_N (va_up t p 8) (256 + b) ≠ hd_N t (256 + b))) d a = 0 then 1 else 0) := by
  intro d
  induction d with
  | zero =>
    intro a n ha hn
    obtain ⟨n, rfl⟩ : ∃ k, n = k + 1 := ⟨n - 1, by omega⟩
    obtain rfl : a = 256 := by omega
    rw [lp_X7_isRedundant_4, if_pos (show 256 ≤ nI 256 by decide)]
    rfl
  | succ d ih =>
    intro a n ha hn
    obtain ⟨n, rfl⟩ : ∃ k, n = k + 1 := ⟨n - 1, by omega⟩
    have okw : ok_T (va_up t p 8) := fun q q1 q2 => by unfold va_up; split; exact Nat.le_refl 8; exact ok q q1 q2
    have b1 := hd_lt okw (show 256 + a < 512 by omega)
    have b2 := hd_lt ok (show 256 + a < 512 by omega)
    have hb : pf_X7_hopBy st 1025 0 (nI a) (nI p) = _ := hopBy_t (o := 0) (N := 1025) h1 ok (by omega) (by decide) hp (show a < 256 by omega)
    rw [lp_X7_isRedundant_4, if_neg (show ¬ 256 ≤ nI a from nI_ge (b := 256) (by omega) (by decide)), if_neg (show ¬ (1 : Int32) = 0 by decide), hb, Option.bind_some, in_bn (i := a) (by omega) (by decide), ck_t, nI_clamp (n := a) (by omega), (hh a (by omega)).1, nI_1, cf_N]
    by_cases e : hd_N (va_up t p 8) (256 + a) = hd_N t (256 + a)
    · rw [if_pos (show nI (hd_N (va_up t p 8) (256 + a)) = nI (hd_N t (256 + a)) by rw [e]), if_neg (show ¬ decide (hd_N (va_up t p 8) (256 + a) ≠ hd_N t (256 + a)) = true by simp [e]), ih (a + 1) n (by omega) (by omega), Nat.zero_add]
    · rw [if_neg (fun q => e ((nI_eq (by omega) (by omega)).mp q)), if_pos (show decide (hd_N (va_up t p 8) (256 + a) ≠ hd_N t (256 + a)) = true by simp [e]), if_neg (by omega)]
      obtain ⟨n, rfl⟩ : ∃ k, n = k + 1 := ⟨n - 1, by omega⟩
      exact isRed_0 _ _ _ _ _
theorem isRed_t {st hops : Nat → Int32} {t t2 : Nat → Nat} (h1 : rw_P st 0 t) (ok : ok_T t) (hh : ho_P hops t t2) {p : Nat} (hp1 : 1 ≤ p) (hp : p < 512) (h8 : t p ≠ 8) : pf_X7_isRedundant st hops (nI p) = some (if rd_B t p = true then 1 else 0) := by
  have := isRed_lp h1 ok hh hp1 hp 256 0 fu_N (by omega) (by decide)
  have e : pf_X7_isRedundant st hops (nI p) = _ := this
  rw [e]
  have hc : cf_N (fun b => decide (hd_N (va_up t p 8) (256 + b) ≠ hd_N t (256 + b))) 256 0 = 0 ↔ rd_B t p = true := by
    rw [cf_0, ← rd_eq hp1 hp h8]
    constructor
    · intro h a ha
      have := h a (by omega) (by omega)
      rw [decide_eq_false_iff_not] at this
      exact Classical.not_not.mp this
    · intro h a _ ha
      rw [decide_eq_false_iff_not]
      exact fun q => q (h a (by omega))
  by_cases q : rd_B t p = true
  · rw [if_pos (hc.mpr q), if_pos q]
  · rw [if_neg (fun z => q (hc.mp z)), if_neg q]
theorem redun_lp {st hops : Nat → Int32} {t t2 : Nat → Nat} (h1 : rw_P st 0 t) (ok : ok_T t) (hh : ho_P hops t t2) : ∀ (d p n r : Nat), p + d = 512 → 1 ≤ p → d < n → lp_X7_redundant_4 st hops n (nI r) (nI p) = some (nI (r + cf_N (fun q => in_T t q && rd_B t q) d p)) := by
  intro d
  induction d with
  | zero =>
    intro p n r hp hp1 hn
    obtain ⟨n, rfl⟩ : ∃ k, n = k + 1 := ⟨n - 1, by omega⟩
    obtain rfl : p = 512 := by omega
    rw [lp_X7_redundant_4, if_pos (show 512 ≤ nI 512 by decide)]
    rfl
  | succ d ih =>
    intro p n r hp hp1 hn
    obtain ⟨n, rfl⟩ : ∃ k, n = k + 1 := ⟨n - 1, by omega⟩
    rw [lp_X7_redundant_4, if_neg (show ¬ 512 ≤ nI p from nI_ge (b := 512) (by omega) (by decide)), show (0 : Int32) + nI p = nI (0 + p) from nI_add 0 p, in_bn (i := 0 + p) (by omega) (by decide), ck_t, nI_clamp (n := 0 + p) (by omega), h1 p hp1 (by omega), nI_1, nI_1, cf_N, show nI r + 0 = nI r from nI_add r 0]
    unfold in_T
    by_cases e : t p = 8
    · rw [if_pos ((nI_8 (ok p hp1 (by omega))).mpr e), if_neg (show ¬ (decide (t p ≠ 8) && rd_B t p) = true by simp [e]), ih (p + 1) n r (by omega) (by omega) (by omega), Nat.zero_add]
      rfl
    · rw [if_neg (fun q => e ((nI_8 (ok p hp1 (by omega))).mp q)), isRed_t h1 ok hh hp1 (by omega) e, Option.bind_some]
      by_cases e2 : rd_B t p = true
      · rw [if_pos e2, if_neg (show ¬ (1 : Int32) = 0 by decide), if_pos (show (decide (t p ≠ 8) && rd_B t p) = true by simp [e, e2]), ih (p + 1) n (r + 1) (by omega) (by omega) (by omega), Nat.add_assoc]
        rfl
      · rw [if_neg e2, if_pos rfl, if_neg (show ¬ (decide (t p ≠ 8) && rd_B t p) = true by simp [e2]), ih (p + 1) n r (by omega) (by omega) (by omega), Nat.zero_add]
        rfl
theorem redun_t {st hops : Nat → Int32} {t t2 : Nat → Nat} (h1 : rw_P st 0 t) (ok : ok_T t) (hh : ho_P hops t t2) : pf_X7_redundant st hops = some (nI (cf_N (fun q => in_T t q && rd_B t q) 511 1)) := by
  have := redun_lp h1 ok hh 511 1 fu_N 0 (by omega) (by omega) (by decide)
  rw [Nat.zero_add] at this
  exact this
