/-! loops over the table: the k-th, how many, redundant ones -/
/-- the k-th place from p on (d places) at which b holds; 0: none -/
def kt_N (b : Nat → Bool) : Nat → Nat → Nat → Nat
  | 0, _, _ => 0
  | d + 1, p, k => if b p = true then (if k = 0 then p else kt_N b d (p + 1) (k - 1)) else kt_N b d (p + 1) k
/-- at how many of d places from p on b holds -/
def cf_N (b : Nat → Bool) : Nat → Nat → Nat
  | 0, _ => 0
  | d + 1, p => (if b p = true then 1 else 0) + cf_N b d (p + 1)
theorem cf_le (b : Nat → Bool) : ∀ d p, cf_N b d p ≤ d := by
  intro d
  induction d with
  | zero => intro p; exact Nat.le_refl 0
  | succ d ih =>
    intro p
    rw [cf_N]
    have := ih (p + 1)
    split <;> omega
theorem cf_fb (b : Nat → Bool) : ∀ d p, cf_N b d p = fb_ct (fun j => b (p + j)) d := by
  intro d
  induction d with
  | zero => intro p; rfl
  | succ d ih =>
    intro p
    have h := fb_ct_split (fun j => b (p + j)) 1 d
    rw [Nat.add_comm d 1, h, cf_N.eq_def]
    simp only [Nat.add_comm 1 d]
    rw [ih (p + 1)]
    have e1 : fb_ct (fun j => b (p + j)) 1 = if b p = true then 1 else 0 := by
      rw [fb_ct_succ]
      simp [fb_ct]
    have e2 : (fun k => b (p + (1 + k))) = (fun j => b (p + 1 + j)) := by funext k; rw [Nat.add_assoc]
    rw [e1, e2]
theorem cf_cg {b c : Nat → Bool} : ∀ d p, (∀ q, p ≤ q → q < p + d → b q = c q) → cf_N b d p = cf_N c d p := by
  intro d
  induction d with
  | zero => intro p _; rfl
  | succ d ih =>
    intro p h
    rw [cf_N, cf_N, h p (Nat.le_refl _) (by omega), ih (p + 1) (fun q q1 q2 => h q (by omega) (by omega))]
theorem kt_cg {b c : Nat → Bool} : ∀ d p k, (∀ q, p ≤ q → q < p + d → b q = c q) → kt_N b d p k = kt_N c d p k := by
  intro d
  induction d with
  | zero => intro p k _; rfl
  | succ d ih =>
    intro p k h
    rw [kt_N, kt_N, h p (Nat.le_refl _) (by omega), ih (p + 1) _ (fun q q1 q2 => h q (by omega) (by omega)), ih (p + 1) _ (fun q q1 q2 => h q (by omega) (by omega))]
theorem kt_at {b : Nat → Bool} : ∀ d p k, kt_N b d p k = 0 ∨ (p ≤ kt_N b d p k ∧ kt_N b d p k < p + d ∧ b (kt_N b d p k) = true) := by
  intro d
  induction d with
  | zero => intro p k; exact Or.inl rfl
  | succ d ih =>
    intro p k
    rw [kt_N]
    by_cases h : b p = true
    · rw [if_pos h]
      by_cases hk : k = 0
      · rw [if_pos hk]; exact Or.inr ⟨Nat.le_refl _, by omega, h⟩
      · rw [if_neg hk]
        rcases ih (p + 1) (k - 1) with q | ⟨q1, q2, q3⟩
        · exact Or.inl q
        · exact Or.inr ⟨by omega, by omega, q3⟩
    · rw [if_neg h]
      rcases ih (p + 1) k with q | ⟨q1, q2, q3⟩
      · exact Or.inl q
      · exact Or.inr ⟨by omega, by omega, q3⟩
theorem kt_lt {b : Nat → Bool} : ∀ d p k, 1 ≤ p → (kt_N b d p k ≠ 0 ↔ k < cf_N b d p) := by
  intro d
  induction d with
  | zero => intro p k _; exact ⟨fun h => absurd rfl h, fun h => absurd h (Nat.not_lt_zero k)⟩
  | succ d ih =>
    intro p k hp
    rw [kt_N, cf_N]
    by_cases h : b p = true
    · rw [if_pos h, if_pos h]
      by_cases hk : k = 0
      · rw [if_pos hk]; exact ⟨fun _ => by omega, fun _ => by omega⟩
      · rw [if_neg hk, ih (p + 1) (k - 1) (by omega)]; omega
    · rw [if_neg h, if_neg h, ih (p + 1) k (by omega)]; omega
def in_T (t : Nat → Nat) (p : Nat) : Bool := decide (t p ≠ 8)
theorem ct_cf (t : Nat → Nat) : ct_N t = cf_N (in_T t) 511 1 := by
  rw [cf_fb]
  unfold ct_N in_T
  congr 1
  funext j
  rw [Nat.add_comm 1 j]
theorem num_lp {pl : Nat → Int64} {sz : Int32} {t : Nat → Nat} (h : tr_P pl sz t) {k : Nat} (hk : k < 2 ^ 31) : ∀ (d p n a : Nat), p + d = 512 → 1 ≤ p → d < n → a ≤ k → lp_X3_numberOf_4 pl (nI k) n (nI a) (nI p) = some (en_I (kt_N (in_T t) d p (k - a))) := by
  intro d
  induction d with
  | zero =>
    intro p n a hp h1 hn ha
    obtain ⟨n, rfl⟩ : ∃ k, n = k + 1 := ⟨n - 1, by omega⟩
    obtain rfl : p = 512 := by omega
    rw [lp_X3_numberOf_4, if_pos (show 512 ≤ nI 512 by decide)]
    rfl
  | succ d ih =>
    intro p n a hp h1 hn ha
    obtain ⟨n, rfl⟩ : ∃ k, n = k + 1 := ⟨n - 1, by omega⟩
    rw [lp_X3_numberOf_4, if_neg (show ¬ 512 ≤ nI p from nI_ge (b := 512) (by omega) (by decide)), hopAt_t h h1 (by omega), Option.bind_some, nI_1, nI_1, kt_N]
    unfold in_T
    by_cases e : t p = 8
    · rw [if_pos ((hv_m4 (h.1 p h1 (by omega)).1).mpr e), if_neg (by simp [e]), ih (p + 1) n a (by omega) (by omega) (by omega) ha]
      rfl
    · rw [if_neg (fun q => e ((hv_m4 (h.1 p h1 (by omega)).1).mp q)), if_pos (show decide (t p ≠ 8) = true by simp [e])]
      by_cases hak : a = k
      · rw [if_pos (show nI a = nI k by rw [hak]), if_pos (show k - a = 0 by omega), en_in (by omega)]
      · rw [if_neg (fun q => hak ((nI_eq (by omega) hk).mp q)), if_neg (show ¬ k - a = 0 by omega), ih (p + 1) n (a + 1) (by omega) (by omega) (by omega) (by omega), show k - (a + 1) = k - a - 1 by omega]
        rfl
theorem number_t {pl : Nat → Int64} {sz : Int32} {t : Nat → Nat} (h : tr_P pl sz t) {k : Nat} (hk : k < 2 ^ 31) : pf_X3_numberOf pl (nI k) = some (en_I (kt_N (in_T t) 511 1 k)) := num_lp h hk 511 1 fu_N 0 (by omega) (by omega) (by decide) (by omega)
theorem hv_eq {v h : Nat} (hv : v ≤ 8) (hh : h < 8) : hv_I v = nI h ↔ v = h := by
  unfold hv_I
  by_cases e : v = 8
  · rw [if_pos e]; exact ⟨fun q => absurd q.symm (nI_m4 (by omega)), fun q => by omega⟩
  · rw [if_neg e]; exact nI_eq (by omega) (by omega)
theorem hasHop_lp {pl : Nat → Int64} {sz : Int32} {t : Nat → Nat} (h : tr_P pl sz t) {hh : Nat} (h8 : hh < 8) : ∀ (d p n : Nat), p + d = 512 → 1 ≤ p → d < n → lp_X3_hasHop_2 pl (nI hh) n (nI p) = some (if cf_N (fun q => decide (t q = hh)) d p = 0 then 0 else 1) := by
  intro d
  induction d with
  | zero =>
    intro p n hp h1 hn
    obtain ⟨n, rfl⟩ : ∃ k, n = k + 1 := ⟨n - 1, by omega⟩
    obtain rfl : p = 512 := by omega
    rw [lp_X3_hasHop_2, if_pos (show 512 ≤ nI 512 by decide)]
    rfl
  | succ d ih =>
    intro p n hp h1 hn
    obtain ⟨n, rfl⟩ : ∃ k, n = k + 1 := ⟨n - 1, by omega⟩
    rw [lp_X3_hasHop_2, if_neg (show ¬ 512 ≤ nI p from nI_ge (b := 512) (by omega) (by decide)), hopAt_t h h1 (by omega), Option.bind_some, nI_1, cf_N]
    by_cases e : t p = hh
    · rw [if_pos ((hv_eq (h.1 p h1 (by omega)).1 h8).mpr e), if_pos (show decide (t p = hh) = true by simp [e]), if_neg (by omega)]
    · rw [if_neg (fun q => e ((hv_eq (h.1 p h1 (by omega)).1 h8).mp q)), if_neg (show ¬ decide (t p = hh) = true by simp [e]), ih (p + 1) n (by omega) (by omega) (by omega), Nat.zero_add]
theorem hasHop_t {pl : Nat → Int64} {sz : Int32} {t : Nat → Nat} (h : tr_P pl sz t) {hh : Nat} (h8 : hh < 8) : pf_X3_hasHop pl (nI hh) = some (if cf_N (fun q => decide (t q = hh)) 511 1 = 0 then 0 else 1) := hasHop_lp h h8 511 1 fu_N (by omega) (by omega) (by decide)
/-- from p on, a hop renamed -/
def rn_N (u : Nat → Nat) (hh o p : Nat) : Nat → Nat := fun q => if p ≤ q ∧ u q = hh then o else u q
theorem rep_lp {hh o : Nat} (h8 : hh < 8) (o8 : o < 8) (hne : hh ≠ o) : ∀ (d p n r : Nat) (pl : Nat → Int64) (sz : Int32) (u : Nat → Nat), p + d = 512 → 1 ≤ p → d < n → tr_P pl sz u → ∃ w, lp_X3_replaceHop_5 (nI hh) (nI o) n pl sz (nI r) (nI p) = some w ∧ w.1 = nI (r + cf_N (fun q => decide (u q = hh)) d p) ∧ tr_P w.2.1 w.2.2 (rn_N u hh o p) := by
  intro d
  induction d with
  | zero =>
    intro p n r pl sz u hp h1 hn h
    obtain ⟨n, rfl⟩ : ∃ k, n = k + 1 := ⟨n - 1, by omega⟩
    obtain rfl : p = 512 := by omega
    rw [lp_X3_replaceHop_5, if_pos (show 512 ≤ nI 512 by decide)]
    refine ⟨_, rfl, rfl, ?_⟩
    have e : ∀ q, 1 ≤ q → q < 512 → rn_N u hh o 512 q = u q := fun q _ q2 => if_neg (fun z => by omega)
    refine ⟨fun q q1 q2 => by rw [e q q1 q2]; exact h.1 q q1 q2, ?_⟩
    show sz = _
    rw [h.2, ct_cf, ct_cf]
    exact congrArg nI (cf_cg _ _ (fun q q1 q2 => by unfold in_T; rw [e q q1 (by omega)]))
  | succ d ih =>
    intro p n r pl sz u hp h1 hn h
    obtain ⟨n, rfl⟩ : ∃ k, n = k + 1 := ⟨n - 1, by omega⟩
    rw [lp_X3_replaceHop_5, if_neg (show ¬ 512 ≤ nI p from nI_ge (b := 512) (by omega) (by decide)), hopAt_t h h1 (by omega), Option.bind_some, nI_1, nI_1, cf_N]
    by_cases e : u p = hh
    · obtain ⟨w, e1, e2⟩ := put_t h h1 (by omega) o8
      rw [if_pos ((hv_eq (h.1 p h1 (by omega)).1 h8).mpr e), e1, Option.bind_some, if_pos (show decide (u p = hh) = true by simp [e])]
      obtain ⟨w2, f1, f2, f3⟩ := ih (p + 1) n (r + 1) w.1 w.2 (va_up u p o) (by omega) (by omega) (by omega) e2
      have eq1 : rn_N (va_up u p o) hh o (p + 1) = rn_N u hh o p := by
        funext q
        unfold rn_N va_up
        by_cases hq : q = p
        · subst hq
          rw [if_pos rfl, if_neg (fun z => by omega), if_pos ⟨Nat.le_refl _, e⟩]
        · rw [if_neg hq]
          by_cases hc : p ≤ q ∧ u q = hh
          · rw [if_pos ⟨by omega, hc.2⟩, if_pos hc]
          · rw [if_neg (fun z => hc ⟨by omega, z.2⟩), if_neg hc]
      refine ⟨w2, f1, ?_, eq1 ▸ f3⟩
      rw [f2]
      refine congrArg nI ?_
      rw [cf_cg (b := fun q => decide (va_up u p o q = hh)) (c := fun q => decide (u q = hh)) d (p + 1) (fun q q1 _ => by rw [va_up_ne _ _ (by omega)])]
      omega
    · rw [if_neg (fun q => e ((hv_eq (h.1 p h1 (by omega)).1 h8).mp q)), if_neg (show ¬ decide (u p = hh) = true by simp [e])]
      obtain ⟨w2, f1, f2, f3⟩ := ih (p + 1) n r pl sz u (by omega) (by omega) (by omega) h
      have eq1 : rn_N u hh o (p + 1) = rn_N u hh o p := by
        funext q
        unfold rn_N
        by_cases hq : q = p
        · subst hq
          rw [if_neg (fun z => by omega), if_neg (fun z => e z.2)]
        · by_cases hc : p ≤ q ∧ u q = hh
          · rw [if_pos ⟨by omega, hc.2⟩, if_pos hc]
          · rw [if_neg (fun z => hc ⟨by omega, z.2⟩), if_neg hc]
      refine ⟨w2, f1, ?_, eq1 ▸ f3⟩
      rw [f2, Nat.zero_add]
theorem replace_t {pl : Nat → Int64} {sz : Int32} {t : Nat → Nat} (h : tr_P pl sz t) {hh o : Nat} (h8 : hh < 8) (o8 : o < 8) (hne : hh ≠ o) : ∃ w, pf_X3_replaceHop pl sz (nI hh) (nI o) = some w ∧ w.1 = nI (cf_N (fun q => decide (t q = hh)) 511 1) ∧ tr_P w.2.1 w.2.2 (rn_N t hh o 1) := by
  obtain ⟨w, a, b, c⟩ := rep_lp h8 o8 hne 511 1 fu_N 0 pl sz t (by omega) (by omega) (by decide) h
  exact ⟨w, a, by rw [b, Nat.zero_add], c⟩
/-- the first address of a prefix, and how many it has -/
def fi_N (p : Nat) : Nat := p * 2 ^ (8 - Nat.log2 p) - 256
def wi_N (p : Nat) : Nat := 2 ^ (8 - Nat.log2 p)
theorem fi_t : ∀ p, p < 512 → 1 ≤ p → pf_X6_firstAddress (nI p) = some (nI (fi_N p)) := by decide +kernel
theorem wi_t : ∀ p, p < 512 → 1 ≤ p → pf_X6_howManyAddresses (nI p) = some (nI (wi_N p)) := by decide +kernel
theorem fi_rng : ∀ p, p < 512 → 1 ≤ p → fi_N p + wi_N p ≤ 256 ∧ 1 ≤ wi_N p := by decide +kernel
theorem dany_lp {pl : Nat → Int64} {sz : Int32} {t : Nat → Nat} (h : tr_P pl sz t) {p z : Nat} (hp : 1 ≤ p) (hp2 : p < 512) (hz : z ≤ 256) : ∀ (d a n : Nat), a + d = z → d < n → lp_X3_decidesAny_15 pl (nI p) (nI z) n (nI a) = some (if cf_N (fun q => decide (dc_N t 9 (256 + q) = p)) d a = 0 then 0 else 1) := by
  intro d
  induction d with
  | zero =>
    intro a n ha hn
    obtain ⟨n, rfl⟩ : ∃ k, n = k + 1 := ⟨n - 1, by omega⟩
    rw [lp_X3_decidesAny_15, if_pos (nI_le (by omega) (by omega))]
    rfl
  | succ d ih =>
    intro a n ha hn
    obtain ⟨n, rfl⟩ : ∃ k, n = k + 1 := ⟨n - 1, by omega⟩
    have hle := (dc_le t 9 (256 + a)).1
    rw [lp_X3_decidesAny_15, if_neg (nI_ge (by omega) (by omega)), decider_t h (by omega), Option.bind_some, nI_1, cf_N]
    by_cases e : dc_N t 9 (256 + a) = p
    · rw [if_pos (by rw [e, en_in (by omega)]), if_pos (show decide (dc_N t 9 (256 + a) = p) = true by simp [e]), if_neg (by omega)]
    · rw [if_neg (fun q => ?_), if_neg (show ¬ decide (dc_N t 9 (256 + a) = p) = true by simp [e]), ih (a + 1) n (by omega) (by omega), Nat.zero_add]
      unfold en_I at q
      by_cases e0 : dc_N t 9 (256 + a) = 0
      · rw [if_pos e0] at q; exact nI_m4 (by omega) q.symm
      · rw [if_neg e0] at q; exact e ((nI_eq (by omega) (by omega)).mp q)
/-- whether p is redundant -/
def rd_B (t : Nat → Nat) (p : Nat) : Bool := decide (t p = hd_N t (p / 2)) || decide (cf_N (fun q => decide (dc_N t 9 (256 + q) = p)) (wi_N p) (fi_N p) = 0)
theorem redund_t {pl : Nat → Int64} {sz : Int32} {t : Nat → Nat} (h : tr_P pl sz t) {p : Nat} (h1 : 1 ≤ p) (h2 : p < 512) : pf_X3_redundancyOf pl (nI p) = some (if t p = 8 then (-4) else if rd_B t p = true then 1 else 0) := by
  have hr := fi_rng p h2 h1
  have ok := hd_lt (tr_ok h) (show p / 2 < 512 by omega)
  unfold pf_X3_redundancyOf
  rw [hopAt_t h h1 h2, Option.bind_some]
  by_cases e : t p = 8
  · rw [if_pos ((hv_m4 (h.1 p h1 h2).1).mpr e), if_pos e]
  · have e8 := (h.1 p h1 h2).1
    rw [if_neg (fun q => e ((hv_m4 (h.1 p h1 h2).1).mp q)), if_neg e, above_t h h2, Option.bind_some]
    unfold rd_B
    by_cases e2 : t p = hd_N t (p / 2)
    · rw [if_pos ((hv_eq e8 ok).mpr e2), if_pos (by simp [e2])]
    · have ed : pf_X3_decidesAny pl (nI p) = some (if cf_N (fun q => decide (dc_N t 9 (256 + q) = p)) (wi_N p) (fi_N p) = 0 then 0 else 1) := by
        unfold pf_X3_decidesAny
        rw [fi_t p h2 h1, Option.bind_some, wi_t p h2 h1, Option.bind_some, nI_add]
        exact dany_lp h h1 h2 (by omega) (wi_N p) (fi_N p) fu_N rfl (by have : fu_N = 10000 := rfl; omega)
      rw [if_neg (fun q => e2 ((hv_eq e8 ok).mp q)), ed, Option.bind_some]
      by_cases e3 : cf_N (fun q => decide (dc_N t 9 (256 + q) = p)) (wi_N p) (fi_N p) = 0
      · rw [if_pos e3, if_pos rfl, if_pos (by simp [e3])]
      · rw [if_neg e3, if_neg (show ¬ (1 : Int32) = 0 by decide), if_neg (by simp [e2, e3])]
theorem cred_lp {pl : Nat → Int64} {sz : Int32} {t : Nat → Nat} (h : tr_P pl sz t) : ∀ (d p n r : Nat), p + d = 512 → 1 ≤ p → d < n → lp_X3_countRedundant_4 pl n (nI r) (nI p) = some (nI (r + cf_N (fun q => in_T t q && rd_B t q) d p)) := by
  intro d
  induction d with
  | zero =>
    intro p n r hp h1 hn
    obtain ⟨n, rfl⟩ : ∃ k, n = k + 1 := ⟨n - 1, by omega⟩
    obtain rfl : p = 512 := by omega
    rw [lp_X3_countRedundant_4, if_pos (show 512 ≤ nI 512 by decide)]
    rfl
  | succ d ih =>
    intro p n r hp h1 hn
    obtain ⟨n, rfl⟩ : ∃ k, n = k + 1 := ⟨n - 1, by omega⟩
    rw [lp_X3_countRedundant_4, if_neg (show ¬ 512 ≤ nI p from nI_ge (b := 512) (by omega) (by decide)), redund_t h h1 (by omega), Option.bind_some, nI_1, nI_1, cf_N]
    unfold in_T
    by_cases e : t p = 8
    · rw [if_pos e, if_neg (show ¬ (-4 : Int32) = 1 by decide), if_neg (by simp [e]), ih (p + 1) n r (by omega) (by omega) (by omega), Nat.zero_add]
      rfl
    · rw [if_neg e]
      by_cases e2 : rd_B t p = true
      · rw [if_pos e2, if_pos rfl, if_pos (by simp [e, e2]), ih (p + 1) n (r + 1) (by omega) (by omega) (by omega), Nat.add_assoc]
        rfl
      · rw [if_neg e2, if_neg (show ¬ (0 : Int32) = 1 by decide), if_neg (by simp [e2]), ih (p + 1) n r (by omega) (by omega) (by omega), Nat.zero_add]
        rfl
theorem countRed_t {pl : Nat → Int64} {sz : Int32} {t : Nat → Nat} (h : tr_P pl sz t) : pf_X3_countRedundant pl = some (nI (cf_N (fun q => in_T t q && rd_B t q) 511 1)) := by
  have := cred_lp h 511 1 fu_N 0 (by omega) (by omega) (by decide)
  rw [Nat.zero_add] at this
  exact this
