/-! the reference's way through the proof: from first address to first address -/
theorem lg_anc : ∀ a, a < 256 → ∀ k, k < 9 → Nat.log2 ((256 + a) / 2 ^ k) = 8 - k ∧ 256 ≤ (256 + a) / 2 ^ k * 2 ^ k := by decide +kernel
theorem blk {a j b : Nat} (ha : a < 256) (hj : j < 9) (hb : b < 256) (h1 : fi_N ((256 + a) / 2 ^ j) ≤ b) (h2 : b < fi_N ((256 + a) / 2 ^ j) + wi_N ((256 + a) / 2 ^ j)) : (256 + b) / 2 ^ j = (256 + a) / 2 ^ j := by
  obtain ⟨l1, l2⟩ := lg_anc a ha j hj
  unfold fi_N at h1 h2
  unfold wi_N at h2
  rw [l1, show 8 - (8 - j) = j by omega] at h1 h2
  apply Nat.div_eq_of_lt_le
  · omega
  · rw [Nat.add_mul, Nat.one_mul]; omega
theorem pr_same {t t2 : Nat → Nat} {a b : Nat} (ha : a < 256) (hb : b < 256) (h1 : fi_N (pr_N t t2 a) ≤ b) (h2 : b < fi_N (pr_N t t2 a) + wi_N (pr_N t t2 a)) : pr_N t t2 b = pr_N t t2 a := by
  obtain ⟨j, j8, e, f1, f2⟩ := lk_k (oc_B t t2) (256 + a) 8
  have ea : pr_N t t2 a = (256 + a) / 2 ^ j := e
  rw [ea] at h1 h2
  have hbj := blk ha (by omega) hb h1 h2
  have up : ∀ i, j ≤ i → (256 + b) / 2 ^ i = (256 + a) / 2 ^ i := by
    intro i hi
    rw [show i = j + (i - j) by omega, Nat.pow_add, ← Nat.div_div_eq_div_mul, ← Nat.div_div_eq_div_mul, hbj]
  obtain ⟨j2, j28, e2, g1, g2⟩ := lk_k (oc_B t t2) (256 + b) 8
  have eb : pr_N t t2 b = (256 + b) / 2 ^ j2 := e2
  rw [ea, eb]
  have : j2 = j := by
    rcases Nat.lt_trichotomy j2 j with q | q | q
    · have := g2 j q j8
      rw [hbj] at this
      exact absurd (f1 (by omega)) this
    · exact q
    · have := g1 (by omega)
      rw [up j2 (by omega)] at this
      exact absurd this (f2 j2 q j28)
  rw [this, hbj]
theorem st_next {t t2 : Nat → Nat} {a : Nat} (ha : a < 256) (hs : st_B t t2 a = true) : 1 ≤ wi_N (pr_N t t2 a) ∧ a + wi_N (pr_N t t2 a) ≤ 256 ∧ (∀ b, a < b → b < a + wi_N (pr_N t t2 a) → st_B t t2 b = false) ∧ (a + wi_N (pr_N t t2 a) < 256 → st_B t t2 (a + wi_N (pr_N t t2 a)) = true) := by
  have hb := pr_b (t := t) (t2 := t2) ha
  have hr := fi_rng _ hb.2 hb.1
  have hs2 : fi_N (pr_N t t2 a) = a := of_decide_eq_true hs
  refine ⟨hr.2, by omega, fun b b1 b2 => ?_, fun h => ?_⟩
  · have e := pr_same (t := t) (t2 := t2) (a := a) (b := b) ha (by omega) (by omega) (by omega)
    unfold st_B
    rw [e, hs2]
    exact decide_eq_false (by omega)
  · obtain ⟨j2, j28, e2, -, -⟩ := lk_k (oc_B t t2) (256 + (a + wi_N (pr_N t t2 a))) 8
    have eb : pr_N t t2 (a + wi_N (pr_N t t2 a)) = (256 + (a + wi_N (pr_N t t2 a))) / 2 ^ j2 := e2
    have hf := fi_anc (a + wi_N (pr_N t t2 a)) h j2 (by omega)
    rw [← eb] at hf
    apply decide_eq_true
    apply Nat.le_antisymm hf.1
    refine Nat.not_lt.mp (fun hlt => ?_)
    have q1 := pr_same (t := t) (t2 := t2) (a := a + wi_N (pr_N t t2 a)) (b := a + wi_N (pr_N t t2 a) - 1) h (by omega) (by omega) (by omega)
    have q2 := pr_same (t := t) (t2 := t2) (a := a) (b := a + wi_N (pr_N t t2 a) - 1) ha (by omega) (by omega) (by omega)
    rw [← q1, q2, hs2] at hf
    omega
theorem cf_skip {b : Nat → Bool} : ∀ (w a d : Nat), (∀ q, a ≤ q → q < a + w → b q = false) → cf_N b (w + d) a = cf_N b d (a + w) := by
  intro w
  induction w with
  | zero => intro a d _; rw [Nat.zero_add, Nat.add_zero]
  | succ w ih =>
    intro a d h
    rw [show w + 1 + d = (w + d) + 1 by omega, cf_N, if_neg (by rw [h a (Nat.le_refl _) (by omega)]; decide), Nat.zero_add, ih (a + 1) d (fun q q1 q2 => h q (by omega) (by omega)), show a + 1 + w = a + (w + 1) by omega]
theorem ka_skip {b : Nat → Bool} : ∀ (w a d k : Nat), (∀ q, a ≤ q → q < a + w → b q = false) → ka_N b (w + d) a k = ka_N b d (a + w) k := by
  intro w
  induction w with
  | zero => intro a d k _; rw [Nat.zero_add, Nat.add_zero]
  | succ w ih =>
    intro a d k h
    rw [show w + 1 + d = (w + d) + 1 by omega, ka_N, if_neg (by rw [h a (Nat.le_refl _) (by omega)]; decide), ih (a + 1) d k (fun q q1 q2 => h q (by omega) (by omega)), show a + 1 + w = a + (w + 1) by omega]
theorem wd_f : ∀ p, p < 512 → 1 ≤ p → ∀ i, i < 9 → (256 ≤ p * 2 ^ i ↔ lv_N p ≤ i) ∧ (i ≤ lv_N p → p * 2 ^ i < 512) := by decide +kernel
theorem wide_lp {p : Nat} (h1 : 1 ≤ p) (h2 : p < 512) : ∀ (d i n : Nat), i + d = lv_N p → d < n → lp_X7_wide_4 n (nI (2 ^ i)) (nI (p * 2 ^ i)) = some (nI (wi_N p)) := by
  have hl := lv_le p
  intro d
  induction d with
  | zero =>
    intro i n hi hn
    obtain ⟨n, rfl⟩ : ∃ k, n = k + 1 := ⟨n - 1, by omega⟩
    have hf := wd_f p h2 h1 i (by omega)
    rw [lp_X7_wide_4, if_pos (show 256 ≤ nI (p * 2 ^ i) from nI_le (a := 256) (hf.1.mpr (by omega)) (by have := hf.2 (by omega); omega))]
    unfold wi_N
    rw [show 8 - Nat.log2 p = i from by unfold lv_N at hi; omega]
  | succ d ih =>
    intro i n hi hn
    obtain ⟨n, rfl⟩ : ∃ k, n = k + 1 := ⟨n - 1, by omega⟩
    have hf := wd_f p h2 h1 i (by omega)
    rw [lp_X7_wide_4, if_neg (show ¬ 256 ≤ nI (p * 2 ^ i) from nI_ge (b := 256) (Nat.not_le.mp (fun q => by have := hf.1.mp q; omega)) (by decide)), show nI (2 ^ i) * 2 = nI (2 ^ i * 2) from pk_mul _ 2, show nI (p * 2 ^ i) * 2 = nI (p * 2 ^ i * 2) from pk_mul _ 2, ← Nat.pow_succ, Nat.mul_assoc, ← Nat.pow_succ]
    exact ih (i + 1) n (by omega) (by omega)
theorem wide_t {p : Nat} (h1 : 1 ≤ p) (h2 : p < 512) : pf_X7_wide (nI p) = some (nI (wi_N p)) := by
  have := wide_lp h1 h2 (lv_N p) 0 fu_N (by omega) (by have := lv_le p; have : fu_N = 10000 := rfl; omega)
  rw [Nat.pow_zero, Nat.mul_one] at this
  exact this
def ea_I (a : Nat) : Int32 := if a = 256 then (-4) else nI a
theorem proofAt_lp {hops : Nat → Int32} {t t2 : Nat → Nat} (ok : ok_T t) (ok2 : ok_T t2) (hh : ho_P hops t t2) {k : Nat} (hk : k < 2 ^ 31) : ∀ (m a n c : Nat), 256 ≤ a + m → a ≤ 256 → m < n → c ≤ k → (a < 256 → st_B t t2 a = true) → lp_X7_proofAt_4 hops (nI k) n (nI c) (nI a) = some (ea_I (ka_N (st_B t t2) (256 - a) a (k - c))) := by
  intro m
  induction m with
  | zero =>
    intro a n c ham ha hn hc hs
    obtain ⟨n, rfl⟩ : ∃ k, n = k + 1 := ⟨n - 1, by omega⟩
    obtain rfl : a = 256 := by omega
    rw [lp_X7_proofAt_4, if_pos (show 256 ≤ nI 256 by decide), if_pos (nI_pos' hk)]
    rfl
  | succ m ih =>
    intro a n c ham ha hn hc hs
    by_cases h256 : a = 256
    · exact ih a n c (by omega) ha (by omega) hc hs
    · obtain ⟨n, rfl⟩ : ∃ k, n = k + 1 := ⟨n - 1, by omega⟩
      have hs2 := hs (by omega)
      obtain ⟨w1, w2, w3, w4⟩ := st_next (show a < 256 by omega) hs2
      have hb := pr_b (t := t) (t2 := t2) (show a < 256 by omega)
      rw [lp_X7_proofAt_4, if_neg (show ¬ 256 ≤ nI a from nI_ge (b := 256) (by omega) (by decide)), proofOf_t ok ok2 hh (by omega), Option.bind_some, wide_t hb.1 hb.2, Option.bind_some, nI_1, nI_add]
      have ek : ka_N (st_B t t2) (256 - a) a (k - c) = if k - c = 0 then a else ka_N (st_B t t2) (256 - (a + 1)) (a + 1) (k - c - 1) := by
        rw [show 256 - a = (256 - (a + 1)) + 1 by omega, ka_N, if_pos hs2]
      rw [ek]
      by_cases e : c = k
      · rw [if_pos (show nI c = nI k by rw [e]), if_pos (show k - c = 0 by omega)]
        unfold ea_I
        rw [if_neg h256]
      · rw [if_neg (fun q => e ((nI_eq (by omega) hk).mp q)), if_neg (show ¬ k - c = 0 by omega), ih (a + wi_N (pr_N t t2 a)) n (c + 1) (by omega) w2 (by omega) (by omega) w4]
        have sk := ka_skip (b := st_B t t2) (wi_N (pr_N t t2 a) - 1) (a + 1) (256 - (a + wi_N (pr_N t t2 a))) (k - c - 1) (fun q q1 q2 => w3 q (by omega) (by omega))
        rw [show wi_N (pr_N t t2 a) - 1 + (256 - (a + wi_N (pr_N t t2 a))) = 256 - (a + 1) by omega, show a + 1 + (wi_N (pr_N t t2 a) - 1) = a + wi_N (pr_N t t2 a) by omega] at sk
        rw [sk, show k - (c + 1) = k - c - 1 by omega]
theorem pr_0 {t t2 : Nat → Nat} : st_B t t2 0 = true := by
  obtain ⟨j, j8, e, -, -⟩ := lk_k (oc_B t t2) (256 + 0) 8
  have ea : pr_N t t2 0 = (256 + 0) / 2 ^ j := e
  have hf := fi_anc 0 (by decide) j (by omega)
  apply decide_eq_true
  rw [ea]
  omega
theorem proofAt_t {hops : Nat → Int32} {t t2 : Nat → Nat} (ok : ok_T t) (ok2 : ok_T t2) (hh : ho_P hops t t2) {k : Nat} (hk : k < 2 ^ 31) : pf_X7_proofAt hops (nI k) = some (ea_I (ka_N (st_B t t2) 256 0 k)) := proofAt_lp ok ok2 hh hk 256 0 fu_N 0 (by omega) (by omega) (by decide) (by omega) (fun _ => pr_0)
theorem proofCt_lp {hops : Nat → Int32} {t t2 : Nat → Nat} (ok : ok_T t) (ok2 : ok_T t2) (hh : ho_P hops t t2) : ∀ (m a n c : Nat), 256 ≤ a + m → a ≤ 256 → m < n → c ≤ a → (a < 256 → st_B t t2 a = true) → lp_X7_proofAt_4 hops (-1) n (nI c) (nI a) = some (nI (c + cf_N (st_B t t2) (256 - a) a)) := by
  intro m
  induction m with
  | zero =>
    intro a n c ham ha hn hc hs
    obtain ⟨n, rfl⟩ : ∃ k, n = k + 1 := ⟨n - 1, by omega⟩
    obtain rfl : a = 256 := by omega
    rw [lp_X7_proofAt_4, if_pos (show 256 ≤ nI 256 by decide), if_neg (show ¬ (0 : Int32) ≤ -1 by decide)]
    rfl
  | succ m ih =>
    intro a n c ham ha hn hc hs
    by_cases h256 : a = 256
    · exact ih a n c (by omega) ha (by omega) hc hs
    · obtain ⟨n, rfl⟩ : ∃ k, n = k + 1 := ⟨n - 1, by omega⟩
      have hs2 := hs (by omega)
      obtain ⟨w1, w2, w3, w4⟩ := st_next (show a < 256 by omega) hs2
      have hb := pr_b (t := t) (t2 := t2) (show a < 256 by omega)
      have hne : ¬ nI c = (-1) := fun h => by
        have h1 := congrArg Int32.toInt h
        rw [nI_toInt (by omega)] at h1
        have e : (-1 : Int32).toInt = -1 := by decide
        omega
      have sk := cf_skip (b := st_B t t2) (wi_N (pr_N t t2 a) - 1) (a + 1) (256 - (a + wi_N (pr_N t t2 a))) (fun q q1 q2 => w3 q (by omega) (by omega))
      rw [show wi_N (pr_N t t2 a) - 1 + (256 - (a + wi_N (pr_N t t2 a))) = 256 - (a + 1) by omega, show a + 1 + (wi_N (pr_N t t2 a) - 1) = a + wi_N (pr_N t t2 a) by omega] at sk
      rw [lp_X7_proofAt_4, if_neg (show ¬ 256 ≤ nI a from nI_ge (b := 256) (by omega) (by decide)), if_neg hne, proofOf_t ok ok2 hh (by omega), Option.bind_some, wide_t hb.1 hb.2, Option.bind_some, nI_1, nI_add, ih (a + wi_N (pr_N t t2 a)) n (c + 1) (by omega) w2 (by omega) (by omega) w4, show 256 - a = (256 - (a + 1)) + 1 by omega, cf_N, if_pos hs2, sk, Nat.add_assoc]
theorem proofCt_t {hops : Nat → Int32} {t t2 : Nat → Nat} (ok : ok_T t) (ok2 : ok_T t2) (hh : ho_P hops t t2) : pf_X7_proofAt hops (-1) = some (nI (cf_N (st_B t t2) 256 0)) := by
  have := proofCt_lp ok ok2 hh 256 0 fu_N 0 (by omega) (by omega) (by decide) (by omega) (fun _ => pr_0)
  rw [Nat.zero_add] at this
  exact this
