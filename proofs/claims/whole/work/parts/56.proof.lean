/-! the proof: prefixes of which all addresses have one hop by each table -/
def on_B (b : Nat) : Bool := decide (b = 1) || decide (b = 2) || decide (b = 4) || decide (b = 8) || decide (b = 16) || decide (b = 32) || decide (b = 64) || decide (b = 128)
theorem on_t : ∀ b, b < 256 → pf_X6_isOneHop (nI b) = some (if on_B b = true then 1 else 0) := by decide +kernel
theorem on_iff : ∀ b, b < 256 → (on_B b = true ↔ b = 2 ^ lo_N 8 b ∧ b ≠ 0) := by decide +kernel
/-- all that have p have one hop -/
def al_P (t : Nat → Nat) (p : Nat) : Prop := ∀ a, a < 256 → ha_B p a = true → ∀ b, b < 256 → ha_B p b = true → hd_N t (256 + a) = hd_N t (256 + b)
theorem on_al {t : Nat → Nat} (ok : ok_T t) {p : Nat} (h1 : 1 ≤ p) (h2 : p < 512) : on_B (hS_N t p) = true ↔ al_P t p := by
  have hb := hS_b ok p h1 h2
  have hl := lo_lt (hS_N t p) hb.1 (by omega)
  rw [on_iff _ hb.1]
  constructor
  · rintro ⟨e, -⟩ a ha ha2 b hb2 hb3
    have g1 := (hS_bit p h1 h2 (hd_N t (256 + a))).mpr ⟨a, ha, ha2, rfl⟩
    have g2 := (hS_bit p h1 h2 (hd_N t (256 + b))).mpr ⟨b, hb2, hb3, rfl⟩
    rw [e, Nat.testBit_two_pow, decide_eq_true_eq] at g1 g2
    omega
  · intro h
    refine ⟨?_, hb.2⟩
    obtain ⟨c, hc, hc2, hc3⟩ := (hS_bit p h1 h2 (lo_N 8 (hS_N t p))).mp hl.2.1
    apply Nat.eq_of_testBit_eq
    intro i
    rw [Bool.eq_iff_iff, hS_bit p h1 h2, Nat.testBit_two_pow, decide_eq_true_eq]
    constructor
    · rintro ⟨a, ha, e1, e2⟩
      rw [← hc3, ← e2]
      exact h c hc hc2 a ha e1
    · intro e; exact ⟨c, hc, hc2, by rw [hc3]; exact e⟩
/-- one by both tables -/
def oc_B (t t2 : Nat → Nat) (p : Nat) : Bool := on_B (hS_N t p) && on_B (hS_N t2 p)
theorem oc_leaf {t t2 : Nat → Nat} (ok : ok_T t) (ok2 : ok_T t2) {p : Nat} (h1 : 256 ≤ p) (h2 : p < 512) : oc_B t t2 p = true := by
  unfold oc_B
  rw [Bool.and_eq_true, on_al ok (by omega) h2, on_al ok2 (by omega) h2]
  constructor
  · intro a ha ea b hb eb
    rw [(ha_hi h1 h2 ha).mp ea, (ha_hi h1 h2 hb).mp eb]
  · intro a ha ea b hb eb
    rw [(ha_hi h1 h2 ha).mp ea, (ha_hi h1 h2 hb).mp eb]
def it_N (t t2 : Nat → Nat) (a : Nat) : Nat := 8 * hd_N t (256 + a) + hd_N t2 (256 + a)
theorem oc_it {t t2 : Nat → Nat} (ok : ok_T t) (ok2 : ok_T t2) {p : Nat} (h1 : 1 ≤ p) (h2 : p < 512) : oc_B t t2 p = true ↔ ∀ a, a < 256 → ha_B p a = true → ∀ b, b < 256 → ha_B p b = true → it_N t t2 a = it_N t t2 b := by
  unfold oc_B
  rw [Bool.and_eq_true, on_al ok h1 h2, on_al ok2 h1 h2]
  constructor
  · rintro ⟨x, y⟩ a ha ea b hb eb
    unfold it_N
    rw [x a ha ea b hb eb, y a ha ea b hb eb]
  · intro h
    have key : ∀ a, a < 256 → ha_B p a = true → ∀ b, b < 256 → ha_B p b = true → hd_N t (256 + a) = hd_N t (256 + b) ∧ hd_N t2 (256 + a) = hd_N t2 (256 + b) := by
      intro a ha ea b hb eb
      have e := h a ha ea b hb eb
      unfold it_N at e
      have c1 := hd_lt ok2 (show 256 + a < 512 by omega)
      have c2 := hd_lt ok2 (show 256 + b < 512 by omega)
      omega
    exact ⟨fun a ha ea b hb eb => (key a ha ea b hb eb).1, fun a ha ea b hb eb => (key a ha ea b hb eb).2⟩
theorem isOne_0 {hops : Nat → Int32} {t t2 : Nat → Nat} (hh : ho_P hops t t2) {p : Nat} (h1 : 1 ≤ p) (h2 : p < 512) : ∀ (d a n : Nat) (x : Int32), a + d = 256 → d < n → lp_X7_isOne_8 hops (nI p) n x 0 (nI a) = some 0 := by
  intro d
  induction d with
  | zero =>
    intro a n x ha hn
    obtain ⟨n, rfl⟩ : ∃ k, n = k + 1 := ⟨n - 1, by omega⟩
    obtain rfl : a = 256 := by omega
    rw [lp_X7_isOne_8, if_pos (show 256 ≤ nI 256 by decide)]
    rfl
  | succ d ih =>
    intro a n x ha hn
    obtain ⟨n, rfl⟩ : ∃ k, n = k + 1 := ⟨n - 1, by omega⟩
    rw [lp_X7_isOne_8, if_neg (show ¬ 256 ≤ nI a from nI_ge (b := 256) (by omega) (by decide)), has_t h1 h2 (by omega), Option.bind_some, nI_1]
    by_cases e : ha_B p a = true
    · rw [if_pos e, if_neg (show ¬ (1 : Int32) = 0 by decide), show (256 : Int32) + nI a = nI (256 + a) from nI_add 256 a, in_bn (i := a) (by omega) (by decide), in_bn (i := 256 + a) (by omega) (by decide), ck_t, ck_t, lt_b, if_pos rfl]
      exact ih (a + 1) n _ (by omega) (by omega)
    · rw [if_neg e, if_pos rfl]
      exact ih (a + 1) n _ (by omega) (by omega)
theorem isOne_lp {hops : Nat → Int32} {t t2 : Nat → Nat} (ok : ok_T t) (ok2 : ok_T t2) (hh : ho_P hops t t2) {p : Nat} (h1 : 1 ≤ p) (h2 : p < 512) : ∀ (d a n : Nat) (x : Int32), a + d = 256 → d < n → ((x = (-4) ∧ ∀ b, b < a → ¬ ha_B p b = true) ∨ (∃ b, b < a ∧ ha_B p b = true ∧ x = nI (it_N t t2 b) ∧ ∀ c, c < a → ha_B p c = true → it_N t t2 c = it_N t t2 b)) → lp_X7_isOne_8 hops (nI p) n x 1 (nI a) = some (if oc_B t t2 p = true then 1 else 0) := by
  have itl : ∀ a, a < 256 → it_N t t2 a < 64 := fun a ha => by
    unfold it_N
    have c1 := hd_lt ok (show 256 + a < 512 by omega)
    have c2 := hd_lt ok2 (show 256 + a < 512 by omega)
    omega
  intro d
  induction d with
  | zero =>
    intro a n x ha hn hx
    obtain ⟨n, rfl⟩ : ∃ k, n = k + 1 := ⟨n - 1, by omega⟩
    obtain rfl : a = 256 := by omega
    have hoc : oc_B t t2 p = true := by
      rw [oc_it ok ok2 h1 h2]
      intro a ha ea b hb eb
      rcases hx with ⟨-, h⟩ | ⟨c, hc, ec, -, h⟩
      · exact absurd ea (h a ha)
      · rw [h a ha ea, h b hb eb]
    rw [lp_X7_isOne_8, if_pos (show 256 ≤ nI 256 by decide), if_pos hoc]
    rfl
  | succ d ih =>
    intro a n x ha hn hx
    obtain ⟨n, rfl⟩ : ∃ k, n = k + 1 := ⟨n - 1, by omega⟩
    have ita := itl a (by omega)
    rw [lp_X7_isOne_8, if_neg (show ¬ 256 ≤ nI a from nI_ge (b := 256) (by omega) (by decide)), has_t h1 h2 (by omega), Option.bind_some, nI_1]
    by_cases e : ha_B p a = true
    · have ey : (8 : Int32) * nI (hd_N t (256 + a)) + nI (hd_N t2 (256 + a)) = nI (it_N t t2 a) := by rw [show (8 : Int32) = nI 8 from rfl, pk_mul, nI_add]; rfl
      rw [if_pos e, if_neg (show ¬ (1 : Int32) = 0 by decide), show (256 : Int32) + nI a = nI (256 + a) from nI_add 256 a, in_bn (i := a) (by omega) (by decide), in_bn (i := 256 + a) (by omega) (by decide), ck_t, ck_t, nI_clamp (n := a) (by omega), nI_clamp (n := 256 + a) (by omega), (hh a (by omega)).1, (hh a (by omega)).2, ey, lt_b, if_neg (show ¬ (1 : Int32) = 0 by decide)]
      rcases hx with ⟨hx, h⟩ | ⟨b, hb, eb, hx, h⟩
      · rw [if_pos hx]
        refine ih (a + 1) n _ (by omega) (by omega) (Or.inr ⟨a, by omega, e, rfl, fun c hc ec => ?_⟩)
        by_cases q : c = a
        · rw [q]
        · exact absurd ec (h c (by omega))
      · have itb := itl b (by omega)
        rw [if_neg (show ¬ x = (-4) by rw [hx]; exact nI_m4 (by omega)), hx]
        by_cases q : it_N t t2 b = it_N t t2 a
        · rw [if_pos (show nI (it_N t t2 b) = nI (it_N t t2 a) by rw [q])]
          refine ih (a + 1) n _ (by omega) (by omega) (Or.inr ⟨a, by omega, e, rfl, fun c hc ec => ?_⟩)
          by_cases q2 : c = a
          · rw [q2]
          · rw [h c (by omega) ec, q]
        · rw [if_neg (fun z => q ((nI_eq (by omega) (by omega)).mp z)), isOne_0 hh h1 h2 d (a + 1) n _ (by omega) (by omega), if_neg (fun z => q ((oc_it ok ok2 h1 h2).mp z b (by omega) eb a (by omega) e))]
    · rw [if_neg e, if_pos rfl]
      refine ih (a + 1) n _ (by omega) (by omega) ?_
      rcases hx with ⟨hx, h⟩ | ⟨b, hb, eb, hx, h⟩
      · refine Or.inl ⟨hx, fun b hb => ?_⟩
        by_cases q : b = a
        · rw [q]; exact e
        · exact h b (by omega)
      · refine Or.inr ⟨b, by omega, eb, hx, fun c hc ec => ?_⟩
        by_cases q : c = a
        · rw [q] at ec; exact absurd ec e
        · exact h c (by omega) ec
theorem isOne_t {hops : Nat → Int32} {t t2 : Nat → Nat} (ok : ok_T t) (ok2 : ok_T t2) (hh : ho_P hops t t2) {p : Nat} (h1 : 1 ≤ p) (h2 : p < 512) : pf_X7_isOne hops (nI p) = some (if oc_B t t2 p = true then 1 else 0) := isOne_lp ok ok2 hh h1 h2 256 0 fu_N (-4) (by omega) (by decide) (Or.inl ⟨rfl, fun b hb => by omega⟩)
/-- the shortest prefix of x (at most k bits fewer) for which b holds -/
def lk_N (b : Nat → Bool) (x : Nat) : Nat → Nat
  | 0 => x
  | k + 1 => if b (x / 2 ^ (k + 1)) = true then x / 2 ^ (k + 1) else lk_N b x k
def pr_N (t t2 : Nat → Nat) (a : Nat) : Nat := lk_N (oc_B t t2) (256 + a) 8
theorem lk_k (b : Nat → Bool) (x : Nat) : ∀ k, ∃ j, j ≤ k ∧ lk_N b x k = x / 2 ^ j ∧ (j ≠ 0 → b (x / 2 ^ j) = true) ∧ ∀ i, j < i → i ≤ k → ¬ b (x / 2 ^ i) = true := by
  intro k
  induction k with
  | zero => exact ⟨0, Nat.le_refl _, by rw [Nat.pow_zero, Nat.div_one]; rfl, fun h => absurd rfl h, fun i h1 h2 => by omega⟩
  | succ k ih =>
    obtain ⟨j, h1, h2, h3, h4⟩ := ih
    rw [lk_N]
    by_cases e : b (x / 2 ^ (k + 1)) = true
    · rw [if_pos e]; exact ⟨k + 1, Nat.le_refl _, rfl, fun _ => e, fun i q1 q2 => by omega⟩
    · rw [if_neg e]
      refine ⟨j, by omega, h2, h3, fun i q1 q2 => ?_⟩
      by_cases q : i = k + 1
      · rw [q]; exact e
      · exact h4 i q1 (by omega)
theorem anc_1 {a k : Nat} (ha : a < 256) (hk : k ≤ 8) : 1 ≤ (256 + a) / 2 ^ k ∧ (256 + a) / 2 ^ k < 512 := by
  have h3 : 2 ^ k ≤ 2 ^ 8 := Nat.pow_le_pow_right (by decide) hk
  exact ⟨(Nat.one_le_div_iff (Nat.two_pow_pos k)).mpr (by omega), Nat.lt_of_le_of_lt (Nat.div_le_self _ _) (by omega)⟩
theorem pr_b {t t2 : Nat → Nat} {a : Nat} (ha : a < 256) : 1 ≤ pr_N t t2 a ∧ pr_N t t2 a < 512 := by
  obtain ⟨j, h1, h2, -, -⟩ := lk_k (oc_B t t2) (256 + a) 8
  unfold pr_N
  rw [h2]
  exact anc_1 ha h1
theorem proofOf_lp {hops : Nat → Int32} {t t2 : Nat → Nat} (ok : ok_T t) (ok2 : ok_T t2) (hh : ho_P hops t t2) {a : Nat} (ha : a < 256) : ∀ (d k n : Nat), k + d = 9 → 1 ≤ k → d < n → lp_X7_proofOf_9 hops n (nI (lk_N (oc_B t t2) (256 + a) (k - 1))) (nI ((256 + a) / 2 ^ k)) = some (nI (pr_N t t2 a)) := by
  intro d
  induction d with
  | zero =>
    intro k n hk h1 hn
    obtain ⟨n, rfl⟩ : ∃ k, n = k + 1 := ⟨n - 1, by omega⟩
    obtain rfl : k = 9 := by omega
    have e0 : (256 + a) / 2 ^ 9 = 0 := by omega
    rw [lp_X7_proofOf_9, e0, if_pos (show nI 0 ≤ 0 by decide)]
    rfl
  | succ d ih =>
    intro k n hk h1 hn
    obtain ⟨n, rfl⟩ : ∃ k, n = k + 1 := ⟨n - 1, by omega⟩
    have hb := anc_1 ha (show k ≤ 8 by omega)
    have hdd : (256 + a) / 2 ^ k / 2 = (256 + a) / 2 ^ (k + 1) := by rw [Nat.div_div_eq_div_mul, ← Nat.pow_succ]
    have elk : lk_N (oc_B t t2) (256 + a) (k + 1 - 1) = if oc_B t t2 ((256 + a) / 2 ^ k) = true then (256 + a) / 2 ^ k else lk_N (oc_B t t2) (256 + a) (k - 1) := by
      obtain ⟨j, rfl⟩ : ∃ j, k = j + 1 := ⟨k - 1, by omega⟩
      rfl
    have hi := ih (k + 1) n (by omega) (by omega) (by omega)
    rw [lp_X7_proofOf_9, if_neg (nI_nle (by omega) (by omega)), isOne_t ok ok2 hh hb.1 hb.2, Option.bind_some, half_I (by omega), hdd]
    by_cases e : oc_B t t2 ((256 + a) / 2 ^ k) = true
    · rw [elk, if_pos e] at hi
      rw [if_pos e, if_neg (show ¬ (1 : Int32) = 0 by decide)]
      exact hi
    · rw [elk, if_neg e] at hi
      rw [if_neg e, if_pos rfl]
      exact hi
theorem proofOf_t {hops : Nat → Int32} {t t2 : Nat → Nat} (ok : ok_T t) (ok2 : ok_T t2) (hh : ho_P hops t t2) {a : Nat} (ha : a < 256) : pf_X7_proofOf hops (nI a) = some (nI (pr_N t t2 a)) := by
  unfold pf_X7_proofOf
  rw [show (256 : Int32) + nI a = nI (256 + a) from nI_add 256 a, show fu_N = 9999 + 1 from rfl, lp_X7_proofOf_9, if_neg (nI_nle (by omega) (by omega)), isOne_t ok ok2 hh (by omega) (by omega), Option.bind_some, if_pos (oc_leaf ok ok2 (by omega) (by omega)), if_neg (show ¬ (1 : Int32) = 0 by decide), half_I (by omega)]
  have := proofOf_lp ok ok2 hh ha 8 1 9999 (by omega) (by omega) (by omega)
  rw [Nat.pow_one] at this
  exact this
theorem hopsB_t {s1 : Nat → Int32} {t : Nat → Nat} (h : ∀ q, 1 ≤ q → q < 512 → s1 q = nI (hS_N t q)) {p : Nat} (h1 : 1 ≤ p) (h2 : p < 512) : pf_X5_hopsBeneath s1 (nI p) = some (nI (hS_N t p)) ∧ pf_X5_installedHopsBeneath s1 (nI p) = some (nI (hS_N t p)) := by
  unfold pf_X5_hopsBeneath pf_X5_installedHopsBeneath
  rw [isPrefix_y h1 h2, Option.bind_some, if_neg (show ¬ (1 : Int32) = 0 by decide), in_bn (i := p) (by omega) (by decide), ck_t, nI_clamp (n := p) (by omega), h p h1 h2]
  exact ⟨rfl, rfl⟩
/-- whether an address is the first one of its prefix of the proof -/
def st_B (t t2 : Nat → Nat) (a : Nat) : Bool := decide (fi_N (pr_N t t2 a) = a)
theorem pfrom_lp {s1 s2 : Nat → Int32} {t t2 : Nat → Nat} (ok : ok_T t) (ok2 : ok_T t2) (h1 : ∀ q, 1 ≤ q → q < 512 → s1 q = nI (hS_N t q)) (h2 : ∀ q, 1 ≤ q → q < 512 → s2 q = nI (hS_N t2 q)) {a : Nat} (ha : a < 256) : ∀ (k l n : Nat), l + k = 8 → k < n → lp_X5_proofFrom_2 s1 s2 (nI a) n (nI l) = some (if fi_N (lk_N (oc_B t t2) (256 + a) k) = a then nI (lk_N (oc_B t t2) (256 + a) k) else (-4)) := by
  intro k
  induction k with
  | zero =>
    intro l n hl hn
    obtain ⟨n, rfl⟩ : ∃ k, n = k + 1 := ⟨n - 1, by omega⟩
    obtain rfl : l = 8 := by omega
    have hoc := oc_leaf ok ok2 (show 256 ≤ 256 + a by omega) (show 256 + a < 512 by omega)
    unfold oc_B at hoc
    rw [Bool.and_eq_true] at hoc
    have hf := fi_rng (256 + a) (by omega) (by omega)
    have sh0 : nI (256 + a) >>> (((8 : Int32) - nI 8) &&& 31) = nI (256 + a) := by
      have := sh_r (x := 256 + a) (c := 0) (by omega) (by decide)
      rw [Nat.pow_zero, Nat.div_one] at this
      exact this
    rw [lp_X5_proofFrom_2, if_neg (show ¬ 8 < nI 8 by decide), show (256 : Int32) + nI a = nI (256 + a) from nI_add 256 a, sh0, lt_b, (hopsB_t h1 (by omega) (by omega)).1, Option.bind_some, on_t _ (hS_b ok _ (by omega) (by omega)).1, Option.bind_some, if_pos hoc.1, if_neg (show ¬ (1 : Int32) = 0 by decide), (hopsB_t h2 (by omega) (by omega)).2, Option.bind_some, on_t _ (hS_b ok2 _ (by omega) (by omega)).1, Option.bind_some, if_pos hoc.2, if_neg (show ¬ (1 : Int32) = 0 by decide), fi_t _ (by omega) (by omega), Option.bind_some, lk_N]
    by_cases e : fi_N (256 + a) = a
    · rw [if_pos (show nI (fi_N (256 + a)) = nI a by rw [e]), if_pos e]
    · rw [if_neg (fun q => e ((nI_eq (by omega) (by omega)).mp q)), if_neg e]
  | succ k ih =>
    intro l n hl hn
    obtain ⟨n, rfl⟩ : ∃ k, n = k + 1 := ⟨n - 1, by omega⟩
    have hb := anc_1 ha (show k + 1 ≤ 8 by omega)
    have hf := fi_rng ((256 + a) / 2 ^ (k + 1)) hb.2 hb.1
    have sh0 : nI (256 + a) >>> (((8 : Int32) - nI l) &&& 31) = nI ((256 + a) / 2 ^ (k + 1)) := by
      rw [show (8 : Int32) - nI l = nI (8 - l) from pk_sub (a := 8) (by omega), show 8 - l = k + 1 by omega]
      exact sh_r (by omega) (by omega)
    rw [lp_X5_proofFrom_2, if_neg (show ¬ 8 < nI l from nI_nlt (a := 8) (by omega) (by decide)), show (256 : Int32) + nI a = nI (256 + a) from nI_add 256 a, sh0, lt_b, (hopsB_t h1 hb.1 hb.2).1, Option.bind_some, on_t _ (hS_b ok _ hb.1 hb.2).1, Option.bind_some, (hopsB_t h2 hb.1 hb.2).2, Option.bind_some, on_t _ (hS_b ok2 _ hb.1 hb.2).1, Option.bind_some, fi_t _ hb.2 hb.1, Option.bind_some, nI_1, ih (l + 1) n (by omega) (by omega), lk_N]
    unfold oc_B
    by_cases e1 : on_B (hS_N t ((256 + a) / 2 ^ (k + 1))) = true
    · rw [if_pos e1, if_neg (show ¬ (1 : Int32) = 0 by decide)]
      by_cases e2 : on_B (hS_N t2 ((256 + a) / 2 ^ (k + 1))) = true
      · rw [if_pos e2, if_neg (show ¬ (1 : Int32) = 0 by decide), if_pos (show (on_B (hS_N t ((256 + a) / 2 ^ (k + 1))) && on_B (hS_N t2 ((256 + a) / 2 ^ (k + 1)))) = true by rw [e1, e2]; rfl)]
        by_cases e : fi_N ((256 + a) / 2 ^ (k + 1)) = a
        · rw [if_pos (show nI (fi_N ((256 + a) / 2 ^ (k + 1))) = nI a by rw [e]), if_pos e]
        · rw [if_neg (fun q => e ((nI_eq (by omega) (by omega)).mp q)), if_neg e]
      · rw [if_neg e2, if_pos rfl, if_neg (show ¬ (on_B (hS_N t ((256 + a) / 2 ^ (k + 1))) && on_B (hS_N t2 ((256 + a) / 2 ^ (k + 1)))) = true from fun q => e2 (Bool.and_eq_true_iff.mp q).2)]
    · rw [if_neg e1, if_pos rfl, if_neg (show ¬ (on_B (hS_N t ((256 + a) / 2 ^ (k + 1))) && on_B (hS_N t2 ((256 + a) / 2 ^ (k + 1)))) = true from fun q => e1 (Bool.and_eq_true_iff.mp q).1)]
theorem pfrom_t {s1 s2 : Nat → Int32} {t t2 : Nat → Nat} (ok : ok_T t) (ok2 : ok_T t2) (h1 : ∀ q, 1 ≤ q → q < 512 → s1 q = nI (hS_N t q)) (h2 : ∀ q, 1 ≤ q → q < 512 → s2 q = nI (hS_N t2 q)) {a : Nat} (ha : a < 256) : pf_X5_proofFrom s1 s2 (nI a) = some (if st_B t t2 a = true then nI (pr_N t t2 a) else (-4)) := by
  have := pfrom_lp ok ok2 h1 h2 ha 8 0 fu_N (by omega) (by decide)
  have e : pf_X5_proofFrom s1 s2 (nI a) = _ := this
  rw [e]
  unfold st_B pr_N
  by_cases q : fi_N (lk_N (oc_B t t2) (256 + a) 8) = a
  · rw [if_pos q, if_pos (decide_eq_true q)]
  · rw [if_neg q, if_neg (show ¬ decide (fi_N (lk_N (oc_B t t2) (256 + a) 8) = a) = true by simp [q])]
theorem cproof_lp {s1 s2 : Nat → Int32} {t t2 : Nat → Nat} (ok : ok_T t) (ok2 : ok_T t2) (h1 : ∀ q, 1 ≤ q → q < 512 → s1 q = nI (hS_N t q)) (h2 : ∀ q, 1 ≤ q → q < 512 → s2 q = nI (hS_N t2 q)) : ∀ (d a n r : Nat), a + d = 256 → d < n → lp_X5_countProof_4 s1 s2 n (nI r) (nI a) = some (nI (r + cf_N (st_B t t2) d a)) := by
  intro d
  induction d with
  | zero =>
    intro a n r ha hn
    obtain ⟨n, rfl⟩ : ∃ k, n = k + 1 := ⟨n - 1, by omega⟩
    obtain rfl : a = 256 := by omega
    rw [lp_X5_countProof_4, if_pos (show 256 ≤ nI 256 by decide)]
    rfl
  | succ d ih =>
    intro a n r ha hn
    obtain ⟨n, rfl⟩ : ∃ k, n = k + 1 := ⟨n - 1, by omega⟩
    have hb := pr_b (t := t) (t2 := t2) (show a < 256 by omega)
    rw [lp_X5_countProof_4, if_neg (show ¬ 256 ≤ nI a from nI_ge (b := 256) (by omega) (by decide)), pfrom_t ok ok2 h1 h2 (by omega), Option.bind_some, nI_1, nI_1, cf_N]
    by_cases e : st_B t t2 a = true
    · rw [if_pos e, if_neg (nI_m4 (by omega)), ih (a + 1) n (r + 1) (by omega) (by omega), if_pos e, Nat.add_assoc]
    · rw [if_neg e, if_pos rfl, ih (a + 1) n r (by omega) (by omega), if_neg e, Nat.zero_add]
theorem cproof_t {s1 s2 : Nat → Int32} {t t2 : Nat → Nat} (ok : ok_T t) (ok2 : ok_T t2) (h1 : ∀ q, 1 ≤ q → q < 512 → s1 q = nI (hS_N t q)) (h2 : ∀ q, 1 ≤ q → q < 512 → s2 q = nI (hS_N t2 q)) : pf_X5_countProof s1 s2 = some (nI (cf_N (st_B t t2) 256 0)) := by
  have := cproof_lp ok ok2 h1 h2 256 0 fu_N 0 (by omega) (by decide)
  rw [Nat.zero_add] at this
  exact this
/-- the k-th first address (256: none) -/
def ka_N (b : Nat → Bool) : Nat → Nat → Nat → Nat
  | 0, _, _ => 256
  | d + 1, a, k => if b a = true then (if k = 0 then a else ka_N b d (a + 1) (k - 1)) else ka_N b d (a + 1) k
theorem ka_le (b : Nat → Bool) : ∀ d a k, a + d = 256 → ka_N b d a k ≤ 256 := by
  intro d
  induction d with
  | zero => intro a k _; exact Nat.le_refl _
  | succ d ih =>
    intro a k h
    rw [ka_N]
    split
    · split
      · omega
      · exact ih _ _ (by omega)
    · exact ih _ _ (by omega)
def pn_I (t t2 : Nat → Nat) (a : Nat) : Int32 := if a = 256 then (-4) else nI (pr_N t t2 a)
theorem nproof_lp {s1 s2 : Nat → Int32} {t t2 : Nat → Nat} (ok : ok_T t) (ok2 : ok_T t2) (h1 : ∀ q, 1 ≤ q → q < 512 → s1 q = nI (hS_N t q)) (h2 : ∀ q, 1 ≤ q → q < 512 → s2 q = nI (hS_N t2 q)) {k : Nat} (hk : k < 2 ^ 31) : ∀ (d a n r : Nat), a + d = 256 → d < n → r ≤ k → lp_X5_proofNumber_4 s1 s2 (nI k) n (nI r) (nI a) = some (pn_I t t2 (ka_N (st_B t t2) d a (k - r))) := by
  intro d
  induction d with
  | zero =>
    intro a n r ha hn hr
    obtain ⟨n, rfl⟩ : ∃ k, n = k + 1 := ⟨n - 1, by omega⟩
    obtain rfl : a = 256 := by omega
    rw [lp_X5_proofNumber_4, if_pos (show 256 ≤ nI 256 by decide)]
    rfl
  | succ d ih =>
    intro a n r ha hn hr
    obtain ⟨n, rfl⟩ : ∃ k, n = k + 1 := ⟨n - 1, by omega⟩
    have hb := pr_b (t := t) (t2 := t2) (show a < 256 by omega)
    rw [lp_X5_proofNumber_4, if_neg (show ¬ 256 ≤ nI a from nI_ge (b := 256) (by omega) (by decide)), pfrom_t ok ok2 h1 h2 (by omega), Option.bind_some, nI_1, nI_1, ka_N]
    by_cases e : st_B t t2 a = true
    · rw [if_pos e, if_neg (nI_m4 (by omega)), if_pos e]
      by_cases hrk : r = k
      · rw [if_pos (show nI r = nI k by rw [hrk]), if_pos (show k - r = 0 by omega)]
        unfold pn_I
        rw [if_neg (by omega)]
      · rw [if_neg (fun q => hrk ((nI_eq (by omega) hk).mp q)), if_neg (show ¬ k - r = 0 by omega), ih (a + 1) n (r + 1) (by omega) (by omega) (by omega), show k - (r + 1) = k - r - 1 by omega]
    · rw [if_neg e, if_pos rfl, ih (a + 1) n r (by omega) (by omega) hr, if_neg e]
theorem nproof_t {s1 s2 : Nat → Int32} {t t2 : Nat → Nat} (ok : ok_T t) (ok2 : ok_T t2) (h1 : ∀ q, 1 ≤ q → q < 512 → s1 q = nI (hS_N t q)) (h2 : ∀ q, 1 ≤ q → q < 512 → s2 q = nI (hS_N t2 q)) {k : Nat} (hk : k < 2 ^ 31) : pf_X5_proofNumber s1 s2 (nI k) = some (pn_I t t2 (ka_N (st_B t t2) 256 0 k)) := nproof_lp ok ok2 h1 h2 hk 256 0 fu_N 0 (by omega) (by decide) (by omega)
