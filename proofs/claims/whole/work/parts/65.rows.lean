/-- pairs of a row -/
theorem ad2 (a t : Nat) : nI a + (2 : Int32) * nI t = nI (a + 2 * t) := (congrArg (nI a + ·) (pk_mul 2 t)).trans (nI_add _ _)
theorem ad21 (a t : Nat) : nI a + (2 : Int32) * nI t + 1 = nI (a + 2 * t + 1) := by rw [ad2, nI_1]
theorem hp_lp {f it : Nat → Int64} {a A n : Nat} (ha : a + 2 * n ≤ 30) (hA : A + 2 * n ≤ 120) (hX : ∀ k, k < 2 * n → f (a + k) = it (A + k)) : ∀ (d i F F2 : Nat), i + d = n → d < F → d < F2 → ∃ b : Bool, lp_X2_holdsPairs_15 f (nI a) (nI n) F (nI i) = some (if b = true then 1 else 0) ∧ lp_X7_lengths_55 it (nI n) (nI A) F2 (nI i) = if b = true then lp_X7_lengths_123 it (nI n) (nI A) fu_N 0 0 else some (-2)
  | 0, i, F + 1, F2 + 1, hi, _, _ => by
    refine ⟨true, ?_, ?_⟩
    · rw [lp_X2_holdsPairs_15, if_pos (nI_le (show n ≤ i by omega) (by omega)), if_pos rfl]
    · rw [lp_X7_lengths_55, if_pos (nI_le (show n ≤ i by omega) (by omega)), if_pos rfl]
  | d + 1, i, F + 1, F2 + 1, hi, hF, hF2 => by
    obtain ⟨b, e1, e2⟩ := hp_lp ha hA hX d (i + 1) F F2 (by omega) (by omega) (by omega)
    have x1 : f (a + 2 * i) = it (A + 2 * i) := hX (2 * i) (by omega)
    have x2 : f (a + 2 * i + 1) = it (A + 2 * i + 1) := by
      have := hX (2 * i + 1) (by omega)
      rw [← Nat.add_assoc, ← Nat.add_assoc] at this
      exact this
    rw [lp_X2_holdsPairs_15, if_neg (nI_ge (show i < n by omega) (by omega)), lp_X7_lengths_55, if_neg (nI_ge (show i < n by omega) (by omega))]
    simp only [ad2, nI_1, in_bn (show a + 2 * i < 30 by omega) (show 30 < 2 ^ 31 by decide), in_bn (show a + 2 * i + 1 < 30 by omega) (show 30 < 2 ^ 31 by decide), in_bn (show A + 2 * i < 120 by omega) (show 120 < 2 ^ 31 by decide), in_bn (show A + 2 * i + 1 < 120 by omega) (show 120 < 2 ^ 31 by decide), ck_t, lt_b, nI_clamp (show a + 2 * i < 2 ^ 31 by omega), nI_clamp (show a + 2 * i + 1 < 2 ^ 31 by omega), nI_clamp (show A + 2 * i < 2 ^ 31 by omega), nI_clamp (show A + 2 * i + 1 < 2 ^ 31 by omega), x1, x2, e1, e2, pf_X7_in]
    generalize it (A + 2 * i) = v
    generalize it (A + 2 * i + 1) = w
    have z0 : (0 : Int64).toInt = 0 := rfl
    have z7 : (7 : Int64).toInt = 7 := rfl
    have z8 : (8 : Int64).toInt = 8 := rfl
    have z255 : (255 : Int64).toInt = 255 := rfl
    have z256 : (256 : Int64).toInt = 256 := rfl
    simp only [lg_cmp_lt, lg_cmp_ge, lg_cmp_gt]
    by_cases c1 : v < 0
    · rw [if_pos c1, if_pos c1, Option.bind_some, if_pos rfl]
      exact ⟨false, rfl, rfl⟩
    rw [if_neg c1, if_neg c1]
    by_cases c2 : 256 ≤ v
    · rw [if_pos c2, if_pos (show 255 < v by rw [fa_lt64]; rw [fa_le64] at c2; omega), Option.bind_some, if_pos rfl]
      exact ⟨false, rfl, rfl⟩
    rw [if_neg c2, if_neg (show ¬ 255 < v by rw [fa_lt64]; rw [fa_le64] at c2; omega), Option.bind_some, if_neg ok_1]
    by_cases c3 : w < 0
    · rw [if_pos c3, if_pos c3, Option.bind_some, if_pos rfl]
      exact ⟨false, rfl, rfl⟩
    rw [if_neg c3, if_neg c3]
    by_cases c4 : w < 8
    · rw [if_pos c4, if_neg (show ¬ 7 < w by rw [fa_lt64]; rw [fa_lt64] at c4; omega), Option.bind_some, if_neg ok_1]
      exact ⟨b, rfl, rfl⟩
    · rw [if_neg c4, if_pos (show 7 < w by rw [fa_lt64]; rw [fa_lt64] at c4; omega), Option.bind_some, if_pos rfl]
      exact ⟨false, rfl, rfl⟩
  | 0, _, 0, _, _, h, _ => by omega
  | d + 1, _, 0, _, _, h, _ => by omega
  | 0, _, _ + 1, 0, _, _, h => by omega
  | d + 1, _, _ + 1, 0, _, _, h => by omega
def bd_B (f : Nat → Int64) (a c t u : Nat) : Bool := decide (f (a + 2 * t) >>> ((Int32.toInt64 (nI c)) &&& 63) = f (a + 2 * u) >>> ((Int32.toInt64 (nI c)) &&& 63) ∧ ¬ f (a + 2 * t + 1) = f (a + 2 * u + 1))
theorem tb31 {f : Nat → Int64} {a c t : Nat} (x3 : Int32) (ht : a + 2 * t + 1 < 30) (g : Int32 → Option Int32) : ∀ (d u F : Nat), u + d = t → d < F → lp_X2_isToldBy_31 f (nI a) x3 (nI c) (nI t) g F (nI u) = if cf_N (bd_B f a c t) d u = 0 then g (nI (t + 1)) else some 0
  | 0, u, F + 1, hu, _ => by
    rw [lp_X2_isToldBy_31, if_pos (nI_le (show t ≤ u by omega) (by omega)), nI_1]
    rfl
  | d + 1, u, F + 1, hu, hF => by
    have ih := tb31 (f := f) (a := a) (c := c) x3 ht g d (u + 1) F (by omega) (by omega)
    rw [lp_X2_isToldBy_31, if_neg (nI_ge (show u < t by omega) (by omega))]
    simp only [lp_X2_isToldBy_75, ad2, nI_1, in_bn (show a + 2 * t < 30 by omega) (show 30 < 2 ^ 31 by decide), in_bn (show a + 2 * t + 1 < 30 by omega) (show 30 < 2 ^ 31 by decide), in_bn (show a + 2 * u < 30 by omega) (show 30 < 2 ^ 31 by decide), in_bn (show a + 2 * u + 1 < 30 by omega) (show 30 < 2 ^ 31 by decide), ck_t, nI_clamp (show a + 2 * t < 2 ^ 31 by omega), nI_clamp (show a + 2 * t + 1 < 2 ^ 31 by omega), nI_clamp (show a + 2 * u < 2 ^ 31 by omega), nI_clamp (show a + 2 * u + 1 < 2 ^ 31 by omega), lg_cmp_eq, ih, if_neg ok_1, if_pos]
    rw [cf_N]
    by_cases c1 : f (a + 2 * t) >>> ((Int32.toInt64 (nI c)) &&& 63) = f (a + 2 * u) >>> ((Int32.toInt64 (nI c)) &&& 63)
    · rw [if_pos c1]
      by_cases c2 : f (a + 2 * t + 1) = f (a + 2 * u + 1)
      · rw [if_pos c2, if_neg (show ¬ bd_B f a c t u = true from fun h => (of_decide_eq_true h).2 c2), Nat.zero_add]
      · rw [if_neg c2, if_pos (show bd_B f a c t u = true from decide_eq_true ⟨c1, c2⟩), if_neg (by omega)]
    · rw [if_neg c1, if_neg (show ¬ bd_B f a c t u = true from fun h => c1 (of_decide_eq_true h).1), Nat.zero_add]
  | 0, _, 0, _, h => by omega
  | d + 1, _, 0, _, h => by omega
def ob_B (f : Nat → Int64) (a c t : Nat) : Bool := decide (¬ cf_N (bd_B f a c t) t 0 = 0)
theorem tb22 {f : Nat → Int64} {a c n : Nat} (ha : a + 2 * n ≤ 30) : ∀ (d t F : Nat), t + d = n → d < F → lp_X2_isToldBy_22 f (nI a) (nI n) (nI c) F (nI t) = some (if cf_N (ob_B f a c) d t = 0 then 1 else 0)
  | 0, t, F + 1, ht, _ => by
    rw [lp_X2_isToldBy_22, if_pos (nI_le (show n ≤ t by omega) (by omega))]
    rfl
  | d + 1, t, F + 1, ht, hF => by
    have ih := tb22 (f := f) (c := c) ha d (t + 1) F (by omega) (by omega)
    rw [lp_X2_isToldBy_22, if_neg (nI_ge (show t < n by omega) (by omega)), show lp_X2_isToldBy_31 f (nI a) (nI n) (nI c) (nI t) (lp_X2_isToldBy_22 f (nI a) (nI n) (nI c) F) fu_N 0 = _ from tb31 (nI n) (by omega) _ t 0 fu_N (by omega) (show t < 10000 by omega), ih, cf_N]
    by_cases c1 : cf_N (bd_B f a c t) t 0 = 0
    · rw [if_pos c1, if_neg (show ¬ ob_B f a c t = true from fun h => of_decide_eq_true h c1), Nat.zero_add]
    · rw [if_neg c1, if_pos (show ob_B f a c t = true from decide_eq_true c1), if_neg (show ¬ 1 + cf_N (ob_B f a c) d (t + 1) = 0 by omega)]
  | 0, _, 0, _, h => by omega
  | d + 1, _, 0, _, h => by omega
def b1_I (b : Bool) : Int32 := if b = true then 1 else 0
theorem b1_0 (b : Bool) : b1_I b = 0 ↔ b = false := by cases b <;> decide
theorem il15 {f : Nat → Int64} {a c t l : Nat} (x2 : Int32) (hc : 8 - nI l = nI c) (ht : a + 2 * t + 1 < 120) (g : Int32 → Int32 → Option Int32) : ∀ (d u F : Nat) (b : Bool), u + d = t → d < F → lp_X7_isLength_15 f (nI a) x2 (nI l) (nI t) g F (b1_I b) (nI u) = g (b1_I (b && decide (cf_N (bd_B f a c t) d u = 0))) (nI (t + 1))
  | 0, u, F + 1, b, hu, _ => by
    rw [lp_X7_isLength_15, if_pos (nI_le (show t ≤ u by omega) (by omega)), nI_1, show (b && decide (cf_N (bd_B f a c t) 0 u = 0)) = b from Bool.and_true b]
  | d + 1, u, F + 1, b, hu, hF => by
    have ih := il15 (f := f) (a := a) x2 hc ht g d (u + 1) F
    rw [lp_X7_isLength_15, if_neg (nI_ge (show u < t by omega) (by omega))]
    simp only [lp_X7_isLength_63, ad2, nI_1, hc, in_bn (show a + 2 * t < 120 by omega) (show 120 < 2 ^ 31 by decide), in_bn (show a + 2 * t + 1 < 120 by omega) (show 120 < 2 ^ 31 by decide), in_bn (show a + 2 * u < 120 by omega) (show 120 < 2 ^ 31 by decide), in_bn (show a + 2 * u + 1 < 120 by omega) (show 120 < 2 ^ 31 by decide), ck_t, nI_clamp (show a + 2 * t < 2 ^ 31 by omega), nI_clamp (show a + 2 * t + 1 < 2 ^ 31 by omega), nI_clamp (show a + 2 * u < 2 ^ 31 by omega), nI_clamp (show a + 2 * u + 1 < 2 ^ 31 by omega), lg_cmp_eq, if_neg ok_1, if_pos, b1_0]
    have i0 := ih false (by omega) (by omega)
    have i1 := ih true (by omega) (by omega)
    rw [show b1_I false = 0 from rfl] at i0
    rw [show b1_I true = 1 from rfl] at i1
    rw [i0, i1, cf_N]
    cases b with
    | false =>
      simp only [if_pos, Bool.false_and, ite_self]
    | true =>
      simp only [Bool.true_and, Bool.false_and, if_neg (show ¬ true = false by decide)]
      by_cases c1 : f (a + 2 * t) >>> ((Int32.toInt64 (nI c)) &&& 63) = f (a + 2 * u) >>> ((Int32.toInt64 (nI c)) &&& 63)
      · rw [if_pos c1]
        by_cases c2 : f (a + 2 * t + 1) = f (a + 2 * u + 1)
        · rw [if_pos c2, if_neg (show ¬ bd_B f a c t u = true from fun h => (of_decide_eq_true h).2 c2), Nat.zero_add]
        · rw [if_neg c2, if_pos (show bd_B f a c t u = true from decide_eq_true ⟨c1, c2⟩), decide_eq_false (show ¬ 1 + cf_N (bd_B f a c t) d (u + 1) = 0 by omega)]
      · rw [if_neg c1, if_neg (show ¬ bd_B f a c t u = true from fun h => c1 (of_decide_eq_true h).1), Nat.zero_add]
  | 0, _, 0, _, _, h => by omega
  | d + 1, _, 0, _, _, h => by omega
theorem il6 {f : Nat → Int64} {a c n l : Nat} (hc : 8 - nI l = nI c) (ha : a + 2 * n ≤ 120) : ∀ (d t F : Nat) (b : Bool), t + d = n → d < F → lp_X7_isLength_6 f (nI a) (nI n) (nI l) F (b1_I b) (nI t) = some (b1_I (b && decide (cf_N (ob_B f a c) d t = 0)))
  | 0, t, F + 1, b, ht, _ => by
    rw [lp_X7_isLength_6, if_pos (nI_le (show n ≤ t by omega) (by omega)), show (b && decide (cf_N (ob_B f a c) 0 t = 0)) = b from Bool.and_true b, show bo_b (b1_I b) = true from by cases b <;> decide, ck_t]
  | d + 1, t, F + 1, b, ht, hF => by
    rw [lp_X7_isLength_6, if_neg (nI_ge (show t < n by omega) (by omega)), show lp_X7_isLength_15 f (nI a) (nI n) (nI l) (nI t) (lp_X7_isLength_6 f (nI a) (nI n) (nI l) F) fu_N (b1_I b) 0 = _ from il15 (nI n) hc (by omega) _ t 0 fu_N b (by omega) (show t < 10000 by omega), il6 hc ha d (t + 1) F _ (by omega) (by omega), cf_N]
    by_cases c1 : cf_N (bd_B f a c t) t 0 = 0
    · rw [decide_eq_true c1, Bool.and_true, if_neg (show ¬ ob_B f a c t = true from fun h => of_decide_eq_true h c1), Nat.zero_add]
    · rw [decide_eq_false c1, Bool.and_false, Bool.false_and, if_pos (show ob_B f a c t = true from decide_eq_true c1), decide_eq_false (show ¬ 1 + cf_N (ob_B f a c) d (t + 1) = 0 by omega), Bool.and_false]
  | 0, _, 0, _, _, h => by omega
  | d + 1, _, 0, _, _, h => by omega
theorem ob_cg {f it : Nat → Int64} {a A n c : Nat} (hX : ∀ k, k < 2 * n → f (a + k) = it (A + k)) : cf_N (ob_B f a c) n 0 = cf_N (ob_B it A c) n 0 := by
  refine cf_cg n 0 (fun t _ ht => ?_)
  rw [ob_B, ob_B, cf_cg (b := bd_B f a c t) (c := bd_B it A c t) t 0 (fun u _ hu => ?_)]
  rw [bd_B, bd_B, hX (2 * t) (by omega), hX (2 * u) (by omega), Nat.add_assoc, hX (2 * t + 1) (by omega), Nat.add_assoc, hX (2 * u + 1) (by omega), Nat.add_assoc, Nat.add_assoc]
theorem len_lp {sh : Nat → ss_T} {it : Nat → Int64} {j a A n m : Nat} (hj : j < 4) (hm : (sh j).2.2 = nI m) (m30 : m ≤ 30) (ha : a + 2 * n ≤ m) (hA : A + 2 * n ≤ 120) (hX : ∀ k, k < 2 * n → (sh j).1 (a + k) = it (A + k)) : ∀ (d l F F2 : Nat) (x : Int32), l + d = 9 → d < F → d < F2 → ∃ r, lp_X6_lengths_78 sh (nI j) (nI a) (nI n) F x (nI l) = some r ∧ lp_X7_lengths_123 it (nI n) (nI A) F2 x (nI l) = some r
  | 0, l, F + 1, F2 + 1, x, hl, _, _ => by
    rw [lp_X6_lengths_78, lp_X7_lengths_123, if_pos (show 8 < nI l from nI_lt (a := 8) (by omega) (by omega)), if_pos (show 8 < nI l from nI_lt (a := 8) (by omega) (by omega))]
    exact ⟨x, rfl, rfl⟩
  | d + 1, l, F + 1, F2 + 1, x, hl, hF, hF2 => by
    have hc : 8 - nI l = nI (8 - l) := pk_sub (a := 8) (by omega)
    have e2 := il6 (f := it) (a := A) hc hA n 0 fu_N true (by omega) (show n < 10000 by omega)
    have e1 : pf_X2_isToldBy (sh j).1 (sh j).2.2 (nI l) (nI a) (nI n) = some (if cf_N (ob_B (sh j).1 a (8 - l)) n 0 = 0 then 1 else 0) := by
      rw [pf_X2_isToldBy, hm, show (2 : Int32) * nI n = nI (2 * n) from pk_mul 2 n, hasI_t (by omega) (by omega) (by omega), if_pos ha, Option.bind_some, if_neg ok_1, hc]
      exact tb22 (by omega) n 0 fu_N (by omega) (show n < 10000 by omega)
    rw [lp_X6_lengths_78, lp_X7_lengths_123, if_neg (show ¬ 8 < nI l from nI_nlt (a := 8) (by omega) (by decide)), if_neg (show ¬ 8 < nI l from nI_nlt (a := 8) (by omega) (by decide)), ck_r j hj, nI_clamp (show j < 2 ^ 31 by omega), e1, show pf_X7_isLength it (nI A) (nI n) (nI l) = _ from e2, Option.bind_some, Option.bind_some, ob_cg hX, Bool.true_and, nI_1 l]
    by_cases c : cf_N (ob_B it A (8 - l)) n 0 = 0
    · rw [if_pos c, decide_eq_true c, if_neg ok_1, show b1_I true = 1 from rfl, if_neg ok_1, lt_b, lt_b]
      exact len_lp hj hm m30 ha hA hX d (l + 1) F F2 _ (by omega) (by omega) (by omega)
    · rw [if_neg c, decide_eq_false c, if_pos rfl, show b1_I false = 0 from rfl, if_pos rfl, Int32.or_zero]
      exact len_lp hj hm m30 ha hA hX d (l + 1) F F2 _ (by omega) (by omega) (by omega)
  | 0, _, 0, _, _, _, h, _ => by omega
  | d + 1, _, 0, _, _, _, h, _ => by omega
  | 0, _, _ + 1, 0, _, _, _, h => by omega
  | d + 1, _, _ + 1, 0, _, _, _, h => by omega
theorem lengths_c {sh : Nat → ss_T} {la sz : Nat → Int32} {it : Nat → Int64} (hs : sq_P sh la sz it) (p1 p2 p3 p4 : Int32) : ∃ r, pf_X6_lengths sh p1 p2 p3 p4 = some r ∧ pf_X7_lengths la sz it p1 p2 p3 p4 = some r := by
  rw [pf_X6_lengths, pf_X7_lengths]
  rcases ix_c p1 (n := 4) (by decide) (by decide) with h1 | ⟨j, hj, e⟩
  · rw [(isS_n h1).1, is7_a h1]
    exact ⟨_, rfl, rfl⟩
  subst e
  rcases ix_c p2 (n := 4) (by decide) (by decide) with h2 | ⟨l, hl, e⟩
  · rw [(isS_y hj).1, (isS_n h2).2, is7_b hj h2, Option.bind_some, if_neg ok_1]
    exact ⟨_, rfl, rfl⟩
  subst e
  rw [(isS_y hj).1, (isS_y hl).2, is7_y hj hl, Option.bind_some, if_neg ok_1, Option.bind_some, if_neg ok_1, Option.bind_some, if_neg ok_1]
  by_cases c1 : p4 < 1
  · rw [if_pos c1, show pf_X7_in (Int32.toInt64 p4) 1 12 = some 0 from in_no (l := 1) (m := 12) (by decide) (by decide) (Or.inl c1)]
    exact ⟨_, rfl, rfl⟩
  by_cases c2 : p4 ≤ 12
  · obtain ⟨n, hn0, e⟩ := nI_of (x := p4) (fun g => c1 (by rw [fa_lt] at g ⊢; rw [show (1 : Int32).toInt = 1 from rfl]; rw [show (0 : Int32).toInt = 0 from rfl] at g; omega))
    subst e
    have hn1 : n ≤ 12 := (nI_leI (b := 12) hn0 (by decide)).mp c2
    have hn2 : 1 ≤ n := by
      have : ¬ n < 1 := fun g => c1 ((nI_ltI (b := 1) hn0 (by decide)).mpr g)
      omega
    obtain ⟨r, er, ef, hc⟩ := refuse_t hj (hs j hj) hl p3 (b := 2 * n) (by omega)
    rw [if_neg c1, if_pos c2, ck_r j hj, show pf_X7_in (Int32.toInt64 (nI n)) 1 12 = some 1 from in_yes (l := 1) (m := 12) (by decide) (by omega) (by omega), Option.bind_some, if_neg ok_1, show (2 : Int32) * nI n = nI (2 * n) from pk_mul 2 n, nI_clamp (show j < 2 ^ 31 by omega), er, ef, Option.bind_some, Option.bind_some, ck_r j hj]
    rcases hc with c | ⟨c, a, m, ea, hm, ham, f1, f2, f3, f4, hx⟩
    · rw [if_neg c, if_neg c]
      exact ⟨_, rfl, rfl⟩
    · subst ea
      have hX : ∀ k, k < 2 * n → (sh j).1 (a + k) = it (30 * j + a + k) := fun k hk => by rw [hx _ (by omega), Nat.add_assoc]
      obtain ⟨b, eb, ec⟩ := hp_lp (f := (sh j).1) (it := it) (a := a) (A := 30 * j + a) (by omega) (by omega) hX n 0 fu_N fu_N (by omega) (show n < 10000 by omega) (show n < 10000 by omega)
      rw [if_pos c, if_pos c, pf_X2_holdsPairs, f3, show (2 : Int32) * nI n = nI (2 * n) from pk_mul 2 n, hasI_t (by omega) (by omega) (by omega), if_pos ham, Option.bind_some, if_neg ok_1, show (30 : Int32) * nI j + nI a = nI (30 * j + a) from (congrArg (· + nI a) (pk_mul 30 j)).trans (nI_add _ _), show lp_X2_holdsPairs_15 (sh j).1 (nI a) (nI n) fu_N 0 = _ from eb, show lp_X7_lengths_55 it (nI n) (nI (30 * j + a)) fu_N 0 = _ from ec, Option.bind_some]
      cases b with
      | false =>
        simp only [if_neg (show ¬ false = true by decide), if_pos]
        exact ⟨_, rfl, rfl⟩
      | true =>
        simp only [if_pos, if_neg ok_1]
        exact len_lp hj f3 hm ham (by omega) hX 9 0 fu_N fu_N 0 (by omega) (by decide) (by decide)
  · rw [if_neg c1, if_neg c2, show pf_X7_in (Int32.toInt64 p4) 1 12 = some 0 from in_no (l := 1) (m := 12) (by decide) (by decide) (Or.inr (by rw [fa_lt]; rw [fa_le] at c2; rw [nI_toInt (by decide)]; rw [show (12 : Int32).toInt = 12 from rfl] at c2; omega))]
    exact ⟨_, rfl, rfl⟩
theorem sim_lengths (S : xs_T) (T : ys_T) (h : si_R S T) (p1 : Int32) (p2 : Int32) (p3 : Int32) (p4 : Int32) : ∃ (r : Int32) (S2 : xs_T) (T2 : ys_T), px_lengths S p1 p2 p3 p4 = some (r, S2) ∧ py_lengths T p1 p2 p3 p4 = some (r, T2) ∧ si_R S2 T2 := by
  obtain ⟨r, e1, e2⟩ := lengths_c h.2.2.2.2 p1 p2 p3 p4
  exact ⟨r, _, _, mp_s e1, mp_s e2, h⟩
theorem low_h : ∀ h, h < 8 → ∀ l, l < 4 → pf_X7_lowest (Int32.toInt64 (nI h)) (nI l) = some (Int32.toInt64 (nI h)) := by decide +kernel
theorem film_lp {v8 : Nat → Int64} {v9 : Int32} {t : Nat → Nat} (ok : ok_T t) (hw : tr_P v8 v9 (le_N t)) {le : Nat → Int32} (hy : rw_P le 0 (le_N t)) (v1 v2 v3 v4 v5 : Nat → Int32) (v6 : Nat → Int64) (v7 old : Int32) (co ho cm : Nat → Int32) {la sz : Nat → Int32} {j l m a n k : Nat} (hj : j < 4) (hl : l < 4) (hm : m ≤ 30) (ham : a + 2 * n ≤ m) (hk : k + n ≤ ct_N (le_N t)) : ∀ (d i F F2 : Nat) (sh : Nat → ss_T) (it : Nat → Int64), i + d = n → d < F → d < F2 → sq_P sh la sz it → (sh j).2.1 = nI l → (sh j).2.2 = nI m → ∃ sh2 it2, lp_X6_film_83 v1 v2 v3 v4 v5 v6 v7 v8 v9 old (nI k) (nI n) (nI j) (nI a) F sh (nI i) = some (2 * nI n, v1, v2, v3, v4, v5, v6, v7, v8, v9, sh2, old) ∧ lp_X7_film_73 le co ho cm (nI k) (nI n) (nI j) (nI l) (nI a) F2 it (nI i) = some (2 * nI n, it2, le, co, ho, cm) ∧ sq_P sh2 la sz it2
  | 0, i, F + 1, F2 + 1, sh, it, hi, _, _, hs, _, _ => by
    rw [lp_X6_film_83, lp_X7_film_73, if_pos (nI_le (show n ≤ i by omega) (by omega)), if_pos (nI_le (show n ≤ i by omega) (by omega))]
    exact ⟨sh, it, rfl, rfl, hs⟩
  | d + 1, i, F + 1, F2 + 1, sh, it, hi, hF, hF2, hs, h1, h2 => by
    have lk := le_ok ok
    have c5 := ct_le (le_N t)
    have kn : ¬ kt_N (in_T (le_N t)) 511 1 (k + i) = 0 := (kt_lt 511 1 (k + i) (by omega)).mpr (by rw [← ct_cf]; omega)
    obtain ⟨q1, q2, q3⟩ := kt_b kn
    have en := number_t hw (k := k + i) (by omega)
    have el := leastAt_t hy lk (k := k + i) (by omega)
    generalize kt_N (in_T (le_N t)) 511 1 (k + i) = p at *
    have p8 : ¬ le_N t p = 8 := of_decide_eq_true q3
    have p9 : le_N t p < 8 := by have := lk p q1 q2; omega
    rw [en_in kn] at en el
    obtain ⟨x, ex, ey⟩ := seti_t (f := (sh j).1) (a := a + 2 * i) hl hm (by omega) (Int32.toInt64 (nI p))
    obtain ⟨z, ez, ew⟩ := seti_t (f := vp_updL (sh j).1 (a + 2 * i) x) (a := a + 2 * i + 1) hl hm (by omega) (Int32.toInt64 (nI (le_N t p)))
    have e0 := Option.some.inj ((low_h _ p9 l hl).symm.trans ew)
    subst e0
    have e30 : (30 : Int32) * nI j + nI a + 2 * nI i = nI (30 * j + (a + 2 * i)) := by
      rw [show (30 : Int32) * nI j = nI (30 * j) from pk_mul 30 j, nI_add, ad2, Nat.add_assoc]
    have e31 : (30 : Int32) * nI j + nI a + 2 * nI i + 1 = nI (30 * j + (a + 2 * i + 1)) := by
      rw [e30, nI_1, Nat.add_assoc]
    rw [lp_X6_film_83, lp_X7_film_73, if_neg (nI_ge (show i < n by omega) (by omega)), if_neg (nI_ge (show i < n by omega) (by omega)), nI_add, en, el, Option.bind_some, Option.bind_some]
    simp only [ck_r j hj, nI_clamp (show j < 2 ^ 31 by omega), va_up_self, e30, ad2, nI_1, show 30 * j + (a + 2 * i) + 1 = 30 * j + (a + 2 * i + 1) from Nat.add_assoc _ _ _, h1, h2, ex, ey, ez, Option.bind_some, hopAt_t hw q1 q2, hv_in p8, in_bn (show 30 * j + (a + 2 * i) < 120 by omega) (show 120 < 2 ^ 31 by decide), in_bn (show 30 * j + (a + 2 * i + 1) < 120 by omega) (show 120 < 2 ^ 31 by decide), in_bn q2 (show 512 < 2 ^ 31 by decide), ck_t, nI_clamp (show 30 * j + (a + 2 * i) < 2 ^ 31 by omega), nI_clamp (show 30 * j + (a + 2 * i + 1) < 2 ^ 31 by omega), nI_clamp (show p < 2 ^ 31 by omega), show le p = nI (le_N t p) from (congrArg le (Nat.zero_add p)).symm.trans (hy p q1 q2)]
    refine film_lp ok hw hy v1 v2 v3 v4 v5 v6 v7 old co ho cm hj hl hm ham hk d (i + 1) F F2 _ _ (by omega) (by omega) (by omega) ?_ ?_ ?_
    · refine sq_ch hs j (fun q h4 c => ⟨by rw [va_up_ne _ _ c, va_up_ne _ _ c], rfl, rfl⟩) (fun q hq => by rw [pk_uLn (by omega), pk_uLn (by omega)]) ?_
      rw [va_up_self]
      have g := s1_set (a := a + 2 * i + 1) (s1_set (a := a + 2 * i) (hs j hj) x) (Int32.toInt64 (nI (le_N t p)))
      rw [← h1, ← h2]
      exact g
    · rw [va_up_self]
    · rw [va_up_self]
  | 0, _, 0, _, _, _, _, h, _, _, _, _ => by omega
  | d + 1, _, 0, _, _, _, _, h, _, _, _, _ => by omega
  | 0, _, _ + 1, 0, _, _, _, _, h, _, _, _ => by omega
  | d + 1, _, _ + 1, 0, _, _, _, _, h, _, _, _ => by omega
theorem film_c {tp ip : Nat → Int64} {tz iz d : Int32} {st : Nat → Int32} {t t2 : Nat → Nat} (hn : nq_P tp tz ip iz d st 0 t t2) {old : Int32} {sent sentI best ease : Nat → Int32} {vi : Nat → Int64} {vz : Int32} {vl : Nat → Int64} {lz : Int32} (hv : vo_P old sent sentI best ease vi vz vl lz t t2) (fa le co ho cm : Nat → Int32) {sh : Nat → ss_T} {la sz : Nat → Int32} {it : Nat → Int64} (hs : sq_P sh la sz it) (p1 p2 p3 p4 p5 : Int32) : ∃ r v c, pf_X6_film tp ip iz sent sentI best ease fa vi vz vl lz sh old p1 p2 p3 p4 p5 = some (r, v) ∧ pf_X7_film st la sz it le co ho cm p1 p2 p3 p4 p5 = some (r, c) ∧ vo_P v.2.2.2.2.2.2.2.2.2.2 v.1 v.2.1 v.2.2.1 v.2.2.2.1 v.2.2.2.2.2.1 v.2.2.2.2.2.2.1 v.2.2.2.2.2.2.2.1 v.2.2.2.2.2.2.2.2.1 t t2 ∧ sq_P v.2.2.2.2.2.2.2.2.2.1 la sz c.1 := by
  obtain ⟨o, eo, hw, h0⟩ := fresh_t hn hv fa
  have ok := tr_ok hn.1
  have ok2 := tr_ok hn.2.1
  have lk := le_ok ok
  obtain ⟨y, ey, hy⟩ := lays_t hn.2.2.1 hn.2.2.2.1 ok ok2 le co ho cm
  rw [pf_X6_film, pf_X7_film]
  by_cases c1 : p1 < 0
  · rw [if_pos c1, if_pos c1]
    exact ⟨_, _, _, rfl, rfl, hv, hs⟩
  rw [if_neg c1, if_neg c1]
  obtain ⟨k, hk, e⟩ := nI_of c1
  subst e
  rcases ix_c p2 (n := 13) (by decide) (by decide) with g2 | ⟨n, hn13, e⟩
  · rw [show pf_X7_in (Int32.toInt64 p2) 0 12 = some 0 from in_no (l := 0) (m := 12) (by decide) (by decide) g2, Option.bind_some, if_pos rfl]
    by_cases c2 : p2 < 0
    · rw [if_pos c2]
      exact ⟨_, _, _, rfl, rfl, hv, hs⟩
    · rw [if_neg c2, if_pos (show 12 < p2 from g2.resolve_left c2)]
      exact ⟨_, _, _, rfl, rfl, hv, hs⟩
  subst e
  rw [if_neg (nI_pos (by omega)), if_neg (show ¬ 12 < nI n from nI_nlt (a := 12) (by omega) (by decide)), show pf_X7_in (Int32.toInt64 (nI n)) 0 12 = some 1 from in_yes (l := 0) (m := 12) (by decide) (by omega) (by omega), Option.bind_some, if_neg ok_1]
  rcases ix_c p3 (n := 4) (by decide) (by decide) with g3 | ⟨j, hj, e⟩
  · rw [(isS_n g3).1, is7_a g3, Option.bind_some, Option.bind_some, if_pos rfl, if_pos rfl]
    exact ⟨_, _, _, rfl, rfl, hv, hs⟩
  subst e
  rcases ix_c p4 (n := 4) (by decide) (by decide) with g4 | ⟨l, hl, e⟩
  · rw [(isS_y hj).1, (isS_n g4).2, is7_b hj g4, Option.bind_some, if_neg ok_1, Option.bind_some, if_pos rfl, Option.bind_some, if_pos rfl]
    exact ⟨_, _, _, rfl, rfl, hv, hs⟩
  subst e
  have hnew : vo_P o.2.2.2.2.2.2.2.2.2 o.1 o.2.1 o.2.2.1 o.2.2.2.1 o.2.2.2.2.2.1 o.2.2.2.2.2.2.1 o.2.2.2.2.2.2.2.1 o.2.2.2.2.2.2.2.2.1 t t2 := Or.inr ⟨h0, hw⟩
  have ez := hw.2.2.2.2.2
  have c5 := ct_le (le_N t)
  rw [(isS_y hj).1, (isS_y hl).2, is7_y hj hl, Option.bind_some, if_neg ok_1, Option.bind_some, if_neg ok_1, Option.bind_some, if_neg ok_1, eo, ey, Option.bind_some, Option.bind_some, pf_X3_howMany, Option.bind_some, show pf_X7_many y.1 512 0 = some (nI (ct_N (le_N t))) from many_t (o := 0) hy.1 lk (by decide) (by decide), Option.bind_some, ← ez]
  by_cases c : k + n ≤ ct_N (le_N t)
  · have cI : nI k ≤ o.2.2.2.2.2.2.2.2.1 - nI n := by
      rw [ez]
      exact (nlt_le _ _).mpr (fun g => by have := (sb_t (by omega) (by omega) hk).mp g; omega)
    rw [if_pos cI, if_pos cI, ck_r j hj, nI_clamp (show j < 2 ^ 31 by omega), show (2 : Int32) * nI n = nI (2 * n) from pk_mul 2 n]
    obtain ⟨r, er, ef, hc⟩ := refuse_t hj (hs j hj) hl p5 (b := 2 * n) (by omega)
    rw [er, ef, Option.bind_some, Option.bind_some]
    rcases hc with c | ⟨c, a, m, ea, hm, ham, f1, f2, f3, f4, hx⟩
    · rw [if_neg c, if_neg c]
      exact ⟨_, _, _, rfl, rfl, hnew, hs⟩
    · subst ea
      obtain ⟨sh2, it2, e1, e2, hq⟩ := film_lp ok hw.2.2.2.2 hy.1 o.1 o.2.1 o.2.2.1 o.2.2.2.1 o.2.2.2.2.1 o.2.2.2.2.2.1 o.2.2.2.2.2.2.1 o.2.2.2.2.2.2.2.2.2 y.2.1 y.2.2.1 y.2.2.2 (k := k) hj hl hm ham ‹k + n ≤ ct_N (le_N t)› n 0 fu_N fu_N sh it (by omega) (show n < 10000 by omega) (show n < 10000 by omega) hs f1 f3
      rw [if_pos c, if_pos c]
      exact ⟨_, _, _, e1, e2, hnew, hq⟩
  · have cI : ¬ nI k ≤ o.2.2.2.2.2.2.2.2.1 - nI n := fun g => by
      rw [ez] at g
      exact (nlt_le _ _).mp g ((sb_t (by omega) (by omega) hk).mpr (by omega))
    rw [if_neg cI, if_neg cI]
    exact ⟨_, _, _, rfl, rfl, hnew, hs⟩
theorem sim_film (S : xs_T) (T : ys_T) (h : si_R S T) (p1 : Int32) (p2 : Int32) (p3 : Int32) (p4 : Int32) (p5 : Int32) : ∃ (r : Int32) (S2 : xs_T) (T2 : ys_T), px_film S p1 p2 p3 p4 p5 = some (r, S2) ∧ py_film T p1 p2 p3 p4 p5 = some (r, T2) ∧ si_R S2 T2 := by
  obtain ⟨⟨t, t2, hn, hv⟩, hk, hi, hp, hs⟩ := h
  obtain ⟨r, v, c, e1, e2, hq, hq2⟩ := film_c hn hv S.2.2.2.2.2.2.2.2.2.2.2.2.2.2.2.2.2.2.1 T.2.2.2.2.2.2.2.2.1 T.2.2.2.2.2.2.2.2.2.1 T.2.2.2.2.2.2.2.2.2.2.1 T.2.2.2.2.2.2.2.2.2.2.2.1 hs p1 p2 p3 p4 p5
  exact ⟨r, _, _, mp_s e1, mp_s e2, ⟨t, t2, hn, hq⟩, hk, hi, hp, hq2⟩
