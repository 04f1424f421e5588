/-- a text read -/
def tx_P (lt tape : Nat → Int32) (n : Nat) (c : Nat → Nat) : Prop := n ≤ 100 ∧ ∀ j, j < n → 32 ≤ c j ∧ c j ≤ 126 ∧ lt j = nI (c j) ∧ tape j = nI (c j)
theorem tx_of {lt tape : Nat → Int32} {sz many : Int32} (h : tp_P lt sz tape many) : ∃ n c, sz = nI n ∧ many = nI n ∧ tx_P lt tape n c := by
  obtain ⟨n, h1, e1, e2, hx⟩ := h
  refine ⟨n, fun j => (lt j).toNatClampNeg, e1, e2, h1, fun j hj => ?_⟩
  obtain ⟨k, a, b, f1, f2⟩ := hx j hj
  have e : (lt j).toNatClampNeg = k := by rw [f1, nI_clamp (by omega)]
  show 32 ≤ (lt j).toNatClampNeg ∧ (lt j).toNatClampNeg ≤ 126 ∧ lt j = nI (lt j).toNatClampNeg ∧ tape j = nI (lt j).toNatClampNeg
  rw [e]
  exact ⟨a, b, f1, f2⟩
def at_P (c : Nat → Nat) (n q : Nat) : Prop := q ≤ n ∧ (q < n → c q ≠ 32)
def vx_I (c : Nat → Nat) (n q : Nat) : Int32 := if q = n then (-1) else nI (c q)
def vy_I (c : Nat → Nat) (n q : Nat) : Int32 := if q = n then 0 else nI (c q)
theorem lh_lp {lt tape : Nat → Int32} {n : Nat} {c : Nat → Nat} (h : tx_P lt tape n c) : ∀ (d i F F2 : Nat), i + d = n → d < F → d < F2 → ∃ q, i ≤ q ∧ at_P c n q ∧ (at_P c n i → q = i) ∧ lp_X4_letterHere_0 lt (nI n) F (nI i) = some (vx_I c n q, nI q) ∧ lp_X7_looks_0 tape (nI n) F2 (nI i) = some (vy_I c n q, nI q)
  | 0, i, F + 1, F2 + 1, hi, _, _ => by
    have h1 := h.1
    have g : nI n ≤ nI i := nI_le (by omega) (by omega)
    have e : i = n := by omega
    rw [lp_X4_letterHere_0, lp_X7_looks_0, if_pos g, if_pos g, if_pos g, if_pos g]
    exact ⟨i, Nat.le_refl i, ⟨by omega, fun _ => by omega⟩, fun _ => rfl, by rw [vx_I, if_pos e], by rw [vy_I, if_pos e]⟩
  | d + 1, i, F + 1, F2 + 1, hi, hF, hF2 => by
    have h1 := h.1
    obtain ⟨a, b, f1, f2⟩ := h.2 i (by omega)
    have g : ¬ nI n ≤ nI i := nI_ge (show i < n by omega) (by omega)
    rw [lp_X4_letterHere_0, lp_X7_looks_0, if_neg g, if_neg g, if_neg g, if_neg g, in_bn (show i < 100 by omega) (show 100 < 2 ^ 31 by decide), ck_t, ck_t, ck_t, ck_t, nI_clamp (show i < 2 ^ 31 by omega), f1, f2, nI_1]
    by_cases k : c i = 32
    · obtain ⟨q, q1, q2, _, q3, q4⟩ := lh_lp h d (i + 1) F F2 (by omega) (by omega) (by omega)
      have e : nI (c i) = 32 := by rw [k]; rfl
      rw [if_pos e, if_pos e]
      exact ⟨q, by omega, q2, fun z => absurd k (z.2 (by omega)), q3, q4⟩
    · have e : ¬ nI (c i) = 32 := fun z => k ((nI_eq (b := 32) (by omega) (by decide)).mp z)
      rw [if_neg e, if_neg e]
      exact ⟨i, Nat.le_refl i, ⟨by omega, fun _ => k⟩, fun _ => rfl, by rw [vx_I, if_neg (by omega)], by rw [vy_I, if_neg (by omega)]⟩
  | 0, _, 0, _, _, h, _ => by omega
  | d + 1, _, 0, _, _, h, _ => by omega
  | 0, _, _ + 1, 0, _, _, h => by omega
  | d + 1, _, _ + 1, 0, _, _, h => by omega
theorem lh_t {lt tape : Nat → Int32} {n : Nat} {c : Nat → Nat} (h : tx_P lt tape n c) {i : Nat} (hi : i ≤ n) : ∃ q, i ≤ q ∧ at_P c n q ∧ pf_X4_letterHere lt (nI n) (nI i) = some (vx_I c n q, nI q) ∧ pf_X7_looks tape (nI n) (nI i) = some (vy_I c n q, nI q) := by
  have h1 := h.1
  obtain ⟨q, q1, q2, _, q3, q4⟩ := lh_lp h (n - i) i fu_N fu_N (by omega) (show n - i < 10000 by omega) (show n - i < 10000 by omega)
  exact ⟨q, q1, q2, q3, q4⟩
theorem lh_i {lt tape : Nat → Int32} {n : Nat} {c : Nat → Nat} (h : tx_P lt tape n c) {q : Nat} (hq : at_P c n q) : pf_X4_letterHere lt (nI n) (nI q) = some (vx_I c n q, nI q) ∧ pf_X7_looks tape (nI n) (nI q) = some (vy_I c n q, nI q) := by
  have h1 := h.1
  have h2 := hq.1
  obtain ⟨p, q1, q2, e, q3, q4⟩ := lh_lp h (n - q) q fu_N fu_N (by omega) (show n - q < 10000 by omega) (show n - q < 10000 by omega)
  have e := e hq
  subst e
  exact ⟨q3, q4⟩
theorem vx_k {lt tape : Nat → Int32} {n : Nat} {c : Nat → Nat} (h : tx_P lt tape n c) {q : Nat} (hq : q ≤ n) (k : Nat) (k1 : 1 ≤ k) (k2 : k < 2 ^ 31) : (vx_I c n q = nI k ↔ q < n ∧ c q = k) ∧ (vy_I c n q = nI k ↔ q < n ∧ c q = k) := by
  rw [vx_I, vy_I]
  by_cases e : q = n
  · rw [if_pos e, if_pos e]
    refine ⟨⟨fun g => ?_, fun g => by omega⟩, ⟨fun g => ?_, fun g => by omega⟩⟩
    · have := congrArg Int32.toInt g
      rw [nI_toInt k2, show (-1 : Int32).toInt = -1 from rfl] at this
      omega
    · have := congrArg Int32.toInt g
      rw [nI_toInt k2, show (0 : Int32).toInt = 0 from rfl] at this
      omega
  · obtain ⟨a, b, _⟩ := h.2 q (by omega)
    rw [if_neg e, if_neg e]
    have z : nI (c q) = nI k ↔ c q = k := nI_eq (by omega) k2
    exact ⟨⟨fun g => ⟨by omega, z.mp g⟩, fun g => z.mpr g.2⟩, ⟨fun g => ⟨by omega, z.mp g⟩, fun g => z.mpr g.2⟩⟩
theorem vx_e {lt tape : Nat → Int32} {n : Nat} {c : Nat → Nat} (h : tx_P lt tape n c) {q : Nat} (hq : q ≤ n) : (vx_I c n q = (-1) ↔ q = n) ∧ (vy_I c n q = 0 ↔ q = n) := by
  rw [vx_I, vy_I]
  by_cases e : q = n
  · rw [if_pos e, if_pos e]
    exact ⟨⟨fun _ => e, fun _ => rfl⟩, ⟨fun _ => e, fun _ => rfl⟩⟩
  · obtain ⟨a, b, _⟩ := h.2 q (by omega)
    rw [if_neg e, if_neg e]
    refine ⟨⟨fun g => ?_, fun g => absurd g e⟩, ⟨fun g => ?_, fun g => absurd g e⟩⟩
    · have := congrArg Int32.toInt g
      rw [nI_toInt (by omega), show (-1 : Int32).toInt = -1 from rfl] at this
      omega
    · have := congrArg Int32.toInt g
      rw [nI_toInt (by omega), show (0 : Int32).toInt = 0 from rfl] at this
      omega
theorem fg_lp {lt tape : Nat → Int32} {n : Nat} {c : Nat → Nat} (h : tx_P lt tape n c) (told : Nat → Int32) (x1 : Int32) : ∀ (d g i p F F2 : Nat), g + d = 8 → d < F → d < F2 → i ≤ n → 2 ^ g ≤ p → p < 2 ^ (g + 1) → ∃ g2 i2 p2, lp_X4_parseFigures_7 lt (nI n) F (nI i) (nI p) (nI g) = some (nI g2, nI i2, nI p2) ∧ lp_X7_readsEntry_12 tape told (nI n) x1 F2 (nI i) (nI p) = lp_X7_readsEntry_62 tape told (nI n) (nI i2) x1 (nI p2) ∧ g2 ≤ 8 ∧ i ≤ i2 ∧ i2 ≤ n ∧ 2 ^ g2 ≤ p2 ∧ p2 < 2 ^ (g2 + 1) ∧ (g2 = 8 → i + d ≤ i2)
  | 0, g, i, p, F + 1, F2 + 1, hg, _, _, hi, h1, h2 => by
    have e : g = 8 := by omega
    subst e
    rw [lp_X4_parseFigures_7, lp_X7_readsEntry_12, if_pos (show 8 ≤ nI 8 by decide), if_pos (show 256 ≤ nI p from nI_le (a := 256) h1 (by omega))]
    exact ⟨8, i, p, rfl, rfl, by omega, by omega, by omega, h1, h2, fun _ => by omega⟩
  | d + 1, g, i, p, F + 1, F2 + 1, hg, hF, hF2, hi, h1, h2 => by
    have b8 := p2_le (show g + 1 ≤ 8 by omega)
    have hn := h.1
    obtain ⟨q, q1, q2, e1, e2⟩ := lh_t h hi
    have hq := q2.1
    have e3 := (lh_i h q2).2
    have k8 := vx_k h hq 48 (by decide) (by decide)
    have k9 := vx_k h hq 49 (by decide) (by decide)
    have pw : 2 ^ (g + 1) = 2 * 2 ^ g := by rw [Nat.pow_succ]; omega
    have pw2 : 2 ^ (g + 1 + 1) = 2 * 2 ^ (g + 1) := by rw [Nat.pow_succ]; omega
    rw [lp_X4_parseFigures_7, lp_X7_readsEntry_12, if_neg (show ¬ 8 ≤ nI g from nI_ge (b := 8) (by omega) (by decide)), if_neg (show ¬ 256 ≤ nI p from nI_ge (b := 256) (by omega) (by decide)), e1, e2, Option.bind_some, Option.bind_some]
    simp only [lp_X4_parseFigures_32, lp_X7_readsEntry_37, e3, Option.bind_some, lt_b]
    by_cases c8 : q < n ∧ c q = 48
    · have x8 : vx_I c n q = nI 48 := k8.1.mpr c8
      have y8 : vy_I c n q = nI 48 := k8.2.mpr c8
      obtain ⟨g2, i2, p2, a1, a2, a3, a4, a5, a6, a7, a8⟩ := fg_lp h told x1 d (g + 1) (q + 1) (2 * p) F F2 (by omega) (by omega) (by omega) (by omega) (by omega) (by omega)
      rw [x8, y8, if_pos (show nI 48 = 48 from rfl), if_pos (show nI 48 = 48 from rfl), show (2 : Int32) * nI p + (nI 48 - 48) = nI (2 * p) from by rw [show (2 : Int32) * nI p = nI (2 * p) from pk_mul 2 p, show nI 48 - 48 = (0 : Int32) from rfl, Int32.add_zero], show (2 : Int32) * nI p + nI 48 - 48 = nI (2 * p) from by rw [show (2 : Int32) * nI p = nI (2 * p) from pk_mul 2 p, nI_add, show nI (2 * p + 48) - 48 = nI (2 * p + 48 - 48) from pk_sub (b := 48) (by omega)]; rfl, nI_1, nI_1]
      exact ⟨g2, i2, p2, a1, a2, a3, by omega, a5, a6, a7, fun z => by have := a8 z; omega⟩
    · rw [if_neg (show ¬ vx_I c n q = 48 from fun z => c8 (k8.1.mp z)), if_neg (show ¬ vy_I c n q = 48 from fun z => c8 (k8.2.mp z))]
      by_cases c9 : q < n ∧ c q = 49
      · have x9 : vx_I c n q = nI 49 := k9.1.mpr c9
        have y9 : vy_I c n q = nI 49 := k9.2.mpr c9
        obtain ⟨g2, i2, p2, a1, a2, a3, a4, a5, a6, a7, a8⟩ := fg_lp h told x1 d (g + 1) (q + 1) (2 * p + 1) F F2 (by omega) (by omega) (by omega) (by omega) (by omega) (by omega)
        rw [x9, y9, if_pos (show nI 49 = 49 from rfl), if_pos (show nI 49 = 49 from rfl), show (2 : Int32) * nI p + (nI 49 - 48) = nI (2 * p + 1) from by rw [show (2 : Int32) * nI p = nI (2 * p) from pk_mul 2 p, show nI 49 - 48 = (1 : Int32) from rfl, nI_1], show (2 : Int32) * nI p + nI 49 - 48 = nI (2 * p + 1) from by rw [show (2 : Int32) * nI p = nI (2 * p) from pk_mul 2 p, nI_add, show nI (2 * p + 49) - 48 = nI (2 * p + 49 - 48) from pk_sub (b := 48) (by omega)]; exact congrArg nI (by omega), nI_1, nI_1]
        exact ⟨g2, i2, p2, a1, a2, a3, by omega, a5, a6, a7, fun z => by have := a8 z; omega⟩
      · rw [if_neg (show ¬ vx_I c n q = 49 from fun z => c9 (k9.1.mp z)), if_neg (show ¬ vy_I c n q = 49 from fun z => c9 (k9.2.mp z))]
        exact ⟨g, q, p, rfl, rfl, by omega, q1, hq, h1, h2, fun z => by omega⟩
  | 0, _, _, _, 0, _, _, h, _, _, _, _ => by omega
  | d + 1, _, _, _, 0, _, _, h, _, _, _, _ => by omega
  | 0, _, _, _, _ + 1, 0, _, _, h, _, _, _ => by omega
  | d + 1, _, _, _, _ + 1, 0, _, _, h, _, _, _ => by omega
def eq_P (n i : Nat) (u : Nat → Nat) (X : Int32 × (Nat → Int64) × Int32 × Int32 × Int32) (Y : Int32 × (Nat → Int32) × Int32) : Prop := (∃ q, q ≤ n ∧ X.1 = nI q ∧ Y.1 = 0 ∧ Y.2.2 = nI q) ∨ (∃ i2 u2, X.1 = (-4) ∧ X.2.2.2.1 = nI i2 ∧ Y.1 = 1 ∧ Y.2.2 = nI i2 ∧ i + 2 ≤ i2 ∧ i2 ≤ n ∧ tr_P X.2.1 X.2.2.1 u2 ∧ (∀ q, 1 ≤ q → q < 512 → Y.2.1 q = nI (u2 q)) ∧ ct_N u2 = ct_N u + 1)
theorem e43 {lt tape : Nat → Int32} {n : Nat} {c : Nat → Nat} (h : tx_P lt tape n c) {pl : Nat → Int64} {sz : Int32} {u : Nat → Nat} (hu : tr_P pl sz u) {told : Nat → Int32} (ht : ∀ q, 1 ≤ q → q < 512 → told q = nI (u q)) {i p f : Nat} (hi : i ≤ n) (hf : f ≤ n) (p1 : 1 ≤ p) (p2 : p < 512) : ∃ X Y, lp_X4_parseEntry_43 lt pl sz (nI n) (nI i) (nI p) (nI f) = some X ∧ lp_X7_readsEntry_90 tape told (nI n) (nI i) (nI f) (nI p) = some Y ∧ eq_P n i u X Y := by
  have hn := h.1
  have ok := tr_ok hu
  obtain ⟨q, q1, q2, e1, e2⟩ := lh_t h hi
  have hq := q2.1
  have k := vx_k h hq 58 (by decide) (by decide)
  rw [lp_X4_parseEntry_43, lp_X7_readsEntry_90, e1, e2, Option.bind_some, Option.bind_some]
  simp only [hopAt_t hu p1 p2, Option.bind_some, in_bn (show p < 512 by omega) (show 512 < 2 ^ 31 by decide), ck_t, nI_clamp (show p < 2 ^ 31 by omega), ht p p1 p2]
  by_cases c1 : q < n ∧ c q = 58
  · rw [if_pos (show vx_I c n q = 58 from k.1.mpr c1), if_pos (show vy_I c n q = 58 from k.2.mpr c1)]
    by_cases c2 : u p = 8
    · rw [if_pos ((hv_m4 (ok p p1 p2)).mpr c2), if_pos ((nI_8 (ok p p1 p2)).mpr c2), nI_1]
      obtain ⟨s, s1, s2, f1, f2⟩ := lh_t h (i := q + 1) (by omega)
      have hs := s2.1
      have f3 := (lh_i h s2).2
      simp only [f1, f2, f3, Option.bind_some]
      by_cases c3 : s < n ∧ 48 ≤ c s ∧ c s ≤ 55
      · have hv : c s - 48 < 8 := by omega
        have x : vx_I c n s = nI (c s) := if_neg (by omega)
        have y : vy_I c n s = nI (c s) := if_neg (by omega)
        have sb : nI (c s) - 48 = nI (c s - 48) := pk_sub (b := 48) (by omega)
        obtain ⟨w, ew, hw⟩ := put_t hu p1 p2 hv
        have cu := ct_up u (c s - 48) p1 p2
        rw [if_neg (show ¬ u p ≠ 8 from fun z => z c2), if_pos (show c s - 48 ≠ 8 by omega)] at cu
        rw [x, y, sb, isHop_y hv, show pf_X7_in (Int32.toInt64 (nI (c s))) 48 55 = some 1 from in_yes (l := 48) (m := 55) (by decide) (by omega) (by omega), Option.bind_some, Option.bind_some, if_neg ok_1, if_neg ok_1, ew, Option.bind_some, nI_1]
        refine ⟨_, _, rfl, rfl, Or.inr ⟨s + 1, va_up u p (c s - 48), rfl, rfl, rfl, rfl, by omega, by omega, hw, fun r r1 r2 => ?_, by omega⟩⟩
        show upd told p (nI (c s - 48)) r = _
        by_cases cr : r = p
        · rw [cr, pk_us, va_up_self]
        · rw [pk_un cr, va_up_ne _ _ cr]; exact ht r r1 r2
      · have nh : pf_X6_isHop (vx_I c n s - 48) = some 0 ∧ pf_X7_in (Int32.toInt64 (vy_I c n s)) 48 55 = some 0 := by
          rw [vx_I, vy_I]
          by_cases e : s = n
          · rw [if_pos e, if_pos e]
            exact ⟨isH_n (Or.inl (by decide)), in_no (l := 48) (m := 55) (by decide) (by decide) (Or.inl (by decide))⟩
          · obtain ⟨a, b, _⟩ := h.2 s (by omega)
            rw [if_neg e, if_neg e]
            have t48 : (nI (c s) - 48).toInt = (c s : Int) - 48 := pk_sub_toInt (a := c s) (b := 48) (by omega) (by decide)
            refine ⟨isH_n ?_, in_no (l := 48) (m := 55) (by decide) (by decide) ?_⟩
            · rw [fa_lt, fa_lt, t48, nI_toInt (by decide), nI_toInt (by decide)]
              omega
            · rw [fa_lt, fa_lt, nI_toInt (show c s < 2 ^ 31 by omega), nI_toInt (by decide), nI_toInt (by decide)]
              omega
        rw [nh.1, nh.2, Option.bind_some, Option.bind_some, if_pos rfl, if_pos rfl]
        exact ⟨_, _, rfl, rfl, Or.inl ⟨s, hs, rfl, rfl, rfl⟩⟩
    · rw [if_neg (show ¬ hv_I (u p) = (-4) from fun z => c2 ((hv_m4 (ok p p1 p2)).mp z)), if_neg (show ¬ nI (u p) = 8 from fun z => c2 ((nI_8 (ok p p1 p2)).mp z))]
      exact ⟨_, _, rfl, rfl, Or.inl ⟨f, hf, rfl, rfl, rfl⟩⟩
  · rw [if_neg (show ¬ vx_I c n q = 58 from fun z => c1 (k.1.mp z)), if_neg (show ¬ vy_I c n q = 58 from fun z => c1 (k.2.mp z))]
    exact ⟨_, _, rfl, rfl, Or.inl ⟨q, hq, rfl, rfl, rfl⟩⟩
theorem eq_mv {n i j : Nat} (hij : i + 1 ≤ j) {u : Nat → Nat} {X : Int32 × (Nat → Int64) × Int32 × Int32 × Int32} {Y : Int32 × (Nat → Int32) × Int32} (h : eq_P n j u X Y) : (∃ q, q ≤ n ∧ X.1 = nI q ∧ Y.1 = 0 ∧ Y.2.2 = nI q) ∨ (∃ i2 u2, X.1 = (-4) ∧ X.2.2.2.1 = nI i2 ∧ Y.1 = 1 ∧ Y.2.2 = nI i2 ∧ i + 3 ≤ i2 ∧ i2 ≤ n ∧ tr_P X.2.1 X.2.2.1 u2 ∧ (∀ q, 1 ≤ q → q < 512 → Y.2.1 q = nI (u2 q)) ∧ ct_N u2 = ct_N u + 1) := by
  rcases h with h | ⟨i2, u2, a, b, d, e, f, g⟩
  · exact Or.inl h
  · exact Or.inr ⟨i2, u2, a, b, d, e, by omega, g⟩
theorem entry_t {lt tape : Nat → Int32} {n : Nat} {c : Nat → Nat} (h : tx_P lt tape n c) {pl : Nat → Int64} {sz : Int32} {u : Nat → Nat} (hu : tr_P pl sz u) {told : Nat → Int32} (ht : ∀ q, 1 ≤ q → q < 512 → told q = nI (u q)) {i : Nat} (hi : i ≤ n) (num : Int32) : ∃ X Y, pf_X4_parseEntry lt pl sz (nI n) (nI i) num = some X ∧ pf_X7_readsEntry tape told (nI n) (nI i) = some Y ∧ ((∃ q, q ≤ n ∧ X.1 = nI q ∧ Y.1 = 0 ∧ Y.2.2 = nI q) ∨ (∃ i2 u2, X.1 = (-4) ∧ X.2.2.2.1 = nI i2 ∧ Y.1 = 1 ∧ Y.2.2 = nI i2 ∧ i + 3 ≤ i2 ∧ i2 ≤ n ∧ tr_P X.2.1 X.2.2.1 u2 ∧ (∀ q, 1 ≤ q → q < 512 → Y.2.1 q = nI (u2 q)) ∧ ct_N u2 = ct_N u + 1)) := by
  have hn := h.1
  obtain ⟨q, q1, q2, e1, e2⟩ := lh_t h hi
  have hq := q2.1
  obtain ⟨g2, i2, p2, a1, a2, a3, a4, a5, a6, a7, a8⟩ := fg_lp h told (nI q) 8 0 q 1 fu_N fu_N (by omega) (by decide) (by decide) hq (by decide) (by decide)
  have b9 := Nat.pow_le_pow_right (n := 2) (show 0 < 2 by decide) (show g2 + 1 ≤ 9 by omega)
  have b0 : 0 < 2 ^ g2 := Nat.two_pow_pos g2
  rw [pf_X4_parseEntry, pf_X7_readsEntry, e1, e2, Option.bind_some, Option.bind_some, pf_X4_parseFigures, show lp_X4_parseFigures_7 lt (nI n) fu_N (nI q) 1 0 = _ from a1, Option.bind_some, show lp_X7_readsEntry_12 tape told (nI n) (nI q) fu_N (nI q) 1 = _ from a2, lp_X7_readsEntry_62]
  by_cases c8 : g2 = 8
  · subst c8
    obtain ⟨X, Y, x1, y1, hh⟩ := e43 h hu ht (i := i2) (p := p2) (f := q) a5 hq (by omega) (by omega)
    rw [if_pos (show 8 ≤ nI 8 by decide), if_pos (show 256 ≤ nI p2 from nI_le (a := 256) a6 (by omega))]
    exact ⟨X, Y, x1, y1, eq_mv (by have := a8 rfl; omega) hh⟩
  · have b8 := p2_le (show g2 + 1 ≤ 8 by omega)
    rw [if_neg (show ¬ 8 ≤ nI g2 from nI_ge (b := 8) (by omega) (by decide)), if_neg (show ¬ 256 ≤ nI p2 from nI_ge (b := 256) (by omega) (by decide))]
    obtain ⟨s, s1, s2, f1, f2⟩ := lh_t h a5
    have hs := s2.1
    have k := vx_k h hs 42 (by decide) (by decide)
    rw [f1, f2, Option.bind_some, Option.bind_some]
    by_cases c1 : s < n ∧ c s = 42
    · obtain ⟨X, Y, x1, y1, hh⟩ := e43 h hu ht (i := s + 1) (p := p2) (f := q) (by omega) hq (by omega) (by omega)
      rw [if_pos (show vx_I c n s = 42 from k.1.mpr c1), if_pos (show vy_I c n s = 42 from k.2.mpr c1), nI_1]
      exact ⟨X, Y, x1, y1, eq_mv (by omega) hh⟩
    · rw [if_neg (show ¬ vx_I c n s = 42 from fun z => c1 (k.1.mp z)), if_neg (show ¬ vy_I c n s = 42 from fun z => c1 (k.2.mp z))]
      exact ⟨_, _, rfl, rfl, Or.inl ⟨s, hs, rfl, rfl, rfl⟩⟩
theorem all_lp {lt tape : Nat → Int32} {n : Nat} {c : Nat → Nat} (h : tx_P lt tape n c) : ∀ (m i x F F2 : Nat) (pl : Nat → Int64) (sz : Int32) (u : Nat → Nat) (told : Nat → Int32) (num : Int32), n < i + m → m < F → m < F2 → i ≤ n → x ≤ i → 3 * ct_N u ≤ i → tr_P pl sz u → (∀ q, 1 ≤ q → q < 512 → told q = nI (u q)) → ∃ X Y, lp_X4_parse_14 lt (nI n) F pl sz (nI i) num (nI x) = some X ∧ (pf_X7_readsEntry tape told (nI n) (nI i)).bind (fun r => lp_X7_readsAll_33 tape (nI n) F2 r.2.1 r.2.2 r.1) = some Y ∧ ((∃ q, q ≤ n ∧ X.1 = nI q ∧ Y.1 = 0 ∧ Y.2.2 = nI q) ∨ (X.1 = (-4) ∧ Y.1 = 1 ∧ ∃ u2, tr_P X.2.1 X.2.2.1 u2 ∧ (∀ q, 1 ≤ q → q < 512 → Y.2.1 q = nI (u2 q)) ∧ ct_N u2 ≤ 40)) := by
  intro m
  induction m with
  | zero =>
    intro i x F F2 pl sz u told num hm hF hF2 hi hx h3 hu ht
    omega
  | succ m ih =>
    intro i x F F2 pl sz u told num hm hF hF2 hi hx h3 hu ht
    cases F with
    | zero => omega
    | succ F =>
    cases F2 with
    | zero => omega
    | succ F2 =>
    have hn := h.1
    obtain ⟨X, Y, x1, y1, hh⟩ := entry_t h hu ht hi num
    rw [lp_X4_parse_14, if_neg (show ¬ 100 < nI x from nI_nlt (a := 100) (by omega) (by decide)), x1, y1, Option.bind_some, Option.bind_some, lp_X7_readsAll_33]
    rcases hh with ⟨q, hq, a1, a2, a3⟩ | ⟨i2, u2, a1, a2, a3, a4, a5, a6, a7, a8, a9⟩
    · rw [if_neg (show ¬ X.1 = (-4) by rw [a1]; exact nI_m4 (by omega)), if_pos a2, if_pos a2]
      exact ⟨_, _, rfl, rfl, Or.inl ⟨q, hq, a1, rfl, a3⟩⟩
    · have a0 : ¬ Y.1 = 0 := by rw [a3]; exact ok_1
      obtain ⟨q, q1, q2, e1, e2⟩ := lh_t h a6
      have hq := q2.1
      have e3 := (lh_i h q2).2
      have k := vx_k h hq 59 (by decide) (by decide)
      have ke := vx_e h hq
      rw [if_pos a1, if_neg a0, a2, a4, e1, e2, Option.bind_some, Option.bind_some]
      by_cases c1 : q < n ∧ c q = 59
      · obtain ⟨X2, Y2, g1, g2, g3⟩ := ih (q + 1) (x + 1) F F2 X.2.1 X.2.2.1 u2 Y.2.1 X.2.2.2.2 (by omega) (by omega) (by omega) (by omega) (by omega) (by omega) a7 a8
        rw [if_neg (show ¬ vx_I c n q = (-1) from fun z => by have := ke.1.mp z; omega), if_pos (show vx_I c n q = 59 from k.1.mpr c1), if_pos (show vy_I c n q = 59 from k.2.mpr c1), nI_1, nI_1]
        exact ⟨X2, Y2, g1, g2, g3⟩
      · rw [if_neg (show ¬ vx_I c n q = 59 from fun z => c1 (k.1.mp z)), if_neg (show ¬ vy_I c n q = 59 from fun z => c1 (k.2.mp z)), if_neg a0, e3, Option.bind_some]
        by_cases c2 : q = n
        · rw [if_pos (ke.1.mpr c2), if_pos (ke.2.mpr c2)]
          exact ⟨_, _, rfl, rfl, Or.inr ⟨rfl, rfl, u2, a7, a8, by omega⟩⟩
        · rw [if_neg (fun z => c2 (ke.1.mp z)), if_neg (fun z => c2 (ke.2.mp z))]
          exact ⟨_, _, rfl, rfl, Or.inl ⟨q, hq, rfl, rfl, rfl⟩⟩
theorem tl_lp {tape : Nat → Int32} {many at0 : Int32} : ∀ (d i F : Nat) (told : Nat → Int32), i + d = 512 → d < F → (∀ q, q < i → told q = 8) → ∃ g, lp_X7_readsAll_7 tape many at0 F told (nI i) = (pf_X7_readsEntry tape g many at0).bind (fun r21 => lp_X7_readsAll_33 tape many fu_N r21.2.1 r21.2.2 r21.1) ∧ ∀ q, q < 512 → g q = 8
  | 0, i, F + 1, told, hi, _, ht => by
    rw [lp_X7_readsAll_7, if_pos (show 512 ≤ nI i from nI_le (a := 512) (by omega) (by omega))]
    exact ⟨told, rfl, fun q hq => ht q (by omega)⟩
  | d + 1, i, F + 1, told, hi, hF, ht => by
    rw [lp_X7_readsAll_7, if_neg (show ¬ 512 ≤ nI i from nI_ge (b := 512) (by omega) (by decide)), in_bn (show i < 512 by omega) (show 512 < 2 ^ 31 by decide), ck_t, nI_clamp (show i < 2 ^ 31 by omega), nI_1]
    exact tl_lp d (i + 1) F _ (by omega) (by omega) (fun q hq => by
      by_cases c : q = i
      · rw [c, pk_us]
      · rw [pk_un c]; exact ht q (by omega))
  | 0, _, 0, _, _, h, _ => by omega
  | d + 1, _, 0, _, _, h, _ => by omega
theorem sim_read (S : xs_T) (T : ys_T) (h : si_R S T)  : ∃ (r : Int32) (S2 : xs_T) (T2 : ys_T), px_read S  = some (r, S2) ∧ py_read T  = some (r, T2) ∧ si_R S2 T2 := by
  obtain ⟨⟨t, t2, hn, hv⟩, hk, hi, hp, hs⟩ := h
  obtain ⟨n, c, es, em, hx⟩ := tx_of hp
  obtain ⟨w, ew, hw⟩ := makeEmpty_t S.2.2.2.2.2.2.2.2.2.2.2.2.2.2.2.2.2.2.2.2.2.2.2.2.1 S.2.2.2.2.2.2.2.2.2.2.2.2.2.2.2.2.2.2.2.2.2.2.2.2.2.1
  obtain ⟨g, eg, hg⟩ := tl_lp (tape := T.2.2.2.2.1) (many := nI n) (at0 := 0) 512 0 fu_N T.2.2.2.2.2.2.2.2.2.2.2.2.2.1 (by omega) (by decide) (fun q hq => by omega)
  have c0 : ct_N (fun _ => 8) = 0 := by rw [ct_cf]; exact (cf_0 511 1).mpr (fun q _ _ => rfl)
  have n100 := hx.1
  obtain ⟨X, Y, x1, y1, hh⟩ := all_lp hx (n + 1) 0 0 fu_N fu_N w.1 w.2 (fun _ => 8) g S.2.2.2.2.2.2.2.2.2.2.2.2.2.2.2.2.2.2.2.2.2.2.2.2.2.2.2.2.1 (by omega) (show n + 1 < 10000 by omega) (show n + 1 < 10000 by omega) (by omega) (by omega) (by omega) hw (fun q _ h2 => hg q h2)
  have tp0 : tp_P S.2.2.2.2.2.2.2.2.2.2.2.2.2.2.2.2.2.2.2.2.2.2.2.1 0 T.2.2.2.2.1 0 := ⟨0, by omega, rfl, rfl, fun j h => by omega⟩
  have e1 : pf_X4_parse S.2.2.2.2.2.2.2.2.2.2.2.2.2.2.2.2.2.2.2.2.2.2.2.1 S.2.2.2.2.2.2.2.2.2.2.2.2.2.2.2.2.2.2.2.2.2.2.2.2.1 S.2.2.2.2.2.2.2.2.2.2.2.2.2.2.2.2.2.2.2.2.2.2.2.2.2.1 S.2.2.2.2.2.2.2.2.2.2.2.2.2.2.2.2.2.2.2.2.2.2.2.2.2.2.1 S.2.2.2.2.2.2.2.2.2.2.2.2.2.2.2.2.2.2.2.2.2.2.2.2.2.2.2.1 S.2.2.2.2.2.2.2.2.2.2.2.2.2.2.2.2.2.2.2.2.2.2.2.2.2.2.2.2.1 = some X := by
    rw [pf_X4_parse, ew, Option.bind_some, es]
    exact x1
  have e2 : pf_X7_readsAll T.2.2.2.2.1 T.2.2.2.2.2.2.2.2.2.2.2.2.2.1 T.2.2.2.2.2.2.2.2.2.2.2.2.2.2.2.2.1 T.2.2.2.2.2.2.2.2.2.2.2.2.2.2.2.2.2 = some Y := by
    rw [pf_X7_readsAll, em]
    exact eg.trans y1
  rcases hh with ⟨q, hq, a1, a2, a3⟩ | ⟨a1, a2, u, hu, ht, hc⟩
  · refine ⟨(-20) - nI q, _, _, mp_s (a := ((-20) - nI q, S.1, S.2.1, S.2.2.2.2.2.1, S.2.2.2.2.2.2.1, X.2.1, X.2.2.1, 0, X.2.2.2.1, X.2.2.2.2, S.2.2.2.2.2.2.2.2.2.2.2.2.2.2.2.2.2.2.2.2.2.2.2.2.2.2.2.2.2.2.2)) ?_, mp_s (a := ((-20) - nI q, T.1, T.2.1, Y.2.1, T.2.2.2.2.2.2.2.2.2.2.2.2.2.2.1, 0, Y.2.2)) ?_, ⟨t, t2, hn, hv⟩, hk, hi, tp0, hs⟩
    · rw [pf_X6_read, e1, Option.bind_some, pf_X4_makeEmpty, Option.bind_some, if_neg (show ¬ X.1 = (-4) by rw [a1]; exact nI_m4 (by omega)), a1]
    · rw [pf_X7_read, e2, Option.bind_some, if_pos a2, a3]
  · obtain ⟨s, z, f1, f2, hk2, h1⟩ := step_t hn hk S.2.2.2.2.2.2.2.2.2.2.2.2.2.2.2.2.2.2.2.2.2.2.2.2.2.2.2.2.2.2.2
    obtain ⟨b, eb, hb⟩ := takeFrom_t (pl := S.1) (sz := S.2.1) hu
    obtain ⟨gg, egg, ga, gb⟩ := bring_t (f1 := Y.2.1) (f3 := T.1) (n1 := 512) (n3 := 1025) (i := 1) (j := 1) (n := 511) (by omega) (by omega) (by decide) (by decide) (by decide)
    have egg' : pf_X7_bring Y.2.1 T.1 512 1025 1 1 511 = some gg := egg
    have hq2 : nq_P b.1 b.2 S.2.2.1 S.2.2.2.1 S.2.2.2.2.1 gg 0 u t2 := nq_told hn hb (fun q q1 q2 => by
      have := ga (q - 1) (by omega)
      rw [show 1 + (q - 1) = q by omega] at this
      rw [this]
      exact ht q q1 q2) (fun q q1 => gb q (by omega)) hc
    refine ⟨b.2, _, _, mp_s (a := (b.2, b.1, b.2, s.1, s.2.1, X.2.1, X.2.2.1, 0, X.2.2.2.1, X.2.2.2.2, s.2.2)) ?_, mp_s (a := (b.2, gg, z.1, Y.2.1, z.2, 0, Y.2.2)) ?_, ⟨u, t2, hq2, Or.inl h1⟩, hk2, hi, tp0, hs⟩
    · rw [pf_X6_read, e1, Option.bind_some, pf_X4_makeEmpty, Option.bind_some, if_pos a1, f1, Option.bind_some, eb, Option.bind_some, pf_X3_howMany, Option.bind_some]
    · rw [pf_X7_read, e2, Option.bind_some, if_neg (show ¬ Y.1 = 0 by rw [a2]; exact ok_1), f2, Option.bind_some, egg', Option.bind_some, show pf_X7_many gg 1025 0 = some (nI (ct_N u)) from many_t (o := 0) hq2.2.2.1 (tr_ok hu) (by decide) (by decide), Option.bind_some, ← hb.2]
