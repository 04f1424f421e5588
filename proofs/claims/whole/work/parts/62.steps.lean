/-- rows brought -/
theorem bring_lp {f1 : Nat → Int32} {n1 n3 i j n : Nat} (h1 : i + n ≤ n1) (h3 : j + n ≤ n3) (b1 : n1 < 2 ^ 31) (b3 : n3 < 2 ^ 31) : ∀ (d m F : Nat) (f3 : Nat → Int32), m + d = n → d < F → ∃ g, lp_X7_bring_3 n1 n3 f1 (nI i) (nI j) (nI n) F f3 (nI m) = some g ∧ (∀ k, m ≤ k → k < n → g (j + k) = f1 (i + k)) ∧ (∀ q, (q < j + m ∨ j + n ≤ q) → g q = f3 q)
  | 0, m, F + 1, f3, hm, _ => by
    rw [lp_X7_bring_3, if_pos (nI_le (show n ≤ m by omega) (by omega))]
    exact ⟨f3, rfl, fun k k1 k2 => by omega, fun q _ => rfl⟩
  | d + 1, m, F + 1, f3, hm, hF => by
    obtain ⟨g, e, ha, hb⟩ := bring_lp h1 h3 b1 b3 d (m + 1) F (upd f3 (j + m) (f1 (i + m))) (by omega) (by omega)
    rw [lp_X7_bring_3, if_neg (nI_ge (show m < n by omega) (by omega)), nI_add, nI_add, in_bn (show i + m < n1 by omega) b1, in_bn (show j + m < n3 by omega) b3, ck_t, ck_t, nI_clamp (show j + m < 2 ^ 31 by omega), nI_clamp (show i + m < 2 ^ 31 by omega), nI_1, e]
    refine ⟨g, rfl, fun k k1 k2 => ?_, fun q hq => ?_⟩
    · by_cases c : k = m
      · rw [c, hb _ (by omega), pk_us]
      · exact ha k (by omega) k2
    · rw [hb q (by omega), pk_un (by omega)]
  | 0, _, 0, _, _, h => by omega
  | d + 1, _, 0, _, _, h => by omega
theorem bring_t {f1 f3 : Nat → Int32} {n1 n3 i j n : Nat} (h1 : i + n ≤ n1) (h3 : j + n ≤ n3) (b1 : n1 < 2 ^ 31) (b3 : n3 < 2 ^ 31) (hn : n < 10000) : ∃ g, pf_X7_bring f1 f3 n1 n3 (nI i) (nI j) (nI n) = some g ∧ (∀ k, k < n → g (j + k) = f1 (i + k)) ∧ (∀ q, (q < j ∨ j + n ≤ q) → g q = f3 q) := by
  obtain ⟨g, e, ha, hb⟩ := bring_lp (f1 := f1) h1 h3 b1 b3 n 0 fu_N f3 (by omega) hn
  exact ⟨g, e, fun k hk => ha k (by omega) hk, fun q hq => hb q (by omega)⟩
theorem brings_lp {f : Nat → Int32} {n1 i j n : Nat} (h1 : i + n ≤ n1) (h3 : j ≤ i) (b1 : n1 < 2 ^ 31) : ∀ (d m F : Nat) (f3 : Nat → Int32), m + d = n → d < F → (∀ q, j + m ≤ q → f3 q = f q) → ∃ g, lp_X7_bring_s_3 n1 (nI i) (nI j) (nI n) F f3 (nI m) = some g ∧ (∀ k, m ≤ k → k < n → g (j + k) = f (i + k)) ∧ (∀ q, q < j + m → g q = f3 q)
  | 0, m, F + 1, f3, hm, _, _ => by
    rw [lp_X7_bring_s_3, if_pos (nI_le (show n ≤ m by omega) (by omega))]
    exact ⟨f3, rfl, fun k k1 k2 => by omega, fun q _ => rfl⟩
  | d + 1, m, F + 1, f3, hm, hF, hf => by
    obtain ⟨g, e, ha, hb⟩ := brings_lp (f := f) h1 h3 b1 d (m + 1) F (upd f3 (j + m) (f3 (i + m))) (by omega) (by omega) (fun q hq => by rw [pk_un (by omega)]; exact hf q (by omega))
    rw [lp_X7_bring_s_3, if_neg (nI_ge (show m < n by omega) (by omega)), nI_add, nI_add, in_bn (show i + m < n1 by omega) b1, in_bn (show j + m < n1 by omega) b1, ck_t, ck_t, nI_clamp (show j + m < 2 ^ 31 by omega), nI_clamp (show i + m < 2 ^ 31 by omega), nI_1, e]
    refine ⟨g, rfl, fun k k1 k2 => ?_, fun q hq => ?_⟩
    · by_cases c : k = m
      · rw [c, hb _ (by omega), pk_us, hf _ (by omega)]
      · exact ha k (by omega) k2
    · rw [hb q (by omega), pk_un (by omega)]
  | 0, _, 0, _, _, h, _ => by omega
  | d + 1, _, 0, _, _, h, _ => by omega
theorem brings_t {f : Nat → Int32} {n1 i j n : Nat} (h1 : i + n ≤ n1) (h3 : j ≤ i) (b1 : n1 < 2 ^ 31) (hn : n < 10000) : ∃ g, pf_X7_bring_s f n1 (nI i) (nI j) (nI n) = some g ∧ (∀ k, k < n → g (j + k) = f (i + k)) := by
  obtain ⟨g, e, ha, _⟩ := brings_lp (f := f) h1 h3 b1 n 0 fu_N f (by omega) hn (fun _ _ => rfl)
  exact ⟨g, e, fun k hk => ha k (by omega) hk⟩
theorem nq_mv {tp ip : Nat → Int64} {tz iz d : Int32} {f g : Nat → Int32} {o o2 : Nat} {t t2 : Nat → Nat} (h : nq_P tp tz ip iz d f o t t2) (e : ∀ k, k < 1025 → g (o2 + k) = f (o + k)) : nq_P tp tz ip iz d g o2 t t2 := by
  refine ⟨h.1, h.2.1, fun p h1 h2 => ?_, fun p h1 h2 => ?_, ?_, h.2.2.2.2.2⟩
  · rw [e p (by omega)]; exact h.2.2.1 p h1 h2
  · rw [Nat.add_assoc, e (512 + p) (by omega), ← Nat.add_assoc]; exact h.2.2.2.1 p h1 h2
  · rw [e 1024 (by omega)]; exact h.2.2.2.2.1
theorem mo_mv {m : mm_T} {f g : Nat → Int32} {o o2 : Nat} (h : mo_P m f o) (e : ∀ k, k < 1025 → g (o2 + k) = f (o + k)) : mo_P m g o2 := by
  obtain ⟨t, t2, h⟩ := h
  exact ⟨t, t2, nq_mv h e⟩
theorem mtake_t (a : Nat → Int64) (b : Int32) (a2 : Nat → Int64) (b2 b3 : Int32) (tp : Nat → Int64) (tz : Int32) (ip : Nat → Int64) (iz d : Int32) : ∃ o, pf_X1_takeFrom a b a2 b2 b3 tp tz ip iz d = some o ∧ ∀ f k t t2, nq_P tp tz ip iz d f k t t2 → nq_P o.1 o.2.1 o.2.2.1 o.2.2.2.1 o.2.2.2.2 f k t t2 := by
  refine ⟨_, rfl, fun f k t t2 h => ?_⟩
  obtain ⟨o1, e1, h1⟩ := takeFrom_t (pl := a) (sz := b) h.1
  obtain ⟨o2, e2, h2⟩ := takeFrom_t (pl := a2) (sz := b2) h.2.1
  rw [pf_X3_takeFrom] at e1 e2
  have e1' := Option.some.inj e1
  have e2' := Option.some.inj e2
  rw [← e1'] at h1
  rw [← e2'] at h2
  exact ⟨h1, h2, h.2.2⟩
theorem rem_t {tp ip : Nat → Int64} {tz iz d : Int32} {st : Nat → Int32} {t t2 : Nat → Nat} (hn : nq_P tp tz ip iz d st 0 t t2) {kn : Nat → mm_T} {past : Nat → Int32} {n : Nat} (h5 : n ≤ 5) (hk : ∀ j, j < n → mo_P (kn j) past (1025 * j)) : ∃ o y, lp_X0_remember_13 tp tz ip iz d kn (nI n) = some o ∧ lp_X7_notes_37 st past (nI n) = some y ∧ kp_P o.1 o.2 y.1 y.2 := by
  obtain ⟨m, em, hm⟩ := mtake_t (kn n).1 (kn n).2.1 (kn n).2.2.1 (kn n).2.2.2.1 (kn n).2.2.2.2 tp tz ip iz d
  obtain ⟨g, eg, ha, hb⟩ := bring_t (f1 := st) (f3 := past) (n1 := 1025) (n3 := 6150) (i := 0) (j := 1025 * n) (n := 1025) (by omega) (by omega) (by decide) (by decide) (by decide)
  rw [lp_X0_remember_13, in_bn (show n < 6 by omega) (show 6 < 2 ^ 31 by decide), ck_t, nI_clamp (show n < 2 ^ 31 by omega), em, Option.bind_some, lp_X7_notes_37, show (1025 : Int32) * nI n = nI (1025 * n) from pk_mul 1025 n, show pf_X7_bring st past 1025 6150 0 (nI (1025 * n)) 1025 = some g from eg, Option.bind_some]
  refine ⟨_, _, rfl, rfl, n + 1, by omega, nI_1 n, nI_1 n, fun j hj => ?_⟩
  by_cases c : j = n
  · subst c
    show mo_P (va_up kn j _ j) g _
    rw [va_up_self]
    exact ⟨t, t2, nq_mv (hm _ _ _ _ hn) (fun k hk => ha k hk)⟩
  · show mo_P (va_up kn n _ j) g _
    rw [va_up_ne _ _ c]
    exact mo_mv (hk j (by omega)) (fun k hk2 => hb _ (by omega))
theorem step_t {tp ip : Nat → Int64} {tz iz d : Int32} {st : Nat → Int32} {t t2 : Nat → Nat} (hn : nq_P tp tz ip iz d st 0 t t2) {kn : Nat → mm_T} {past : Nat → Int32} {sz acts : Int32} (hk : kp_P kn sz past acts) (old : Int32) : ∃ o y, pf_X6_beginStep tp tz ip iz d kn sz old = some o ∧ pf_X7_notes st past acts = some y ∧ kp_P o.1 o.2.1 y.1 y.2 ∧ o.2.2 = 1 := by
  obtain ⟨n, h6, e1, e2, hk⟩ := hk
  subst e1
  subst e2
  rw [pf_X6_beginStep, pf_X0_remember, pf_X7_notes]
  by_cases c : n = 6
  · subst c
    obtain ⟨g, eg, ha⟩ := brings_t (f := past) (n1 := 6150) (i := 1025) (j := 0) (n := 5125) (by omega) (by omega) (by decide) (by decide)
    obtain ⟨o, y, eo, ey, hh⟩ := rem_t hn (kn := lo_K kn) (past := g) (n := 5) (by omega) (fun j hj => by
      rw [lo_K, if_neg (by omega)]
      refine mo_mv (hk (j + 1) (by omega)) (fun k hk2 => ?_)
      have := ha (1025 * j + k) (by omega)
      rw [Nat.zero_add] at this
      rw [this]
      exact congrArg past (by omega))
    rw [if_pos (show nI 6 = (6 : Int32) from rfl), if_pos (show nI 6 = (6 : Int32) from rfl), pf_X0_loseOldest, Option.bind_some, show pf_X7_bring_s past 6150 1025 0 5125 = some g from eg, Option.bind_some, show lp_X0_remember_13 tp tz ip iz d (lo_K kn, (5 : Int32)).1 (lo_K kn, (5 : Int32)).2 = some o from eo, Option.bind_some, show nI 6 - 1 = nI 5 from rfl, ey]
    exact ⟨_, _, rfl, rfl, hh, rfl⟩
  · obtain ⟨o, y, eo, ey, hh⟩ := rem_t hn (n := n) (by omega) hk
    have c6 : ¬ nI n = (6 : Int32) := fun g => c ((nI_eq (b := 6) (by omega) (by decide)).mp g)
    rw [if_neg c6, if_neg c6, eo, ey, Option.bind_some]
    exact ⟨_, _, rfl, rfl, hh, rfl⟩
theorem nq_told {tp ip tp2 : Nat → Int64} {tz iz d tz2 : Int32} {st st2 : Nat → Int32} {t t2 u : Nat → Nat} (h : nq_P tp tz ip iz d st 0 t t2) (hu : tr_P tp2 tz2 u) (e : ∀ q, 1 ≤ q → q < 512 → st2 q = nI (u q)) (e2 : ∀ q, 512 ≤ q → st2 q = st q) (hc : ct_N u ≤ 40) : nq_P tp2 tz2 ip iz d st2 0 u t2 := by
  refine ⟨hu, h.2.1, fun p h1 h2 => ?_, fun p h1 h2 => ?_, ?_, hc, h.2.2.2.2.2.2⟩
  · rw [Nat.zero_add]; exact e p h1 h2
  · rw [e2 _ (by omega)]; exact h.2.2.2.1 p h1 h2
  · rw [e2 _ (by omega)]; exact h.2.2.2.2.1
theorem st_t {tp ip : Nat → Int64} {tz iz d : Int32} {st : Nat → Int32} {t t2 : Nat → Nat} (h : nq_P tp tz ip iz d st 0 t t2) {p : Nat} (h1 : 1 ≤ p) (h2 : p < 512) : st p = nI (t p) := (congrArg st (Nat.zero_add p)).symm.trans (h.2.2.1 p h1 h2)
theorem nq_put {tp ip tp2 : Nat → Int64} {tz iz d tz2 : Int32} {st : Nat → Int32} {t t2 : Nat → Nat} (h : nq_P tp tz ip iz d st 0 t t2) {p v : Nat} (h2 : p < 512) (hu : tr_P tp2 tz2 (va_up t p v)) (hc : ct_N (va_up t p v) ≤ 40) : nq_P tp2 tz2 ip iz d (upd st p (nI v)) 0 (va_up t p v) t2 := by
  refine nq_told h hu (fun q q1 q2 => ?_) (fun q q1 => pk_un (by omega)) hc
  by_cases c : q = p
  · rw [c, pk_us, va_up_self]
  · rw [pk_un c, va_up_ne _ _ c]; exact st_t h q1 q2
