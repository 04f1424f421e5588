/-- letters typed, draws -/
theorem rg_2 (x : Int32) {l m : Nat} {Li M : Int32} (hL : Li = nI l) (hM : M = nI m) (hl : l < 2 ^ 31) (hm : m < 2 ^ 31) : (x < Li ∧ (x < nI l ∨ nI m < x)) ∨ (¬ x < Li ∧ ¬ x ≤ M ∧ (x < nI l ∨ nI m < x)) ∨ (¬ x < Li ∧ x ≤ M ∧ ∃ j : Nat, l ≤ j ∧ j ≤ m ∧ x = nI j) := by
  rw [hL, hM]
  by_cases c : x < nI l
  · exact Or.inl ⟨c, Or.inl c⟩
  · have c0 : ¬ x < 0 := fun g => c (by rw [fa_lt] at g ⊢; rw [nI_toInt hl]; rw [show (0 : Int32).toInt = 0 from rfl] at g; omega)
    obtain ⟨j, hj, e⟩ := nI_of c0
    subst e
    have hlj : l ≤ j := by
      have : ¬ j < l := fun g => c (nI_lt g hl)
      omega
    by_cases c2 : j ≤ m
    · exact Or.inr (Or.inr ⟨c, nI_le c2 hm, j, hlj, c2, rfl⟩)
    · exact Or.inr (Or.inl ⟨c, nI_ge (by omega) hj, Or.inr (nI_lt (by omega) hj)⟩)
theorem type_c {lt tape : Nat → Int32} {sz many : Int32} (h : tp_P lt sz tape many) (p1 : Int32) : ∃ r o y, pf_X6_type lt sz p1 = some (r, o) ∧ pf_X7_type tape many p1 = some (r, y) ∧ tp_P o.1 o.2 y.1 y.2 := by
  rw [pf_X6_type, pf_X7_type]
  rcases rg_2 p1 (l := 32) (m := 126) (Li := 32) (M := 126) rfl rfl (by decide) (by decide) with ⟨c, g⟩ | ⟨c, c2, g⟩ | ⟨c, c2, j, h1, h2, e⟩
  · rw [if_pos c, show pf_X7_in (Int32.toInt64 p1) 32 126 = some 0 from in_no (l := 32) (m := 126) (by decide) (by decide) g]
    exact ⟨_, _, _, rfl, rfl, h⟩
  · rw [if_neg c, if_neg c2, show pf_X7_in (Int32.toInt64 p1) 32 126 = some 0 from in_no (l := 32) (m := 126) (by decide) (by decide) g]
    exact ⟨_, _, _, rfl, rfl, h⟩
  subst e
  rw [if_neg c, if_pos c2, show pf_X7_in (Int32.toInt64 (nI j)) 32 126 = some 1 from in_yes (l := 32) (m := 126) (by decide) (by omega) (by omega), Option.bind_some, if_neg ok_1, pf_X4_addLetter]
  have h0 := h
  obtain ⟨n, hn, e1, e2, hx⟩ := h
  subst e1
  subst e2
  by_cases c3 : n = 100
  · subst c3
    rw [if_neg (show ¬ nI 100 < 100 by decide), if_pos (show nI 100 = 100 from rfl)]
    exact ⟨_, _, _, rfl, rfl, h0⟩
  · rw [if_pos (show nI n < 100 from nI_lt (b := 100) (by omega) (by decide)), if_neg (show ¬ nI n = 100 from fun g => c3 ((nI_eq (b := 100) (by omega) (by decide)).mp g)), in_bn (show n < 100 by omega) (show 100 < 2 ^ 31 by decide), ck_t, ck_t, nI_clamp (show n < 2 ^ 31 by omega), nI_1]
    refine ⟨_, _, _, rfl, rfl, n + 1, by omega, rfl, rfl, fun q hq => ?_⟩
    by_cases c4 : q = n
    · subst c4
      exact ⟨j, h1, h2, pk_us, pk_us⟩
    · obtain ⟨k, a, b, f1, f2⟩ := hx q (by omega)
      exact ⟨k, a, b, (pk_un c4).trans f1, (pk_un c4).trans f2⟩
theorem sim_type (S : xs_T) (T : ys_T) (h : si_R S T) (p1 : Int32) : ∃ (r : Int32) (S2 : xs_T) (T2 : ys_T), px_type S p1 = some (r, S2) ∧ py_type T p1 = some (r, T2) ∧ si_R S2 T2 := by
  obtain ⟨hn, hk, hi, hp, hs⟩ := h
  obtain ⟨r, o, y, e1, e2, hq⟩ := type_c hp p1
  exact ⟨r, _, _, mp_s e1, mp_s e2, hn, hk, hi, hq, hs⟩
theorem nq_draw {tp ip : Nat → Int64} {tz iz d : Int32} {st : Nat → Int32} {t t2 : Nat → Nat} (h : nq_P tp tz ip iz d st 0 t t2) {e : Int32} (he : ¬ e < 0) : nq_P tp tz ip iz e (upd st 1024 e) 0 t t2 := by
  refine ⟨h.1, h.2.1, fun p a b => ?_, fun p a b => ?_, pk_us, h.2.2.2.2.2.1, he⟩
  · rw [pk_un (by omega)]; exact h.2.2.1 p a b
  · rw [pk_un (by omega)]; exact h.2.2.2.1 p a b
def zz_N (D : Nat) : Nat := (D * 1103515245 + 12345) % 2 ^ 31
def xx_N (D : Nat) : Nat := zz_N D / 2 ^ 16
def pp_N (D : Nat) : Nat := 2 ^ (xx_N D % 9) + xx_N D / 16 % 2 ^ (xx_N D % 9)
theorem zz_lt (D : Nat) : zz_N D < 2 ^ 31 := Nat.mod_lt _ (by decide)
theorem xx_lt (D : Nat) : xx_N D < 32768 := by
  have := zz_lt D
  rw [xx_N]
  omega
theorem p2_le {l : Nat} (h : l ≤ 8) : 2 ^ l ≤ 256 := Nat.pow_le_pow_right (n := 2) (by decide) h
theorem pp_b (D : Nat) : 1 ≤ pp_N D ∧ pp_N D < 512 := by
  have h1 := p2_le (show xx_N D % 9 ≤ 8 by omega)
  have h0 : 0 < 2 ^ (xx_N D % 9) := Nat.two_pow_pos _
  have h2 := Nat.mod_lt (xx_N D / 16) h0
  rw [pp_N]
  omega
theorem zz_x (D : Nat) : (nI D * 1103515245 + 12345) &&& 2147483647 = nI (zz_N D) := by
  rw [show nI D * 1103515245 = nI (D * 1103515245) from pk_mul D 1103515245, show nI (D * 1103515245) + 12345 = nI (D * 1103515245 + 12345) from nI_add _ _]
  exact fa_mask _ 31
theorem zz_y {D : Nat} (h : D < 2 ^ 31) : ∀ y : Int64, y = Int32.toInt64 (nI D) * 1103515245 + 12345 → Int64.toInt32 (y - y / 2147483648 * 2147483648) = nI (zz_N D) := fun y e => by
  rw [nI_l h, show lN D * 1103515245 = lN (D * 1103515245) from lN_mul _ _, show lN (D * 1103515245) + 12345 = lN (D * 1103515245 + 12345) from lN_add _ _] at e
  rw [e, show lN (D * 1103515245 + 12345) - lN (D * 1103515245 + 12345) / 2147483648 * 2147483648 = lN ((D * 1103515245 + 12345) % 2147483648) from pk_lRem (by omega) (by decide) (by decide), lN_i]
  rfl
theorem once_lp {st past : Nat → Int32} {acts : Int32} {x l : Nat} (hx : x < 2 ^ 31) (hl : l = x % 9) (R : Option ((Nat → Int32) × (Nat → Int32) × Int32)) (hR : ∀ n, lp_X7_turnsOnce_54 st past acts (nI x) (n + 1) (nI (2 ^ l)) (nI l) = R) : ∀ (d i F : Nat), i + d = l → d < F → lp_X7_turnsOnce_54 st past acts (nI x) F (nI (2 ^ i)) (nI i) = R
  | 0, i, F + 1, hi, _ => by
    have e : i = l := by omega
    rw [e]; exact hR F
  | d + 1, i, F + 1, hi, hF => by
    rw [lp_X7_turnsOnce_54, show nI x - nI x / 9 * 9 = nI (x % 9) from pk_rem (d := 9) hx (by decide) (by decide), if_neg (nI_ge (show i < x % 9 by omega) (by omega)), show nI (2 ^ i) * 2 = nI (2 ^ i * 2) from pk_mul _ 2, nI_1, ← Nat.pow_succ]
    exact once_lp hx hl R hR d (i + 1) F (by omega) (by omega)
  | 0, _, 0, _, h => by omega
  | d + 1, _, 0, _, h => by omega
theorem turn_c {tp ip : Nat → Int64} {tz iz : Int32} {D : Nat} (hD : D < 2 ^ 31) {st : Nat → Int32} {t t2 : Nat → Nat} (hn : nq_P tp tz ip iz (nI D) st 0 t t2) {kn : Nat → mm_T} {past : Nat → Int32} {sz acts : Int32} (hk : kp_P kn sz past acts) (old : Int32) : ∃ w o y, pf_X6_beginStep tp tz ip iz (nI D) kn sz old = some w ∧ pf_X6_takeTurn tp tz (nI D) = some o ∧ pf_X7_turnsOnce st past acts = some y ∧ (∃ u, nq_P o.1 o.2.1 ip iz o.2.2 y.1 0 u t2) ∧ kp_P w.1 w.2.1 y.2.1 y.2.2 ∧ w.2.2 = 1 := by
  obtain ⟨w, z, ew, ez, hk2, h1⟩ := step_t hn hk old
  have ok := tr_ok hn.1
  have hz := zz_lt D
  have hx := xx_lt D
  obtain ⟨q1, q2⟩ := pp_b D
  have hv : xx_N D / 4096 < 8 := by omega
  have hd : nq_P tp tz ip iz (nI (zz_N D)) (upd st 1024 (nI (zz_N D))) 0 t t2 := nq_draw hn (nI_pos hz)
  have l8 : xx_N D % 9 ≤ 8 := by omega
  have b8 := p2_le l8
  have e1 : nI (zz_N D) >>> (16 &&& 31) = nI (xx_N D) := sh_r (c := 16) hz (by decide)
  have e2 : nI (xx_N D) - nI (xx_N D) / 9 * 9 = nI (xx_N D % 9) := pk_rem (d := 9) (by omega) (by decide) (by decide)
  have e3 : (1 : Int32) <<< (nI (xx_N D % 9) &&& 31) = nI (2 ^ (xx_N D % 9)) := (sh_l (x := 1) (by omega) (by rw [Nat.one_mul]; omega)).trans (by rw [Nat.one_mul])
  have e4 : nI (xx_N D) >>> (4 &&& 31) = nI (xx_N D / 16) := sh_r (c := 4) (by omega) (by decide)
  have e5 : nI (2 ^ (xx_N D % 9)) - 1 = nI (2 ^ (xx_N D % 9) - 1) := pk_sub (b := 1) (Nat.two_pow_pos _)
  have e6 : nI (2 ^ (xx_N D % 9)) ||| nI (xx_N D / 16 % 2 ^ (xx_N D % 9)) = nI (pp_N D) := by
    have := fa_or_sum (k := xx_N D % 9) 1 (Nat.mod_lt (xx_N D / 16) (Nat.two_pow_pos (xx_N D % 9)))
    rw [Nat.mul_one] at this
    exact this
  have e7 : nI (xx_N D) >>> (12 &&& 31) = nI (xx_N D / 4096) := sh_r (c := 12) (by omega) (by decide)
  obtain ⟨s, es, hs⟩ := put_t hn.1 q1 q2 hv
  have cu := ct_up t (xx_N D / 4096) q1 q2
  rw [if_pos (show xx_N D / 4096 ≠ 8 by omega)] at cu
  have hc := hn.2.2.2.2.2.1
  have sp : upd st 1024 (nI (zz_N D)) (pp_N D) = nI (t (pp_N D)) := st_t hd q1 q2
  have e8 : nI (xx_N D / 16) - nI (xx_N D / 16) / nI (2 ^ (xx_N D % 9)) * nI (2 ^ (xx_N D % 9)) = nI (xx_N D / 16 % 2 ^ (xx_N D % 9)) := pk_rem (by omega) (Nat.two_pow_pos _) (by omega)
  have e9 : nI (2 ^ (xx_N D % 9)) + nI (xx_N D / 16 % 2 ^ (xx_N D % 9)) = nI (pp_N D) := nI_add _ _
  have key : ∃ o y, pf_X6_takeTurn tp tz (nI D) = some o ∧ (∀ n, lp_X7_turnsOnce_54 (upd st 1024 (nI (zz_N D))) z.1 z.2 (nI (xx_N D)) (n + 1) (nI (2 ^ (xx_N D % 9))) (nI (xx_N D % 9)) = some (y, z.1, z.2)) ∧ ∃ u, nq_P o.1 o.2.1 ip iz o.2.2 y 0 u t2 := by
    rw [pf_X6_takeTurn, pf_X1_nextDraw, Option.bind_some]
    simp only [zz_x, e1, e2, lt_b, e3, e4, e5, fa_mask, e6, e7, hopAt_t hn.1 q1 q2, Option.bind_some, lp_X7_turnsOnce_54, if_pos (nI_le (Nat.le_refl (xx_N D % 9)) (show xx_N D % 9 < 2 ^ 31 by omega)), show nz_b (nI (2 ^ (xx_N D % 9))) = true from decide_eq_true (nI_ne0 (Nat.two_pow_pos _) (by omega)), ck_t, show nI (xx_N D) / 16 = nI (xx_N D / 16) from pk_div (d := 16) (by omega) (by decide) (by decide), show nI (xx_N D) / 4096 = nI (xx_N D / 4096) from pk_div (d := 4096) (by omega) (by decide) (by decide), e8, e9, Int32.zero_add, in_bn (show pp_N D < 1025 by omega) (show 1025 < 2 ^ 31 by decide), nI_clamp (show pp_N D < 2 ^ 31 by omega), sp]
    by_cases c : t (pp_N D) = xx_N D / 4096
    · obtain ⟨s2, es2, hs2⟩ := takeOut_t hn.1 q1 q2 (show t (pp_N D) ≠ 8 by omega)
      have cu2 := ct_up t 8 q1 q2
      rw [if_pos (show t (pp_N D) ≠ 8 by omega), if_neg (show ¬ (8 : Nat) ≠ 8 from fun g => g rfl)] at cu2
      simp only [if_pos ((hv_eq (ok _ q1 q2) hv).mpr c), if_pos (congrArg nI c), es2, Option.bind_some]
      exact ⟨_, _, rfl, fun _ => rfl, _, nq_put (v := 8) hd q2 hs2 (by omega)⟩
    have cI : ¬ nI (t (pp_N D)) = nI (xx_N D / 4096) := fun g => c ((nI_eq (show t (pp_N D) < 2 ^ 31 from Nat.lt_of_le_of_lt (ok _ q1 q2) (by decide)) (by omega)).mp g)
    simp only [if_neg (show ¬ hv_I (t (pp_N D)) = nI (xx_N D / 4096) from fun g => c ((hv_eq (ok _ q1 q2) hv).mp g)), if_neg cI]
    by_cases c8 : t (pp_N D) = 8
    · rw [if_neg (show ¬ t (pp_N D) ≠ 8 from fun g => g c8)] at cu
      simp only [if_pos ((hv_m4 (ok _ q1 q2)).mpr c8), if_pos ((nI_8 (ok _ q1 q2)).mpr c8), pf_X3_howMany, Option.bind_some, show pf_X7_many (upd st 1024 (nI (zz_N D))) 1025 0 = some (nI (ct_N t)) from many_t (o := 0) hd.2.2.1 ok (by decide) (by decide)]
      by_cases c40 : ct_N t = 40
      · simp only [if_pos (show 40 ≤ tz by rw [hn.1.2, c40]; decide), if_pos (show 40 ≤ nI (ct_N t) by rw [c40]; decide)]
        exact ⟨_, _, rfl, fun _ => rfl, t, hd⟩
      · simp only [if_neg (show ¬ 40 ≤ tz by rw [hn.1.2]; exact nI_ge (b := 40) (by omega) (by decide)), if_neg (show ¬ 40 ≤ nI (ct_N t) from nI_ge (b := 40) (by omega) (by decide)), es, Option.bind_some]
        exact ⟨_, _, rfl, fun _ => rfl, _, nq_put hd q2 hs (by omega)⟩
    · rw [if_pos (show t (pp_N D) ≠ 8 from c8)] at cu
      simp only [if_neg (show ¬ hv_I (t (pp_N D)) = -4 from fun g => c8 ((hv_m4 (ok _ q1 q2)).mp g)), if_neg (show ¬ nI (t (pp_N D)) = 8 from fun g => c8 ((nI_8 (ok _ q1 q2)).mp g)), es, Option.bind_some]
      exact ⟨_, _, rfl, fun _ => rfl, _, nq_put hd q2 hs (by omega)⟩
  obtain ⟨o, y, eo, ey, hu⟩ := key
  refine ⟨w, o, (y, z.1, z.2), ew, eo, ?_, hu, hk2, h1⟩
  rw [pf_X7_turnsOnce, ez, Option.bind_some, lt_b, lt_b, show (Int32.toNatClampNeg 1024) = 1024 from rfl, show st 1024 = nI D from hn.2.2.2.2.1, zz_y hD _ rfl, pk_us, show nI (zz_N D) / 65536 = nI (xx_N D) from pk_div (d := 65536) hz (by decide) (by decide)]
  exact once_lp (by omega) rfl _ ey (xx_N D % 9) 0 fu_N (by omega) (show xx_N D % 9 < 10000 by omega)
theorem drift_lp {ip : Nat → Int64} {iz : Int32} {t2 : Nat → Nat} {n : Nat} (hn40 : n ≤ 40) : ∀ (e i F F2 : Nat) (tp : Nat → Int64) (tz d : Int32) (kn : Nat → mm_T) (sz old : Int32) (st past : Nat → Int32) (acts : Int32) (t : Nat → Nat), i + e = n → e < F → e < F2 → nq_P tp tz ip iz d st 0 t t2 → kp_P kn sz past acts → (old = 1 ∨ i < n) → ∃ r o y, lp_X6_drift_15 ip iz (nI n) F tp tz d kn sz old (nI i) = some (r, o) ∧ lp_X7_drift_16 (nI n) F2 st past acts (nI i) = some (r, y) ∧ (∃ u, nq_P o.1 o.2.1 ip iz o.2.2.1 y.1 0 u t2) ∧ kp_P o.2.2.2.1 o.2.2.2.2.1 y.2.1 y.2.2 ∧ o.2.2.2.2.2 = 1
  | 0, i, F + 1, F2 + 1, tp, tz, d, kn, sz, old, st, past, acts, t, hi, _, _, hn, hk, ho => by
    rw [lp_X6_drift_15, lp_X7_drift_16, if_pos (nI_le (show n ≤ i by omega) (by omega)), if_pos (nI_le (show n ≤ i by omega) (by omega)), pf_X3_howMany, Option.bind_some, show pf_X7_many st 1025 0 = some (nI (ct_N t)) from many_t (o := 0) hn.2.2.1 (tr_ok hn.1) (by decide) (by decide), Option.bind_some, ← hn.1.2]
    exact ⟨_, _, _, rfl, rfl, ⟨t, hn⟩, hk, ho.resolve_right (by omega)⟩
  | e + 1, i, F + 1, F2 + 1, tp, tz, d, kn, sz, old, st, past, acts, t, hi, hF, hF2, hn, hk, ho => by
    obtain ⟨D, hD, eD⟩ := nI_of hn.2.2.2.2.2.2
    subst eD
    obtain ⟨w, o, y, ew, eo, ey, ⟨u, hu⟩, hk2, h1⟩ := turn_c hD hn hk old
    rw [lp_X6_drift_15, lp_X7_drift_16, if_neg (nI_ge (show i < n by omega) (by omega)), if_neg (nI_ge (show i < n by omega) (by omega)), ew, Option.bind_some, eo, Option.bind_some, ey, Option.bind_some, nI_1]
    exact drift_lp hn40 e (i + 1) F F2 _ _ _ _ _ _ _ _ _ u (by omega) (by omega) (by omega) hu hk2 (Or.inl h1)
  | 0, _, 0, _, _, _, _, _, _, _, _, _, _, _, _, h, _, _, _, _ => by omega
  | e + 1, _, 0, _, _, _, _, _, _, _, _, _, _, _, _, h, _, _, _, _ => by omega
  | 0, _, _ + 1, 0, _, _, _, _, _, _, _, _, _, _, _, _, h, _, _, _ => by omega
  | e + 1, _, _ + 1, 0, _, _, _, _, _, _, _, _, _, _, _, _, h, _, _, _ => by omega
theorem sim_drift (S : xs_T) (T : ys_T) (h : si_R S T) (p1 : Int32) : ∃ (r : Int32) (S2 : xs_T) (T2 : ys_T), px_drift S p1 = some (r, S2) ∧ py_drift T p1 = some (r, T2) ∧ si_R S2 T2 := by
  obtain ⟨⟨t, t2, hn, hv⟩, hr⟩ := h
  rcases rg_2 p1 (l := 1) (m := 40) (Li := 1) (M := 40) rfl rfl (by decide) (by decide) with ⟨c, g⟩ | ⟨c, c2, g⟩ | ⟨c, c2, j, h1, h2, e⟩
  · refine ⟨-1, _, _, mp_s (a := (-1, S.1, S.2.1, S.2.2.2.2.1, S.2.2.2.2.2.1, S.2.2.2.2.2.2.1, S.2.2.2.2.2.2.2.2.2.2.2.2.2.2.2.2.2.2.2.2.2.2.2.2.2.2.2.2.2.2.2)) ?_, mp_s (a := (-1, T.1, T.2.1, T.2.2.2.2.2.2.2.2.2.2.2.2.2.2.1)) ?_, ⟨t, t2, hn, hv⟩, hr⟩
    · rw [pf_X6_drift, if_pos c]
    · rw [pf_X7_drift, show pf_X7_in (Int32.toInt64 p1) 1 40 = some 0 from in_no (l := 1) (m := 40) (by decide) (by decide) g]; rfl
  · refine ⟨-1, _, _, mp_s (a := (-1, S.1, S.2.1, S.2.2.2.2.1, S.2.2.2.2.2.1, S.2.2.2.2.2.2.1, S.2.2.2.2.2.2.2.2.2.2.2.2.2.2.2.2.2.2.2.2.2.2.2.2.2.2.2.2.2.2.2)) ?_, mp_s (a := (-1, T.1, T.2.1, T.2.2.2.2.2.2.2.2.2.2.2.2.2.2.1)) ?_, ⟨t, t2, hn, hv⟩, hr⟩
    · rw [pf_X6_drift, if_neg c, if_neg c2]
    · rw [pf_X7_drift, show pf_X7_in (Int32.toInt64 p1) 1 40 = some 0 from in_no (l := 1) (m := 40) (by decide) (by decide) g]; rfl
  · subst e
    obtain ⟨r, o, y, e1, e2, ⟨u, hu⟩, hk2, ho⟩ := drift_lp h2 j 0 fu_N fu_N S.1 S.2.1 S.2.2.2.2.1 S.2.2.2.2.2.1 S.2.2.2.2.2.2.1 S.2.2.2.2.2.2.2.2.2.2.2.2.2.2.2.2.2.2.2.2.2.2.2.2.2.2.2.2.2.2.2 T.1 T.2.1 T.2.2.2.2.2.2.2.2.2.2.2.2.2.2.1 t (by omega) (show j < 10000 by omega) (show j < 10000 by omega) hn hr.1 (Or.inr (by omega))
    refine ⟨r, _, _, mp_s (a := (r, o)) ?_, mp_s (a := (r, y)) ?_, ⟨u, t2, hu, Or.inl ho⟩, hk2, hr.2⟩
    · rw [pf_X6_drift, if_neg c, if_pos c2]
      exact e1
    · rw [pf_X7_drift, show pf_X7_in (Int32.toInt64 (nI j)) 1 40 = some 1 from in_yes (l := 1) (m := 40) (by decide) (by omega) (by omega), Option.bind_some, if_neg ok_1]
      exact e2
