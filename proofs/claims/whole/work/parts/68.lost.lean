/-- the odds -/
def ch_L (t : Nat → Nat) : Nat → Nat → List Nat
  | 0, _ => []
  | d + 1, x => if x = 0 then [] else if t x = 8 then ch_L t d (x / 2) else t x :: ch_L t d (x / 2)
theorem ch_len (t : Nat → Nat) : ∀ d x, (ch_L t d x).length ≤ d
  | 0, _ => Nat.le_refl 0
  | d + 1, x => by
    rw [ch_L]
    have := ch_len t d (x / 2)
    by_cases c : x = 0
    · rw [if_pos c]; exact Nat.zero_le _
    · rw [if_neg c]
      by_cases c2 : t x = 8
      · rw [if_pos c2]; omega
      · rw [if_neg c2, List.length_cons]; omega
def fo_N (c due : Nat) : List Nat → Nat
  | [] => if due = 0 then 1 else 0
  | h :: r => c * fo_N c due r + (if h = due then (10 - c) * 10 ^ r.length else 0)
def tt_N (c : Nat) : List Nat → Nat → Nat
  | [], _ => 1
  | _ :: r, s => (if s % 2 = 1 then 10 - c else c) * tt_N c r (s / 2)
def dd_N : List Nat → Nat → Nat
  | [], _ => 0
  | h :: r, s => if s % 2 = 1 then h else dd_N r (s / 2)
def su_N (g : Nat → Nat) : Nat → Nat → Nat
  | 0, _ => 0
  | d + 1, s => g s + su_N g d (s + 1)
theorem su_cg {f g : Nat → Nat} (h : ∀ i, f i = g i) : ∀ d s, su_N f d s = su_N g d s
  | 0, _ => rfl
  | d + 1, s => by rw [su_N, su_N, h s, su_cg h d (s + 1)]
theorem su_add (f g : Nat → Nat) : ∀ d s, su_N (fun i => f i + g i) d s = su_N f d s + su_N g d s
  | 0, _ => rfl
  | d + 1, s => by
    rw [su_N, su_N, su_N, su_add f g d (s + 1)]
    omega
theorem su_mul (c : Nat) (f : Nat → Nat) : ∀ d s, su_N (fun i => c * f i) d s = c * su_N f d s
  | 0, _ => by rw [su_N, su_N, Nat.mul_zero]
  | d + 1, s => by rw [su_N, su_N, su_mul c f d (s + 1), Nat.mul_add]
theorem su_two (g : Nat → Nat) : ∀ d s, su_N g (2 * d) (2 * s) = su_N (fun i => g (2 * i) + g (2 * i + 1)) d s
  | 0, _ => rfl
  | d + 1, s => by
    rw [show 2 * (d + 1) = 2 * d + 1 + 1 from rfl, su_N, su_N, su_N, show 2 * s + 1 + 1 = 2 * (s + 1) from rfl, su_two g d (s + 1), Nat.add_assoc]
theorem e_od (s : Nat) : (2 * s) % 2 = 0 ∧ (2 * s + 1) % 2 = 1 ∧ (2 * s) / 2 = s ∧ (2 * s + 1) / 2 = s := by omega
theorem tt_e (c h : Nat) (r : List Nat) (s : Nat) : tt_N c (h :: r) (2 * s) = c * tt_N c r s ∧ tt_N c (h :: r) (2 * s + 1) = (10 - c) * tt_N c r s := by
  obtain ⟨a, b, d, e⟩ := e_od s
  rw [tt_N, tt_N, a, b, d, e, if_neg (by decide), if_pos rfl]
  exact ⟨rfl, rfl⟩
theorem dd_e (h : Nat) (r : List Nat) (s : Nat) : dd_N (h :: r) (2 * s) = dd_N r s ∧ dd_N (h :: r) (2 * s + 1) = h := by
  obtain ⟨a, b, d, e⟩ := e_od s
  rw [dd_N, dd_N, a, b, d, if_neg (by decide), if_pos rfl]
  exact ⟨rfl, rfl⟩
theorem su_tt {c : Nat} (hc : c ≤ 10) : ∀ l : List Nat, su_N (tt_N c l) (2 ^ l.length) 0 = 10 ^ l.length
  | [] => rfl
  | h :: r => by
    have e := su_two (tt_N c (h :: r)) (2 ^ r.length) 0
    rw [List.length_cons, Nat.pow_succ, Nat.mul_comm, show su_N (tt_N c (h :: r)) (2 * 2 ^ r.length) 0 = _ from e, su_cg (g := fun i => c * tt_N c r i + (10 - c) * tt_N c r i) (fun i => by rw [(tt_e c h r i).1, (tt_e c h r i).2]), su_add, su_mul, su_mul, su_tt hc r, ← Nat.add_mul, show c + (10 - c) = 10 by omega, Nat.pow_succ, Nat.mul_comm]
theorem su_fo {c : Nat} (hc : c ≤ 10) (due : Nat) : ∀ l : List Nat, su_N (fun s => if dd_N l s = due then tt_N c l s else 0) (2 ^ l.length) 0 = fo_N c due l
  | [] => by
    show (if 0 = due then 1 else 0) + 0 = if due = 0 then 1 else 0
    by_cases e : due = 0
    · rw [if_pos e.symm, if_pos e]
    · rw [if_neg (fun g => e g.symm), if_neg e]
  | h :: r => by
    have e := su_two (fun s => if dd_N (h :: r) s = due then tt_N c (h :: r) s else 0) (2 ^ r.length) 0
    have z : ∀ i, ((if dd_N (h :: r) (2 * i) = due then tt_N c (h :: r) (2 * i) else 0) + (if dd_N (h :: r) (2 * i + 1) = due then tt_N c (h :: r) (2 * i + 1) else 0)) = c * (if dd_N r i = due then tt_N c r i else 0) + (if h = due then 10 - c else 0) * tt_N c r i := fun i => by
      rw [(dd_e h r i).1, (dd_e h r i).2, (tt_e c h r i).1, (tt_e c h r i).2]
      by_cases c1 : dd_N r i = due
      · rw [if_pos c1, if_pos c1]
        by_cases c2 : h = due
        · rw [if_pos c2, if_pos c2]
        · rw [if_neg c2, if_neg c2, Nat.zero_mul]
      · rw [if_neg c1, if_neg c1, Nat.mul_zero]
        by_cases c2 : h = due
        · rw [if_pos c2, if_pos c2]
        · rw [if_neg c2, if_neg c2, Nat.zero_mul]
    rw [List.length_cons, Nat.pow_succ, Nat.mul_comm, show su_N (fun s => if dd_N (h :: r) s = due then tt_N c (h :: r) s else 0) (2 * 2 ^ r.length) 0 = _ from e, su_cg z, su_add, su_mul, su_mul, su_fo hc due r, su_tt hc r, fo_N]
    by_cases c2 : h = due
    · rw [if_pos c2, if_pos c2]
    · rw [if_neg c2, if_neg c2, Nat.zero_mul]
theorem fo_le {c : Nat} (hc : c ≤ 10) (due : Nat) : ∀ l : List Nat, fo_N c due l ≤ 10 ^ l.length
  | [] => by
    rw [fo_N]
    by_cases e : due = 0
    · rw [if_pos e]; exact Nat.le_refl _
    · rw [if_neg e]; exact Nat.zero_le _
  | h :: r => by
    have ih := fo_le hc due r
    have m1 := Nat.mul_le_mul_left c ih
    rw [fo_N, List.length_cons, Nat.pow_succ]
    have m2 : c * 10 ^ r.length + (10 - c) * 10 ^ r.length = 10 ^ r.length * 10 := by
      rw [← Nat.add_mul, show c + (10 - c) = 10 by omega, Nat.mul_comm]
    by_cases e : h = due
    · rw [if_pos e]; omega
    · rw [if_neg e]; omega
def cl_P (st chain : Nat → Int32) : Nat → List Nat → Prop
  | _, [] => True
  | k, h :: r => (h < 8 ∧ ∃ p, chain k = nI p ∧ 1 ≤ p ∧ p < 512 ∧ st p = nI h) ∧ cl_P st chain (k + 1) r
theorem gd_r (x y : Nat) : Nat.gcd x y = Nat.gcd y (x % y) := by rw [Nat.gcd_comm x y, Nat.gcd_rec y x, Nat.gcd_comm]
theorem gd_h {x y : Nat} {k : Nat} (hy : y < 2 ^ (k + 1)) (h0 : 0 < x % y) (h1 : 0 < y) : y % (x % y) < 2 ^ k := by
  have a := Nat.mod_lt x h1
  have b := Nat.mod_lt y h0
  have e := Nat.div_add_mod y (x % y)
  have q : 1 ≤ y / (x % y) := (Nat.le_div_iff_mul_le h0).mpr (by omega)
  have m := Nat.mul_le_mul_left (x % y) q
  rw [Nat.pow_succ] at hy
  omega
theorem gdx {x y : Nat} : ∀ (k F i x y : Nat), y < 2 ^ k → i + 2 * k ≤ 100 → 2 * k < F → x < 2 ^ 63 → y < 2 ^ 63 → lp_X6_greatestDivisor_9 F (lN x) (lN y) (nI i) = some (lN (Nat.gcd x y))
  | 0, F + 1, i, x, y, hy, hi, _, hx, _ => by
    have e : y = 0 := by rw [Nat.pow_zero] at hy; omega
    subst e
    rw [lp_X6_greatestDivisor_9, if_pos (show lg_cmp (lN 0) 0 = 0 from rfl), ite_self, Nat.gcd_zero_right]
  | k + 1, F + 1, i, x, y, hy, hi, hF, hx, hy2 => by
    rw [lp_X6_greatestDivisor_9, if_neg (show ¬ 100 ≤ nI i from nI_ge (b := 100) (by omega) (by decide))]
    by_cases c : y = 0
    · subst c
      rw [if_pos (show lg_cmp (lN 0) 0 = 0 from rfl), Nat.gcd_zero_right]
    · have cL : ¬ lN y = 0 := fun g => c ((pk_lEQ (b := 0) hy2 (by decide)).mp g)
      have b := Nat.mod_lt x (Nat.pos_of_ne_zero c)
      rw [if_neg (fun g => cL ((lg_cmp_eq _ _).mp g)), show nz_c (lN y) = true from decide_eq_true cL, ck_t, pk_lRem hx (Nat.pos_of_ne_zero c) hy2, nI_1, gd_r]
      cases F with
      | zero => omega
      | succ F =>
        rw [lp_X6_greatestDivisor_9, if_neg (show ¬ 100 ≤ nI (i + 1) from nI_ge (b := 100) (by omega) (by decide))]
        by_cases c2 : x % y = 0
        · rw [c2, if_pos (show lg_cmp (lN 0) 0 = 0 from rfl), Nat.gcd_zero_right]
        · have cL2 : ¬ lN (x % y) = 0 := fun g => c2 ((pk_lEQ (b := 0) (by omega) (by decide)).mp g)
          have b2 := Nat.mod_lt y (Nat.pos_of_ne_zero c2)
          rw [if_neg (fun g => cL2 ((lg_cmp_eq _ _).mp g)), show nz_c (lN (x % y)) = true from decide_eq_true cL2, ck_t, pk_lRem hy2 (Nat.pos_of_ne_zero c2) (by omega), nI_1, gd_r y (x % y)]
          exact gdx (x := x) (y := y) k F (i + 1 + 1) (x % y) (y % (x % y)) (gd_h hy (Nat.pos_of_ne_zero c2) (Nat.pos_of_ne_zero c)) (by omega) (by omega) (by omega) (by omega)
  | 0, 0, _, _, _, _, _, h, _, _ => by omega
  | k + 1, 0, _, _, _, _, _, h, _, _ => by omega
theorem gdy (chain : Nat → Int32) (x3 x5 x6 : Int32) : ∀ (k F x y : Nat), y < 2 ^ k → 2 * k < F → x < 2 ^ 31 → y < 2 ^ 31 → lp_X7_lost_114 chain x3 x5 x6 F (nI x) (nI y) = if x3 = 0 then ck_O (nz_b (nI (Nat.gcd x y))) (some (x6 / nI (Nat.gcd x y), chain)) else ck_O (nz_b (nI (Nat.gcd x y))) (some (x5 / nI (Nat.gcd x y), chain))
  | 0, F + 1, x, y, hy, _, hx, _ => by
    have e : y = 0 := by rw [Nat.pow_zero] at hy; omega
    subst e
    rw [lp_X7_lost_114, if_pos (show nI 0 = 0 from rfl), Nat.gcd_zero_right]
  | k + 1, F + 1, x, y, hy, hF, hx, hy2 => by
    rw [lp_X7_lost_114]
    by_cases c : y = 0
    · subst c
      rw [if_pos (show nI 0 = 0 from rfl), Nat.gcd_zero_right]
    · have cL : ¬ nI y = 0 := nI_ne0 (Nat.pos_of_ne_zero c) hy2
      have b := Nat.mod_lt x (Nat.pos_of_ne_zero c)
      rw [if_neg cL, show nz_b (nI y) = true from decide_eq_true cL, ck_t, pk_rem hx (Nat.pos_of_ne_zero c) hy2, gd_r]
      cases F with
      | zero => omega
      | succ F =>
        rw [lp_X7_lost_114]
        by_cases c2 : x % y = 0
        · rw [c2, if_pos (show nI 0 = 0 from rfl), Nat.gcd_zero_right]
        · have cL2 : ¬ nI (x % y) = 0 := nI_ne0 (Nat.pos_of_ne_zero c2) (by omega)
          have b2 := Nat.mod_lt y (Nat.pos_of_ne_zero c2)
          rw [if_neg cL2, show nz_b (nI (x % y)) = true from decide_eq_true cL2, ck_t, pk_rem hy2 (Nat.pos_of_ne_zero c2) (by omega), gd_r y (x % y)]
          exact gdy chain x3 x5 x6 k F (x % y) (y % (x % y)) (gd_h hy (Nat.pos_of_ne_zero c2) (Nat.pos_of_ne_zero c)) (by omega) (by omega) (by omega)
  | 0, 0, _, _, _, h, _, _ => by omega
  | k + 1, 0, _, _, _, h, _, _ => by omega
theorem c38 {st chain : Nat → Int32} {c n due s acc : Nat} (hc : c ≤ 10) (hn : n ≤ 9) (hd : due < 8) (hs : s < 2 ^ 31) (g : Int32 → Int32 → Option Int32) : ∀ (r : List Nat) (k F T hop : Nat) (dec : Bool), k + r.length = n → r.length < F → cl_P st chain k r → hop < 8 → (dec = false → hop = 0) → lp_X7_chances_38 st chain (nI c) (nI n) (nI due) (nI acc) (nI s) g F (nI T) (nI hop) (b1_I dec) (nI k) = g (nI (acc + if (if dec = true then hop else dd_N r (s / 2 ^ k)) = due then T * tt_N c r (s / 2 ^ k) else 0)) (nI (s + 1))
  | [], k, F + 1, T, hop, dec, hk, _, _, h8, h0 => by
    rw [List.length_nil] at hk
    have e : (if dec = true then hop else dd_N [] (s / 2 ^ k)) = hop := by
      cases dec with
      | true => exact if_pos rfl
      | false => rw [if_neg (by decide), h0 rfl]; rfl
    rw [lp_X7_chances_38, if_pos (nI_le (show n ≤ k by omega) (by omega)), e, tt_N, Nat.mul_one, nI_add, nI_1]
    by_cases c1 : hop = due
    · rw [if_pos (congrArg nI c1), if_pos c1]
    · rw [if_neg (fun z => c1 ((nI_eq (by omega) (by omega)).mp z)), if_neg c1, show nI acc + 0 = nI (acc + 0) from nI_add acc 0]
  | h :: r, k, F + 1, T, hop, dec, hk, hF, hcl, h8, h0 => by
    rw [List.length_cons] at hk hF
    obtain ⟨⟨hh, p, e1, e2, e3, e4⟩, hr⟩ := hcl
    have hbit : nI s >>> (nI k &&& 31) = nI (s / 2 ^ k) := sh_r hs (by omega)
    have hb2 : nI (s / 2 ^ k) &&& 1 = nI (s / 2 ^ k % 2) := fa_mask (s / 2 ^ k) 1
    have e10 : 10 - nI c = nI (10 - c) := pk_sub (a := 10) hc
    have ed : s / 2 ^ (k + 1) = s / 2 ^ k / 2 := by rw [Nat.pow_succ, Nat.div_div_eq_div_mul]
    have ih := c38 (st := st) (chain := chain) (acc := acc) hc hn hd hs g r (k + 1) F
    rw [lp_X7_chances_38, if_neg (nI_ge (show k < n by omega) (by omega)), hbit, hb2, tt_N, dd_N, ← ed]
    simp only [lp_X7_chances_60, lp_X7_chances_77, if_neg ok_1, if_pos, e10, pk_mul, nI_1, in_bn (show k < 9 by omega) (show 9 < 2 ^ 31 by decide), ck_t, nI_clamp (show k < 2 ^ 31 by omega), e1, Int32.zero_add, in_bn (show p < 1025 by omega) (show 1025 < 2 ^ 31 by decide), nI_clamp (show p < 2 ^ 31 by omega), lt_b, e4, b1_0]
    by_cases cb : s / 2 ^ k % 2 = 1
    · simp only [cb, if_pos, if_pos ne_1]
      cases dec with
      | false =>
        simp only [if_pos, if_neg (show ¬ false = true by decide)]
        have i1 := ih (T * (10 - c)) h true (by omega) (by omega) hr hh (fun z => by cases z)
        rw [show b1_I true = 1 from rfl] at i1
        rw [i1, if_pos rfl, Nat.mul_assoc]
      | true =>
        simp only [if_neg (show ¬ true = false by decide), if_pos]
        have i1 := ih (T * (10 - c)) hop true (by omega) (by omega) hr h8 (fun z => by cases z)
        rw [show b1_I true = 1 from rfl] at i1
        rw [i1, if_pos rfl, Nat.mul_assoc]
    · have cb0 : s / 2 ^ k % 2 = 0 := by omega
      have cI : ¬ nI (s / 2 ^ k % 2) = 1 := by rw [cb0]; decide
      simp only [if_neg cI, if_neg cb]
      cases dec with
      | false =>
        simp only [if_pos, if_neg (show ¬ false = true by decide)]
        have i1 := ih (T * c) hop false (by omega) (by omega) hr h8 h0
        rw [show b1_I false = 0 from rfl] at i1
        rw [i1, if_neg (show ¬ false = true by decide), Nat.mul_assoc]
      | true =>
        simp only [if_neg (show ¬ true = false by decide), if_pos]
        have i1 := ih (T * c) hop true (by omega) (by omega) hr h8 (fun z => by cases z)
        rw [show b1_I true = 1 from rfl] at i1
        rw [i1, if_pos rfl, Nat.mul_assoc]
  | [], _, 0, _, _, _, _, h, _, _, _ => by rw [List.length_nil] at h; omega
  | _ :: _, _, 0, _, _, _, _, h, _, _, _ => by rw [List.length_cons] at h; omega
theorem c18 {st chain : Nat → Int32} {c due : Nat} (hc : c ≤ 10) (hd : due < 8) {l : List Nat} (hl : l.length ≤ 9) (hcl : cl_P st chain 0 l) : ∀ (d s F acc : Nat), s + d = 2 ^ l.length → d < F → lp_X7_chances_18 st chain (nI c) (nI l.length) (nI due) F (nI acc) (nI s) = some (nI (acc + su_N (fun s => if dd_N l s = due then tt_N c l s else 0) d s))
  | 0, s, F + 1, acc, hs, _ => by
    have b9 := Nat.pow_le_pow_right (n := 2) (show 0 < 2 by decide) hl
    rw [lp_X7_chances_18, show (1 : Int32) <<< (nI l.length &&& 31) = nI (2 ^ l.length) from (sh_l (x := 1) (by omega) (by rw [Nat.one_mul]; omega)).trans (by rw [Nat.one_mul]), if_pos (nI_le (show 2 ^ l.length ≤ s by omega) (by omega))]
    rfl
  | d + 1, s, F + 1, acc, hs, hF => by
    have b9 := Nat.pow_le_pow_right (n := 2) (show 0 < 2 by decide) hl
    rw [lp_X7_chances_18, show (1 : Int32) <<< (nI l.length &&& 31) = nI (2 ^ l.length) from (sh_l (x := 1) (by omega) (by rw [Nat.one_mul]; omega)).trans (by rw [Nat.one_mul]), if_neg (nI_ge (show s < 2 ^ l.length by omega) (by omega))]
    have e := c38 (st := st) (chain := chain) (acc := acc) hc hl hd (show s < 2 ^ 31 by omega) (lp_X7_chances_18 st chain (nI c) (nI l.length) (nI due) F) l 0 fu_N 1 0 false (by omega) (show l.length < 10000 by omega) hcl (by decide) (fun _ => rfl)
    rw [show lp_X7_chances_38 st chain (nI c) (nI l.length) (nI due) (nI acc) (nI s) (lp_X7_chances_18 st chain (nI c) (nI l.length) (nI due) F) fu_N 1 0 0 0 = _ from e, if_neg (show ¬ false = true by decide), Nat.pow_zero, Nat.div_one, Nat.one_mul, c18 hc hd hl hcl d (s + 1) F _ (by omega) (by omega), su_N, Nat.add_assoc]
  | 0, _, 0, _, _, h => by omega
  | d + 1, _, 0, _, _, h => by omega
theorem cl_cg {st chain chain2 : Nat → Int32} : ∀ (l : List Nat) (k : Nat), cl_P st chain k l → (∀ q, k ≤ q → chain2 q = chain q) → cl_P st chain2 k l
  | [], _, _, _ => trivial
  | h :: r, k, hc, e => ⟨⟨hc.1.1, by rw [e k (Nat.le_refl k)]; exact hc.1.2⟩, cl_cg r (k + 1) hc.2 (fun q hq => e q (by omega))⟩
theorem l49 {st : Nat → Int32} {t : Nat → Nat} (ok : ok_T t) (hs : ∀ q, 1 ≤ q → q < 512 → st q = nI (t q)) (x1 x2 x3 : Int32) : ∀ (d x m B F : Nat) (chain : Nat → Int32), x < 2 ^ d → d ≤ 9 → m + d ≤ 9 → d < F → ∃ chain2, lp_X7_lost_49 st x1 x2 x3 F chain (nI m) (nI B) (nI x) = (pf_X7_chances st chain2 x1 x2 (nI (m + (ch_L t d x).length))).bind (fun r11 => lp_X7_lost_114 chain2 x3 (nI (B * 10 ^ (ch_L t d x).length)) r11 fu_N r11 (nI (B * 10 ^ (ch_L t d x).length))) ∧ (∀ k, k < m → chain2 k = chain k) ∧ cl_P st chain2 m (ch_L t d x)
  | 0, x, m, B, F + 1, chain, hx, _, _, _ => by
    have e : x = 0 := by rw [Nat.pow_zero] at hx; omega
    subst e
    rw [lp_X7_lost_49, if_pos (show nI 0 ≤ 0 by decide), ch_L, List.length_nil, Nat.pow_zero, Nat.mul_one, Nat.add_zero]
    exact ⟨chain, rfl, fun _ _ => rfl, trivial⟩
  | d + 1, x, m, B, F + 1, chain, hx, hd, hm, hF => by
    have b9 := Nat.pow_le_pow_right (n := 2) (show 0 < 2 by decide) hd
    rw [lp_X7_lost_49, ch_L]
    by_cases c0 : x = 0
    · subst c0
      rw [if_pos (show nI 0 ≤ 0 by decide), if_pos rfl, List.length_nil, Nat.pow_zero, Nat.mul_one, Nat.add_zero]
      exact ⟨chain, rfl, fun _ _ => rfl, trivial⟩
    · have x1' : 1 ≤ x := by omega
      have x2' : x < 512 := by omega
      have h8 := ok x x1' x2'
      have hh : x / 2 < 2 ^ d := by rw [Nat.pow_succ] at hx; omega
      rw [if_neg (nI_nle (by omega) (by omega)), if_neg c0, Int32.zero_add, in_bn (show x < 1025 by omega) (show 1025 < 2 ^ 31 by decide), ck_t, nI_clamp (show x < 2 ^ 31 by omega), hs x x1' x2', half_I (show x < 2 ^ 31 by omega)]
      by_cases c8 : t x = 8
      · rw [if_pos ((nI_8 h8).mpr c8), if_pos c8]
        exact l49 ok hs x1 x2 x3 d (x / 2) m B F chain hh (by omega) (by omega) (by omega)
      · obtain ⟨ch2, e, ha, hb⟩ := l49 ok hs x1 x2 x3 d (x / 2) (m + 1) (B * 10) F (upd chain m (nI x)) hh (by omega) (by omega) (by omega)
        rw [if_neg (show ¬ nI (t x) = 8 from fun z => c8 ((nI_8 h8).mp z)), if_neg c8, in_bn (show m < 9 by omega) (show 9 < 2 ^ 31 by decide), ck_t, nI_clamp (show m < 2 ^ 31 by omega), nI_1, show nI B * 10 = nI (B * 10) from pk_mul B 10, e, List.length_cons, Nat.pow_succ, show m + 1 + (ch_L t d (x / 2)).length = m + ((ch_L t d (x / 2)).length + 1) by omega, show B * 10 * 10 ^ (ch_L t d (x / 2)).length = B * (10 ^ (ch_L t d (x / 2)).length * 10) by rw [Nat.mul_assoc, Nat.mul_comm 10]]
        refine ⟨ch2, rfl, fun k hk => by rw [ha k (by omega), pk_un (by omega)], ⟨by omega, x, by rw [ha m (by omega), pk_us], x1', x2', hs x x1' x2'⟩, hb⟩
  | 0, _, _, _, 0, _, _, _, _, h => by omega
  | d + 1, _, _, _, 0, _, _, _, _, h => by omega
theorem lx56 {pl : Nat → Int64} {sz : Int32} {t : Nat → Nat} (h : tr_P pl sz t) {a c due w : Nat} (ha : a < 256) (hc : c ≤ 10) (hd : due < 8) (x3 : Int32) (R : Int32) (hR : ∀ F, lp_X6_lost_56 pl (nI a) (nI c) x3 (nI due) (F + 1) (lN (fo_N c due (ch_L t 9 (256 + a)))) (lN (10 ^ (ch_L t 9 (256 + a)).length)) (nI 9) = some R) : ∀ (d l F : Nat), l + d = 9 → d < F → lp_X6_lost_56 pl (nI a) (nI c) x3 (nI due) F (lN (fo_N c due (ch_L t l ((256 + a) / 2 ^ (9 - l))))) (lN (10 ^ (ch_L t l ((256 + a) / 2 ^ (9 - l))).length)) (nI l) = some R
  | 0, l, F + 1, hl, _ => by
    have e : l = 9 := by omega
    subst e
    rw [show (256 + a) / 2 ^ (9 - 9) = 256 + a from Nat.div_one _]
    exact hR F
  | d + 1, l, F + 1, hl, hF => by
    have ok := tr_ok h
    obtain ⟨q1, q2⟩ := anc_1 (a := a) (k := 8 - l) ha (by omega)
    have hq : (256 + a) / 2 ^ (9 - l) = (256 + a) / 2 ^ (8 - l) / 2 := by rw [show 9 - l = 8 - l + 1 by omega, Nat.pow_succ, Nat.div_div_eq_div_mul]
    have es : (256 + nI a) >>> ((8 - nI l) &&& 31) = nI ((256 + a) / 2 ^ (8 - l)) := by
      rw [show (256 : Int32) + nI a = nI (256 + a) from nI_add 256 a, show (8 : Int32) - nI l = nI (8 - l) from pk_sub (a := 8) (by omega)]
      exact sh_r (by omega) (by omega)
    have ih := lx56 h (w := w) ha hc hd x3 R hR d (l + 1) F (by omega) (by omega)
    rw [show 9 - (l + 1) = 8 - l by omega, ch_L, if_neg (by omega), ← hq] at ih
    rw [lp_X6_lost_56, if_neg (show ¬ 8 < nI l from nI_nlt (a := 8) (by omega) (by decide)), es, hopAt_t h q1 q2, Option.bind_some, nI_1]
    generalize ch_L t l ((256 + a) / 2 ^ (9 - l)) = rr at *
    by_cases c8 : t ((256 + a) / 2 ^ (8 - l)) = 8
    · rw [if_pos c8] at ih
      rw [if_pos ((hv_m4 (ok _ q1 q2)).mpr c8)]
      exact ih
    · rw [if_neg c8, fo_N, List.length_cons, Nat.pow_succ] at ih
      have e10 : (10 : Int64) * lN (10 ^ rr.length) = lN (10 ^ rr.length * 10) := (lN_mul 10 _).trans (by rw [Nat.mul_comm])
      have ec : Int32.toInt64 (nI c) * lN (fo_N c due rr) = lN (c * fo_N c due rr) := by rw [nI_l (by omega)]; exact lN_mul _ _
      rw [if_neg (fun z => c8 ((hv_m4 (ok _ q1 q2)).mp z)), lt_b, lt_b, e10, ec]
      by_cases cd : t ((256 + a) / 2 ^ (8 - l)) = due
      · rw [if_pos cd] at ih
        rw [if_pos ((hv_eq (ok _ q1 q2) hd).mpr cd), show (10 : Int32) - nI c = nI (10 - c) from pk_sub (a := 10) hc, nI_l (show 10 - c < 2 ^ 31 by omega), lN_mul, lN_add]
        exact ih
      · rw [if_neg cd] at ih
        rw [if_neg (fun z => cd ((hv_eq (ok _ q1 q2) hd).mp z)), show lN (c * fo_N c due rr) + 0 = lN (c * fo_N c due rr + 0) from lN_add _ 0]
        exact ih
  | 0, _, 0, _, h => by omega
  | d + 1, _, 0, _, h => by omega
theorem lost_c {tp ip : Nat → Int64} {tz iz d : Int32} {st : Nat → Int32} {t t2 : Nat → Nat} (hn : nq_P tp tz ip iz d st 0 t t2) (chain : Nat → Int32) (p1 p2 p3 : Int32) : ∃ r y, pf_X6_lost tp p1 p2 p3 = some r ∧ pf_X7_lost st chain p1 p2 p3 = some (r, y) := by
  have ok := tr_ok hn.1
  rw [pf_X6_lost, pf_X7_lost]
  rcases ix_c p1 (n := 256) (by decide) (by decide) with h1 | ⟨a, ha, e⟩
  · rw [isA_n h1, show pf_X7_in (Int32.toInt64 p1) 0 255 = some 0 from in_no (l := 0) (m := 255) (by decide) (by decide) h1]
    exact ⟨_, _, rfl, rfl⟩
  subst e
  rw [isA_y ha, show pf_X7_in (Int32.toInt64 (nI a)) 0 255 = some 1 from in_yes (l := 0) (m := 255) (by decide) (by omega) (by omega), Option.bind_some, if_neg ok_1, Option.bind_some, if_neg ok_1]
  rcases ix_c p2 (n := 11) (by decide) (by decide) with h2 | ⟨c, hc, e⟩
  · rw [show pf_X7_in (Int32.toInt64 p2) 0 10 = some 0 from in_no (l := 0) (m := 10) (by decide) (by decide) h2, Option.bind_some, if_pos rfl]
    by_cases c2 : p2 < 0
    · rw [if_pos c2]
      exact ⟨_, _, rfl, rfl⟩
    · rw [if_neg c2, if_pos (show 10 < p2 from h2.resolve_left c2)]
      exact ⟨_, _, rfl, rfl⟩
  subst e
  rw [if_neg (nI_pos (by omega)), if_neg (show ¬ 10 < nI c from nI_nlt (a := 10) (by omega) (by decide)), show pf_X7_in (Int32.toInt64 (nI c)) 0 10 = some 1 from in_yes (l := 0) (m := 10) (by decide) (by omega) (by omega), Option.bind_some, if_neg ok_1]
  rcases rg_c p3 (m := 1) (M := 1) rfl (by decide) with ⟨c2, h3⟩ | ⟨c2, c3, h3⟩ | ⟨c2, c3, w, hw, e⟩
  · rw [if_pos c2, show pf_X7_in (Int32.toInt64 p3) 0 1 = some 0 from in_no (l := 0) (m := 1) (by decide) (by decide) h3]
    exact ⟨_, _, rfl, rfl⟩
  · rw [if_neg c2, if_neg c3, show pf_X7_in (Int32.toInt64 p3) 0 1 = some 0 from in_no (l := 0) (m := 1) (by decide) (by decide) h3]
    exact ⟨_, _, rfl, rfl⟩
  subst e
  have hd := hd_lt ok (p := 256 + a) (by omega)
  have hl9 := ch_len t 9 (256 + a)
  have p9 := Nat.pow_le_pow_right (n := 10) (show 0 < 10 by decide) hl9
  have p0 : 0 < 10 ^ (ch_L t 9 (256 + a)).length := Nat.pow_pos (by decide)
  have hfo := fo_le (c := c) (by omega) (hd_N t (256 + a)) (ch_L t 9 (256 + a))
  have g0 : 0 < Nat.gcd (fo_N c (hd_N t (256 + a)) (ch_L t 9 (256 + a))) (10 ^ (ch_L t 9 (256 + a)).length) := Nat.gcd_pos_of_pos_right _ p0
  have gl : Nat.gcd (fo_N c (hd_N t (256 + a)) (ch_L t 9 (256 + a))) (10 ^ (ch_L t 9 (256 + a)).length) ≤ 10 ^ (ch_L t 9 (256 + a)).length := Nat.le_of_dvd p0 (Nat.gcd_dvd_right _ _)
  obtain ⟨ch2, e49, _, hcl⟩ := l49 ok (fun q a b => st_t hn a b) (nI a) (nI c) (nI w) 9 (256 + a) 0 1 fu_N chain (by omega) (by omega) (by omega) (by decide)
  have e18 := c18 (st := st) (chain := ch2) (c := c) (due := hd_N t (256 + a)) (by omega) hd hl9 hcl (2 ^ (ch_L t 9 (256 + a)).length) 0 fu_N 0 (by omega) (by
    have := Nat.pow_le_pow_right (n := 2) (show 0 < 2 by decide) hl9
    show _ < 10000
    omega)
  rw [Nat.zero_add, su_fo (by omega)] at e18
  rw [Nat.zero_add, Nat.one_mul] at e49
  have ech : pf_X7_chances st ch2 (nI a) (nI c) (nI (ch_L t 9 (256 + a)).length) = some (nI (fo_N c (hd_N t (256 + a)) (ch_L t 9 (256 + a)))) := by
    rw [pf_X7_chances, show pf_X7_hopBy st 1025 0 (nI a) 0 = some (nI (hd_N t (256 + a))) from (hopBy_t (o := 0) (w := 0) hn.2.2.1 ok (by decide) (by decide) (by decide) ha).trans (by rw [hd_w0]), Option.bind_some]
    exact e18
  rw [show pf_X7_in (Int32.toInt64 (nI w)) 0 1 = some 1 from in_yes (l := 0) (m := 1) (by decide) (by omega) (by omega), Option.bind_some, if_neg ok_1, show (256 : Int32) + nI a = nI (256 + a) from nI_add 256 a, show lp_X7_lost_49 st (nI a) (nI c) (nI w) fu_N chain 0 1 (nI (256 + a)) = _ from e49, ech, Option.bind_some]
  rw [if_neg c2, if_pos c3, hopAddr_t hn.1 ha, Option.bind_some]
  generalize hA : fo_N c (hd_N t (256 + a)) (ch_L t 9 (256 + a)) = A at *
  generalize hB : 10 ^ (ch_L t 9 (256 + a)).length = B at *
  have bB : B ≤ 1000000000 := p9
  have eG : pf_X6_greatestDivisor (lN A) (lN B) = some (lN (Nat.gcd A B)) := gdx (x := A) (y := B) 30 fu_N 0 A B (Nat.lt_of_le_of_lt bB (by decide)) (by omega) (by decide) (by omega) (by omega)
  have eY := gdy ch2 (nI w) (nI B) (nI A) 30 fu_N A B (Nat.lt_of_le_of_lt bB (by decide)) (by decide) (by omega) (by omega)
  rw [eY, show nz_b (nI (Nat.gcd A B)) = true from decide_eq_true (nI_ne0 g0 (by omega)), ck_t, ck_t]
  have fin : ∀ (r : Int32), (if nI w = 0 then nI (A / Nat.gcd A B) else nI (B / Nat.gcd A B)) = r → ∀ F, lp_X6_lost_56 tp (nI a) (nI c) (nI w) (nI (hd_N t (256 + a))) (F + 1) (lN (fo_N c (hd_N t (256 + a)) (ch_L t 9 (256 + a)))) (lN (10 ^ (ch_L t 9 (256 + a)).length)) (nI 9) = some r := fun r hr F => by
    rw [hA, hB, lp_X6_lost_56, if_pos (show 8 < nI 9 by decide), eG, Option.bind_some, if_pos (show 0 < lg_cmp (lN (Nat.gcd A B)) 0 from (lg_cmp_gt _ _).mpr ((pk_lLT (a := 0) (by decide) (by omega)).mpr g0)), show nz_c (lN (Nat.gcd A B)) = true from decide_eq_true (fun z => by have := (pk_lEQ (b := 0) (by omega) (by decide)).mp z; omega), ck_t, ck_t, pk_lDiv (by omega) g0 (by omega), pk_lDiv (by omega) g0 (by omega), lN_i, lN_i, ← hr]
    by_cases cw : nI w = 0
    · rw [if_pos cw, if_pos cw]
    · rw [if_neg cw, if_neg cw]
  have run := lx56 hn.1 (w := 0) (c := c) ha (by omega) hd (nI w) _ (fin _ rfl) 9 0 fu_N (by omega) (by decide)
  have ef : (if nI (hd_N t (256 + a)) = 0 then lp_X6_lost_56 tp (nI a) (nI c) (nI w) (nI (hd_N t (256 + a))) fu_N 1 1 0 else lp_X6_lost_56 tp (nI a) (nI c) (nI w) (nI (hd_N t (256 + a))) fu_N 0 1 0) = some (if nI w = 0 then nI (A / Nat.gcd A B) else nI (B / Nat.gcd A B)) := by
    rw [ch_L, fo_N] at run
    by_cases c0 : hd_N t (256 + a) = 0
    · rw [if_pos c0] at run
      rw [if_pos (show nI (hd_N t (256 + a)) = 0 by rw [c0]; rfl)]
      exact run
    · rw [if_neg c0] at run
      rw [if_neg (nI_ne0 (Nat.pos_of_ne_zero c0) (by omega))]
      exact run
  rw [ef, pk_div (by omega) g0 (by omega), pk_div (by omega) g0 (by omega)]
  by_cases cw : nI w = 0
  · rw [if_pos cw, if_pos cw]
    exact ⟨_, _, rfl, rfl⟩
  · rw [if_neg cw, if_neg cw]
    exact ⟨_, _, rfl, rfl⟩
theorem sim_lost (S : xs_T) (T : ys_T) (h : si_R S T) (p1 : Int32) (p2 : Int32) (p3 : Int32) : ∃ (r : Int32) (S2 : xs_T) (T2 : ys_T), px_lost S p1 p2 p3 = some (r, S2) ∧ py_lost T p1 p2 p3 = some (r, T2) ∧ si_R S2 T2 := by
  obtain ⟨⟨t, t2, hn, hv⟩, hr⟩ := h
  obtain ⟨r, y, e1, e2⟩ := lost_c hn T.2.2.2.2.2.2.2.2.2.2.2.2.1 p1 p2 p3
  exact ⟨r, _, _, mp_s e1, mp_s e2, ⟨t, t2, hn, hv⟩, hr⟩
