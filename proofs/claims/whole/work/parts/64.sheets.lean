/-- sheets -/
theorem sx_b (x : BitVec 64) (k w : Nat) (hk : k + w = 64) (hw : 0 < w) : (x <<< k).sshiftRight k = (x.setWidth w).signExtend 64 := by
  apply BitVec.eq_of_getLsbD_eq
  intro i hi
  rw [BitVec.getLsbD_sshiftRight, BitVec.getLsbD_signExtend, BitVec.getLsbD_shiftLeft, BitVec.getLsbD_setWidth, BitVec.msb_eq_getLsbD_last, BitVec.msb_eq_getLsbD_last, BitVec.getLsbD_shiftLeft, BitVec.getLsbD_setWidth]
  by_cases c : k + i < 64
  · have c2 : i < w := by omega
    have c3 : ¬ 64 ≤ i := by omega
    have c4 : ¬ k + i < k := by omega
    simp [c, c2, c3, c4, hi]
  · have c2 : ¬ i < w := by omega
    have c3 : ¬ 64 ≤ i := by omega
    have c5 : 64 - 1 - k = w - 1 := by omega
    have c6 : ¬ 64 - 1 < k := by omega
    have c7 : w - 1 < w := by omega
    rw [c5]
    simp [c, c2, c3, hi, c7]
    omega
theorem se_2 {w : Nat} (y : BitVec w) (hw : 0 < w) (h : w ≤ 32) : (y.signExtend 32).signExtend 64 = y.signExtend 64 := by
  apply BitVec.eq_of_getLsbD_eq
  intro i hi
  rw [BitVec.getLsbD_signExtend, BitVec.getLsbD_signExtend, BitVec.getLsbD_signExtend, BitVec.msb_eq_getLsbD_last (BitVec.signExtend 32 y), BitVec.getLsbD_signExtend]
  by_cases c : i < 32
  · simp [c, hi]
  · have c2 : ¬ i < w := by omega
    by_cases c3 : 31 < w
    · have e : w = 32 := by omega
      subst e
      simp [c, hi, BitVec.msb_eq_getLsbD_last]
    · simp [c, hi, c2, c3]
theorem sw_2 (x : BitVec 64) (w : Nat) (h : w ≤ 32) : (x.signExtend 32).signExtend w = x.setWidth w := by
  rw [BitVec.signExtend_eq_setWidth_of_le x (show 32 ≤ 64 by decide), BitVec.signExtend_eq_setWidth_of_le _ h, BitVec.setWidth_setWidth_of_le _ h]
theorem lw_t {l : Nat} (hl : l < 4) (v : Int64) : ∃ x, pf_X2_lowestBits (nI l) v = some x ∧ pf_X7_lowest v (nI l) = some x := by
  rw [pf_X2_lowestBits, pf_X7_lowest]
  match l, hl with
  | 0, _ =>
    rw [if_pos ne_0, if_pos ne_0]
    refine ⟨_, rfl, congrArg some (Int64.toBitVec_inj.mp ?_)⟩
    show (v.toBitVec <<< 56).sshiftRight 56 = ((((v.toBitVec.signExtend 32).signExtend 8).signExtend 32).signExtend 64)
    rw [sx_b _ 56 8 rfl (by decide), sw_2 _ 8 (by decide), se_2 _ (by decide) (by decide)]
  | 1, _ =>
    rw [if_neg nd_1_0, if_pos ne_1, if_neg nd_1_0, if_pos ne_1]
    refine ⟨_, rfl, congrArg some (Int64.toBitVec_inj.mp ?_)⟩
    show (v.toBitVec <<< 48).sshiftRight 48 = ((((v.toBitVec.signExtend 32).signExtend 16).signExtend 32).signExtend 64)
    rw [sx_b _ 48 16 rfl (by decide), sw_2 _ 16 (by decide), se_2 _ (by decide) (by decide)]
  | 2, _ =>
    rw [if_neg nd_2_0, if_neg nd_2_1, if_pos ne_2, if_neg nd_2_0, if_neg nd_2_1, if_pos ne_2]
    refine ⟨_, rfl, congrArg some (Int64.toBitVec_inj.mp ?_)⟩
    show (v.toBitVec <<< 32).sshiftRight 32 = ((v.toBitVec.signExtend 32).signExtend 64)
    rw [sx_b _ 32 32 rfl (by decide), BitVec.signExtend_eq_setWidth_of_le v.toBitVec (show 32 ≤ 64 by decide)]
  | 3, _ =>
    rw [if_neg nd_3_0, if_neg nd_3_1, if_neg nd_3_2, if_neg nd_3_0, if_neg nd_3_1, if_neg nd_3_2]
    exact ⟨_, rfl, rfl⟩
theorem sb_t {m b a : Nat} (hm : m < 2 ^ 30) (hb : b < 2 ^ 31) (ha : a < 2 ^ 31) : (nI m - nI b < nI a) ↔ m < a + b := by
  have e : (nI m - nI b).toInt = (m : Int) - b := by
    rw [Int32.toInt_sub, nI_toInt (by omega), nI_toInt hb]
    simp only [Int.bmod_def]
    omega
  rw [fa_lt, e, nI_toInt ha]
  omega
theorem nlt_le (a b : Int32) : (a ≤ b) ↔ ¬ b < a := by rw [fa_le, fa_lt]; omega
theorem hasI_t {m a b : Nat} (hm : m < 2 ^ 30) (hb : b < 2 ^ 31) (ha : a < 2 ^ 31) : pf_X2_hasItems (nI m) (nI a) (nI b) = some (if a + b ≤ m then 1 else 0) := by
  rw [pf_X2_hasItems, if_neg (nI_pos hb), if_neg (nI_pos ha)]
  by_cases c : a + b ≤ m
  · rw [if_neg (fun g => by have := (sb_t hm hb ha).mp g; omega), if_pos c]
  · rw [if_pos ((sb_t hm hb ha).mpr (by omega)), if_neg c]
theorem ck_r (j : Nat) (hj : j < 4) {α : Type} (x : Option α) : ck_O (in_b (nI j) 4) x = x := by rw [in_bn hj (by decide), ck_t]
theorem refuse_t {s : ss_T} {laneOf sizeOf : Nat → Int32} {items : Nat → Int64} {j : Nat} (hj : j < 4) {o : Nat} (h : s1_P s (laneOf j) (sizeOf j) items o) {l : Nat} (hl : l < 4) (i : Int32) {b : Nat} (hb : b < 2 ^ 31) : ∃ r, pf_X2_refusal s.2.1 s.2.2 (nI l) i (nI b) = some r ∧ pf_X7_found laneOf sizeOf (nI j) (nI l) i (nI b) = some r ∧ (¬ r = 0 ∨ (r = 0 ∧ ∃ a m, i = nI a ∧ m ≤ 30 ∧ a + b ≤ m ∧ s.2.1 = nI l ∧ laneOf j = nI l ∧ s.2.2 = nI m ∧ sizeOf j = nI m ∧ ∀ i, i < m → s.1 i = items (o + i))) := by
  rw [pf_X2_refusal, pf_X7_found, pf_X2_holdsNothing, nI_clamp (show j < 2 ^ 31 by omega)]
  simp only [ck_r j hj]
  rcases h with ⟨e1, e2⟩ | ⟨k, m, hk, hm, e1, e2, e3, e4, hi⟩
  · rw [e1, e2, if_pos rfl, Option.bind_some, if_neg ok_1, if_neg (show ¬ (0 : Int32) ≤ -4 by decide)]
    exact ⟨_, rfl, rfl, Or.inl (by decide)⟩
  · rw [e1, e2, if_neg (show ¬ nI k = (-1) from fun g => by
      have := congrArg Int32.toInt g
      rw [nI_toInt (by omega), show (-1 : Int32).toInt = -1 from rfl] at this
      omega), Option.bind_some, if_pos rfl, if_pos (nI_pos' (show k < 2 ^ 31 by omega))]
    by_cases c : k = l
    · subst c
      rw [if_pos rfl, if_pos rfl]
      by_cases c2 : i < 0
      · rw [pf_X2_hasItems, if_neg (nI_pos hb), if_pos c2, Option.bind_some, if_pos rfl, if_pos c2]
        exact ⟨_, rfl, rfl, Or.inl (by decide)⟩
      · obtain ⟨a, ha, e⟩ := nI_of c2
        subst e
        rw [e3, e4, hasI_t (by omega) hb ha, Option.bind_some, if_neg c2]
        by_cases c3 : a + b ≤ m
        · rw [if_pos c3, if_neg ok_1, if_pos ((nlt_le _ _).mpr (fun g => by have := (sb_t (by omega) hb ha).mp g; omega))]
          exact ⟨_, rfl, rfl, Or.inr ⟨rfl, a, m, rfl, hm, c3, rfl, rfl, rfl, rfl, hi⟩⟩
        · rw [if_neg c3, if_pos rfl, if_neg (fun g => (nlt_le _ _).mp g ((sb_t (by omega) hb ha).mpr (by omega)))]
          exact ⟨_, rfl, rfl, Or.inl (by decide)⟩
    · have cI : ¬ nI k = nI l := fun g => c ((nI_eq (by omega) (by omega)).mp g)
      rw [if_neg cI, if_neg cI]
      exact ⟨_, rfl, rfl, Or.inl (by decide)⟩
theorem is7_a {x : Int32} (h : x < nI 0 ∨ nI 3 < x) (y : Int32) : pf_X7_isSheet x y = some 0 := by
  rw [pf_X7_isSheet, show pf_X7_in (Int32.toInt64 x) 0 3 = some 0 from in_no (l := 0) (m := 3) (by decide) (by decide) h]
  rfl
theorem is7_b {j : Nat} (hj : j < 4) {x : Int32} (h : x < nI 0 ∨ nI 3 < x) : pf_X7_isSheet (nI j) x = some 0 := by
  rw [pf_X7_isSheet, show pf_X7_in (Int32.toInt64 (nI j)) 0 3 = some 1 from in_yes (l := 0) (m := 3) (by decide) (by omega) (by omega), show pf_X7_in (Int32.toInt64 x) 0 3 = some 0 from in_no (l := 0) (m := 3) (by decide) (by decide) h, Option.bind_some, if_neg ok_1]
  rfl
theorem is7_y {j l : Nat} (hj : j < 4) (hl : l < 4) : pf_X7_isSheet (nI j) (nI l) = some 1 := by
  rw [pf_X7_isSheet, show pf_X7_in (Int32.toInt64 (nI j)) 0 3 = some 1 from in_yes (l := 0) (m := 3) (by decide) (by omega) (by omega), show pf_X7_in (Int32.toInt64 (nI l)) 0 3 = some 1 from in_yes (l := 0) (m := 3) (by decide) (by omega) (by omega), Option.bind_some, if_neg ok_1, Option.bind_some, if_neg ok_1]
theorem sq_ch {sh sh2 : Nat → ss_T} {la sz la2 sz2 : Nat → Int32} {it it2 : Nat → Int64} (h : sq_P sh la sz it) (j : Nat) (e1 : ∀ i, i < 4 → i ≠ j → sh2 i = sh i ∧ la2 i = la i ∧ sz2 i = sz i) (e2 : ∀ q, (q < 30 * j ∨ 30 * j + 30 ≤ q) → it2 q = it q) (hs : s1_P (sh2 j) (la2 j) (sz2 j) it2 (30 * j)) : sq_P sh2 la2 sz2 it2 := fun i hi => by
  by_cases c : i = j
  · rw [c]; exact hs
  · obtain ⟨a, b, d⟩ := e1 i hi c
    rw [a, b, d]
    rcases h i hi with g | ⟨l, m, hl, hm, f1, f2, f3, f4, hx⟩
    · exact Or.inl g
    · exact Or.inr ⟨l, m, hl, hm, f1, f2, f3, f4, fun k hk => (hx k hk).trans (e2 _ (by omega)).symm⟩
theorem sheet_lp {la sz : Nat → Int32} {j m : Nat} (hj : j < 4) (hm : m ≤ 30) : ∀ (d i F : Nat) (it : Nat → Int64), i + d = m → d < F → ∃ g, lp_X7_sheet_40 la sz (nI j) (nI m) F it (nI i) = some (nI m, la, sz, g) ∧ (∀ k, i ≤ k → k < m → g (30 * j + k) = 0) ∧ (∀ q, (q < 30 * j + i ∨ 30 * j + m ≤ q) → g q = it q)
  | 0, i, F + 1, it, hi, _ => by
    rw [lp_X7_sheet_40, if_pos (nI_le (show m ≤ i by omega) (by omega))]
    exact ⟨it, rfl, fun k _ _ => by omega, fun q _ => rfl⟩
  | d + 1, i, F + 1, it, hi, hF => by
    obtain ⟨g, e, ha, hb⟩ := sheet_lp hj hm d (i + 1) F (vp_updL it (30 * j + i) 0) (by omega) (by omega)
    rw [lp_X7_sheet_40, if_neg (nI_ge (show i < m by omega) (by omega)), show (30 : Int32) * nI j + nI i = nI (30 * j + i) from (congrArg (· + nI i) (pk_mul 30 j)).trans (nI_add _ _), in_bn (show 30 * j + i < 120 by omega) (show 120 < 2 ^ 31 by decide), ck_t, nI_clamp (show 30 * j + i < 2 ^ 31 by omega), nI_1 i, e]
    refine ⟨g, rfl, fun k k1 k2 => ?_, fun q hq => ?_⟩
    · by_cases c : k = i
      · rw [c, hb _ (by omega), pk_uLs]
      · exact ha k (by omega) k2
    · rw [hb q (by omega), pk_uLn (by omega)]
  | 0, _, 0, _, _, h => by omega
  | d + 1, _, 0, _, _, h => by omega
theorem sheet_c {sh : Nat → ss_T} {la sz : Nat → Int32} {it : Nat → Int64} (hs : sq_P sh la sz it) (p1 : Int32) (p2 : Int32) (p3 : Int32) : ∃ r o y, pf_X6_sheet sh p1 p2 p3 = some (r, o) ∧ pf_X7_sheet la sz it p1 p2 p3 = some (r, y) ∧ sq_P o y.1 y.2.1 y.2.2 := by
  rw [pf_X6_sheet, pf_X7_sheet]
  rcases ix_c p1 (n := 4) (by decide) (by decide) with h1 | ⟨j, hj, e⟩
  · rw [(isS_n h1).1, is7_a h1]
    exact ⟨_, _, _, rfl, rfl, hs⟩
  subst e
  rcases ix_c p2 (n := 4) (by decide) (by decide) with h2 | ⟨l, hl, e⟩
  · rw [(isS_y hj).1, (isS_n h2).2, is7_b hj h2, Option.bind_some, if_neg ok_1]
    exact ⟨_, _, _, rfl, rfl, hs⟩
  subst e
  rw [(isS_y hj).1, (isS_y hl).2, is7_y hj hl, Option.bind_some, if_neg ok_1, Option.bind_some, if_neg ok_1, Option.bind_some, if_neg ok_1]
  by_cases c : p3 ≤ 30
  · rw [if_pos c, if_pos c]
    by_cases c0 : 0 ≤ p3
    · obtain ⟨m, hm0, e⟩ := nI_of (x := p3) (by rw [fa_lt]; rw [fa_le] at c0; omega)
      subst e
      have hm : m ≤ 30 := (nI_leI (b := 30) hm0 (by decide)).mp c
      obtain ⟨g, eg, g1, _⟩ := fill_lp 0 (N := 30) (by decide) 30 0 fu_N (sh j).1 (by omega) (by decide)
      have eg : pf_J7_fill_d0a16 (sh j).1 30 0 = some g := eg
      obtain ⟨q, eq, ha, hb⟩ := sheet_lp (la := upd la j (nI l)) (sz := upd sz j (nI m)) hj hm m 0 fu_N it (by omega) (show m < 10000 by omega)
      rw [if_pos c0, if_pos c0, ck_r j hj, ck_r j hj, ck_r j hj, nI_clamp (show j < 2 ^ 31 by omega), pf_X2_startRow, eg, Option.bind_some, Option.bind_some, show lp_X7_sheet_40 (upd la j (nI l)) (upd sz j (nI m)) (nI j) (nI m) fu_N it 0 = _ from eq]
      refine ⟨_, _, _, rfl, rfl, sq_ch hs j (fun i h4 c => ⟨va_up_ne _ _ c, pk_un c, pk_un c⟩) (fun q hq => hb q (by omega)) ?_⟩
      show s1_P (va_up sh j _ j) (upd la j _ j) (upd sz j _ j) q (30 * j)
      rw [va_up_self, pk_us, pk_us]
      exact Or.inr ⟨l, m, hl, hm, rfl, rfl, rfl, rfl, fun i h => (g1 i (by omega) (by omega)).trans (ha i (by omega) h).symm⟩
    · rw [if_neg c0, if_neg c0]
      exact ⟨_, _, _, rfl, rfl, hs⟩
  · rw [if_neg c, if_neg c]
    exact ⟨_, _, _, rfl, rfl, hs⟩
theorem sim_sheet (S : xs_T) (T : ys_T) (h : si_R S T) (p1 : Int32) (p2 : Int32) (p3 : Int32) : ∃ (r : Int32) (S2 : xs_T) (T2 : ys_T), px_sheet S p1 p2 p3 = some (r, S2) ∧ py_sheet T p1 p2 p3 = some (r, T2) ∧ si_R S2 T2 := by
  obtain ⟨⟨t, t2, hn, hv⟩, hk, hi, hp, hs⟩ := h
  obtain ⟨r, o, y, e1, e2, hq⟩ := sheet_c hs p1 p2 p3
  exact ⟨r, _, _, mp_s e1, mp_s e2, ⟨t, t2, hn, hv⟩, hk, hi, hp, hq⟩
theorem drop_c {sh : Nat → ss_T} {la sz : Nat → Int32} {it : Nat → Int64} (hs : sq_P sh la sz it) (p1 : Int32) : ∃ r o y, pf_X6_drop sh p1 = some (r, o) ∧ pf_X7_drop la sz p1 = some (r, y) ∧ sq_P o y sz it := by
  rw [pf_X6_drop, pf_X7_drop]
  rcases ix_c p1 (n := 4) (by decide) (by decide) with h1 | ⟨j, hj, e⟩
  · rw [(isS_n h1).1, show pf_X7_in (Int32.toInt64 p1) 0 3 = some 0 from in_no (l := 0) (m := 3) (by decide) (by decide) h1]
    exact ⟨_, _, _, rfl, rfl, hs⟩
  subst e
  rw [(isS_y hj).1, show pf_X7_in (Int32.toInt64 (nI j)) 0 3 = some 1 from in_yes (l := 0) (m := 3) (by decide) (by omega) (by omega), Option.bind_some, if_neg ok_1, Option.bind_some, if_neg ok_1]
  simp only [ck_r j hj]
  rw [nI_clamp (show j < 2 ^ 31 by omega), pf_X2_holdsNothing]
  rcases hs j hj with ⟨e1, e2⟩ | ⟨k, m, hk, hm, e1, e2, e3, e4, hi⟩
  · rw [e1, e2, if_pos rfl, Option.bind_some, if_neg ok_1, if_neg (show ¬ (0 : Int32) ≤ -4 by decide)]
    exact ⟨_, _, _, rfl, rfl, hs⟩
  · rw [if_neg (show ¬ (sh j).2.1 = (-1) from fun g => by
      have := congrArg Int32.toInt (e1.symm.trans g)
      rw [nI_toInt (by omega), show (-1 : Int32).toInt = -1 from rfl] at this
      omega), Option.bind_some, if_pos rfl, if_pos (show 0 ≤ la j by rw [e2]; exact nI_pos' (show k < 2 ^ 31 by omega)), pf_X2_makeNothing, Option.bind_some, e4, e3]
    refine ⟨_, _, _, rfl, rfl, sq_ch hs j (fun i h4 c => ⟨va_up_ne _ _ c, pk_un c, rfl⟩) (fun q _ => rfl) ?_⟩
    rw [va_up_self, pk_us]
    exact Or.inl ⟨rfl, rfl⟩
theorem sim_drop (S : xs_T) (T : ys_T) (h : si_R S T) (p1 : Int32) : ∃ (r : Int32) (S2 : xs_T) (T2 : ys_T), px_drop S p1 = some (r, S2) ∧ py_drop T p1 = some (r, T2) ∧ si_R S2 T2 := by
  obtain ⟨⟨t, t2, hn, hv⟩, hk, hi, hp, hs⟩ := h
  obtain ⟨r, o, y, e1, e2, hq⟩ := drop_c hs p1
  exact ⟨r, _, _, mp_s e1, mp_s e2, ⟨t, t2, hn, hv⟩, hk, hi, hp, hq⟩
theorem seti_t {f : Nat → Int64} {l m a : Nat} (hl : l < 4) (hm : m ≤ 30) (h : a + 1 ≤ m) (v : Int64) : ∃ x, pf_X2_setItem f (nI l) (nI m) (nI a) v = some (vp_updL f a x) ∧ pf_X7_lowest v (nI l) = some x := by
  obtain ⟨x, e1, e2⟩ := lw_t hl v
  refine ⟨x, ?_, e2⟩
  rw [pf_X2_setItem, show pf_X2_hasItems (nI m) (nI a) 1 = _ from hasI_t (b := 1) (by omega) (by decide) (by omega), if_pos h, Option.bind_some, if_neg ok_1, e1, Option.bind_some, in_bn (show a < 30 by omega) (by decide), ck_t, nI_clamp (by omega)]
theorem s1_set {s : ss_T} {la sz : Int32} {it : Nat → Int64} {o a : Nat} (h : s1_P s la sz it o) (x : Int64) : s1_P (vp_updL s.1 a x, s.2.1, s.2.2) la sz (vp_updL it (o + a) x) o := by
  rcases h with g | ⟨l, m, hl, hm, f1, f2, f3, f4, hx⟩
  · exact Or.inl g
  · refine Or.inr ⟨l, m, hl, hm, f1, f2, f3, f4, fun k hk => ?_⟩
    show vp_updL s.1 a x k = _
    by_cases c : k = a
    · rw [c, pk_uLs, pk_uLs]
    · rw [pk_uLn c, pk_uLn (by omega)]; exact hx k hk
theorem item_c {sh : Nat → ss_T} {la sz : Nat → Int32} {it : Nat → Int64} (hs : sq_P sh la sz it) (p1 : Int32) (p2 : Int32) (p3 : Int32) (p4 : Int64) : ∃ r o y, pf_X6_item sh p1 p2 p3 p4 = some (r, o) ∧ pf_X7_item la sz it p1 p2 p3 p4 = some (r, y) ∧ sq_P o la sz y := by
  rw [pf_X6_item, pf_X7_item]
  rcases ix_c p1 (n := 4) (by decide) (by decide) with h1 | ⟨j, hj, e⟩
  · rw [(isS_n h1).1, is7_a h1]
    exact ⟨_, _, _, rfl, rfl, hs⟩
  subst e
  rcases ix_c p2 (n := 4) (by decide) (by decide) with h2 | ⟨l, hl, e⟩
  · rw [(isS_y hj).1, (isS_n h2).2, is7_b hj h2, Option.bind_some, if_neg ok_1]
    exact ⟨_, _, _, rfl, rfl, hs⟩
  subst e
  rw [(isS_y hj).1, (isS_y hl).2, is7_y hj hl, Option.bind_some, if_neg ok_1, Option.bind_some, if_neg ok_1, Option.bind_some, if_neg ok_1]
  simp only [ck_r j hj]
  obtain ⟨r, er, ef, hc⟩ := refuse_t hj (hs j hj) hl p3 (b := 1) (by decide)
  rw [nI_clamp (show j < 2 ^ 31 by omega), show pf_X2_refusal (sh j).2.1 (sh j).2.2 (nI l) p3 1 = some r from er, show pf_X7_found la sz (nI j) (nI l) p3 1 = some r from ef, Option.bind_some, Option.bind_some]
  rcases hc with c | ⟨c, a, m, ea, hm, ham, f1, f2, f3, f4, hx⟩
  · rw [if_neg c, if_neg c]
    exact ⟨_, _, _, rfl, rfl, hs⟩
  · subst ea
    obtain ⟨x, ex, ey⟩ := seti_t (f := (sh j).1) hl hm ham p4
    rw [if_pos c, if_pos c, f1, f3, ex, ey, Option.bind_some, Option.bind_some, show (30 : Int32) * nI j + nI a = nI (30 * j + a) from (congrArg (· + nI a) (pk_mul 30 j)).trans (nI_add _ _), in_bn (show 30 * j + a < 120 by omega) (show 120 < 2 ^ 31 by decide), ck_t, nI_clamp (show 30 * j + a < 2 ^ 31 by omega)]
    refine ⟨_, _, _, rfl, rfl, sq_ch hs j (fun i h4 c => ⟨va_up_ne _ _ c, rfl, rfl⟩) (fun q hq => pk_uLn (by omega)) ?_⟩
    rw [va_up_self, ← f1, ← f3]
    exact s1_set (hs j hj) x
theorem sim_item (S : xs_T) (T : ys_T) (h : si_R S T) (p1 : Int32) (p2 : Int32) (p3 : Int32) (p4 : Int64) : ∃ (r : Int32) (S2 : xs_T) (T2 : ys_T), px_item S p1 p2 p3 p4 = some (r, S2) ∧ py_item T p1 p2 p3 p4 = some (r, T2) ∧ si_R S2 T2 := by
  obtain ⟨⟨t, t2, hn, hv⟩, hk, hi, hp, hs⟩ := h
  obtain ⟨r, o, y, e1, e2, hq⟩ := item_c hs p1 p2 p3 p4
  exact ⟨r, _, _, mp_s e1, mp_s e2, ⟨t, t2, hn, hv⟩, hk, hi, hp, hq⟩
theorem cpy_a {f i o j n : Nat} (hf : f < 4) (ho : o < 4) (hi : i + n ≤ 30) (hj : j + n ≤ 30) {it : Nat → Int64} (hc : 30 * o + j ≤ 30 * f + i ∨ 30 * f + i + n ≤ 30 * o + j) : ∀ (d m F : Nat) (cur : Nat → Int64), m + d = n → d < F → (∀ q, (q < 30 * o + j ∨ 30 * o + j + m ≤ q) → cur q = it q) → (∀ k, k < m → cur (30 * o + j + k) = it (30 * f + i + k)) → ∃ g, lp_X7_copy_132 (nI f) (nI i) (nI o) (nI j) (nI n) 0 F cur (nI m) = some (nI n, g) ∧ (∀ q, (q < 30 * o + j ∨ 30 * o + j + n ≤ q) → g q = it q) ∧ (∀ k, k < n → g (30 * o + j + k) = it (30 * f + i + k))
  | 0, m, F + 1, cur, hm, _, h1, h2 => by
    have e : m = n := by omega
    subst e
    rw [lp_X7_copy_132, if_pos (nI_le (Nat.le_refl m) (by omega))]
    exact ⟨cur, rfl, h1, h2⟩
  | d + 1, m, F + 1, cur, hm, hF, h1, h2 => by
    obtain ⟨g, e, ha, hb⟩ := cpy_a (it := it) hf ho hi hj hc d (m + 1) F (vp_updL cur (30 * o + j + m) (cur (30 * f + i + m))) (by omega) (by omega) (fun q hq => by rw [pk_uLn (by omega)]; exact h1 q (by omega)) (fun k hk => by
      by_cases c : k = m
      · rw [c, pk_uLs]; exact h1 _ (by omega)
      · rw [pk_uLn (by omega)]; exact h2 k (by omega))
    rw [lp_X7_copy_132, if_neg (nI_ge (show m < n by omega) (by omega)), if_pos rfl, lp_X7_copy_156, show (30 : Int32) * nI f + nI i + nI m = nI (30 * f + i + m) from (congrArg (· + nI m) ((congrArg (· + nI i) (pk_mul 30 f)).trans (nI_add _ _))).trans (nI_add _ _), show (30 : Int32) * nI o + nI j + nI m = nI (30 * o + j + m) from (congrArg (· + nI m) ((congrArg (· + nI j) (pk_mul 30 o)).trans (nI_add _ _))).trans (nI_add _ _), in_bn (show 30 * f + i + m < 120 by omega) (show 120 < 2 ^ 31 by decide), in_bn (show 30 * o + j + m < 120 by omega) (show 120 < 2 ^ 31 by decide), ck_t, ck_t, nI_clamp (show 30 * f + i + m < 2 ^ 31 by omega), nI_clamp (show 30 * o + j + m < 2 ^ 31 by omega), nI_1 m, e]
    exact ⟨g, rfl, ha, hb⟩
  | 0, _, 0, _, _, h, _, _ => by omega
  | d + 1, _, 0, _, _, h, _, _ => by omega
theorem cpy_d {f i o j n : Nat} (hf : f < 4) (ho : o < 4) (hi : i + n ≤ 30) (hj : j + n ≤ 30) {it : Nat → Int64} (hc : 30 * f + i ≤ 30 * o + j ∨ 30 * o + j + n ≤ 30 * f + i) : ∀ (d m F : Nat) (cur : Nat → Int64), m + d = n → d < F → (∀ q, (q < 30 * o + j + d ∨ 30 * o + j + n ≤ q) → cur q = it q) → (∀ k, d ≤ k → k < n → cur (30 * o + j + k) = it (30 * f + i + k)) → ∃ g, lp_X7_copy_132 (nI f) (nI i) (nI o) (nI j) (nI n) 1 F cur (nI m) = some (nI n, g) ∧ (∀ q, (q < 30 * o + j ∨ 30 * o + j + n ≤ q) → g q = it q) ∧ (∀ k, k < n → g (30 * o + j + k) = it (30 * f + i + k))
  | 0, m, F + 1, cur, hm, _, h1, h2 => by
    have e : m = n := by omega
    subst e
    rw [lp_X7_copy_132, if_pos (nI_le (Nat.le_refl m) (by omega))]
    exact ⟨cur, rfl, fun q hq => h1 q (by omega), fun k hk => h2 k (by omega) hk⟩
  | d + 1, m, F + 1, cur, hm, hF, h1, h2 => by
    obtain ⟨g, e, ha, hb⟩ := cpy_d (it := it) hf ho hi hj hc d (m + 1) F (vp_updL cur (30 * o + j + d) (cur (30 * f + i + d))) (by omega) (by omega) (fun q hq => by rw [pk_uLn (by omega)]; exact h1 q (by omega)) (fun k hk1 hk => by
      by_cases c : k = d
      · rw [c, pk_uLs]; exact h1 _ (by omega)
      · rw [pk_uLn (by omega)]; exact h2 k (by omega) hk)
    have es : nI n - 1 - nI m = nI d := by
      rw [show nI n - 1 = nI (n - 1) from pk_sub (b := 1) (by omega), pk_sub (by omega)]
      exact congrArg nI (by omega)
    rw [lp_X7_copy_132, if_neg (nI_ge (show m < n by omega) (by omega)), if_neg ok_1, lp_X7_copy_156, es, show (30 : Int32) * nI f + nI i + nI d = nI (30 * f + i + d) from (congrArg (· + nI d) ((congrArg (· + nI i) (pk_mul 30 f)).trans (nI_add _ _))).trans (nI_add _ _), show (30 : Int32) * nI o + nI j + nI d = nI (30 * o + j + d) from (congrArg (· + nI d) ((congrArg (· + nI j) (pk_mul 30 o)).trans (nI_add _ _))).trans (nI_add _ _), in_bn (show 30 * f + i + d < 120 by omega) (show 120 < 2 ^ 31 by decide), in_bn (show 30 * o + j + d < 120 by omega) (show 120 < 2 ^ 31 by decide), ck_t, ck_t, nI_clamp (show 30 * f + i + d < 2 ^ 31 by omega), nI_clamp (show 30 * o + j + d < 2 ^ 31 by omega), nI_1 m, e]
    exact ⟨g, rfl, ha, hb⟩
  | 0, _, 0, _, _, h, _, _ => by omega
  | d + 1, _, 0, _, _, h, _, _ => by omega
theorem cpy_t {f i o j n : Nat} (hf : f < 4) (ho : o < 4) (hi : i + n ≤ 30) (hj : j + n ≤ 30) (it : Nat → Int64) : ∃ g, (if nI j ≤ nI i then lp_X7_copy_132 (nI f) (nI i) (nI o) (nI j) (nI n) 0 fu_N it 0 else lp_X7_copy_132 (nI f) (nI i) (nI o) (nI j) (nI n) 1 fu_N it 0) = some (nI n, g) ∧ (∀ q, (q < 30 * o + j ∨ 30 * o + j + n ≤ q) → g q = it q) ∧ (∀ k, k < n → g (30 * o + j + k) = it (30 * f + i + k)) := by
  by_cases c : j ≤ i
  · rw [if_pos (nI_le c (by omega))]
    exact cpy_a hf ho hi hj (by omega) n 0 fu_N it (by omega) (show n < 10000 by omega) (fun q _ => rfl) (fun k hk => by omega)
  · rw [if_neg (nI_ge (by omega) (by omega))]
    exact cpy_d hf ho hi hj (by omega) n 0 fu_N it (by omega) (show n < 10000 by omega) (fun q _ => rfl) (fun k hk1 hk => by omega)
theorem hasI_n {m : Nat} (hm : m ≤ 30) {x n : Int32} (h : n < 0 ∨ x < 0 ∨ ∃ a b, x = nI a ∧ a < 2 ^ 31 ∧ n = nI b ∧ b < 2 ^ 31 ∧ m < a + b) : pf_X2_hasItems (nI m) x n = some 0 := by
  by_cases c1 : n < 0
  · rw [pf_X2_hasItems, if_pos c1]
  · by_cases c2 : x < 0
    · rw [pf_X2_hasItems, if_neg c1, if_pos c2]
    · rcases h with h | h | ⟨a, b, ea, ha, eb, hb, hl⟩
      · exact absurd h c1
      · exact absurd h c2
      · rw [ea, eb, hasI_t (by omega) hb ha, if_neg (by omega)]
/-- where both row parts lie within, or not -/
theorem two_c {m m2 : Nat} (hm : m ≤ 30) (hm2 : m2 ≤ 30) (i j n : Int32) : (∃ a b c, i = nI a ∧ j = nI b ∧ n = nI c ∧ a + c ≤ m ∧ b + c ≤ m2) ∨ ((pf_X2_hasItems (nI m) i n = some 0 ∨ (pf_X2_hasItems (nI m) i n = some 1 ∧ pf_X2_hasItems (nI m2) j n = some 0)) ∧ (n < 0 ∨ (¬ n < 0 ∧ (30 < n ∨ (¬ 30 < n ∧ (i < 0 ∨ (¬ i < 0 ∧ (j < 0 ∨ (¬ j < 0 ∧ (nI m - n < i ∨ (¬ nI m - n < i ∧ ¬ j ≤ nI m2 - n))))))))))) := by
  by_cases c1 : n < 0
  · exact Or.inr ⟨Or.inl (hasI_n hm (Or.inl c1)), Or.inl c1⟩
  obtain ⟨c, hc, e⟩ := nI_of c1
  subst e
  by_cases c2 : i < 0
  · refine Or.inr ⟨Or.inl (hasI_n hm (Or.inr (Or.inl c2))), Or.inr ⟨c1, ?_⟩⟩
    by_cases c3 : 30 < nI c
    · exact Or.inl c3
    · exact Or.inr ⟨c3, Or.inl c2⟩
  obtain ⟨a, ha, e⟩ := nI_of c2
  subst e
  by_cases d1 : a + c ≤ m
  · have c3 : ¬ 30 < nI c := nI_nlt (b := 30) (a := 30) (Nat.le_refl _) (by decide) ∘ (fun h => absurd h (by
      intro h
      have := (nI_ltI (a := 30) (by decide) hc).mp h
      omega))
    by_cases c4 : j < 0
    · refine Or.inr ⟨Or.inr ⟨by rw [hasI_t (by omega) hc ha, if_pos d1], hasI_n hm2 (Or.inr (Or.inl c4))⟩, Or.inr ⟨c1, Or.inr ⟨c3, Or.inr ⟨c2, Or.inl c4⟩⟩⟩⟩
    obtain ⟨b, hb, e⟩ := nI_of c4
    subst e
    by_cases d2 : b + c ≤ m2
    · exact Or.inl ⟨a, b, c, rfl, rfl, rfl, d1, d2⟩
    · refine Or.inr ⟨Or.inr ⟨by rw [hasI_t (by omega) hc ha, if_pos d1], by rw [hasI_t (by omega) hc hb, if_neg d2]⟩, Or.inr ⟨c1, Or.inr ⟨c3, Or.inr ⟨c2, Or.inr ⟨c4, Or.inr ⟨fun g => by have := (sb_t (by omega) hc ha).mp g; omega, fun g => (nlt_le _ _).mp g ((sb_t (by omega) hc hb).mpr (by omega))⟩⟩⟩⟩⟩⟩
  · refine Or.inr ⟨Or.inl (hasI_n hm (Or.inr (Or.inr ⟨a, c, rfl, ha, rfl, hc, by omega⟩))), Or.inr ⟨c1, ?_⟩⟩
    by_cases c3 : 30 < nI c
    · exact Or.inl c3
    · refine Or.inr ⟨c3, Or.inr ⟨c2, ?_⟩⟩
      by_cases c4 : j < 0
      · exact Or.inl c4
      · exact Or.inr ⟨c4, Or.inl ((sb_t (by omega) hc ha).mpr (by omega))⟩
theorem m1_n {k : Nat} (hk : k < 4) : ¬ nI k = (-1) := fun g => by
  have := congrArg Int32.toInt g
  rw [nI_toInt (by omega), show (-1 : Int32).toInt = -1 from rfl] at this
  omega
theorem cp_y {a b c : Nat} (h1 : a + c ≤ 30) (h2 : b + c ≤ 30) : cp_b (nI a) (nI b) (nI c) 30 30 = true := decide_eq_true ⟨nI_pos (by omega), nI_pos (by omega), nI_pos (by omega), by rw [nI_clamp (by omega), nI_clamp (by omega)]; exact h1, by rw [nI_clamp (by omega), nI_clamp (by omega)]; exact h2⟩
theorem copy_c {sh : Nat → ss_T} {la sz : Nat → Int32} {it : Nat → Int64} (hs : sq_P sh la sz it) (p1 : Int32) (p2 : Int32) (p3 : Int32) (p4 : Int32) (p5 : Int32) : ∃ r o y, pf_X6_copy sh p1 p2 p3 p4 p5 = some (r, o) ∧ pf_X7_copy la sz it p1 p2 p3 p4 p5 = some (r, y) ∧ sq_P o la sz y := by
  rw [pf_X6_copy, pf_X7_copy]
  rcases ix_c p1 (n := 4) (by decide) (by decide) with h1 | ⟨f, hf, e⟩
  · rw [(isS_n h1).1, show pf_X7_in (Int32.toInt64 p1) 0 3 = some 0 from in_no (l := 0) (m := 3) (by decide) (by decide) h1]
    exact ⟨_, _, _, rfl, rfl, hs⟩
  subst e
  rcases ix_c p3 (n := 4) (by decide) (by decide) with h3 | ⟨o, ho, e⟩
  · rw [(isS_y hf).1, (isS_n h3).1, show pf_X7_in (Int32.toInt64 (nI f)) 0 3 = some 1 from in_yes (l := 0) (m := 3) (by decide) (by omega) (by omega), show pf_X7_in (Int32.toInt64 p3) 0 3 = some 0 from in_no (l := 0) (m := 3) (by decide) (by decide) h3]
    simp only [Option.bind_some, if_neg ok_1, if_pos]
    exact ⟨_, _, _, rfl, rfl, hs⟩
  subst e
  rw [(isS_y hf).1, (isS_y ho).1, show pf_X7_in (Int32.toInt64 (nI f)) 0 3 = some 1 from in_yes (l := 0) (m := 3) (by decide) (by omega) (by omega), show pf_X7_in (Int32.toInt64 (nI o)) 0 3 = some 1 from in_yes (l := 0) (m := 3) (by decide) (by omega) (by omega)]
  simp only [Option.bind_some, if_neg ok_1, ck_r f hf, ck_r o ho, nI_clamp (show f < 2 ^ 31 by omega), nI_clamp (show o < 2 ^ 31 by omega), pf_X2_holdsNothing]
  rcases hs f hf with ⟨e1, e2⟩ | ⟨k, m, hk, hm, e1, e2, e3, e4, hx⟩
  · simp only [e1, e2, if_pos, Option.bind_some, if_neg ok_1, if_pos (show (-4 : Int32) < 0 by decide)]
    by_cases c : nI f = nI o
    · rw [if_pos c]; exact ⟨_, _, _, rfl, rfl, hs⟩
    · rw [if_neg c]; exact ⟨_, _, _, rfl, rfl, hs⟩
  simp only [e1, e2, if_neg (m1_n hk), Option.bind_some, if_pos, if_neg (nI_pos (show k < 2 ^ 31 by omega))]
  rcases hs o ho with ⟨g1, g2⟩ | ⟨k2, m2, hk2, hm2, g1, g2, g3, g4, gx⟩
  · have c : ¬ nI f = nI o := fun g => by
      have e := (nI_eq (by omega) (by omega)).mp g
      rw [e, g1] at e1
      exact m1_n hk e1.symm
    simp only [if_neg c, g1, g2, if_pos, Option.bind_some, if_neg ok_1, if_neg (show ¬ (0 : Int32) ≤ -4 by decide)]
    exact ⟨_, _, _, rfl, rfl, hs⟩
  simp only [g1, g2, if_neg (m1_n hk2), Option.bind_some, if_pos, if_pos (nI_pos' (show k2 < 2 ^ 31 by omega)), pf_X2_hasLaneOf, pf_X2_hasLaneOf_s]
  by_cases cl : k = k2
  · subst cl
    simp only [if_pos, Option.bind_some, if_neg ok_1, e3, e4, g3, g4]
    rcases two_c hm hm2 p2 p4 p5 with ⟨i, j, n, e5, e6, e7, d1, d2⟩ | ⟨hh, hr⟩
    · subst e5
      subst e6
      subst e7
      obtain ⟨g, eg, ha, hb⟩ := cpy_t hf ho (i := i) (j := j) (n := n) (by omega) (by omega) it
      simp only [if_neg (nI_pos (show n < 2 ^ 31 by omega)), if_neg (show ¬ 30 < nI n from nI_nlt (b := n) (a := 30) (by omega) (by decide)), if_neg (nI_pos (show i < 2 ^ 31 by omega)), if_neg (nI_pos (show j < 2 ^ 31 by omega)), if_neg (show ¬ nI m - nI n < nI i from fun g => by have := (sb_t (by omega) (by omega) (by omega)).mp g; omega), if_pos (show nI j ≤ nI m2 - nI n from (nlt_le _ _).mpr (fun g => by have := (sb_t (by omega) (by omega) (by omega)).mp g; omega))]
      rw [eg]
      by_cases c : f = o
      · subst c
        have em : m = m2 := (nI_eq (by omega) (by omega)).mp (e3.symm.trans g3)
        subst em
        simp only [if_pos, hasI_t (show m < 2 ^ 30 by omega) (show n < 2 ^ 31 by omega) (show i < 2 ^ 31 by omega), hasI_t (show m < 2 ^ 30 by omega) (show n < 2 ^ 31 by omega) (show j < 2 ^ 31 by omega), if_pos d1, if_pos d2, Option.bind_some, if_neg ok_1, pf_X2_takeItems_s, cp_y (show i + n ≤ 30 by omega) (show j + n ≤ 30 by omega), ck_t, nI_clamp (show i < 2 ^ 31 by omega), nI_clamp (show j < 2 ^ 31 by omega), nI_clamp (show n < 2 ^ 31 by omega)]
        refine ⟨_, _, _, rfl, rfl, sq_ch hs f (fun q h4 c => ⟨va_up_ne _ _ c, rfl, rfl⟩) (fun q hq => ha q (by omega)) ?_⟩
        rw [va_up_self]
        refine Or.inr ⟨k, m, hk, hm, rfl, e2, rfl, e4, fun q hq => ?_⟩
        show va_cpy (sh f).1 (sh f).1 i j n q = _
        by_cases cq : j ≤ q ∧ q < j + n
        · rw [pk_cpy_in cq.1 cq.2, hx _ (by omega)]
          have := hb (q - j) (by omega)
          rw [show 30 * f + q = 30 * f + j + (q - j) by omega, this]
          exact congrArg it (by omega)
        · rw [pk_cpy_out (by omega), hx _ hq, ha _ (by omega)]
      · have cI : ¬ nI f = nI o := fun g => c ((nI_eq (by omega) (by omega)).mp g)
        simp only [if_neg cI, hasI_t (show m < 2 ^ 30 by omega) (show n < 2 ^ 31 by omega) (show i < 2 ^ 31 by omega), hasI_t (show m2 < 2 ^ 30 by omega) (show n < 2 ^ 31 by omega) (show j < 2 ^ 31 by omega), if_pos d1, if_pos d2, Option.bind_some, if_neg ok_1, pf_X2_takeItems, cp_y (show i + n ≤ 30 by omega) (show j + n ≤ 30 by omega), ck_t, nI_clamp (show i < 2 ^ 31 by omega), nI_clamp (show j < 2 ^ 31 by omega), nI_clamp (show n < 2 ^ 31 by omega)]
        refine ⟨_, _, _, rfl, rfl, sq_ch hs o (fun q h4 c => ⟨va_up_ne _ _ c, rfl, rfl⟩) (fun q hq => ha q (by omega)) ?_⟩
        rw [va_up_self]
        refine Or.inr ⟨k, m2, hk, hm2, rfl, g2, rfl, g4, fun q hq => ?_⟩
        show va_cpy (sh f).1 (sh o).1 i j n q = _
        by_cases cq : j ≤ q ∧ q < j + n
        · rw [pk_cpy_in cq.1 cq.2, hx _ (by omega)]
          have := hb (q - j) (by omega)
          rw [show 30 * o + q = 30 * o + j + (q - j) by omega, this]
          exact congrArg it (by omega)
        · rw [pk_cpy_out (by omega), gx _ hq, ha _ (by omega)]
    · have er : ∀ (x : Option (Int32 × (Nat → Int64))), (if p5 < 0 then some ((-13 : Int32), it) else if 30 < p5 then some ((-13), it) else if p2 < 0 then some ((-13), it) else if p4 < 0 then some ((-13), it) else if nI m - p5 < p2 then some ((-13), it) else if p4 ≤ nI m2 - p5 then x else some ((-13), it)) = some ((-13), it) := fun x => by
        rcases hr with c | ⟨c0, c | ⟨c2, c | ⟨c3, c | ⟨c4, c | ⟨c5, c⟩⟩⟩⟩⟩
        · rw [if_pos c]
        · rw [if_neg c0, if_pos c]
        · rw [if_neg c0, if_neg c2, if_pos c]
        · rw [if_neg c0, if_neg c2, if_neg c3, if_pos c]
        · rw [if_neg c0, if_neg c2, if_neg c3, if_neg c4, if_pos c]
        · rw [if_neg c0, if_neg c2, if_neg c3, if_neg c4, if_neg c5, if_neg c]
      rw [er]
      by_cases c : f = o
      · subst c
        have em : m = m2 := (nI_eq (by omega) (by omega)).mp (e3.symm.trans g3)
        subst em
        simp only [if_pos]
        rcases hh with h | ⟨h, h2⟩
        · simp only [h, Option.bind_some, if_pos]
          exact ⟨_, _, _, rfl, rfl, hs⟩
        · simp only [h, h2, Option.bind_some, if_neg ok_1, if_pos]
          exact ⟨_, _, _, rfl, rfl, hs⟩
      · have cI : ¬ nI f = nI o := fun g => c ((nI_eq (by omega) (by omega)).mp g)
        simp only [if_neg cI]
        rcases hh with h | ⟨h, h2⟩
        · simp only [h, Option.bind_some, if_pos]
          exact ⟨_, _, _, rfl, rfl, hs⟩
        · simp only [h, h2, Option.bind_some, if_neg ok_1, if_pos]
          exact ⟨_, _, _, rfl, rfl, hs⟩
  · have c : ¬ nI f = nI o := fun g => by
      have e := (nI_eq (by omega) (by omega)).mp g
      rw [e, g1] at e1
      exact cl ((nI_eq (by omega) (by omega)).mp e1.symm)
    have cI : ¬ nI k = nI k2 := fun g => cl ((nI_eq (by omega) (by omega)).mp g)
    have cJ : ¬ nI k2 = nI k := fun g => cI g.symm
    simp only [if_neg c, if_neg cI, if_neg cJ, Option.bind_some, if_pos]
    exact ⟨_, _, _, rfl, rfl, hs⟩
theorem sim_copy (S : xs_T) (T : ys_T) (h : si_R S T) (p1 : Int32) (p2 : Int32) (p3 : Int32) (p4 : Int32) (p5 : Int32) : ∃ (r : Int32) (S2 : xs_T) (T2 : ys_T), px_copy S p1 p2 p3 p4 p5 = some (r, S2) ∧ py_copy T p1 p2 p3 p4 p5 = some (r, T2) ∧ si_R S2 T2 := by
  obtain ⟨⟨t, t2, hn, hv⟩, hk, hi, hp, hs⟩ := h
  obtain ⟨r, o, y, e1, e2, hq⟩ := copy_c hs p1 p2 p3 p4 p5
  exact ⟨r, _, _, mp_s e1, mp_s e2, ⟨t, t2, hn, hv⟩, hk, hi, hp, hq⟩
