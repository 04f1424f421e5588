theorem nd_0_1 : ¬ nI 0 = (1 : Int32) := by decide
theorem nd_0_2 : ¬ nI 0 = (2 : Int32) := by decide
theorem nd_0_3 : ¬ nI 0 = (3 : Int32) := by decide
theorem nd_0_4 : ¬ nI 0 = (4 : Int32) := by decide
theorem nd_0_5 : ¬ nI 0 = (5 : Int32) := by decide
theorem nd_0_6 : ¬ nI 0 = (6 : Int32) := by decide
theorem nd_0_7 : ¬ nI 0 = (7 : Int32) := by decide
theorem ne_0 : nI 0 = (0 : Int32) := rfl
theorem nd_1_0 : ¬ nI 1 = (0 : Int32) := by decide
theorem nd_1_2 : ¬ nI 1 = (2 : Int32) := by decide
theorem nd_1_3 : ¬ nI 1 = (3 : Int32) := by decide
theorem nd_1_4 : ¬ nI 1 = (4 : Int32) := by decide
theorem nd_1_5 : ¬ nI 1 = (5 : Int32) := by decide
theorem nd_1_6 : ¬ nI 1 = (6 : Int32) := by decide
theorem nd_1_7 : ¬ nI 1 = (7 : Int32) := by decide
theorem ne_1 : nI 1 = (1 : Int32) := rfl
theorem nd_2_0 : ¬ nI 2 = (0 : Int32) := by decide
theorem nd_2_1 : ¬ nI 2 = (1 : Int32) := by decide
theorem nd_2_3 : ¬ nI 2 = (3 : Int32) := by decide
theorem nd_2_4 : ¬ nI 2 = (4 : Int32) := by decide
theorem nd_2_5 : ¬ nI 2 = (5 : Int32) := by decide
theorem nd_2_6 : ¬ nI 2 = (6 : Int32) := by decide
theorem nd_2_7 : ¬ nI 2 = (7 : Int32) := by decide
theorem ne_2 : nI 2 = (2 : Int32) := rfl
theorem nd_3_0 : ¬ nI 3 = (0 : Int32) := by decide
theorem nd_3_1 : ¬ nI 3 = (1 : Int32) := by decide
theorem nd_3_2 : ¬ nI 3 = (2 : Int32) := by decide
theorem nd_3_4 : ¬ nI 3 = (4 : Int32) := by decide
theorem nd_3_5 : ¬ nI 3 = (5 : Int32) := by decide
theorem nd_3_6 : ¬ nI 3 = (6 : Int32) := by decide
theorem nd_3_7 : ¬ nI 3 = (7 : Int32) := by decide
theorem ne_3 : nI 3 = (3 : Int32) := rfl
theorem nd_4_0 : ¬ nI 4 = (0 : Int32) := by decide
theorem nd_4_1 : ¬ nI 4 = (1 : Int32) := by decide
theorem nd_4_2 : ¬ nI 4 = (2 : Int32) := by decide
theorem nd_4_3 : ¬ nI 4 = (3 : Int32) := by decide
theorem nd_4_5 : ¬ nI 4 = (5 : Int32) := by decide
theorem nd_4_6 : ¬ nI 4 = (6 : Int32) := by decide
theorem nd_4_7 : ¬ nI 4 = (7 : Int32) := by decide
theorem ne_4 : nI 4 = (4 : Int32) := rfl
theorem nd_5_0 : ¬ nI 5 = (0 : Int32) := by decide
theorem nd_5_1 : ¬ nI 5 = (1 : Int32) := by decide
theorem nd_5_2 : ¬ nI 5 = (2 : Int32) := by decide
theorem nd_5_3 : ¬ nI 5 = (3 : Int32) := by decide
theorem nd_5_4 : ¬ nI 5 = (4 : Int32) := by decide
theorem nd_5_6 : ¬ nI 5 = (6 : Int32) := by decide
theorem nd_5_7 : ¬ nI 5 = (7 : Int32) := by decide
theorem ne_5 : nI 5 = (5 : Int32) := rfl
theorem nd_6_0 : ¬ nI 6 = (0 : Int32) := by decide
theorem nd_6_1 : ¬ nI 6 = (1 : Int32) := by decide
theorem nd_6_2 : ¬ nI 6 = (2 : Int32) := by decide
theorem nd_6_3 : ¬ nI 6 = (3 : Int32) := by decide
theorem nd_6_4 : ¬ nI 6 = (4 : Int32) := by decide
theorem nd_6_5 : ¬ nI 6 = (5 : Int32) := by decide
theorem nd_6_7 : ¬ nI 6 = (7 : Int32) := by decide
theorem ne_6 : nI 6 = (6 : Int32) := rfl
theorem nd_7_0 : ¬ nI 7 = (0 : Int32) := by decide
theorem nd_7_1 : ¬ nI 7 = (1 : Int32) := by decide
theorem nd_7_2 : ¬ nI 7 = (2 : Int32) := by decide
theorem nd_7_3 : ¬ nI 7 = (3 : Int32) := by decide
theorem nd_7_4 : ¬ nI 7 = (4 : Int32) := by decide
theorem nd_7_5 : ¬ nI 7 = (5 : Int32) := by decide
theorem nd_7_6 : ¬ nI 7 = (6 : Int32) := by decide
theorem ne_7 : nI 7 = (7 : Int32) := rfl
theorem ou {x : Int32} {m : Nat} (h : x < nI 0 ∨ nI m < x) (hm : m < 2 ^ 31) (k : Nat) (hk : k ≤ m) : ¬ x = nI k := fun e => by
  rw [e] at h
  rcases h with h | h
  · exact nI_pos (by omega) h
  · exact nI_nlt hk hm h
abbrev vt_T : Type := (Nat → Int32) × (Nat → Int32) × (Nat → Int32) × (Nat → Int32) × (Nat → Int32) × (Nat → Int64) × Int32 × (Nat → Int64) × Int32 × Int32
def vq_P (v : vt_T) (t t2 : Nat → Nat) : Prop := vo_P v.2.2.2.2.2.2.2.2.2 v.1 v.2.1 v.2.2.1 v.2.2.2.1 v.2.2.2.2.2.1 v.2.2.2.2.2.2.1 v.2.2.2.2.2.2.2.1 v.2.2.2.2.2.2.2.2.1 t t2
theorem told_t {v : Nat} (h : v ≤ 8) : pf_X7_toldOf (nI v) = some (hv_I v) := by
  rw [pf_X7_toldOf, hv_I]
  by_cases c : v = 8
  · rw [if_pos ((nI_8 h).mpr c), if_pos c]
  · rw [if_neg (fun g => c ((nI_8 h).mp g)), if_neg c]
theorem best_t {f : Nat → Int32} {u : Nat → Nat} {p : Nat} (h1 : 1 ≤ p) (h2 : p < 512) (hb : f p = nI (u p)) : pf_X5_bestHops f (nI p) = some (nI (u p)) ∧ pf_X5_easeOf f (nI p) = some (nI (u p)) := by
  rw [pf_X5_bestHops, pf_X5_easeOf, isPrefix_y h1 h2]
  simp only [Option.bind_some, if_neg ok_1, in_bn h2 (show 512 < 2 ^ 31 by decide), ck_t, nI_clamp (show p < 2 ^ 31 by omega), hb]
  exact ⟨trivial, trivial⟩
theorem look_c {tp ip : Nat → Int64} {tz iz d : Int32} {st : Nat → Int32} {t t2 : Nat → Nat} (hn : nq_P tp tz ip iz d st 0 t t2) {old : Int32} {sent sentI best ease : Nat → Int32} {vi : Nat → Int64} {vz : Int32} {vl : Nat → Int64} {lz : Int32} (hv : vo_P old sent sentI best ease vi vz vl lz t t2) (fa le co ho cm : Nat → Int32) (p1 : Int32) (p2 : Int32) : ∃ r v c, pf_X6_look tp ip iz sent sentI best ease fa vi vz vl lz old p1 p2 = some (r, v) ∧ pf_X7_look st le co ho cm p1 p2 = some (r, c) ∧ vq_P v t t2 := by
  obtain ⟨o, eo, hw, h0⟩ := fresh_t hn hv fa
  have ok := tr_ok hn.1
  have ok2 := tr_ok hn.2.1
  have lk := le_ok ok
  have hold : vq_P (sent, sentI, best, ease, fa, vi, vz, vl, lz, old) t t2 := hv
  have hnew : vq_P o t t2 := Or.inr ⟨h0, hw⟩
  obtain ⟨y, ey, hy⟩ := lays_t hn.2.2.1 hn.2.2.2.1 ok ok2 le co ho cm
  rw [pf_X6_look, pf_X7_look]
  rcases ix_c p1 (n := 256) (by decide) (by decide) with h1 | ⟨a, ha, e⟩
  · rw [isA_n h1, show pf_X7_in (Int32.toInt64 p1) 0 255 = some 0 from in_no (l := 0) (m := 255) (by decide) (by decide) h1]
    simp only [Option.bind_some, if_pos]
    exact ⟨_, _, _, rfl, rfl, hold⟩
  subst e
  rw [isA_y ha, show pf_X7_in (Int32.toInt64 (nI a)) 0 255 = some 1 from in_yes (l := 0) (m := 255) (by decide) (by omega) (by omega)]
  rcases ix_c p2 (n := 4) (by decide) (by decide) with h2 | ⟨j, hj, e⟩
  · rw [show pf_X7_in (Int32.toInt64 p2) 0 3 = some 0 from in_no (l := 0) (m := 3) (by decide) (by decide) h2]
    simp only [Option.bind_some, if_pos, if_neg ok_1, if_neg (show ¬ p2 = 0 from ou h2 (by decide) 0 (by decide)), if_neg (show ¬ p2 = 1 from ou h2 (by decide) 1 (by decide)), if_neg (show ¬ p2 = 2 from ou h2 (by decide) 2 (by decide)), if_neg (show ¬ p2 = 3 from ou h2 (by decide) 3 (by decide))]
    exact ⟨_, _, _, rfl, rfl, hold⟩
  subst e
  rw [show pf_X7_in (Int32.toInt64 (nI j)) 0 3 = some 1 from in_yes (l := 0) (m := 3) (by decide) (by omega) (by omega), ey]
  match j, hj with
  | 0, _ =>
    simp only [Option.bind_some, if_neg ok_1, if_pos ne_0, hopAddr_t hn.1 ha, in_bn (show a < 512 by omega) (show 512 < 2 ^ 31 by decide), ck_t, nI_clamp (show a < 2 ^ 31 by omega), (hy.2.2 a ha).1]
    exact ⟨_, _, _, rfl, rfl, hold⟩
  | 1, _ =>
    simp only [Option.bind_some, if_neg ok_1, if_neg nd_1_0, if_pos ne_1, decider_t hn.1 ha, show pf_X7_decides st 1025 0 (nI a) 0 = some (en_I (dc_N t 9 (256 + a))) from (decides_t (o := 0) (w := 0) hn.2.2.1 ok (by decide) (by decide) (by decide) ha).trans (by rw [dc_w0])]
    exact ⟨_, _, _, rfl, rfl, hold⟩
  | 2, _ =>
    simp only [Option.bind_some, if_neg ok_1, if_neg nd_2_0, if_neg nd_2_1, if_pos ne_2, hopAddr_t hn.2.1 ha, show (256 : Int32) + nI a = nI (256 + a) from nI_add 256 a, in_bn (show 256 + a < 512 by omega) (show 512 < 2 ^ 31 by decide), ck_t, nI_clamp (show 256 + a < 2 ^ 31 by omega), (hy.2.2 a ha).2]
    exact ⟨_, _, _, rfl, rfl, hold⟩
  | 3, _ =>
    simp only [Option.bind_some, if_neg ok_1, if_neg nd_3_0, if_neg nd_3_1, if_neg nd_3_2, if_pos ne_3, if_neg nd_3_0, if_neg nd_3_1, if_neg nd_3_2, eo, hopAddr_t hw.2.2.2.2 ha, show pf_X7_hopBy y.1 512 0 (nI a) 0 = some (nI (hd_N (le_N t) (256 + a))) from (hopBy_t (o := 0) (w := 0) hy.1 lk (by decide) (by decide) (by decide) ha).trans (by rw [hd_w0])]
    exact ⟨_, _, _, rfl, rfl, hnew⟩

theorem prefix_c {tp ip : Nat → Int64} {tz iz d : Int32} {st : Nat → Int32} {t t2 : Nat → Nat} (hn : nq_P tp tz ip iz d st 0 t t2) {old : Int32} {sent sentI best ease : Nat → Int32} {vi : Nat → Int64} {vz : Int32} {vl : Nat → Int64} {lz : Int32} (hv : vo_P old sent sentI best ease vi vz vl lz t t2) (fa le co ho cm : Nat → Int32) (p1 : Int32) (p2 : Int32) : ∃ r v c, pf_X6_prefix tp ip iz sent sentI best ease fa vi vz vl lz old p1 p2 = some (r, v) ∧ pf_X7_prefix st le co ho cm p1 p2 = some (r, c) ∧ vq_P v t t2 := by
  obtain ⟨o, eo, hw, h0⟩ := fresh_t hn hv fa
  have ok := tr_ok hn.1
  have ok2 := tr_ok hn.2.1
  have lk := le_ok ok
  have hold : vq_P (sent, sentI, best, ease, fa, vi, vz, vl, lz, old) t t2 := hv
  have hnew : vq_P o t t2 := Or.inr ⟨h0, hw⟩
  obtain ⟨y, ey, hy⟩ := lays_t hn.2.2.1 hn.2.2.2.1 ok ok2 le co ho cm
  rw [pf_X6_prefix, pf_X7_prefix]
  rcases ix_p p1 with h1 | ⟨p, q1, q2, e⟩
  · rw [(isP_n h1).1, (isP_n h1).2]
    simp only [Option.bind_some, if_pos]
    exact ⟨_, _, _, rfl, rfl, hold⟩
  subst e
  rw [(isP_y q1 q2).1, (isP_y q1 q2).2]
  rcases ix_c p2 (n := 7) (by decide) (by decide) with h2 | ⟨j, hj, e⟩
  · rw [show pf_X7_in (Int32.toInt64 p2) 0 6 = some 0 from in_no (l := 0) (m := 6) (by decide) (by decide) h2]
    simp only [Option.bind_some, if_pos, if_neg ok_1, if_neg (show ¬ p2 = 0 from ou h2 (by decide) 0 (by decide)), if_neg (show ¬ p2 = 1 from ou h2 (by decide) 1 (by decide)), if_neg (show ¬ p2 = 2 from ou h2 (by decide) 2 (by decide)), if_neg (show ¬ p2 = 3 from ou h2 (by decide) 3 (by decide)), if_neg (show ¬ p2 = 4 from ou h2 (by decide) 4 (by decide)), if_neg (show ¬ p2 = 5 from ou h2 (by decide) 5 (by decide)), if_neg (show ¬ p2 = 6 from ou h2 (by decide) 6 (by decide))]
    exact ⟨_, _, _, rfl, rfl, hold⟩
  subst e
  rw [show pf_X7_in (Int32.toInt64 (nI j)) 0 6 = some 1 from in_yes (l := 0) (m := 6) (by decide) (by omega) (by omega), ey]
  match j, hj with
  | 0, _ =>
    simp only [Option.bind_some, if_neg ok_1, if_pos ne_0, hopAt_t hn.1 q1 q2, show (512 : Int32) * nI 0 + nI p = nI p from by rw [show (512 : Int32) * nI 0 = 0 from rfl, Int32.zero_add], in_bn (show p < 1025 by omega) (show 1025 < 2 ^ 31 by decide), ck_t, nI_clamp (show p < 2 ^ 31 by omega), show st p = nI (t p) from (congrArg st (Nat.zero_add p)).symm.trans (hn.2.2.1 p q1 q2), told_t (ok p q1 q2)]
    exact ⟨_, _, _, rfl, rfl, hold⟩
  | 1, _ =>
    simp only [Option.bind_some, if_neg ok_1, if_neg nd_1_0, if_pos ne_1, hopAt_t hn.2.1 q1 q2, show (512 : Int32) * nI 1 + nI p = nI (512 + p) from nI_add 512 p, in_bn (show 512 + p < 1025 by omega) (show 1025 < 2 ^ 31 by decide), ck_t, nI_clamp (show 512 + p < 2 ^ 31 by omega), show st (512 + p) = nI (t2 p) from hn.2.2.2.1 p q1 q2, told_t (ok2 p q1 q2)]
    exact ⟨_, _, _, rfl, rfl, hold⟩
  | 2, _ =>
    simp only [Option.bind_some, if_neg ok_1, if_neg nd_2_0, if_neg nd_2_1, if_pos ne_2, eo, hopAt_t hw.2.2.2.2 q1 q2, in_bn (show p < 512 by omega) (show 512 < 2 ^ 31 by decide), ck_t, nI_clamp (show p < 2 ^ 31 by omega), show y.1 p = nI (le_N t p) from (congrArg y.1 (Nat.zero_add p)).symm.trans (hy.1 p q1 q2), told_t (lk p q1 q2)]
    exact ⟨_, _, _, rfl, rfl, hnew⟩
  | 3, _ =>
    simp only [Option.bind_some, if_neg ok_1, if_neg nd_3_0, if_neg nd_3_1, if_neg nd_3_2, if_pos ne_3, eo, (best_t (u := bs_N t) q1 q2 (hw.2.2.1 p q1 q2).1).1, setOf_t ok q1 q2 hy.2.1]
    exact ⟨_, _, _, rfl, rfl, hnew⟩
  | 4, _ =>
    simp only [Option.bind_some, if_neg ok_1, if_neg nd_4_0, if_neg nd_4_1, if_neg nd_4_2, if_neg nd_4_3, if_pos ne_4, eo, (best_t (u := es_N t) q1 q2 (hw.2.2.1 p q1 q2).2).2, ease_t ok q1 q2 hy.2.1]
    exact ⟨_, _, _, rfl, rfl, hnew⟩
  | 5, _ =>
    simp only [Option.bind_some, if_neg ok_1, if_neg nd_5_0, if_neg nd_5_1, if_neg nd_5_2, if_neg nd_5_3, if_neg nd_5_4, if_pos ne_5, eo, (hopsB_t hw.1 q1 q2).1, hopsIn_t ok hy.2.2 q1 q2]
    exact ⟨_, _, _, rfl, rfl, hnew⟩
  | 6, _ =>
    simp only [Option.bind_some, if_neg ok_1, if_neg nd_6_0, if_neg nd_6_1, if_neg nd_6_2, if_neg nd_6_3, if_neg nd_6_4, if_neg nd_6_5, if_pos ne_6, if_neg nd_6_0, if_neg nd_6_1, if_neg nd_6_2, if_neg nd_6_3, if_neg nd_6_4, if_neg nd_6_5, redund_t hn.1 q1 q2, Int32.zero_add, in_bn (show p < 1025 by omega) (show 1025 < 2 ^ 31 by decide), ck_t, nI_clamp (show p < 2 ^ 31 by omega), show st p = nI (t p) from (congrArg st (Nat.zero_add p)).symm.trans (hn.2.2.1 p q1 q2), nI_8 (ok p q1 q2)]
    by_cases c : t p = 8
    · simp only [if_pos c]
      exact ⟨_, _, _, rfl, rfl, hold⟩
    · simp only [if_neg c, isRed_t hn.2.2.1 ok hy.2.2 q1 q2 c, Option.bind_some]
      by_cases c2 : rd_B t p = true
      · simp only [if_pos c2, if_neg ok_1]
        exact ⟨_, _, _, rfl, rfl, hold⟩
      · simp only [if_neg c2, if_pos]
        exact ⟨_, _, _, rfl, rfl, hold⟩

theorem cost_c {tp ip : Nat → Int64} {tz iz d : Int32} {st : Nat → Int32} {t t2 : Nat → Nat} (hn : nq_P tp tz ip iz d st 0 t t2) {old : Int32} {sent sentI best ease : Nat → Int32} {vi : Nat → Int64} {vz : Int32} {vl : Nat → Int64} {lz : Int32} (hv : vo_P old sent sentI best ease vi vz vl lz t t2) (fa le co ho cm : Nat → Int32) (p1 : Int32) (p2 : Int32) : ∃ r v c, pf_X6_cost tp ip iz sent sentI best ease fa vi vz vl lz old p1 p2 = some (r, v) ∧ pf_X7_cost st le co ho cm p1 p2 = some (r, c) ∧ vq_P v t t2 := by
  obtain ⟨o, eo, hw, h0⟩ := fresh_t hn hv fa
  have ok := tr_ok hn.1
  have ok2 := tr_ok hn.2.1
  have lk := le_ok ok
  have hold : vq_P (sent, sentI, best, ease, fa, vi, vz, vl, lz, old) t t2 := hv
  have hnew : vq_P o t t2 := Or.inr ⟨h0, hw⟩
  obtain ⟨y, ey, hy⟩ := lays_t hn.2.2.1 hn.2.2.2.1 ok ok2 le co ho cm
  rw [pf_X6_cost, pf_X7_cost]
  rcases ix_p p1 with h1 | ⟨p, q1, q2, e⟩
  · rw [(isP_n h1).1, (isP_n h1).2]
    simp only [Option.bind_some, if_pos]
    exact ⟨_, _, _, rfl, rfl, hold⟩
  subst e
  rw [(isP_y q1 q2).1, (isP_y q1 q2).2]
  rcases ix_c p2 (n := 8) (by decide) (by decide) with h2 | ⟨j, hj, e⟩
  · rw [isH_n h2, show pf_X7_in (Int32.toInt64 p2) 0 7 = some 0 from in_no (l := 0) (m := 7) (by decide) (by decide) h2]
    simp only [Option.bind_some, if_pos, if_neg ok_1]
    exact ⟨_, _, _, rfl, rfl, hold⟩
  subst e
  have ee : pf_X5_costBy o.2.2.1 o.2.2.2.1 (nI p) (nI j) = some (nI (cs_N t p j)) := by
    rw [pf_X5_costBy, (best_t (u := es_N t) q1 q2 (hw.2.2.1 p q1 q2).2).2, (best_t (u := bs_N t) q1 q2 (hw.2.2.1 p q1 q2).1).1]
    simp only [Option.bind_some, bit_t (show bs_N t p < 2 ^ 31 from Nat.lt_trans (bs_b ok p q1 q2).1 (by decide)) (show j < 32 by omega), cs_N, z1_N]
    by_cases c : (bs_N t p).testBit j = true
    · simp only [if_pos c, if_neg ok_1]
      exact congrArg some (nI_add _ 0)
    · simp only [if_neg c, if_pos]
      exact congrArg some (nI_add _ 1)
  rw [isHop_y hj, show pf_X7_in (Int32.toInt64 (nI j)) 0 7 = some 1 from in_yes (l := 0) (m := 7) (by decide) (by omega) (by omega), ey]
  simp only [Option.bind_some, if_neg ok_1, eo, ee, show (8 : Int32) * nI p + nI j = nI (8 * p + j) from (congrArg (· + nI j) (pk_mul 8 p)).trans (nI_add _ _), in_bn (show 8 * p + j < 4096 by omega) (show 4096 < 2 ^ 31 by decide), ck_t, nI_clamp (show 8 * p + j < 2 ^ 31 by omega), hy.2.1 p q1 q2 j hj]
  exact ⟨_, _, _, rfl, rfl, hnew⟩

theorem rg_c (x : Int32) {m : Nat} {M : Int32} (hM : M = nI m) (hm : m + 1 < 2 ^ 31) : (x < 0 ∧ (x < nI 0 ∨ nI m < x)) ∨ (¬ x < 0 ∧ ¬ x ≤ M ∧ (x < nI 0 ∨ nI m < x)) ∨ (¬ x < 0 ∧ x ≤ M ∧ ∃ j : Nat, j ≤ m ∧ x = nI j) := by
  rw [hM]
  by_cases c : x < 0
  · exact Or.inl ⟨c, Or.inl c⟩
  · obtain ⟨j, hj, e⟩ := nI_of c
    by_cases c2 : j ≤ m
    · exact Or.inr (Or.inr ⟨c, by rw [e]; exact nI_le c2 (by omega), j, c2, e⟩)
    · exact Or.inr (Or.inl ⟨c, by rw [e]; exact nI_ge (by omega) hj, Or.inr (by rw [e]; exact nI_lt (by omega) hj)⟩)
theorem kt_b {b : Nat → Bool} {k : Nat} (h : ¬ kt_N b 511 1 k = 0) : 1 ≤ kt_N b 511 1 k ∧ kt_N b 511 1 k < 512 ∧ b (kt_N b 511 1 k) = true := by
  rcases kt_at (b := b) 511 1 k with e | ⟨h1, h2, h3⟩
  · exact absurd e h
  · exact ⟨h1, by omega, h3⟩
theorem least_c {tp ip : Nat → Int64} {tz iz d : Int32} {st : Nat → Int32} {t t2 : Nat → Nat} (hn : nq_P tp tz ip iz d st 0 t t2) {old : Int32} {sent sentI best ease : Nat → Int32} {vi : Nat → Int64} {vz : Int32} {vl : Nat → Int64} {lz : Int32} (hv : vo_P old sent sentI best ease vi vz vl lz t t2) (fa le co ho cm : Nat → Int32) (p1 : Int32) (p2 : Int32) : ∃ r v c, pf_X6_least tp ip iz sent sentI best ease fa vi vz vl lz old p1 p2 = some (r, v) ∧ pf_X7_least st le co ho cm p1 p2 = some (r, c) ∧ vq_P v t t2 := by
  obtain ⟨o, eo, hw, h0⟩ := fresh_t hn hv fa
  have ok := tr_ok hn.1
  have ok2 := tr_ok hn.2.1
  have lk := le_ok ok
  have hold : vq_P (sent, sentI, best, ease, fa, vi, vz, vl, lz, old) t t2 := hv
  have hnew : vq_P o t t2 := Or.inr ⟨h0, hw⟩
  obtain ⟨y, ey, hy⟩ := lays_t hn.2.2.1 hn.2.2.2.1 ok ok2 le co ho cm
  rw [pf_X6_least, pf_X7_least]
  by_cases c1 : p1 < 0
  · rw [if_pos c1, if_pos c1]
    exact ⟨_, _, _, rfl, rfl, hold⟩
  rw [if_neg c1, if_neg c1]
  obtain ⟨k, hk, e⟩ := nI_of c1
  subst e
  rcases rg_c p2 (m := 1) (M := 1) rfl (by decide) with ⟨c2, h2⟩ | ⟨c2, c3, h2⟩ | ⟨c2, c3, j, hj, e⟩
  · rw [if_pos c2, show pf_X7_in (Int32.toInt64 p2) 0 1 = some 0 from in_no (l := 0) (m := 1) (by decide) (by decide) h2]
    simp only [Option.bind_some, if_pos]
    exact ⟨_, _, _, rfl, rfl, hold⟩
  · rw [if_neg c2, if_neg c3, show pf_X7_in (Int32.toInt64 p2) 0 1 = some 0 from in_no (l := 0) (m := 1) (by decide) (by decide) h2]
    simp only [Option.bind_some, if_pos]
    exact ⟨_, _, _, rfl, rfl, hold⟩
  subst e
  rw [if_neg c2, if_pos c3, show pf_X7_in (Int32.toInt64 (nI j)) 0 1 = some 1 from in_yes (l := 0) (m := 1) (by decide) (by omega) (by omega)]
  rw [ey, eo]
  simp only [Option.bind_some, if_neg ok_1, number_t hw.2.2.2.2 hk, leastAt_t hy.1 lk hk]
  by_cases c : kt_N (in_T (le_N t)) 511 1 k = 0
  · rw [c]
    simp only [show en_I 0 = (-4) from rfl, if_pos]
    exact ⟨_, _, _, rfl, rfl, hnew⟩
  obtain ⟨q1, q2, q3⟩ := kt_b c
  generalize kt_N (in_T (le_N t)) 511 1 k = p at *
  have p8 : ¬ le_N t p = 8 := of_decide_eq_true q3
  simp only [en_in c, if_neg (nI_m4 (show p < 2 ^ 31 by omega))]
  match j, hj with
  | 0, _ =>
    simp only [if_pos ne_0]
    exact ⟨_, _, _, rfl, rfl, hnew⟩
  | 1, _ =>
    simp only [if_neg nd_1_0, hopAt_t hw.2.2.2.2 q1 q2, Option.bind_some, in_bn (show p < 512 by omega) (show 512 < 2 ^ 31 by decide), ck_t, nI_clamp (show p < 2 ^ 31 by omega), show y.1 p = nI (le_N t p) from (congrArg y.1 (Nat.zero_add p)).symm.trans (hy.1 p q1 q2), hv_in p8]
    exact ⟨_, _, _, rfl, rfl, hnew⟩

theorem change_c {tp ip : Nat → Int64} {tz iz d : Int32} {st : Nat → Int32} {t t2 : Nat → Nat} (hn : nq_P tp tz ip iz d st 0 t t2) {old : Int32} {sent sentI best ease : Nat → Int32} {vi : Nat → Int64} {vz : Int32} {vl : Nat → Int64} {lz : Int32} (hv : vo_P old sent sentI best ease vi vz vl lz t t2) (fa le co ho cm : Nat → Int32) (p1 : Int32) (p2 : Int32) : ∃ r v c, pf_X6_change tp ip iz sent sentI best ease fa vi vz vl lz old p1 p2 = some (r, v) ∧ pf_X7_change st le co ho cm p1 p2 = some (r, c) ∧ vq_P v t t2 := by
  obtain ⟨o, eo, hw, h0⟩ := fresh_t hn hv fa
  have ok := tr_ok hn.1
  have ok2 := tr_ok hn.2.1
  have lk := le_ok ok
  have hold : vq_P (sent, sentI, best, ease, fa, vi, vz, vl, lz, old) t t2 := hv
  have hnew : vq_P o t t2 := Or.inr ⟨h0, hw⟩
  obtain ⟨y, ey, hy⟩ := lays_t hn.2.2.1 hn.2.2.2.1 ok ok2 le co ho cm
  rw [pf_X6_change, pf_X7_change]
  by_cases c1 : p1 < 0
  · rw [if_pos c1, if_pos c1]
    exact ⟨_, _, _, rfl, rfl, hold⟩
  rw [if_neg c1, if_neg c1]
  obtain ⟨k, hk, e⟩ := nI_of c1
  subst e
  rcases rg_c p2 (m := 3) (M := 3) rfl (by decide) with ⟨c2, h2⟩ | ⟨c2, c3, h2⟩ | ⟨c2, c3, j, hj, e⟩
  · rw [if_pos c2, show pf_X7_in (Int32.toInt64 p2) 0 3 = some 0 from in_no (l := 0) (m := 3) (by decide) (by decide) h2]
    simp only [Option.bind_some, if_pos]
    exact ⟨_, _, _, rfl, rfl, hold⟩
  · rw [if_neg c2, if_neg c3, show pf_X7_in (Int32.toInt64 p2) 0 3 = some 0 from in_no (l := 0) (m := 3) (by decide) (by decide) h2]
    simp only [Option.bind_some, if_pos]
    exact ⟨_, _, _, rfl, rfl, hold⟩
  subst e
  rw [if_neg c2, if_pos c3, show pf_X7_in (Int32.toInt64 (nI j)) 0 3 = some 1 from in_yes (l := 0) (m := 3) (by decide) (by omega) (by omega)]
  rw [ey, eo]
  simp only [Option.bind_some, if_neg ok_1, nchg_t hw.2.2.2.1 hw.2.2.2.2 hk, changeAt_t hy.1 hn.2.2.2.1 lk ok2 hk]
  by_cases c : kt_N (ch_B (le_N t) t2) 511 1 k = 0
  · rw [c]
    simp only [show en_I 0 = (-4) from rfl, if_pos]
    exact ⟨_, _, _, rfl, rfl, hnew⟩
  obtain ⟨q1, q2, q3⟩ := kt_b c
  generalize kt_N (ch_B (le_N t) t2) 511 1 k = p at *
  have pd : ¬ le_N t p = t2 p := of_decide_eq_true q3
  simp only [en_in c, if_neg (nI_m4 (show p < 2 ^ 31 by omega)), show (512 : Int32) + nI p = nI (512 + p) from nI_add 512 p, in_bn (show 512 + p < 1025 by omega) (show 1025 < 2 ^ 31 by decide), nI_clamp (show 512 + p < 2 ^ 31 by omega), ck_t, lt_b, show st (512 + p) = nI (t2 p) from hn.2.2.2.1 p q1 q2, in_bn (show p < 512 by omega) (show 512 < 2 ^ 31 by decide), ck_t, nI_clamp (show p < 2 ^ 31 by omega), show y.1 p = nI (le_N t p) from (congrArg y.1 (Nat.zero_add p)).symm.trans (hy.1 p q1 q2)]
  match j, hj with
  | 0, _ =>
    simp only [if_pos ne_0]
    exact ⟨_, _, _, rfl, rfl, hnew⟩
  | 1, _ =>
    simp only [if_neg nd_1_0, if_pos ne_1, hopAt_t hn.2.1 q1 q2, Option.bind_some, told_t (ok2 p q1 q2)]
    exact ⟨_, _, _, rfl, rfl, hnew⟩
  | 2, _ =>
    simp only [if_neg nd_2_0, if_neg nd_2_1, if_pos ne_2, hopAt_t hw.2.2.2.2 q1 q2, Option.bind_some, told_t (lk p q1 q2)]
    exact ⟨_, _, _, rfl, rfl, hnew⟩
  | 3, _ =>
    simp only [if_neg nd_3_0, if_neg nd_3_1, if_neg nd_3_2, kind_t hw.2.2.2.1 hw.2.2.2.2 q1 q2, Option.bind_some, kc_I, if_neg (fun g => pd (Eq.symm g)), nI_8 (lk p q1 q2), nI_8 (ok2 p q1 q2)]
    by_cases d1 : le_N t p = 8
    · simp only [if_pos d1]
      exact ⟨_, _, _, rfl, rfl, hnew⟩
    · simp only [if_neg d1]
      by_cases d2 : t2 p = 8
      · simp only [if_pos d2]
        exact ⟨_, _, _, rfl, rfl, hnew⟩
      · simp only [if_neg d2]
        exact ⟨_, _, _, rfl, rfl, hnew⟩

theorem on_lo {t : Nat → Nat} (ok : ok_T t) {p a : Nat} (h1 : 1 ≤ p) (h2 : p < 512) (ha : a < 256) (hp : ha_B p a = true) (ho : on_B (hS_N t p) = true) : lo_N 8 (hS_N t p) = hd_N t (256 + a) := by
  have e := ((on_iff _ (hS_b ok p h1 h2).1).mp ho).1
  have b := (hS_bit (t := t) p h1 h2 (hd_N t (256 + a))).mpr ⟨a, ha, hp, rfl⟩
  rw [e, Nat.testBit_two_pow] at b
  exact of_decide_eq_true b
theorem pr_lo {t t2 : Nat → Nat} (ok : ok_T t) (ok2 : ok_T t2) {a : Nat} (ha : a < 256) : lo_N 8 (hS_N t (pr_N t t2 a)) = hd_N t (256 + a) ∧ lo_N 8 (hS_N t2 (pr_N t t2 a)) = hd_N t2 (256 + a) := by
  obtain ⟨q1, q2⟩ := pr_b (t := t) (t2 := t2) ha
  obtain ⟨j, hj, ej, hb, _⟩ := lk_k (oc_B t t2) (256 + a) 8
  have hp : ha_B (pr_N t t2 a) a = true := (ha_iff q1 ha).mpr ⟨j, by omega, ej.symm⟩
  have ho : oc_B t t2 (pr_N t t2 a) = true := by
    by_cases c : j = 0
    · have e : pr_N t t2 a = 256 + a := by
        show lk_N (oc_B t t2) (256 + a) 8 = 256 + a
        rw [ej, c, Nat.pow_zero, Nat.div_one]
      rw [e]
      exact oc_leaf ok ok2 (by omega) (by omega)
    · show oc_B t t2 (lk_N (oc_B t t2) (256 + a) 8) = true
      rw [ej]; exact hb c
  have ho2 := Bool.and_eq_true_iff.mp ho
  exact ⟨on_lo ok q1 q2 ha hp ho2.1, on_lo ok2 q1 q2 ha hp ho2.2⟩
theorem proof_c {tp ip : Nat → Int64} {tz iz d : Int32} {st : Nat → Int32} {t t2 : Nat → Nat} (hn : nq_P tp tz ip iz d st 0 t t2) {old : Int32} {sent sentI best ease : Nat → Int32} {vi : Nat → Int64} {vz : Int32} {vl : Nat → Int64} {lz : Int32} (hv : vo_P old sent sentI best ease vi vz vl lz t t2) (fa le co ho cm : Nat → Int32) (p1 : Int32) (p2 : Int32) : ∃ r v c, pf_X6_proof tp ip iz sent sentI best ease fa vi vz vl lz old p1 p2 = some (r, v) ∧ pf_X7_proof st ho p1 p2 = some (r, c) ∧ vq_P v t t2 := by
  obtain ⟨o, eo, hw, h0⟩ := fresh_t hn hv fa
  have ok := tr_ok hn.1
  have ok2 := tr_ok hn.2.1
  have lk := le_ok ok
  have hold : vq_P (sent, sentI, best, ease, fa, vi, vz, vl, lz, old) t t2 := hv
  have hnew : vq_P o t t2 := Or.inr ⟨h0, hw⟩
  obtain ⟨y, ey, hy⟩ := laysHops_t hn.2.2.1 hn.2.2.2.1 ok ok2 ho
  rw [pf_X6_proof, pf_X7_proof]
  by_cases c1 : p1 < 0
  · rw [if_pos c1, if_pos c1]
    exact ⟨_, _, _, rfl, rfl, hold⟩
  rw [if_neg c1, if_neg c1]
  obtain ⟨k, hk, e⟩ := nI_of c1
  subst e
  rcases rg_c p2 (m := 2) (M := 2) rfl (by decide) with ⟨c2, h2⟩ | ⟨c2, c3, h2⟩ | ⟨c2, c3, j, hj, e⟩
  · rw [if_pos c2, show pf_X7_in (Int32.toInt64 p2) 0 2 = some 0 from in_no (l := 0) (m := 2) (by decide) (by decide) h2]
    simp only [Option.bind_some, if_pos]
    exact ⟨_, _, _, rfl, rfl, hold⟩
  · rw [if_neg c2, if_neg c3, show pf_X7_in (Int32.toInt64 p2) 0 2 = some 0 from in_no (l := 0) (m := 2) (by decide) (by decide) h2]
    simp only [Option.bind_some, if_pos]
    exact ⟨_, _, _, rfl, rfl, hold⟩
  subst e
  rw [if_neg c2, if_pos c3, show pf_X7_in (Int32.toInt64 (nI j)) 0 2 = some 1 from in_yes (l := 0) (m := 2) (by decide) (by omega) (by omega)]
  rw [ey, eo]
  simp only [Option.bind_some, if_neg ok_1, nproof_t ok ok2 hw.1 hw.2.1 hk, proofAt_t ok ok2 hy hk]
  have al : ka_N (st_B t t2) 256 0 k ≤ 256 := ka_le _ 256 0 k rfl
  by_cases c : ka_N (st_B t t2) 256 0 k = 256
  · rw [c]
    simp only [show ea_I 256 = (-4) from rfl, show pn_I t t2 256 = (-4) from rfl, if_pos]
    exact ⟨_, _, _, rfl, rfl, hnew⟩
  generalize ka_N (st_B t t2) 256 0 k = a at *
  have ha : a < 256 := by omega
  obtain ⟨q1, q2⟩ := pr_b (t := t) (t2 := t2) ha
  simp only [pn_I, ea_I, if_neg c, if_neg (nI_m4 (show a < 2 ^ 31 by omega)), if_neg (nI_m4 (show pr_N t t2 a < 2 ^ 31 by omega))]
  match j, hj with
  | 0, _ =>
    simp only [if_pos ne_0, proofOf_t ok ok2 hy ha, Option.bind_some]
    exact ⟨_, _, _, rfl, rfl, hnew⟩
  | 1, _ =>
    simp only [if_neg nd_1_0, if_pos ne_1, (hopsB_t hw.1 q1 q2).1, Option.bind_some, lo_t _ (hS_b ok _ q1 q2).1 (Nat.pos_of_ne_zero (hS_b ok _ q1 q2).2), (pr_lo ok ok2 ha).1, in_bn (show a < 512 by omega) (show 512 < 2 ^ 31 by decide), ck_t, nI_clamp (show a < 2 ^ 31 by omega), (hy a ha).1]
    exact ⟨_, _, _, rfl, rfl, hnew⟩
  | 2, _ =>
    simp only [if_neg nd_2_0, if_neg nd_2_1, (hopsB_t hw.2.1 q1 q2).2, Option.bind_some, lo_t _ (hS_b ok2 _ q1 q2).1 (Nat.pos_of_ne_zero (hS_b ok2 _ q1 q2).2), (pr_lo ok ok2 ha).2, show (256 : Int32) + nI a = nI (256 + a) from nI_add 256 a, in_bn (show 256 + a < 512 by omega) (show 512 < 2 ^ 31 by decide), ck_t, nI_clamp (show 256 + a < 2 ^ 31 by omega), (hy a ha).2]
    exact ⟨_, _, _, rfl, rfl, hnew⟩

theorem count_c {tp ip : Nat → Int64} {tz iz d : Int32} {st : Nat → Int32} {t t2 : Nat → Nat} (hn : nq_P tp tz ip iz d st 0 t t2) {old : Int32} {sent sentI best ease : Nat → Int32} {vi : Nat → Int64} {vz : Int32} {vl : Nat → Int64} {lz : Int32} (hv : vo_P old sent sentI best ease vi vz vl lz t t2) (fa le co ho cm : Nat → Int32) {hs ac : Int32} (ea : hs = ac) (p1 : Int32) : ∃ r v c, pf_X6_count tp tz ip iz hs sent sentI best ease fa vi vz vl lz old p1 = some (r, v) ∧ pf_X7_count st le co ho cm ac p1 = some (r, c) ∧ vq_P v t t2 := by
  obtain ⟨o, eo, hw, h0⟩ := fresh_t hn hv fa
  have ok := tr_ok hn.1
  have ok2 := tr_ok hn.2.1
  have lk := le_ok ok
  have hold : vq_P (sent, sentI, best, ease, fa, vi, vz, vl, lz, old) t t2 := hv
  have hnew : vq_P o t t2 := Or.inr ⟨h0, hw⟩
  obtain ⟨y, ey, hy⟩ := lays_t hn.2.2.1 hn.2.2.2.1 ok ok2 le co ho cm
  rw [pf_X6_count, pf_X7_count, ey, Option.bind_some]
  rcases ix_c p1 (n := 8) (by decide) (by decide) with h2 | ⟨j, hj, e⟩
  · simp only [if_neg (show ¬ p1 = 0 from ou h2 (by decide) 0 (by decide)), if_neg (show ¬ p1 = 1 from ou h2 (by decide) 1 (by decide)), if_neg (show ¬ p1 = 2 from ou h2 (by decide) 2 (by decide)), if_neg (show ¬ p1 = 3 from ou h2 (by decide) 3 (by decide)), if_neg (show ¬ p1 = 4 from ou h2 (by decide) 4 (by decide)), if_neg (show ¬ p1 = 5 from ou h2 (by decide) 5 (by decide)), if_neg (show ¬ p1 = 6 from ou h2 (by decide) 6 (by decide)), if_neg (show ¬ p1 = 7 from ou h2 (by decide) 7 (by decide))]
    exact ⟨_, _, _, rfl, rfl, hold⟩
  subst e
  match j, hj with
  | 0, _ =>
    simp only [if_pos ne_0, pf_X3_howMany, Option.bind_some, hn.1.2, show pf_X7_many st 1025 0 = some (nI (ct_N t)) from many_t (o := 0) hn.2.2.1 ok (by decide) (by decide)]
    exact ⟨_, _, _, rfl, rfl, hold⟩
  | 1, _ =>
    simp only [if_neg nd_1_0, if_pos ne_1, eo, pf_X3_howMany, Option.bind_some, show pf_X7_many y.1 512 0 = some (nI (ct_N (le_N t))) from many_t (o := 0) hy.1 lk (by decide) (by decide)]
    exact ⟨_, _, _, rfl, congrArg (fun z => some (z, y)) hw.2.2.2.2.2.symm, hnew⟩
  | 2, _ =>
    simp only [if_neg nd_2_0, if_neg nd_2_1, if_pos ne_2, pf_X3_howMany, Option.bind_some, hn.2.1.2, show pf_X7_many st 1025 512 = some (nI (ct_N t2)) from many_t (o := 512) hn.2.2.2.1 ok2 (by decide) (by decide)]
    exact ⟨_, _, _, rfl, rfl, hold⟩
  | 3, _ =>
    simp only [if_neg nd_3_0, if_neg nd_3_1, if_neg nd_3_2, if_pos ne_3, eo, Option.bind_some, cchg_t hw.2.2.2.1 hw.2.2.2.2, changes_t hy.1 hn.2.2.2.1 lk ok2]
    exact ⟨_, _, _, rfl, rfl, hnew⟩
  | 4, _ =>
    simp only [if_neg nd_4_0, if_neg nd_4_1, if_neg nd_4_2, if_neg nd_4_3, if_pos ne_4, eo, Option.bind_some, cproof_t ok ok2 hw.1 hw.2.1, proofCt_t ok ok2 hy.2.2]
    exact ⟨_, _, _, rfl, rfl, hnew⟩
  | 5, _ =>
    simp only [if_neg nd_5_0, if_neg nd_5_1, if_neg nd_5_2, if_neg nd_5_3, if_neg nd_5_4, if_pos ne_5, Option.bind_some, countRed_t hn.1, redun_t hn.2.2.1 ok hy.2.2]
    exact ⟨_, _, _, rfl, rfl, hold⟩
  | 6, _ =>
    simp only [if_neg nd_6_0, if_neg nd_6_1, if_neg nd_6_2, if_neg nd_6_3, if_neg nd_6_4, if_neg nd_6_5, if_pos ne_6, eo, Option.bind_some, fse_t ok ok2 hw.1 hw.2.1, fun_t ok ok2 hy.2.2]
    exact ⟨_, _, _, rfl, rfl, hnew⟩
  | 7, _ =>
    simp only [if_neg nd_7_0, if_neg nd_7_1, if_neg nd_7_2, if_neg nd_7_3, if_neg nd_7_4, if_neg nd_7_5, if_neg nd_7_6, if_pos ne_7, pf_X0_howManyKnown, Option.bind_some, ea]
    exact ⟨_, _, _, rfl, rfl, hold⟩

theorem sim_look (S : xs_T) (T : ys_T) (h : si_R S T) (p1 : Int32) (p2 : Int32) : ∃ (r : Int32) (S2 : xs_T) (T2 : ys_T), px_look S p1 p2 = some (r, S2) ∧ py_look T p1 p2 = some (r, T2) ∧ si_R S2 T2 := by
  obtain ⟨⟨t, t2, hn, hv⟩, hr⟩ := h
  obtain ⟨r, v, c, e1, e2, hq⟩ := look_c hn hv S.2.2.2.2.2.2.2.2.2.2.2.2.2.2.2.2.2.2.1 T.2.2.2.2.2.2.2.2.1 T.2.2.2.2.2.2.2.2.2.1 T.2.2.2.2.2.2.2.2.2.2.1 T.2.2.2.2.2.2.2.2.2.2.2.1 p1 p2
  exact ⟨r, _, _, mp_s e1, mp_s e2, ⟨t, t2, hn, hq⟩, hr⟩
theorem sim_prefix (S : xs_T) (T : ys_T) (h : si_R S T) (p1 : Int32) (p2 : Int32) : ∃ (r : Int32) (S2 : xs_T) (T2 : ys_T), px_prefix S p1 p2 = some (r, S2) ∧ py_prefix T p1 p2 = some (r, T2) ∧ si_R S2 T2 := by
  obtain ⟨⟨t, t2, hn, hv⟩, hr⟩ := h
  obtain ⟨r, v, c, e1, e2, hq⟩ := prefix_c hn hv S.2.2.2.2.2.2.2.2.2.2.2.2.2.2.2.2.2.2.1 T.2.2.2.2.2.2.2.2.1 T.2.2.2.2.2.2.2.2.2.1 T.2.2.2.2.2.2.2.2.2.2.1 T.2.2.2.2.2.2.2.2.2.2.2.1 p1 p2
  exact ⟨r, _, _, mp_s e1, mp_s e2, ⟨t, t2, hn, hq⟩, hr⟩
theorem sim_cost (S : xs_T) (T : ys_T) (h : si_R S T) (p1 : Int32) (p2 : Int32) : ∃ (r : Int32) (S2 : xs_T) (T2 : ys_T), px_cost S p1 p2 = some (r, S2) ∧ py_cost T p1 p2 = some (r, T2) ∧ si_R S2 T2 := by
  obtain ⟨⟨t, t2, hn, hv⟩, hr⟩ := h
  obtain ⟨r, v, c, e1, e2, hq⟩ := cost_c hn hv S.2.2.2.2.2.2.2.2.2.2.2.2.2.2.2.2.2.2.1 T.2.2.2.2.2.2.2.2.1 T.2.2.2.2.2.2.2.2.2.1 T.2.2.2.2.2.2.2.2.2.2.1 T.2.2.2.2.2.2.2.2.2.2.2.1 p1 p2
  exact ⟨r, _, _, mp_s e1, mp_s e2, ⟨t, t2, hn, hq⟩, hr⟩
theorem sim_least (S : xs_T) (T : ys_T) (h : si_R S T) (p1 : Int32) (p2 : Int32) : ∃ (r : Int32) (S2 : xs_T) (T2 : ys_T), px_least S p1 p2 = some (r, S2) ∧ py_least T p1 p2 = some (r, T2) ∧ si_R S2 T2 := by
  obtain ⟨⟨t, t2, hn, hv⟩, hr⟩ := h
  obtain ⟨r, v, c, e1, e2, hq⟩ := least_c hn hv S.2.2.2.2.2.2.2.2.2.2.2.2.2.2.2.2.2.2.1 T.2.2.2.2.2.2.2.2.1 T.2.2.2.2.2.2.2.2.2.1 T.2.2.2.2.2.2.2.2.2.2.1 T.2.2.2.2.2.2.2.2.2.2.2.1 p1 p2
  exact ⟨r, _, _, mp_s e1, mp_s e2, ⟨t, t2, hn, hq⟩, hr⟩
theorem sim_change (S : xs_T) (T : ys_T) (h : si_R S T) (p1 : Int32) (p2 : Int32) : ∃ (r : Int32) (S2 : xs_T) (T2 : ys_T), px_change S p1 p2 = some (r, S2) ∧ py_change T p1 p2 = some (r, T2) ∧ si_R S2 T2 := by
  obtain ⟨⟨t, t2, hn, hv⟩, hr⟩ := h
  obtain ⟨r, v, c, e1, e2, hq⟩ := change_c hn hv S.2.2.2.2.2.2.2.2.2.2.2.2.2.2.2.2.2.2.1 T.2.2.2.2.2.2.2.2.1 T.2.2.2.2.2.2.2.2.2.1 T.2.2.2.2.2.2.2.2.2.2.1 T.2.2.2.2.2.2.2.2.2.2.2.1 p1 p2
  exact ⟨r, _, _, mp_s e1, mp_s e2, ⟨t, t2, hn, hq⟩, hr⟩
theorem sim_proof (S : xs_T) (T : ys_T) (h : si_R S T) (p1 : Int32) (p2 : Int32) : ∃ (r : Int32) (S2 : xs_T) (T2 : ys_T), px_proof S p1 p2 = some (r, S2) ∧ py_proof T p1 p2 = some (r, T2) ∧ si_R S2 T2 := by
  obtain ⟨⟨t, t2, hn, hv⟩, hr⟩ := h
  obtain ⟨r, v, c, e1, e2, hq⟩ := proof_c hn hv S.2.2.2.2.2.2.2.2.2.2.2.2.2.2.2.2.2.2.1 T.2.2.2.2.2.2.2.2.1 T.2.2.2.2.2.2.2.2.2.1 T.2.2.2.2.2.2.2.2.2.2.1 T.2.2.2.2.2.2.2.2.2.2.2.1 p1 p2
  exact ⟨r, _, _, mp_s e1, mp_s e2, ⟨t, t2, hn, hq⟩, hr⟩
theorem sim_count (S : xs_T) (T : ys_T) (h : si_R S T) (p1 : Int32) : ∃ (r : Int32) (S2 : xs_T) (T2 : ys_T), px_count S p1 = some (r, S2) ∧ py_count T p1 = some (r, T2) ∧ si_R S2 T2 := by
  obtain ⟨⟨t, t2, hn, hv⟩, hr⟩ := h
  obtain ⟨n, _, ha, hb, _⟩ := hr.1
  obtain ⟨r, v, c, e1, e2, hq⟩ := count_c hn hv S.2.2.2.2.2.2.2.2.2.2.2.2.2.2.2.2.2.2.1 T.2.2.2.2.2.2.2.2.1 T.2.2.2.2.2.2.2.2.2.1 T.2.2.2.2.2.2.2.2.2.2.1 T.2.2.2.2.2.2.2.2.2.2.2.1 (ha.trans hb.symm) p1
  exact ⟨r, _, _, mp_s e1, mp_s e2, ⟨t, t2, hn, hq⟩, hr⟩
