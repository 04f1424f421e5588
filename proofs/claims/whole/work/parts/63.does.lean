/-- what a step leaves: all as it was, or the table told anew behind a note -/
def tq_P (tp : Nat → Int64) (tz : Int32) (ip : Nat → Int64) (iz d : Int32) (kn : Nat → mm_T) (sz old : Int32) (st past : Nat → Int32) (acts : Int32) (t2 : Nat → Nat) (o : (Nat → Int64) × Int32 × (Nat → mm_T) × Int32 × Int32) (y : (Nat → Int32) × (Nat → Int32) × Int32) : Prop := (o = (tp, tz, kn, sz, old) ∧ y = (st, past, acts)) ∨ (∃ u, nq_P o.1 o.2.1 ip iz d y.1 0 u t2 ∧ kp_P o.2.2.1 o.2.2.2.1 y.2.1 y.2.2 ∧ o.2.2.2.2 = 1)
theorem tell_c {tp ip : Nat → Int64} {tz iz d : Int32} {st : Nat → Int32} {t t2 : Nat → Nat} (hn : nq_P tp tz ip iz d st 0 t t2) {kn : Nat → mm_T} {past : Nat → Int32} {sz acts : Int32} (hk : kp_P kn sz past acts) (old : Int32) (p1 p2 : Int32) : ∃ r o y, pf_X6_tell tp tz ip iz d kn sz old p1 p2 = some (r, o) ∧ pf_X7_tell st past acts p1 p2 = some (r, y) ∧ tq_P tp tz ip iz d kn sz old st past acts t2 o y := by
  have ok := tr_ok hn.1
  rw [pf_X6_tell, pf_X7_tell]
  rcases ix_p p1 with h1 | ⟨p, q1, q2, e⟩
  · rw [(isP_n h1).1, (isP_n h1).2]
    simp only [Option.bind_some, if_pos]
    exact ⟨_, _, _, rfl, rfl, Or.inl ⟨rfl, rfl⟩⟩
  subst e
  rw [(isP_y q1 q2).1, (isP_y q1 q2).2]
  rcases ix_c p2 (n := 8) (by decide) (by decide) with h2 | ⟨v, hv, e⟩
  · rw [isH_n h2, show pf_X7_in (Int32.toInt64 p2) 0 7 = some 0 from in_no (l := 0) (m := 7) (by decide) (by decide) h2]
    simp only [Option.bind_some, if_pos, if_neg ok_1]
    exact ⟨_, _, _, rfl, rfl, Or.inl ⟨rfl, rfl⟩⟩
  subst e
  obtain ⟨o, y, eo, ey, hk2, ho⟩ := step_t hn hk old
  obtain ⟨w, ew, hw⟩ := put_t hn.1 q1 q2 hv
  have cu := ct_up t v q1 q2
  rw [if_pos (show v ≠ 8 by omega)] at cu
  rw [isHop_y hv, show pf_X7_in (Int32.toInt64 (nI v)) 0 7 = some 1 from in_yes (l := 0) (m := 7) (by decide) (by omega) (by omega)]
  simp only [Option.bind_some, if_neg ok_1, hopAt_t hn.1 q1 q2, Int32.zero_add, in_bn (show p < 1025 by omega) (show 1025 < 2 ^ 31 by decide), ck_t, lt_b, nI_clamp (show p < 2 ^ 31 by omega), st_t hn q1 q2]
  by_cases c : t p = v
  · rw [if_pos ((hv_eq (ok p q1 q2) hv).mpr c), if_pos (congrArg nI c)]
    exact ⟨_, _, _, rfl, rfl, Or.inl ⟨rfl, rfl⟩⟩
  rw [if_neg (fun g => c ((hv_eq (ok p q1 q2) hv).mp g)), if_neg (fun g => c ((nI_eq (show t p < 2 ^ 31 from Nat.lt_of_le_of_lt (ok p q1 q2) (by decide)) (by omega)).mp g))]
  by_cases c8 : t p = 8
  · rw [if_neg (show ¬ t p ≠ 8 from fun g => g c8)] at cu
    rw [if_pos ((hv_m4 (ok p q1 q2)).mpr c8), if_pos ((nI_8 (ok p q1 q2)).mpr c8), pf_X3_howMany, Option.bind_some, show pf_X7_many st 1025 0 = some (nI (ct_N t)) from many_t (o := 0) hn.2.2.1 ok (by decide) (by decide), Option.bind_some]
    have hc := hn.2.2.2.2.2.1
    by_cases c40 : ct_N t = 40
    · rw [if_neg (show ¬ tz < 40 by rw [hn.1.2, c40]; decide), if_pos (show nI (ct_N t) = 40 by rw [c40]; rfl)]
      exact ⟨_, _, _, rfl, rfl, Or.inl ⟨rfl, rfl⟩⟩
    · rw [if_pos (show tz < 40 by rw [hn.1.2]; exact nI_lt (b := 40) (by omega) (by decide)), if_neg (show ¬ nI (ct_N t) = 40 from fun g => c40 ((nI_eq (b := 40) (by omega) (by decide)).mp g)), eo, ey, Option.bind_some, Option.bind_some, ew, Option.bind_some, if_pos ((hv_m4 (ok p q1 q2)).mpr c8)]
      refine ⟨8, _, _, rfl, by rw [c8]; rfl, Or.inr ⟨_, nq_put hn q2 hw (by omega), hk2, ho⟩⟩
  · rw [if_pos (show t p ≠ 8 from c8)] at cu
    rw [if_neg (fun g => c8 ((hv_m4 (ok p q1 q2)).mp g)), if_neg (fun g => c8 ((nI_8 (ok p q1 q2)).mp g)), eo, ey, Option.bind_some, Option.bind_some, ew, Option.bind_some, if_neg (fun g => c8 ((hv_m4 (ok p q1 q2)).mp g)), hv_in c8]
    have hc := hn.2.2.2.2.2.1
    exact ⟨_, _, _, rfl, rfl, Or.inr ⟨_, nq_put hn q2 hw (by omega), hk2, ho⟩⟩
theorem out_c {tp ip : Nat → Int64} {tz iz d : Int32} {st : Nat → Int32} {t t2 : Nat → Nat} (hn : nq_P tp tz ip iz d st 0 t t2) {kn : Nat → mm_T} {past : Nat → Int32} {sz acts : Int32} (hk : kp_P kn sz past acts) (old : Int32) (p1 : Int32) : ∃ r o y, pf_X6_out tp tz ip iz d kn sz old p1 = some (r, o) ∧ pf_X7_out st past acts p1 = some (r, y) ∧ tq_P tp tz ip iz d kn sz old st past acts t2 o y := by
  have ok := tr_ok hn.1
  rw [pf_X6_out, pf_X7_out]
  rcases ix_p p1 with h1 | ⟨p, q1, q2, e⟩
  · rw [(isP_n h1).1, (isP_n h1).2]
    simp only [Option.bind_some, if_pos]
    exact ⟨_, _, _, rfl, rfl, Or.inl ⟨rfl, rfl⟩⟩
  subst e
  rw [(isP_y q1 q2).1, (isP_y q1 q2).2]
  simp only [Option.bind_some, if_neg ok_1, hopAt_t hn.1 q1 q2, Int32.zero_add, in_bn (show p < 1025 by omega) (show 1025 < 2 ^ 31 by decide), ck_t, lt_b, nI_clamp (show p < 2 ^ 31 by omega), st_t hn q1 q2]
  by_cases c8 : t p = 8
  · rw [if_pos ((hv_m4 (ok p q1 q2)).mpr c8), if_pos ((nI_8 (ok p q1 q2)).mpr c8)]
    exact ⟨_, _, _, rfl, rfl, Or.inl ⟨rfl, rfl⟩⟩
  obtain ⟨o, y, eo, ey, hk2, ho⟩ := step_t hn hk old
  obtain ⟨w, ew, hw⟩ := takeOut_t hn.1 q1 q2 c8
  have cu := ct_up t 8 q1 q2
  rw [if_pos (show t p ≠ 8 from c8), if_neg (show ¬ (8 : Nat) ≠ 8 from fun g => g rfl)] at cu
  have hc := hn.2.2.2.2.2.1
  rw [if_neg (fun g => c8 ((hv_m4 (ok p q1 q2)).mp g)), if_neg (fun g => c8 ((nI_8 (ok p q1 q2)).mp g)), eo, ey, Option.bind_some, Option.bind_some, ew, Option.bind_some, hv_in c8]
  exact ⟨_, _, _, rfl, rfl, Or.inr ⟨_, nq_put (v := 8) hn q2 hw (by omega), hk2, ho⟩⟩
theorem ren88 {t : Nat → Nat} {past : Nat → Int32} {acts x3 : Int32} {hh v : Nat} (h8 : hh < 8) (hv : v < 8) (hne : hh ≠ v) (ok : ok_T t) : ∀ (d p n : Nat) (st : Nat → Int32), p + d = 512 → 1 ≤ p → d < n → (∀ q, p ≤ q → q < 512 → st q = nI (t q)) → ∃ g, lp_X7_rename_88 past acts (nI hh) (nI v) x3 n st (nI p) = some (x3, g, past, acts) ∧ (∀ q, p ≤ q → q < 512 → g q = nI (if t q = hh then v else t q)) ∧ (∀ q, (q < p ∨ 512 ≤ q) → g q = st q)
  | 0, p, n + 1, st, hp, _, _, _ => by
    rw [lp_X7_rename_88, if_pos (show (512 : Int32) ≤ nI p from nI_le (a := 512) (by omega) (by omega))]
    exact ⟨st, rfl, fun q _ _ => by omega, fun q _ => rfl⟩
  | d + 1, p, n + 1, st, hp, h1, hd, hs => by
    have hb : t p ≤ 8 := ok p h1 (by omega)
    rw [lp_X7_rename_88, if_neg (show ¬ (512 : Int32) ≤ nI p from nI_ge (b := 512) (by omega) (by decide)), Int32.zero_add, in_bn (show p < 1025 by omega) (show 1025 < 2 ^ 31 by decide), ck_t, ck_t, ck_t, ck_t, nI_clamp (show p < 2 ^ 31 by omega), hs p (by omega) (by omega), nI_1]
    by_cases c : t p = hh
    · obtain ⟨g, e, ha, hb⟩ := ren88 h8 hv hne ok d (p + 1) n (upd st p (nI v)) (by omega) (by omega) (by omega) (fun q q1 q2 => by rw [pk_un (by omega)]; exact hs q (by omega) q2)
      rw [if_pos (congrArg nI c), e]
      refine ⟨g, rfl, fun q q1 q2 => ?_, fun q hq => ?_⟩
      · by_cases c2 : q = p
        · rw [c2, hb p (by omega), pk_us, if_pos c]
        · exact ha q (by omega) q2
      · rw [hb q (by omega), pk_un (by omega)]
    · obtain ⟨g, e, ha, hb2⟩ := ren88 h8 hv hne ok d (p + 1) n (upd st p (nI (t p))) (by omega) (by omega) (by omega) (fun q q1 q2 => by rw [pk_un (by omega)]; exact hs q (by omega) q2)
      rw [if_neg (fun g => c ((nI_eq (by omega) (by omega)).mp g)), e]
      refine ⟨g, rfl, fun q q1 q2 => ?_, fun q hq => ?_⟩
      · by_cases c2 : q = p
        · rw [c2, hb2 p (by omega), pk_us, if_neg c]
        · exact ha q (by omega) q2
      · rw [hb2 q (by omega), pk_un (by omega)]
  | 0, _, 0, _, _, _, h, _ => by omega
  | d + 1, _, 0, _, _, _, h, _ => by omega
theorem ren39 {st past : Nat → Int32} {t : Nat → Nat} {acts : Int32} {hh : Nat} (x2 : Int32) (h8 : hh < 8) (ok : ok_T t) (hs : ∀ q, 1 ≤ q → q < 512 → st q = nI (t q)) : ∀ (d p n r : Nat), p + d = 512 → 1 ≤ p → d < n → lp_X7_rename_39 st past acts (nI hh) x2 n (nI r) (nI p) = if nI (r + cf_N (fun q => decide (t q = hh)) d p) = 0 then some ((-4), st, past, acts) else (pf_X7_notes st past acts).bind (fun r10 => lp_X7_rename_88 r10.1 r10.2 (nI hh) x2 (nI (r + cf_N (fun q => decide (t q = hh)) d p)) fu_N st 1)
  | 0, p, n + 1, r, hp, _, _ => by
    rw [lp_X7_rename_39, if_pos (show (512 : Int32) ≤ nI p from nI_le (a := 512) (by omega) (by omega))]
    rfl
  | d + 1, p, n + 1, r, hp, h1, hd => by
    have hb : t p ≤ 8 := ok p h1 (by omega)
    rw [lp_X7_rename_39, if_neg (show ¬ (512 : Int32) ≤ nI p from nI_ge (b := 512) (by omega) (by decide)), Int32.zero_add, in_bn (show p < 1025 by omega) (show 1025 < 2 ^ 31 by decide), ck_t, nI_clamp (show p < 2 ^ 31 by omega), hs p (by omega) (by omega), nI_1 p, cf_N]
    by_cases c : t p = hh
    · rw [if_pos (congrArg nI c), if_pos (decide_eq_true c), nI_1 r, ren39 x2 h8 ok hs d (p + 1) n (r + 1) (by omega) (by omega) (by omega), Nat.add_assoc]
    · rw [if_neg (fun g => c ((nI_eq (by omega) (by omega)).mp g)), if_neg (show ¬ decide (t p = hh) = true from fun g => c (of_decide_eq_true g)), show nI r + 0 = nI r from Int32.add_zero _, ren39 x2 h8 ok hs d (p + 1) n r (by omega) (by omega) (by omega), Nat.zero_add]
  | 0, _, 0, _, _, _, h => by omega
  | d + 1, _, 0, _, _, _, h => by omega
theorem rn_ct {t : Nat → Nat} {hh v : Nat} (h8 : hh < 8) (hv : v < 8) : ct_N (rn_N t hh v 1) = ct_N t := by
  rw [ct_cf, ct_cf]
  refine cf_cg 511 1 (fun q q1 q2 => ?_)
  rw [in_T, in_T, rn_N]
  by_cases c : t q = hh
  · rw [if_pos ⟨q1, c⟩, decide_eq_true (show v ≠ 8 by omega), decide_eq_true (show t q ≠ 8 by omega)]
  · rw [if_neg (fun g => c g.2)]
theorem rename_c {tp ip : Nat → Int64} {tz iz d : Int32} {st : Nat → Int32} {t t2 : Nat → Nat} (hn : nq_P tp tz ip iz d st 0 t t2) {kn : Nat → mm_T} {past : Nat → Int32} {sz acts : Int32} (hk : kp_P kn sz past acts) (old : Int32) (p1 p2 : Int32) : ∃ r o y, pf_X6_rename tp tz ip iz d kn sz old p1 p2 = some (r, o) ∧ pf_X7_rename st past acts p1 p2 = some (r, y) ∧ tq_P tp tz ip iz d kn sz old st past acts t2 o y := by
  have ok := tr_ok hn.1
  rw [pf_X6_rename, pf_X7_rename]
  rcases ix_c p1 (n := 8) (by decide) (by decide) with h1 | ⟨g, hg, e⟩
  · rw [isH_n h1, show pf_X7_in (Int32.toInt64 p1) 0 7 = some 0 from in_no (l := 0) (m := 7) (by decide) (by decide) h1]
    simp only [Option.bind_some, if_pos]
    exact ⟨_, _, _, rfl, rfl, Or.inl ⟨rfl, rfl⟩⟩
  subst e
  rw [isHop_y hg, show pf_X7_in (Int32.toInt64 (nI g)) 0 7 = some 1 from in_yes (l := 0) (m := 7) (by decide) (by omega) (by omega)]
  rcases ix_c p2 (n := 8) (by decide) (by decide) with h2 | ⟨v, hv, e⟩
  · rw [isH_n h2, show pf_X7_in (Int32.toInt64 p2) 0 7 = some 0 from in_no (l := 0) (m := 7) (by decide) (by decide) h2]
    simp only [Option.bind_some, if_pos, if_neg ok_1]
    exact ⟨_, _, _, rfl, rfl, Or.inl ⟨rfl, rfl⟩⟩
  subst e
  rw [isHop_y hv, show pf_X7_in (Int32.toInt64 (nI v)) 0 7 = some 1 from in_yes (l := 0) (m := 7) (by decide) (by omega) (by omega)]
  simp only [Option.bind_some, if_neg ok_1]
  by_cases c : g = v
  · rw [if_pos (congrArg nI c), if_pos (congrArg nI c)]
    exact ⟨_, _, _, rfl, rfl, Or.inl ⟨rfl, rfl⟩⟩
  have cI : ¬ nI g = nI v := fun h => c ((nI_eq (by omega) (by omega)).mp h)
  have hle := cf_le (fun q => decide (t q = g)) 511 1
  rw [if_neg cI, if_neg cI, hasHop_t hn.1 hg, Option.bind_some, show lp_X7_rename_39 st past acts (nI g) (nI v) fu_N 0 1 = _ from ren39 (nI v) hg ok (fun q a b => st_t hn a b) 511 1 fu_N 0 (by omega) (by omega) (by decide), Nat.zero_add]
  by_cases c0 : cf_N (fun q => decide (t q = g)) 511 1 = 0
  · rw [if_pos c0, if_pos rfl, if_pos (show nI (cf_N (fun q => decide (t q = g)) 511 1) = 0 by rw [c0]; rfl)]
    exact ⟨_, _, _, rfl, rfl, Or.inl ⟨rfl, rfl⟩⟩
  obtain ⟨o, y, eo, ey, hk2, ho⟩ := step_t hn hk old
  obtain ⟨w, ew, hr, hw⟩ := replace_t hn.1 hg hv c
  obtain ⟨gg, eg, ha, hb⟩ := ren88 (past := y.1) (acts := y.2) (x3 := nI (cf_N (fun q => decide (t q = g)) 511 1)) hg hv c ok 511 1 fu_N st (by omega) (by omega) (by decide) (fun q a b => st_t hn a b)
  rw [if_neg c0, if_neg ok_1, if_neg (nI_ne0 (by omega) (by omega)), eo, ey, Option.bind_some, Option.bind_some, ew, Option.bind_some, show lp_X7_rename_88 y.1 y.2 (nI g) (nI v) (nI (cf_N (fun q => decide (t q = g)) 511 1)) fu_N st 1 = _ from eg]
  refine ⟨_, _, _, rfl, by rw [hr], Or.inr ⟨_, nq_told hn hw (fun q a b => ?_) (fun q a => hb q (by omega)) ?_, hk2, ho⟩⟩
  · show gg q = _
    rw [ha q a b, rn_N]
    by_cases c3 : t q = g
    · rw [if_pos c3, if_pos ⟨a, c3⟩]
    · rw [if_neg c3, if_neg (fun h => c3 h.2)]
  · rw [rn_ct hg hv]; exact hn.2.2.2.2.2.1
theorem sim_tell (S : xs_T) (T : ys_T) (h : si_R S T) (p1 : Int32) (p2 : Int32) : ∃ (r : Int32) (S2 : xs_T) (T2 : ys_T), px_tell S p1 p2 = some (r, S2) ∧ py_tell T p1 p2 = some (r, T2) ∧ si_R S2 T2 := by
  obtain ⟨⟨t, t2, hn, hv⟩, hr⟩ := h
  obtain ⟨r, o, y, e1, e2, hq⟩ := tell_c hn hr.1 S.2.2.2.2.2.2.2.2.2.2.2.2.2.2.2.2.2.2.2.2.2.2.2.2.2.2.2.2.2.2.2 p1 p2
  rcases hq with ⟨eo, ey⟩ | ⟨u, hn2, hk2, h1⟩
  · subst eo
    subst ey
    exact ⟨r, _, _, mp_s e1, mp_s e2, ⟨t, t2, hn, hv⟩, hr⟩
  · exact ⟨r, _, _, mp_s e1, mp_s e2, ⟨u, t2, hn2, Or.inl h1⟩, hk2, hr.2⟩
theorem sim_out (S : xs_T) (T : ys_T) (h : si_R S T) (p1 : Int32) : ∃ (r : Int32) (S2 : xs_T) (T2 : ys_T), px_out S p1 = some (r, S2) ∧ py_out T p1 = some (r, T2) ∧ si_R S2 T2 := by
  obtain ⟨⟨t, t2, hn, hv⟩, hr⟩ := h
  obtain ⟨r, o, y, e1, e2, hq⟩ := out_c hn hr.1 S.2.2.2.2.2.2.2.2.2.2.2.2.2.2.2.2.2.2.2.2.2.2.2.2.2.2.2.2.2.2.2 p1
  rcases hq with ⟨eo, ey⟩ | ⟨u, hn2, hk2, h1⟩
  · subst eo
    subst ey
    exact ⟨r, _, _, mp_s e1, mp_s e2, ⟨t, t2, hn, hv⟩, hr⟩
  · exact ⟨r, _, _, mp_s e1, mp_s e2, ⟨u, t2, hn2, Or.inl h1⟩, hk2, hr.2⟩
theorem sim_rename (S : xs_T) (T : ys_T) (h : si_R S T) (p1 : Int32) (p2 : Int32) : ∃ (r : Int32) (S2 : xs_T) (T2 : ys_T), px_rename S p1 p2 = some (r, S2) ∧ py_rename T p1 p2 = some (r, T2) ∧ si_R S2 T2 := by
  obtain ⟨⟨t, t2, hn, hv⟩, hr⟩ := h
  obtain ⟨r, o, y, e1, e2, hq⟩ := rename_c hn hr.1 S.2.2.2.2.2.2.2.2.2.2.2.2.2.2.2.2.2.2.2.2.2.2.2.2.2.2.2.2.2.2.2 p1 p2
  rcases hq with ⟨eo, ey⟩ | ⟨u, hn2, hk2, h1⟩
  · subst eo
    subst ey
    exact ⟨r, _, _, mp_s e1, mp_s e2, ⟨t, t2, hn, hv⟩, hr⟩
  · exact ⟨r, _, _, mp_s e1, mp_s e2, ⟨u, t2, hn2, Or.inl h1⟩, hk2, hr.2⟩
theorem sim_install (S : xs_T) (T : ys_T) (h : si_R S T)  : ∃ (r : Int32) (S2 : xs_T) (T2 : ys_T), px_install S  = some (r, S2) ∧ py_install T  = some (r, T2) ∧ si_R S2 T2 := by
  obtain ⟨⟨t, t2, hn, hv⟩, hr⟩ := h
  have ok := tr_ok hn.1
  have ok2 := tr_ok hn.2.1
  have lk := le_ok ok
  obtain ⟨o, eo, hw, h0⟩ := fresh_t hn hv S.2.2.2.2.2.2.2.2.2.2.2.2.2.2.2.2.2.2.1
  obtain ⟨y, ey, hy⟩ := lays_t hn.2.2.1 hn.2.2.2.1 ok ok2 T.2.2.2.2.2.2.2.2.1 T.2.2.2.2.2.2.2.2.2.1 T.2.2.2.2.2.2.2.2.2.2.1 T.2.2.2.2.2.2.2.2.2.2.2.1
  obtain ⟨w, z, ew, ez, hk2, h1⟩ := step_t hn hr.1 o.2.2.2.2.2.2.2.2.2
  obtain ⟨q, eq, hq⟩ := takeFrom_t (pl := S.2.2.1) (sz := S.2.2.2.1) hw.2.2.2.2
  obtain ⟨g, eg, ha, hb⟩ := bring_t (f1 := y.1) (f3 := T.1) (n1 := 512) (n3 := 1025) (i := 1) (j := 513) (n := 511) (by omega) (by omega) (by decide) (by decide) (by decide)
  have eg' : pf_X7_bring y.1 T.1 512 1025 1 513 511 = some g := eg
  have hle := cf_le (ch_B (le_N t) t2) 511 1
  by_cases c : cf_N (ch_B (le_N t) t2) 511 1 = 0
  · refine ⟨-2, _, _, mp_s (a := (-2, S.2.2.1, S.2.2.2.1, S.2.2.2.2.2.1, S.2.2.2.2.2.2.1, o)) ?_, mp_s (a := (-2, T.1, T.2.1, y.1, y.2.1, y.2.2.1, y.2.2.2, T.2.2.2.2.2.2.2.2.2.2.2.2.2.2.1)) ?_, ⟨t, t2, hn, Or.inr ⟨h0, hw⟩⟩, hr⟩
    · rw [pf_X6_install, eo, Option.bind_some, cchg_t hw.2.2.2.1 hw.2.2.2.2, Option.bind_some, c, if_pos nI_0]
    · rw [pf_X7_install, ey, Option.bind_some, changes_t hy.1 hn.2.2.2.1 lk ok2, Option.bind_some, c, if_pos nI_0]
  · refine ⟨nI (cf_N (ch_B (le_N t) t2) 511 1), _, _, mp_s (a := (nI (cf_N (ch_B (le_N t) t2) 511 1), q.1, q.2, w.1, w.2.1, o.1, o.2.1, o.2.2.1, o.2.2.2.1, o.2.2.2.2.1, o.2.2.2.2.2.1, o.2.2.2.2.2.2.1, o.2.2.2.2.2.2.2.1, o.2.2.2.2.2.2.2.2.1, w.2.2)) ?_, mp_s (a := (nI (cf_N (ch_B (le_N t) t2) 511 1), g, z.1, y.1, y.2.1, y.2.2.1, y.2.2.2, z.2)) ?_, ⟨t, le_N t, ⟨hn.1, hq, ?_, ?_, ?_, hn.2.2.2.2.2⟩, Or.inl h1⟩, hk2, hr.2⟩
    · rw [pf_X6_install, eo, Option.bind_some, cchg_t hw.2.2.2.1 hw.2.2.2.2, Option.bind_some, if_neg (nI_ne0 (by omega) (by omega)), ew, Option.bind_some, eq, Option.bind_some]
    · rw [pf_X7_install, ey, Option.bind_some, changes_t hy.1 hn.2.2.2.1 lk ok2, Option.bind_some, if_neg (nI_ne0 (by omega) (by omega)), ez, Option.bind_some, eg', Option.bind_some]
    · intro p a b
      show g (0 + p) = _
      rw [hb _ (by omega)]
      exact hn.2.2.1 p a b
    · intro p a b
      show g (0 + 512 + p) = _
      have e := ha (p - 1) (by omega)
      rw [show 513 + (p - 1) = 0 + 512 + p by omega, show 1 + (p - 1) = 0 + p by omega] at e
      rw [e]
      exact hy.1 p a b
    · show g (0 + 1024) = _
      rw [hb _ (by omega)]
      exact hn.2.2.2.2.1
theorem sim_seed (S : xs_T) (T : ys_T) (h : si_R S T) (p1 : Int32) : ∃ (r : Int32) (S2 : xs_T) (T2 : ys_T), px_seed S p1 = some (r, S2) ∧ py_seed T p1 = some (r, T2) ∧ si_R S2 T2 := by
  obtain ⟨⟨t, t2, hn, hv⟩, hr⟩ := h
  by_cases c : 0 ≤ p1
  · refine ⟨S.2.2.2.2.1, _, _, mp_s (a := (S.2.2.2.2.1, p1)) ?_, mp_s (a := (S.2.2.2.2.1, upd T.1 1024 p1)) ?_, ⟨t, t2, ⟨hn.1, hn.2.1, ?_, ?_, ?_, hn.2.2.2.2.2.1, ?_⟩, hv⟩, hr⟩
    · rw [pf_X6_seed, if_pos c]; rfl
    · rw [pf_X7_seed, if_pos c, lt_b, show T.1 (Int32.toNatClampNeg 1024) = S.2.2.2.2.1 from hn.2.2.2.2.1]; rfl
    · intro p a b
      show upd T.1 1024 p1 (0 + p) = _
      rw [pk_un (by omega)]; exact hn.2.2.1 p a b
    · intro p a b
      show upd T.1 1024 p1 (0 + 512 + p) = _
      rw [pk_un (by omega)]; exact hn.2.2.2.1 p a b
    · exact (pk_us : upd T.1 1024 p1 1024 = p1)
    · show ¬ p1 < 0
      rw [fa_le] at c
      rw [fa_lt]
      omega
  · refine ⟨-1, _, _, mp_s (a := (-1, S.2.2.2.2.1)) ?_, mp_s (a := (-1, T.1)) ?_, ⟨t, t2, hn, hv⟩, hr⟩
    · rw [pf_X6_seed, if_neg c]
    · rw [pf_X7_seed, if_neg c]
theorem sim_undo (S : xs_T) (T : ys_T) (h : si_R S T)  : ∃ (r : Int32) (S2 : xs_T) (T2 : ys_T), px_undo S  = some (r, S2) ∧ py_undo T  = some (r, T2) ∧ si_R S2 T2 := by
  obtain ⟨⟨t, t2, hn, hv⟩, hr⟩ := h
  obtain ⟨n, h6, e1, e2, hk⟩ := hr.1
  by_cases c : n = 0
  · refine ⟨-4, _, _, mp_s (a := (-4, S.1, S.2.1, S.2.2.1, S.2.2.2.1, S.2.2.2.2.1, S.2.2.2.2.2.2.1, S.2.2.2.2.2.2.2.2.2.2.2.2.2.2.2.2.2.2.2.2.2.2.2.2.2.2.2.2.2.2.2)) ?_, mp_s (a := (-4, T.1, T.2.2.2.2.2.2.2.2.2.2.2.2.2.2.1)) ?_, ⟨t, t2, hn, hv⟩, hr⟩
    · rw [pf_X6_undo, pf_X0_howManyKnown, Option.bind_some, if_pos (show S.2.2.2.2.2.2.1 = 0 by rw [e1, c]; rfl)]
    · rw [pf_X7_undo, if_pos (show T.2.2.2.2.2.2.2.2.2.2.2.2.2.2.1 = 0 by rw [e2, c]; rfl)]
  · obtain ⟨m, em, hm⟩ := mtake_t S.1 S.2.1 S.2.2.1 S.2.2.2.1 S.2.2.2.2.1 (S.2.2.2.2.2.1 (n - 1)).1 (S.2.2.2.2.2.1 (n - 1)).2.1 (S.2.2.2.2.2.1 (n - 1)).2.2.1 (S.2.2.2.2.2.1 (n - 1)).2.2.2.1 (S.2.2.2.2.2.1 (n - 1)).2.2.2.2
    obtain ⟨g, eg, ha, _⟩ := bring_t (f1 := T.2.1) (f3 := T.1) (n1 := 6150) (n3 := 1025) (i := 1025 * (n - 1)) (j := 0) (n := 1025) (by omega) (by omega) (by decide) (by decide) (by decide)
    have eg' : pf_X7_bring T.2.1 T.1 6150 1025 (nI (1025 * (n - 1))) 0 1025 = some g := eg
    obtain ⟨u, u2, hu⟩ := hk (n - 1) (by omega)
    have em1 : nI n - 1 = nI (n - 1) := pk_sub (b := 1) (by omega)
    refine ⟨nI (n - 1), _, _, mp_s (a := (nI (n - 1), m.1, m.2.1, m.2.2.1, m.2.2.2.1, m.2.2.2.2, nI (n - 1), 1)) ?_, mp_s (a := (nI (n - 1), g, nI (n - 1))) ?_, ⟨u, u2, nq_mv (hm _ _ _ _ hu) (fun k hk => ha k hk), Or.inl rfl⟩, ⟨n - 1, by omega, rfl, rfl, fun j hj => hk j (by omega)⟩, hr.2⟩
    · rw [pf_X6_undo, pf_X0_howManyKnown, Option.bind_some, e1, if_neg (nI_ne0 (by omega) (by omega)), pf_X0_goBack, if_neg (nI_nle (by omega) (by omega)), em1, in_bn (show n - 1 < 6 by omega) (show 6 < 2 ^ 31 by decide), ck_t, nI_clamp (show n - 1 < 2 ^ 31 by omega), em]
      rfl
    · rw [pf_X7_undo, e2, if_neg (nI_ne0 (by omega) (by omega)), em1, show (1025 : Int32) * nI (n - 1) = nI (1025 * (n - 1)) from pk_mul 1025 _, eg', Option.bind_some]
theorem tall_lp (a : Nat → Int64) (b : Int32) (a2 : Nat → Int64) (b2 b3 sz : Int32) (kn2 : Nat → mm_T) (sz2 : Int32) : ∀ (d i F : Nat) (kn : Nat → mm_T), i + d = 6 → d < F → ∃ k, lp_X0_takeAllFrom_13 a b a2 b2 b3 sz kn2 sz2 F kn (nI i) = some (a, b, a2, b2, b3, k, sz2) ∧ (∀ j, i ≤ j → j < 6 → ∀ f o, mo_P (kn2 j) f o → mo_P (k j) f o) ∧ ∀ j, j < i → k j = kn j
  | 0, i, F + 1, kn, hi, _ => by
    rw [lp_X0_takeAllFrom_13, if_pos (show (6 : Int32) ≤ nI i from nI_le (a := 6) (by omega) (by omega))]
    exact ⟨kn, rfl, fun j a b => by omega, fun j _ => rfl⟩
  | d + 1, i, F + 1, kn, hi, hF => by
    obtain ⟨m, em, hm⟩ := mtake_t (kn i).1 (kn i).2.1 (kn i).2.2.1 (kn i).2.2.2.1 (kn i).2.2.2.2 (kn2 i).1 (kn2 i).2.1 (kn2 i).2.2.1 (kn2 i).2.2.2.1 (kn2 i).2.2.2.2
    obtain ⟨k, ek, ha, hb⟩ := tall_lp a b a2 b2 b3 sz kn2 sz2 d (i + 1) F (va_up kn i (m.1, m.2.1, m.2.2.1, m.2.2.2.1, m.2.2.2.2)) (by omega) (by omega)
    rw [lp_X0_takeAllFrom_13, if_neg (show ¬ (6 : Int32) ≤ nI i from nI_ge (b := 6) (by omega) (by decide)), in_bn (show i < 6 by omega) (show 6 < 2 ^ 31 by decide), ck_t, ck_t, nI_clamp (show i < 2 ^ 31 by omega), em, Option.bind_some, nI_1, ek]
    refine ⟨k, rfl, fun j j1 j2 f o hj => ?_, fun j hj => ?_⟩
    · by_cases c : j = i
      · subst c
        rw [hb j (by omega), va_up_self]
        obtain ⟨t, t2, h⟩ := hj
        exact ⟨t, t2, hm _ _ _ _ h⟩
      · exact ha j (by omega) j2 f o hj
    · rw [hb j (by omega), va_up_ne _ _ (by omega)]
  | 0, _, 0, _, _, h => by omega
  | d + 1, _, 0, _, _, h => by omega
theorem tall_t (a : Nat → Int64) (b : Int32) (a2 : Nat → Int64) (b2 b3 : Int32) (kn : Nat → mm_T) (sz : Int32) (tp : Nat → Int64) (tz : Int32) (ip : Nat → Int64) (iz d : Int32) (kn2 : Nat → mm_T) (sz2 : Int32) : ∃ o, pf_X0_takeAllFrom a b a2 b2 b3 kn sz tp tz ip iz d kn2 sz2 = some o ∧ (∀ f k t t2, nq_P tp tz ip iz d f k t t2 → nq_P o.1 o.2.1 o.2.2.1 o.2.2.2.1 o.2.2.2.2.1 f k t t2) ∧ o.2.2.2.2.2.2 = sz2 ∧ ∀ j, j < 6 → ∀ f k, mo_P (kn2 j) f k → mo_P (o.2.2.2.2.2.1 j) f k := by
  obtain ⟨m, em, hm⟩ := mtake_t a b a2 b2 b3 tp tz ip iz d
  obtain ⟨k, ek, ha, _⟩ := tall_lp m.1 m.2.1 m.2.2.1 m.2.2.2.1 m.2.2.2.2 sz kn2 sz2 6 0 fu_N kn (by omega) (by decide)
  rw [pf_X0_takeAllFrom, em, Option.bind_some, show lp_X0_takeAllFrom_13 m.1 m.2.1 m.2.2.1 m.2.2.2.1 m.2.2.2.2 sz kn2 sz2 fu_N kn 0 = _ from ek]
  exact ⟨_, rfl, hm, rfl, fun j hj f o h => ha j (by omega) hj f o h⟩
theorem kp_mv {kn kn2 : Nat → mm_T} {sz acts : Int32} {past past2 : Nat → Int32} (h : kp_P kn sz past acts) (hk : ∀ j, j < 6 → ∀ f k, mo_P (kn j) f k → mo_P (kn2 j) f k) (e : ∀ k, k < 6150 → past2 k = past k) : kp_P kn2 sz past2 acts := by
  obtain ⟨n, h6, e1, e2, h⟩ := h
  exact ⟨n, h6, e1, e2, fun j hj => mo_mv (hk j (by omega) _ _ (h j hj)) (fun k hk => e _ (by omega))⟩
theorem all_t (f f3 : Nat → Int32) : (∃ g, pf_X7_bring f f3 1025 1025 0 0 1025 = some g ∧ ∀ k, k < 1025 → g k = f k) ∧ (∃ g, pf_X7_bring f f3 6150 6150 0 0 6150 = some g ∧ ∀ k, k < 6150 → g k = f k) := by
  obtain ⟨g, eg, ha, _⟩ := bring_t (f1 := f) (f3 := f3) (n1 := 1025) (n3 := 1025) (i := 0) (j := 0) (n := 1025) (by omega) (by omega) (by decide) (by decide) (by decide)
  obtain ⟨g2, eg2, ha2, _⟩ := bring_t (f1 := f) (f3 := f3) (n1 := 6150) (n3 := 6150) (i := 0) (j := 0) (n := 6150) (by omega) (by omega) (by decide) (by decide) (by decide)
  refine ⟨⟨g, eg, fun k hk => ?_⟩, ⟨g2, eg2, fun k hk => ?_⟩⟩
  · have e := ha k hk
    rw [Nat.zero_add] at e
    exact e
  · have e := ha2 k hk
    rw [Nat.zero_add] at e
    exact e
theorem sim_image (S : xs_T) (T : ys_T) (h : si_R S T)  : ∃ (r : Int32) (S2 : xs_T) (T2 : ys_T), px_image S  = some (r, S2) ∧ py_image T  = some (r, T2) ∧ si_R S2 T2 := by
  obtain ⟨⟨t, t2, hn, hv⟩, hr⟩ := h
  obtain ⟨o, eo, h1, h2, h3⟩ := tall_t S.2.2.2.2.2.2.2.1 S.2.2.2.2.2.2.2.2.1 S.2.2.2.2.2.2.2.2.2.1 S.2.2.2.2.2.2.2.2.2.2.1 S.2.2.2.2.2.2.2.2.2.2.2.1 S.2.2.2.2.2.2.2.2.2.2.2.2.1 S.2.2.2.2.2.2.2.2.2.2.2.2.2.1 S.1 S.2.1 S.2.2.1 S.2.2.2.1 S.2.2.2.2.1 S.2.2.2.2.2.1 S.2.2.2.2.2.2.1
  obtain ⟨g, eg, hg⟩ := (all_t T.1 T.2.2.1).1
  obtain ⟨g2, eg2, hg2⟩ := (all_t T.2.1 T.2.2.2.1).2
  refine ⟨1, _, _, mp_s (a := (1, o.1, o.2.1, o.2.2.1, o.2.2.2.1, o.2.2.2.2.1, o.2.2.2.2.2.1, o.2.2.2.2.2.2, 1)) ?_, mp_s (a := (1, g, g2, T.2.2.2.2.2.2.2.2.2.2.2.2.2.2.1)) ?_, ⟨t, t2, hn, hv⟩, hr.1, Or.inr ⟨rfl, ⟨t, t2, nq_mv (h1 _ _ _ _ hn) (fun k hk => ?_)⟩, ?_⟩, hr.2.2⟩
  · rw [pf_X6_image, eo, Option.bind_some]
  · rw [pf_X7_image, eg, Option.bind_some, eg2, Option.bind_some]
  · show g (0 + k) = T.1 (0 + k)
    rw [Nat.zero_add]; exact hg k hk
  · show kp_P o.2.2.2.2.2.1 o.2.2.2.2.2.2 g2 T.2.2.2.2.2.2.2.2.2.2.2.2.2.2.1
    rw [h2]
    exact kp_mv hr.1 h3 hg2
theorem sim_restore (S : xs_T) (T : ys_T) (h : si_R S T)  : ∃ (r : Int32) (S2 : xs_T) (T2 : ys_T), px_restore S  = some (r, S2) ∧ py_restore T  = some (r, T2) ∧ si_R S2 T2 := by
  obtain ⟨⟨t, t2, hn, hv⟩, hr⟩ := h
  rcases hr.2.1 with ⟨e1, e2⟩ | ⟨e1, ⟨u, u2, hu⟩, hk⟩
  · refine ⟨-4, _, _, mp_s (a := (-4, S.1, S.2.1, S.2.2.1, S.2.2.2.1, S.2.2.2.2.1, S.2.2.2.2.2.1, S.2.2.2.2.2.2.1, S.2.2.2.2.2.2.2.2.2.2.2.2.2.2.2.2.2.2.2.2.2.2.2.2.2.2.2.2.2.2.2)) ?_, mp_s (a := (-4, T.1, T.2.1, T.2.2.2.2.2.2.2.2.2.2.2.2.2.2.1)) ?_, ⟨t, t2, hn, hv⟩, hr⟩
    · rw [pf_X6_restore, if_pos e1]
    · rw [pf_X7_restore, e2, if_neg (show ¬ (0 : Int32) ≤ -1 by decide)]
  · obtain ⟨o, eo, h1, h2, h3⟩ := tall_t S.1 S.2.1 S.2.2.1 S.2.2.2.1 S.2.2.2.2.1 S.2.2.2.2.2.1 S.2.2.2.2.2.2.1 S.2.2.2.2.2.2.2.1 S.2.2.2.2.2.2.2.2.1 S.2.2.2.2.2.2.2.2.2.1 S.2.2.2.2.2.2.2.2.2.2.1 S.2.2.2.2.2.2.2.2.2.2.2.1 S.2.2.2.2.2.2.2.2.2.2.2.2.1 S.2.2.2.2.2.2.2.2.2.2.2.2.2.1
    obtain ⟨g, eg, hg⟩ := (all_t T.2.2.1 T.1).1
    obtain ⟨g2, eg2, hg2⟩ := (all_t T.2.2.2.1 T.2.1).2
    have hk0 := hk
    obtain ⟨n, hn6, en, ea, _⟩ := hk
    refine ⟨1, _, _, mp_s (a := (1, o.1, o.2.1, o.2.2.1, o.2.2.2.1, o.2.2.2.2.1, o.2.2.2.2.2.1, o.2.2.2.2.2.2, 1)) ?_, mp_s (a := (1, g, g2, T.2.2.2.2.2.2.2.2.2.2.2.2.2.2.2.1)) ?_, ⟨u, u2, nq_mv (h1 _ _ _ _ hu) (fun k hk => ?_), Or.inl rfl⟩, ?_, hr.2⟩
    · rw [pf_X6_restore, e1, if_neg ok_1, eo, Option.bind_some]
    · rw [pf_X7_restore, if_pos (show (0 : Int32) ≤ T.2.2.2.2.2.2.2.2.2.2.2.2.2.2.2.1 by rw [ea]; exact nI_pos' (by omega)), eg, Option.bind_some, eg2, Option.bind_some]
    · show g (0 + k) = T.2.2.1 (0 + k)
      rw [Nat.zero_add]; exact hg k hk
    · show kp_P o.2.2.2.2.2.1 o.2.2.2.2.2.2 g2 T.2.2.2.2.2.2.2.2.2.2.2.2.2.2.2.1
      rw [h2]
      exact kp_mv hk0 h3 hg2
