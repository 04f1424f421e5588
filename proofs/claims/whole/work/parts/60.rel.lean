/-- ranges -/
theorem in_no {x : Int32} {l m : Nat} (hl : l < 2 ^ 31) (hm : m < 2 ^ 31) (h : x < nI l ∨ nI m < x) : pf_X7_in (Int32.toInt64 x) (lN l) (lN m) = some 0 := by
  rw [pf_X7_in]
  have e1 : lg_cmp (Int32.toInt64 x) (lN l) < 0 ↔ x < nI l := by rw [lg_cmp_lt, ← nI_l hl, fa_wide_lt]
  have e2 : 0 < lg_cmp (Int32.toInt64 x) (lN m) ↔ nI m < x := by rw [lg_cmp_gt, ← nI_l hm, fa_wide_lt]
  by_cases c : x < nI l
  · rw [if_pos (e1.mpr c)]
  · rw [if_neg (fun g => c (e1.mp g)), if_pos (e2.mpr (h.resolve_left c))]
theorem in_yes {j l m : Nat} (hm : m < 2 ^ 31) (h1 : l ≤ j) (h2 : j ≤ m) : pf_X7_in (Int32.toInt64 (nI j)) (lN l) (lN m) = some 1 := by
  rw [pf_X7_in]
  have e1 : lg_cmp (Int32.toInt64 (nI j)) (lN l) < 0 ↔ nI j < nI l := by rw [lg_cmp_lt, ← nI_l (show l < 2 ^ 31 by omega), fa_wide_lt]
  have e2 : 0 < lg_cmp (Int32.toInt64 (nI j)) (lN m) ↔ nI m < nI j := by rw [lg_cmp_gt, ← nI_l hm, fa_wide_lt]
  rw [if_neg (fun g => nI_nlt h1 (by omega) (e1.mp g)), if_neg (fun g => nI_nlt h2 (by omega) (e2.mp g))]
theorem ix_c (x : Int32) {n : Nat} (h1 : 1 ≤ n) (hn : n < 2 ^ 31) : (x < nI 0 ∨ nI (n - 1) < x) ∨ ∃ j : Nat, j < n ∧ x = nI j := by
  rcases pk_ix x hn with h | h | h
  · exact Or.inl (Or.inl h)
  · refine Or.inl (Or.inr ?_)
    rw [fa_lt, nI_toInt (by omega)]
    rw [fa_le, nI_toInt hn] at h
    omega
  · exact Or.inr h
theorem ix_p (x : Int32) : (x < nI 1 ∨ nI 511 < x) ∨ ∃ j : Nat, 1 ≤ j ∧ j < 512 ∧ x = nI j := by
  rcases ix_c x (n := 512) (by decide) (by decide) with (h | h) | ⟨j, hj, e⟩
  · refine Or.inl (Or.inl ?_)
    rw [fa_lt, nI_toInt (by decide)] at h ⊢
    omega
  · exact Or.inl (Or.inr h)
  · by_cases c : j = 0
    · refine Or.inl (Or.inl ?_)
      rw [e, c]
      exact nI_lt (by decide) (by decide)
    · exact Or.inr ⟨j, by omega, hj, e⟩
theorem isA_n {x : Int32} (h : x < nI 0 ∨ nI 255 < x) : pf_X6_isAddress x = some 0 := by
  rw [pf_X6_isAddress]
  by_cases c : x < 0
  · rw [if_pos c]
  · rw [if_neg c, if_pos]
    rcases h with h | h
    · exact absurd h c
    · rw [fa_lt, nI_toInt (by decide)] at h
      rw [fa_le, show (256 : Int32).toInt = 256 from rfl]
      omega
theorem isA_y {a : Nat} (h : a < 256) : pf_X6_isAddress (nI a) = some 1 := by
  rw [pf_X6_isAddress, if_neg (nI_pos (by omega)), if_neg (show ¬ (256 : Int32) ≤ nI a from nI_ge (b := 256) h (by decide))]
theorem isS_n {x : Int32} (h : x < nI 0 ∨ nI 3 < x) : pf_X6_isSheet x = some 0 ∧ pf_X6_isLane x = some 0 := by
  rw [pf_X6_isSheet, pf_X6_isLane]
  by_cases c : x < 0
  · rw [if_pos c]; exact ⟨rfl, rfl⟩
  · have d : (4 : Int32) ≤ x := by
      rcases h with h | h
      · exact absurd h c
      · rw [fa_lt, nI_toInt (by decide)] at h
        rw [fa_le, show (4 : Int32).toInt = 4 from rfl]
        omega
    rw [if_neg c, if_pos d]; exact ⟨rfl, rfl⟩
theorem isS_y {a : Nat} (h : a < 4) : pf_X6_isSheet (nI a) = some 1 ∧ pf_X6_isLane (nI a) = some 1 := by
  rw [pf_X6_isSheet, pf_X6_isLane, if_neg (nI_pos (by omega)), if_neg (show ¬ (4 : Int32) ≤ nI a from nI_ge (b := 4) h (by decide))]
  exact ⟨rfl, rfl⟩
theorem isH_n {x : Int32} (h : x < nI 0 ∨ nI 7 < x) : pf_X6_isHop x = some 0 := by
  rw [pf_X6_isHop]
  by_cases c : x < 0
  · rw [if_pos c]
  · rw [if_neg c, if_pos]
    rcases h with h | h
    · exact absurd h c
    · rw [fa_lt, nI_toInt (by decide)] at h
      rw [fa_le, show (8 : Int32).toInt = 8 from rfl]
      omega
theorem isP_n {x : Int32} (h : x < nI 1 ∨ nI 511 < x) : pf_X6_isPrefix x = some 0 ∧ pf_X7_isPrefix x = some 0 := by
  constructor
  · rw [pf_X6_isPrefix]
    by_cases c : x < 1
    · rw [if_pos c]
    · rw [if_neg c, if_pos]
      rcases h with h | h
      · exact absurd h c
      · rw [fa_lt, nI_toInt (by decide)] at h
        rw [fa_le, show (512 : Int32).toInt = 512 from rfl]
        omega
  · rw [pf_X7_isPrefix, show pf_X7_in (Int32.toInt64 x) 1 511 = some 0 from in_no (l := 1) (m := 511) (by decide) (by decide) h, Option.bind_some, show bo_b 0 = true from by decide, ck_t]
theorem isP_y {p : Nat} (h1 : 1 ≤ p) (h2 : p < 512) : pf_X6_isPrefix (nI p) = some 1 ∧ pf_X7_isPrefix (nI p) = some 1 := by
  refine ⟨isPrefix_y h1 h2, ?_⟩
  rw [pf_X7_isPrefix, show pf_X7_in (Int32.toInt64 (nI p)) 1 511 = some 1 from in_yes (l := 1) (m := 511) (by decide) h1 (by omega), Option.bind_some, show bo_b 1 = true from by decide, ck_t]
theorem ok_1 : ¬ (1 : Int32) = 0 := by decide
theorem mp_s {α β : Type} {x : Option α} {f : α → β} {a : α} (h : x = some a) : x.map f = some (f a) := by rw [h]; rfl
theorem bb {α β : Type} {x : Option α} {f : α → Option β} {a : α} {b : Option β} (h : x = some a) (h2 : f a = b) : x.bind f = b := by rw [h]; exact h2

/-- the relation of both states -/
def nq_P (tp : Nat → Int64) (tz : Int32) (ip : Nat → Int64) (iz d : Int32) (st : Nat → Int32) (o : Nat) (t t2 : Nat → Nat) : Prop := tr_P tp tz t ∧ tr_P ip iz t2 ∧ rw_P st o t ∧ rw_P st (o + 512) t2 ∧ st (o + 1024) = d ∧ ct_N t ≤ 40 ∧ ¬ d < 0
def mo_P (m : mm_T) (f : Nat → Int32) (o : Nat) : Prop := ∃ t t2, nq_P m.1 m.2.1 m.2.2.1 m.2.2.2.1 m.2.2.2.2 f o t t2
def vo_P (old : Int32) (sent sentI best ease : Nat → Int32) (vi : Nat → Int64) (vz : Int32) (vl : Nat → Int64) (lz : Int32) (t t2 : Nat → Nat) : Prop := old = 1 ∨ (old = 0 ∧ vw_P sent sentI best ease vi vz vl lz t t2)
def kp_P (kn : Nat → mm_T) (sz : Int32) (past : Nat → Int32) (acts : Int32) : Prop := ∃ n, n ≤ 6 ∧ sz = nI n ∧ acts = nI n ∧ ∀ j, j < n → mo_P (kn j) past (1025 * j)
def im_P (has : Int32) (m : mm_T) (kn : Nat → mm_T) (sz : Int32) (image past : Nat → Int32) (acts : Int32) : Prop := (has = 0 ∧ acts = (-1)) ∨ (has = 1 ∧ mo_P m image 0 ∧ kp_P kn sz past acts)
def tp_P (lt : Nat → Int32) (sz : Int32) (tape : Nat → Int32) (many : Int32) : Prop := ∃ n, n ≤ 100 ∧ sz = nI n ∧ many = nI n ∧ ∀ j, j < n → ∃ c, 32 ≤ c ∧ c ≤ 126 ∧ lt j = nI c ∧ tape j = nI c
def s1_P (s : ss_T) (la sz : Int32) (items : Nat → Int64) (o : Nat) : Prop := (s.2.1 = (-1) ∧ la = (-4)) ∨ ∃ l m, l < 4 ∧ m ≤ 30 ∧ s.2.1 = nI l ∧ la = nI l ∧ s.2.2 = nI m ∧ sz = nI m ∧ ∀ i, i < m → s.1 i = items (o + i)
def sq_P (sh : Nat → ss_T) (laneOf sizeOf : Nat → Int32) (items : Nat → Int64) : Prop := ∀ j, j < 4 → s1_P (sh j) (laneOf j) (sizeOf j) items (30 * j)
def si_R (S : xs_T) (T : ys_T) : Prop := (∃ t t2, nq_P S.1 S.2.1 S.2.2.1 S.2.2.2.1 S.2.2.2.2.1 T.1 0 t t2 ∧ vo_P S.2.2.2.2.2.2.2.2.2.2.2.2.2.2.2.2.2.2.2.2.2.2.2.2.2.2.2.2.2.2.2 S.2.2.2.2.2.2.2.2.2.2.2.2.2.2.1 S.2.2.2.2.2.2.2.2.2.2.2.2.2.2.2.1 S.2.2.2.2.2.2.2.2.2.2.2.2.2.2.2.2.1 S.2.2.2.2.2.2.2.2.2.2.2.2.2.2.2.2.2.1 S.2.2.2.2.2.2.2.2.2.2.2.2.2.2.2.2.2.2.2.1 S.2.2.2.2.2.2.2.2.2.2.2.2.2.2.2.2.2.2.2.2.1 S.2.2.2.2.2.2.2.2.2.2.2.2.2.2.2.2.2.2.2.2.2.1 S.2.2.2.2.2.2.2.2.2.2.2.2.2.2.2.2.2.2.2.2.2.2.1 t t2) ∧ kp_P S.2.2.2.2.2.1 S.2.2.2.2.2.2.1 T.2.1 T.2.2.2.2.2.2.2.2.2.2.2.2.2.2.1 ∧ im_P S.2.2.2.2.2.2.2.2.2.2.2.2.2.2.2.2.2.2.2.2.2.2.2.2.2.2.2.2.2.2.1 (S.2.2.2.2.2.2.2.1, S.2.2.2.2.2.2.2.2.1, S.2.2.2.2.2.2.2.2.2.1, S.2.2.2.2.2.2.2.2.2.2.1, S.2.2.2.2.2.2.2.2.2.2.2.1) S.2.2.2.2.2.2.2.2.2.2.2.2.1 S.2.2.2.2.2.2.2.2.2.2.2.2.2.1 T.2.2.1 T.2.2.2.1 T.2.2.2.2.2.2.2.2.2.2.2.2.2.2.2.1 ∧ tp_P S.2.2.2.2.2.2.2.2.2.2.2.2.2.2.2.2.2.2.2.2.2.2.2.1 S.2.2.2.2.2.2.2.2.2.2.2.2.2.2.2.2.2.2.2.2.2.2.2.2.2.2.1 T.2.2.2.2.1 T.2.2.2.2.2.2.2.2.2.2.2.2.2.2.2.2.1 ∧ sq_P S.2.2.2.2.2.2.2.2.2.2.2.2.2.2.2.2.2.2.2.2.2.2.2.2.2.2.2.2.2.1 T.2.2.2.2.2.1 T.2.2.2.2.2.2.1 T.2.2.2.2.2.2.2.1
theorem fresh_t {tp ip : Nat → Int64} {tz iz d : Int32} {st : Nat → Int32} {t t2 : Nat → Nat} (hn : nq_P tp tz ip iz d st 0 t t2) {old : Int32} {sent sentI best ease : Nat → Int32} {vi : Nat → Int64} {vz : Int32} {vl : Nat → Int64} {lz : Int32} (hv : vo_P old sent sentI best ease vi vz vl lz t t2) (fa : Nat → Int32) : ∃ o, pf_X6_freshView tp ip iz sent sentI best ease fa vi vz vl lz old = some o ∧ vw_P o.1 o.2.1 o.2.2.1 o.2.2.2.1 o.2.2.2.2.2.1 o.2.2.2.2.2.2.1 o.2.2.2.2.2.2.2.1 o.2.2.2.2.2.2.2.2.1 t t2 ∧ o.2.2.2.2.2.2.2.2.2 = 0 := by
  rw [pf_X6_freshView]
  rcases hv with e | ⟨e, hw⟩
  · obtain ⟨o, e2, hw⟩ := make_t hn.1 hn.2.1 sent sentI best ease fa vi vz vl lz
    rw [e, if_neg ok_1, e2]
    exact ⟨_, rfl, hw, rfl⟩
  · rw [e, if_pos rfl]
    exact ⟨_, rfl, hw, rfl⟩
theorem tr_0 : tr_P (fun _ => 0) 0 (fun _ => 8) := ⟨fun p _ _ => ⟨Nat.le_refl 8, by
    rw [if_pos rfl, nb_N, show uN 0 = 0 from rfl, Nat.zero_div]⟩, by
  rw [ct_cf, show cf_N (in_T (fun _ => 8)) 511 1 = 0 from (cf_0 511 1).mpr (fun q _ _ => rfl)]; rfl⟩
theorem si_0 : si_R s0_X t0_Y := by
  have e8 : ∀ k, k < 1024 → t0_Y.1 k = 8 := fun k hk => by
    show upd ml_8 1024 1 k = 8
    rw [pk_un (by omega)]
    exact if_pos hk
  refine ⟨⟨fun _ => 8, fun _ => 8, ⟨tr_0, tr_0, fun p h1 h2 => e8 _ (by omega), fun p h1 h2 => e8 _ (by omega), (pk_us : upd ml_8 1024 1 1024 = 1), ?_, (show ¬ (1 : Int32) < 0 by decide)⟩, Or.inl rfl⟩, ⟨0, by omega, rfl, rfl, fun j h => by omega⟩, Or.inl ⟨rfl, rfl⟩, ⟨0, by omega, rfl, rfl, fun j h => by omega⟩, ?_⟩
  · rw [ct_cf, show cf_N (in_T (fun _ => 8)) 511 1 = 0 from (cf_0 511 1).mpr (fun q _ _ => rfl)]; decide
  · intro j hj
    refine Or.inl ⟨rfl, ?_⟩
    revert j
    decide +kernel
