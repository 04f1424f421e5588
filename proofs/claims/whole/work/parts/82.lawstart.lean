theorem ns_in : ∀ q ∈ ns_l, Cond.methodLinkNest q.1 q.2.1 q.2.2.1 q.2.2.2 ∈ lw_tbl := fun q hq => wq_fm (ws := ns_l.map (fun q => Cond.methodLinkNest q.1 q.2.1 q.2.2.1 q.2.2.2)) [281, 408, 395, 318, 114, 527, 145, 348, 339, 295, 292, 74, 68, 165, 140, 109] (by decide +kernel) _ (List.mem_map.mpr ⟨q, hq, rfl⟩)
theorem ar_prim {args : Array Value} {s : State} {ty : FieldType} (h : (Cond.arrayClass ty).before args s = true) : ∃ cA : ClassId, ArrOfT s cA ty ∧ s.vm.findClass ("[" ++ ty.toString) = some cA := by
  obtain ⟨cA, kA, comp, h1, h2, h3⟩ := Cond.arrayClass_spec h
  exact ⟨cA, fun n z => ⟨fun k h => (by cases h), kA, h2, comp, h3⟩, h1⟩
theorem ar_obj {args : Array Value} {s : State} {C : String} (h : (Cond.arrayOver (.object C)).before args s = true) : ∃ cA : ClassId, ArrOfT s cA (.object C) ∧ va_RA s cA (.object C) := by
  obtain ⟨comp, c, kA, h1, h2, h3, h4, h5⟩ := Cond.arrayOver_spec h
  exact ⟨c, fun n z => ⟨fun k h => (by cases h), kA, h3, comp, h4⟩, kA, comp, h3, h4, h1, h5⟩
theorem li_gt {i L : Nat} (hL : L ≤ 3072) (hi : i ≤ L) (h : L < i + 6) : nI L - 6 < nI i := by
  rw [Int32.lt_iff_toInt_lt, show (6 : Int32) = nI 6 from rfl, pk_sub_toInt (by omega) (by decide), nI_toInt (by omega)]
  omega
set_option maxHeartbeats 4000000 in
set_option maxRecDepth 100000 in
theorem law_loop {p : Program} {l : Launch} {e : Env} {s : State} {m : MethodId} {below : List Frame} {meth : Method} {c : Code} (D : va_G) (k : kt_T) (A : Nat → Nat) {b L : Nat} {xs : Nat → Int32} (C0 : lw_At p s m meth c b L xs) (hL : L ≤ 3072) (hK : kk_P D k s) :
    ∀ (n i : Nat) (S : xs_T) (T : ys_T) (w : va_W) (H : Heap) (locs : List Loc) (ls : Array Slot), i ≤ L → L + 1 ≤ i + n → si_R S T → ix_P k A w S → iy_P k A w T → va_P D vwCl w H → va_D (fun q : Nat => s.heap.size ≤ q) w → va_S (fun q : Nat => s.heap.size ≤ q) s.heap H locs → lv_has ls 4 [(0, .ref b), (1, .ref (A 0)), (2, .ref (A 98)), (3, .int (nI i))] → W p l e room_1 s m #[Value.ref b] below meth c H locs 113 25190 (lw_Z below #[Value.ref b] s) (F0 m 18 ls []) := by
  obtain ⟨hx, hb, hr, hml, hown, hts, hX, hbl, hlocks, hgv⟩ := id C0
  have hbA : ¬ (fun q : Nat => s.heap.size ≤ q) b := Nat.not_le.mpr hbl
  intro n
  induction n with
  | zero =>
    intro i S T w H locs ls h1 h2
    exact absurd h2 (by omega)
  | succ n ih =>
    intro i S T w H locs ls hiL hin hsi hix hiy hP hD hS hl
    refine lv_iload_n hx hb dL_law_18 rfl (lv_at hl 3 rfl) ?_
    refine lv_aload_n hx hb dL_law_19 rfl (lv_at hl 0 rfl) ?_
    refine va_slen hx hb hX hbl hbA hS dL_law_20 ?_
    refine lv_bipush (v := 6) hx hb dL_law_21 (by decide) ?_
    refine lv_isub hx hb dL_law_23 ?_
    refine lv_icmp_gt (tgt := 969) hx hb dL_law_24 (by decide) (fun _ => ?_) (fun c_ => ?_)
    · refine lv_iconst (v := 1) hx hb dL_law_969 (by decide) ?_
      refine va_forget (fun q hq => hS.2.2 q hq) ?_
      refine W.widen (k := 600000) (n := 7302250) (Nat.le_of_ble_eq_true rfl) (Nat.le_of_ble_eq_true rfl) ?_
      exact lw_ret hx hb hr hlocks dL_law_970
    · have hlt : i + 6 ≤ L := by
        rcases Nat.lt_or_ge L (i + 6) with q | q
        · exact absurd (li_gt hL hiL q) c_
        · exact q
      have kk : ∀ (S : xs_T) (T : ys_T) (w : va_W) (H : Heap) (locs : List Loc) (ls : Array Slot), si_R S T → ix_P k A w S → iy_P k A w T → va_P D vwCl w H → va_D (fun q : Nat => s.heap.size ≤ q) w → va_S (fun q : Nat => s.heap.size ≤ q) s.heap H locs → lv_has ls 4 [(0, .ref b), (1, .ref (A 0)), (2, .ref (A 98)), (3, .int (nI i))] → W p l e room_1 s m #[Value.ref b] below meth c H locs 113 25190 (lw_Z below #[Value.ref b] s) (F0 m 963 ls []) := by
        intro S T w H locs ls hsi hix hiy hP hD hS hl
        refine lv_iinc (v := nI (i + 6)) (lv' := [(3, .int (nI (i + 6))), (0, .ref b), (1, .ref (A 0)), (2, .ref (A 98))]) hx hb dL_law_963 hl (k := 3) rfl (nI_add i 6) (by decide) rfl (fun ls hl => ?_)
        refine lv_goto (tgt := 18) hx hb dL_law_966 (by decide) ?_
        exact ih (i + 6) S T w H locs ls hlt (by omega) hsi hix hiy hP hD hS (lv_sub hl [1, 2, 3, 0] rfl)
      refine lv_aload_n hx hb dL_law_27 rfl (lv_at hl 0 rfl) ?_
      refine lv_iload_n hx hb dL_law_28 rfl (lv_at hl 3 rfl) ?_
      refine va_sld hx hb hX hbl hbA hS (vp_in_nI (by omega) (by omega)) dL_law_29 ?_
      refine lv_bipush (v := 31) hx hb dL_law_30 (by decide) ?_
      refine lv_iand hx hb dL_law_32 ?_
      obtain ⟨j, hj, ej⟩ := pk_andE (xs (Int32.toNatClampNeg (nI i))) (m := 31) 5 (by decide)
      refine lv_topi (fun v ev => ?_)
      obtain rfl : nI j = v := ej.symm.trans ev.symm
      rcases (show j = 0 ∨ j = 1 ∨ j = 2 ∨ j = 3 ∨ j = 4 ∨ j = 5 ∨ j = 6 ∨ j = 7 ∨ j = 8 ∨ j = 9 ∨ j = 10 ∨ j = 11 ∨ j = 12 ∨ j = 13 ∨ j = 14 ∨ j = 15 ∨ j = 16 ∨ j = 17 ∨ j = 18 ∨ j = 19 ∨ j = 20 ∨ j = 21 ∨ j = 22 ∨ j = 23 ∨ j = 24 ∨ 25 ≤ j by omega) with rfl | rfl | rfl | rfl | rfl | rfl | rfl | rfl | rfl | rfl | rfl | rfl | rfl | rfl | rfl | rfl | rfl | rfl | rfl | rfl | rfl | rfl | rfl | rfl | rfl | h25
      · refine lv_tableIn (tgt := 148) hx hb dL_law_33 (by decide) (by decide) rfl (by decide) ?_
        exact lc_look D k A C0 hL hK hlt kk S T w H locs ls hsi hix hiy hP hD hS hl
      · refine lv_tableIn (tgt := 181) hx hb dL_law_33 (by decide) (by decide) rfl (by decide) ?_
        exact lc_prefix D k A C0 hL hK hlt kk S T w H locs ls hsi hix hiy hP hD hS hl
      · refine lv_tableIn (tgt := 214) hx hb dL_law_33 (by decide) (by decide) rfl (by decide) ?_
        exact lc_cost D k A C0 hL hK hlt kk S T w H locs ls hsi hix hiy hP hD hS hl
      · refine lv_tableIn (tgt := 247) hx hb dL_law_33 (by decide) (by decide) rfl (by decide) ?_
        exact lc_least D k A C0 hL hK hlt kk S T w H locs ls hsi hix hiy hP hD hS hl
      · refine lv_tableIn (tgt := 280) hx hb dL_law_33 (by decide) (by decide) rfl (by decide) ?_
        exact lc_count D k A C0 hL hK hlt kk S T w H locs ls hsi hix hiy hP hD hS hl
      · refine lv_tableIn (tgt := 303) hx hb dL_law_33 (by decide) (by decide) rfl (by decide) ?_
        exact lc_change D k A C0 hL hK hlt kk S T w H locs ls hsi hix hiy hP hD hS hl
      · refine lv_tableIn (tgt := 336) hx hb dL_law_33 (by decide) (by decide) rfl (by decide) ?_
        exact lc_proof D k A C0 hL hK hlt kk S T w H locs ls hsi hix hiy hP hD hS hl
      · refine lv_tableIn (tgt := 369) hx hb dL_law_33 (by decide) (by decide) rfl (by decide) ?_
        exact lc_lost D k A C0 hL hK hlt kk S T w H locs ls hsi hix hiy hP hD hS hl
      · refine lv_tableIn (tgt := 412) hx hb dL_law_33 (by decide) (by decide) rfl (by decide) ?_
        exact lc_tell D k A C0 hL hK hlt kk S T w H locs ls hsi hix hiy hP hD hS hl
      · refine lv_tableIn (tgt := 445) hx hb dL_law_33 (by decide) (by decide) rfl (by decide) ?_
        exact lc_out D k A C0 hL hK hlt kk S T w H locs ls hsi hix hiy hP hD hS hl
      · refine lv_tableIn (tgt := 468) hx hb dL_law_33 (by decide) (by decide) rfl (by decide) ?_
        exact lc_rename D k A C0 hL hK hlt kk S T w H locs ls hsi hix hiy hP hD hS hl
      · refine lv_tableIn (tgt := 501) hx hb dL_law_33 (by decide) (by decide) rfl (by decide) ?_
        exact lc_install D k A C0 hL hK hlt kk S T w H locs ls hsi hix hiy hP hD hS hl
      · refine lv_tableIn (tgt := 514) hx hb dL_law_33 (by decide) (by decide) rfl (by decide) ?_
        exact lc_type D k A C0 hL hK hlt kk S T w H locs ls hsi hix hiy hP hD hS hl
      · refine lv_tableIn (tgt := 537) hx hb dL_law_33 (by decide) (by decide) rfl (by decide) ?_
        exact lc_read D k A C0 hL hK hlt kk S T w H locs ls hsi hix hiy hP hD hS hl
      · refine lv_tableIn (tgt := 550) hx hb dL_law_33 (by decide) (by decide) rfl (by decide) ?_
        exact lc_drift D k A C0 hL hK hlt kk S T w H locs ls hsi hix hiy hP hD hS hl
      · refine lv_tableIn (tgt := 573) hx hb dL_law_33 (by decide) (by decide) rfl (by decide) ?_
        exact lc_undo D k A C0 hL hK hlt kk S T w H locs ls hsi hix hiy hP hD hS hl
      · refine lv_tableIn (tgt := 586) hx hb dL_law_33 (by decide) (by decide) rfl (by decide) ?_
        exact lc_seed D k A C0 hL hK hlt kk S T w H locs ls hsi hix hiy hP hD hS hl
      · refine lv_tableIn (tgt := 609) hx hb dL_law_33 (by decide) (by decide) rfl (by decide) ?_
        exact lc_image D k A C0 hL hK hlt kk S T w H locs ls hsi hix hiy hP hD hS hl
      · refine lv_tableIn (tgt := 622) hx hb dL_law_33 (by decide) (by decide) rfl (by decide) ?_
        exact lc_restore D k A C0 hL hK hlt kk S T w H locs ls hsi hix hiy hP hD hS hl
      · refine lv_tableIn (tgt := 635) hx hb dL_law_33 (by decide) (by decide) rfl (by decide) ?_
        exact lc_lengths D k A C0 hL hK hlt kk S T w H locs ls hsi hix hiy hP hD hS hl
      · refine lv_tableIn (tgt := 688) hx hb dL_law_33 (by decide) (by decide) rfl (by decide) ?_
        exact lc_film D k A C0 hL hK hlt kk S T w H locs ls hsi hix hiy hP hD hS hl
      · refine lv_tableIn (tgt := 751) hx hb dL_law_33 (by decide) (by decide) rfl (by decide) ?_
        exact lc_sheet D k A C0 hL hK hlt kk S T w H locs ls hsi hix hiy hP hD hS hl
      · refine lv_tableIn (tgt := 794) hx hb dL_law_33 (by decide) (by decide) rfl (by decide) ?_
        exact lc_drop D k A C0 hL hK hlt kk S T w H locs ls hsi hix hiy hP hD hS hl
      · refine lv_tableIn (tgt := 817) hx hb dL_law_33 (by decide) (by decide) rfl (by decide) ?_
        exact lc_item D k A C0 hL hK hlt kk S T w H locs ls hsi hix hiy hP hD hS hl
      · refine lv_tableIn (tgt := 900) hx hb dL_law_33 (by decide) (by decide) rfl (by decide) ?_
        exact lc_copy D k A C0 hL hK hlt kk S T w H locs ls hsi hix hiy hP hD hS hl
      · refine lv_tableOut (tgt := 963) hx hb dL_law_33 (Or.inr (by rw [nI_toInt (by omega)]; omega)) (by decide) ?_
        exact kk S T w H locs ls hsi hix hiy hP hD hS hl
/-- the addresses of a world -/
def ad_W (u : va_W) (i : Nat) : Nat := ((u[i]?).map Prod.fst).getD 0
theorem k0_K (k : kt_T) (x y : Nat) (b1 b2 : Nat → Nat) : is_K k (ad_W (xl_X6 k x b1 ++ xl_X7 k y b2)) (xl_X6 k x b1 ++ xl_X7 k y b2) (0 + 1 + 6) (fun _ => ((fun _ => 0), 0, (fun _ => 0), 0, 1)) := ⟨fun j => (0 + 1 + 6) + 1 + 5 * j, _, rfl, fun j hj => match j, hj with
    | 0, _ => ⟨rfl, by decide, by decide, rfl, ⟨rfl, rfl⟩, ⟨rfl, rfl⟩⟩
    | 1, _ => ⟨rfl, by decide, by decide, rfl, ⟨rfl, rfl⟩, ⟨rfl, rfl⟩⟩
    | 2, _ => ⟨rfl, by decide, by decide, rfl, ⟨rfl, rfl⟩, ⟨rfl, rfl⟩⟩
    | 3, _ => ⟨rfl, by decide, by decide, rfl, ⟨rfl, rfl⟩, ⟨rfl, rfl⟩⟩
    | 4, _ => ⟨rfl, by decide, by decide, rfl, ⟨rfl, rfl⟩, ⟨rfl, rfl⟩⟩
    | 5, _ => ⟨rfl, by decide, by decide, rfl, ⟨rfl, rfl⟩, ⟨rfl, rfl⟩⟩, fun i j _ _ _ => by dsimp only; omega⟩
theorem k1_K (k : kt_T) (x y : Nat) (b1 b2 : Nat → Nat) : is_K k (ad_W (xl_X6 k x b1 ++ xl_X7 k y b2)) (xl_X6 k x b1 ++ xl_X7 k y b2) (0 + 38 + 6) (fun _ => ((fun _ => 0), 0, (fun _ => 0), 0, 1)) := ⟨fun j => (0 + 38 + 6) + 1 + 5 * j, _, rfl, fun j hj => match j, hj with
    | 0, _ => ⟨rfl, by decide, by decide, rfl, ⟨rfl, rfl⟩, ⟨rfl, rfl⟩⟩
    | 1, _ => ⟨rfl, by decide, by decide, rfl, ⟨rfl, rfl⟩, ⟨rfl, rfl⟩⟩
    | 2, _ => ⟨rfl, by decide, by decide, rfl, ⟨rfl, rfl⟩, ⟨rfl, rfl⟩⟩
    | 3, _ => ⟨rfl, by decide, by decide, rfl, ⟨rfl, rfl⟩, ⟨rfl, rfl⟩⟩
    | 4, _ => ⟨rfl, by decide, by decide, rfl, ⟨rfl, rfl⟩, ⟨rfl, rfl⟩⟩
    | 5, _ => ⟨rfl, by decide, by decide, rfl, ⟨rfl, rfl⟩, ⟨rfl, rfl⟩⟩, fun i j _ _ _ => by dsimp only; omega⟩
theorem z0_Z (k : kt_T) (x y : Nat) (b1 b2 : Nat → Nat) : is_Z k (ad_W (xl_X6 k x b1 ++ xl_X7 k y b2)) (xl_X6 k x b1 ++ xl_X7 k y b2) (0 + 89) (fun _ => ((fun _ => 0), -1, 0)) := ⟨_, rfl, fun j hj => match j, hj with
    | 0, _ => ⟨rfl, rfl, rfl⟩
    | 1, _ => ⟨rfl, rfl, rfl⟩
    | 2, _ => ⟨rfl, rfl, rfl⟩
    | 3, _ => ⟨rfl, rfl, rfl⟩⟩
theorem ix_0 (k : kt_T) (x y : Nat) (b1 b2 : Nat → Nat) : ix_P k (ad_W (xl_X6 k x b1 ++ xl_X7 k y b2)) (xl_X6 k x b1 ++ xl_X7 k y b2) s0_X := ⟨rfl, ⟨rfl, ⟨rfl, ⟨rfl, rfl⟩, ⟨rfl, rfl⟩⟩, k0_K k x y b1 b2⟩, ⟨rfl, ⟨rfl, ⟨rfl, rfl⟩, ⟨rfl, rfl⟩⟩, k1_K k x y b1 b2⟩, ⟨rfl, rfl, rfl, rfl, rfl, rfl, ⟨rfl, rfl⟩, ⟨rfl, rfl⟩⟩, ⟨rfl, rfl, ⟨rfl, rfl⟩⟩, z0_Z k x y b1 b2⟩
theorem iy_0 (k : kt_T) (x y : Nat) (b1 b2 : Nat → Nat) : iy_P k (ad_W (xl_X6 k x b1 ++ xl_X7 k y b2)) (xl_X6 k x b1 ++ xl_X7 k y b2) t0_Y := ⟨rfl, rfl, rfl, rfl, rfl, rfl, rfl, rfl, rfl, rfl, rfl, rfl, rfl, rfl, rfl⟩
set_option maxHeartbeats 4000000 in
set_option maxRecDepth 100000 in
theorem whole_start {p : Program} {e : Env} {s : State} {m : MethodId} {below : List Frame} {meth : Method} {c : Code} (l : Launch) (hflags : l.flags = flags0) {b L : Nat} {xs : Nat → Int32} (hL : L ≤ 3072) (C0 : lw_At p s m meth c b L xs) : W p l e room_1 s m #[Value.ref b] below meth c s.heap [] 0 0 (lw_Z below #[Value.ref b] s) (entryFrame m ([Value.ref b] : List Value).toArray 4) := by
  obtain ⟨hx, hb, hr, hml, hown, hts, hX, hbl, hlocks, hgv⟩ := id C0
  have hA : ∀ q : Nat, s.heap.size ≤ q → (fun q : Nat => s.heap.size ≤ q) q := fun _ h => h
  obtain ⟨c0, iS0, hKn0⟩ := u_known (C := RX0) (T := TX0) (N := 3) (n := 3) hts inX0 (hts (.instantiable RX0 3) (List.mem_of_getElem? (i := 61) (by decide +kernel)))
  obtain ⟨c1, iS1, hKn1⟩ := u_known (C := RX1) (T := TX1) (N := 3) (n := 3) hts inX1 (hts (.instantiable RX1 3) (List.mem_of_getElem? (i := 67) (by decide +kernel)))
  obtain ⟨c2, iS2, hKn2⟩ := u_known (C := RX2) (T := TX2) (N := 3) (n := 3) hts inX2 (hts (.instantiable RX2 3) (List.mem_of_getElem? (i := 164) (by decide +kernel)))
  obtain ⟨c3, iS3, hKn3⟩ := u_known (C := RX3) (T := TX3) (N := 2) (n := 2) hts inX3 (hts (.instantiable RX3 2) (List.mem_of_getElem? (i := 73) (by decide +kernel)))
  obtain ⟨c4, iS4, hKn4⟩ := u_known (C := RX4) (T := TX4) (N := 5) (n := 5) hts inX4 (hts (.instantiable RX4 5) (List.mem_of_getElem? (i := 139) (by decide +kernel)))
  obtain ⟨c5, iS5, hKn5⟩ := u_known (C := RX5) (T := TX5) (N := 7) (n := 7) hts inX5 (hts (.instantiable RX5 7) (List.mem_of_getElem? (i := 108) (by decide +kernel)))
  obtain ⟨c6, iS6, hKn6⟩ := u_known (C := RX6) (T := TX6) (N := 7) (n := 7) hts inX6 (hts (.instantiable RX6 7) (List.mem_of_getElem? (i := 53) (by decide +kernel)))
  obtain ⟨c7, iS7, hKn7⟩ := u_known (C := RX7) (T := TX7) (N := 18) (n := 18) hts inX7 (hts (.instantiable RX7 18) (List.mem_of_getElem? (i := 664) (by decide +kernel)))
  obtain ⟨D, hKc⟩ : ∃ D : va_G, ∀ (k : Nat) (q : vw_C), vwCl[k]? = some q → u_Kn s q.1 q.2.1 q.2.2 (D.1 k) (D.2 k) := by
    refine ⟨(fun k => if k = 0 then c0 else if k = 1 then c1 else if k = 2 then c2 else if k = 3 then c3 else if k = 4 then c4 else if k = 5 then c5 else if k = 6 then c6 else c7, fun k => if k = 0 then iS0 else if k = 1 then iS1 else if k = 2 then iS2 else if k = 3 then iS3 else if k = 4 then iS4 else if k = 5 then iS5 else if k = 6 then iS6 else iS7), ?_⟩
    intro k q hq
    match k, hq with
    | 0, hq => cases hq; exact hKn0
    | 1, hq => cases hq; exact hKn1
    | 2, hq => cases hq; exact hKn2
    | 3, hq => cases hq; exact hKn3
    | 4, hq => cases hq; exact hKn4
    | 5, hq => cases hq; exact hKn5
    | 6, hq => cases hq; exact hKn6
    | 7, hq => cases hq; exact hKn7
    | k + 8, hq => simp [vwCl] at hq
  obtain ⟨cI, aI, bI⟩ := ar_prim (hts (.arrayClass .int) (List.mem_of_getElem? (i := 137) (by decide +kernel)))
  obtain ⟨cJ, aJ, bJ⟩ := ar_prim (hts (.arrayClass .long) (List.mem_of_getElem? (i := 85) (by decide +kernel)))
  obtain ⟨cM, aM, bM⟩ := ar_obj (hts (.arrayOver (.object RX1)) (List.mem_of_getElem? (i := 96) (by decide +kernel)))
  obtain ⟨cS, aS, bS⟩ := ar_obj (hts (.arrayOver (.object RX2)) (List.mem_of_getElem? (i := 163) (by decide +kernel)))
  have hao : va_AO RX1 s ∧ va_AO RX2 s := ⟨va_AO.of (hts (.arrayOver (.object RX1)) (List.mem_of_getElem? (i := 96) (by decide +kernel))), va_AO.of (hts (.arrayOver (.object RX2)) (List.mem_of_getElem? (i := 163) (by decide +kernel)))⟩
  obtain ⟨k, hk⟩ : ∃ k : kt_T, k = (cI, cJ, cM, cS) := ⟨_, rfl⟩
  have hK : kk_P D k s := by
    subst hk
    refine ⟨⟨hKc, fun j q hq => ?_⟩, fun q hq => va_Nw.of rfl (hts _ (ns_in q hq))⟩
    match j, hq with
    | 0, hq => cases hq; exact ⟨aI, bI⟩
    | 1, hq => cases hq; exact ⟨aJ, bJ⟩
    | 2, hq => cases hq; exact ⟨aM, bM⟩
    | 3, hq => cases hq; exact ⟨aS, bS⟩
    | j + 4, hq => simp [kt_l] at hq
  have hts0 := hts
  have hts : ∀ w ∈ wsL_law, w.before #[Value.ref b] s = true := fun w h => hts w (wsL_law_in w h)
  have hown : s.vm.findClass RL = some m.cls := hown
  have hcf : CallFix p m c cL_law 4 s #[Value.ref b] wsL_law RL := ⟨hx, hb, hml, hown, hts⟩
  have hS : va_S (fun q : Nat => s.heap.size ≤ q) s.heap s.heap [] := va_S.rf
  have hP : va_P D vwCl [] s.heap := fun k q h => by simp at h
  have hD : va_D (fun q : Nat => s.heap.size ≤ q) [] := ⟨fun i j p q h => by simp at h, fun k q h => by simp at h⟩
  have hl := lv_entry ([.ref b]) (n := 4) (Nat.le_of_ble_eq_true rfl)
  rw [lg_entry_eq]
  generalize (lg_sl ([.ref b]) ++ List.replicate (4 - (lg_sl ([.ref b])).length) Slot.unset).toArray = ls at hl ⊢
  have hl : lv_has ls 4 [(0, .ref b)] := hl
  refine va_new (ci := 6) (fs := [.null, .null, .null, .null, .null, .int 0, .int 0]) (C := RX6) (T := TX6) (N := 7) hx hb hts0 inX6 tyX6 tyX6_ok hown (hts (.classLink RL 7 RX6) (List.mem_of_getElem? (i := 0) (by decide +kernel))) (hts (.instantiable RX6 7) (List.mem_of_getElem? (i := 1) (by decide +kernel))) (hts (.initialized RX6) (List.mem_of_getElem? (i := 2) (by decide +kernel))) hK.1 hP hD hS hA rfl (fun j hj => by rcases (show j = 0 ∨ j = 1 ∨ j = 2 ∨ j = 3 ∨ j = 4 ∨ j = 5 ∨ j = 6 by omega) with rfl | rfl | rfl | rfl | rfl | rfl | rfl <;> rfl) (Nat.le_of_ble_eq_true rfl) (Nat.le_of_ble_eq_true rfl) dL_law_0 (fun x _ hP hD hS => ?_)
  refine W.widen (k := 1) (n := 7) (Nat.le_of_ble_eq_true rfl) (Nat.le_of_ble_eq_true rfl) ?_
  refine lv_dup hx hb dL_law_3 rfl ?_
  refine kw_v (va_runI (As := []) (rest := [.ref x]) hcf (cz_X6_init l D k ([]) x _) (cwI 0 hts gL_law_X6_init rfl rfl rfl (hts (.initialized RX6) (List.mem_of_getElem? (i := 2) (by decide +kernel))) (hts (.methodLink RL 9 yX6_init) (List.mem_of_getElem? (i := 7) (by decide +kernel))) (hts (.instanceMethod yX6_init) (List.mem_of_getElem? (i := 8) (by decide +kernel))) rfl (by decide +kernel) ⟨Nat.le_of_ble_eq_true rfl, Nat.le_of_ble_eq_true rfl⟩) (py_S hP hK hD hao) rfl rfl hl.1 rfl (lv_room (Nat.le_of_ble_eq_true rfl)) dL_law_4 ⟨Nat.le_of_ble_eq_true rfl, Nat.le_of_ble_eq_true rfl⟩) hD hS hA (fun u _ _ hp hP hD hS => ?_)
  obtain ⟨bx, rfl⟩ := hp
  simp only [List.nil_append] at hP hD
  refine W.widen (k := 98) (n := 3929) (Nat.le_of_ble_eq_true rfl) (Nat.le_of_ble_eq_true rfl) ?_
  refine lv_astore_n (lv' := [(1, .ref x), (0, .ref b)]) hx hb dL_law_7 rfl hl (by decide) rfl (fun ls hl => ?_)
  refine va_new (ci := 7) (fs := [.null, .null, .int 0, .null, .null, .int 0, .null, .int 0, .null, .null, .null, .null, .null, .null, .null, .null, .null, .int 0]) (C := RX7) (T := TX7) (N := 18) hx hb hts0 inX7 tyX7 tyX7_ok hown (hts (.classLink RL 10 RX7) (List.mem_of_getElem? (i := 3) (by decide +kernel))) (hts (.instantiable RX7 18) (List.mem_of_getElem? (i := 4) (by decide +kernel))) (hts (.initialized RX7) (List.mem_of_getElem? (i := 5) (by decide +kernel))) hK.1 hP hD hS hA rfl (fun j hj => by rcases (show j = 0 ∨ j = 1 ∨ j = 2 ∨ j = 3 ∨ j = 4 ∨ j = 5 ∨ j = 6 ∨ j = 7 ∨ j = 8 ∨ j = 9 ∨ j = 10 ∨ j = 11 ∨ j = 12 ∨ j = 13 ∨ j = 14 ∨ j = 15 ∨ j = 16 ∨ j = 17 by omega) with rfl | rfl | rfl | rfl | rfl | rfl | rfl | rfl | rfl | rfl | rfl | rfl | rfl | rfl | rfl | rfl | rfl | rfl <;> rfl) (Nat.le_of_ble_eq_true rfl) (Nat.le_of_ble_eq_true rfl) dL_law_8 (fun y _ hP hD hS => ?_)
  refine W.widen (k := 99) (n := 3947) (Nat.le_of_ble_eq_true rfl) (Nat.le_of_ble_eq_true rfl) ?_
  refine lv_dup hx hb dL_law_11 rfl ?_
  refine kw_v (va_runI (As := []) (rest := [.ref y]) hcf (cz_X7_init l D k (xl_X6 k x bx) y _) (cwI 0 hts gL_law_X7_init rfl rfl rfl (hts (.initialized RX7) (List.mem_of_getElem? (i := 5) (by decide +kernel))) (hts (.methodLink RL 12 yX7_init) (List.mem_of_getElem? (i := 84) (by decide +kernel))) (hts (.instanceMethod yX7_init) (List.mem_of_getElem? (i := 85) (by decide +kernel))) rfl (by decide +kernel) ⟨Nat.le_of_ble_eq_true rfl, Nat.le_of_ble_eq_true rfl⟩) (px_S hP hK hD) rfl rfl hl.1 rfl (lv_room (Nat.le_of_ble_eq_true rfl)) dL_law_12 ⟨Nat.le_of_ble_eq_true rfl, Nat.le_of_ble_eq_true rfl⟩) hD hS hA (fun u _ _ hp hP hD hS => ?_)
  obtain ⟨by_, rfl⟩ := hp
  refine W.widen (k := 113) (n := 25190) (Nat.le_of_ble_eq_true rfl) (Nat.le_of_ble_eq_true rfl) ?_
  refine lv_astore_n (lv' := [(2, .ref y), (1, .ref x), (0, .ref b)]) hx hb dL_law_15 rfl hl (by decide) rfl (fun ls hl => ?_)
  refine lv_iconst (v := 0) hx hb dL_law_16 (by decide) ?_
  refine lv_istore_n (lv' := [(3, .int 0), (2, .ref y), (1, .ref x), (0, .ref b)]) hx hb dL_law_17 rfl hl (by decide) rfl (fun ls hl => ?_)
  exact law_loop D k (ad_W (xl_X6 k x bx ++ xl_X7 k y by_)) C0 hL hK (L + 1) 0 s0_X t0_Y _ _ _ ls (Nat.zero_le L) (by omega) si_0 (ix_0 k x y bx by_) (iy_0 k x y bx by_) hP hD hS (lv_sub hl [3, 2, 1, 0] rfl)
