def pf_X7_isSheet   (p1 : Int32) (p2 : Int32) : Option (Int32) :=
  (pf_X7_in (Int32.toInt64 p1) 0 3).bind (fun r1 =>
    if r1 = 0 then
      some 0
    else
      (pf_X7_in (Int32.toInt64 p2) 0 3).bind (fun r4 =>
        if r4 = 0 then
          some 0
        else
          some 1))

set_option maxHeartbeats 4000000 in
set_option maxRecDepth 100000 in
theorem cz_X7_isSheet (l : Launch) (D : va_G) (k : kt_T) (A : Nat → Nat) (ws : va_W)    (p1 : Int32) (p2 : Int32) (out : Int32) (hf : pf_X7_isSheet p1 p2 = some out)   : Met l yX7_isSheet wsX7_isSheet { frames := 1, cells := 0, slots := 0, locals := 25 } (va_Pc [.int p1, .int p2] (pw_P D k ws)) (qs_Q (some (.int out))) 0 0 (fun _ => False) := by
  refine Met.ofW (cc := cX7_isSheet) (maxL := 2) (ret := (some .boolean)) (by decide) rfl ?_
  intro p e s m args below meth c s₁ B hml hv
  obtain ⟨rfl, hP, hK, hD⟩ := hv
  have C0 : cx_P p s m meth c [.int p1, .int p2].toArray cX7_isSheet 2 wsX7_isSheet RX7 (some .boolean) := ⟨B.exec, B.bytes, hml, findClass_of_methodNamed B.named, atoms_spec (ws := wsX7_isSheet) B.pre, B.returns, B.notSynchronized⟩
  obtain ⟨hx, hb, hml, hown, hts, hr, hlocks⟩ := id C0
  have hcf : CallFix p m c cX7_isSheet 2 s [.int p1, .int p2].toArray wsX7_isSheet RX7 := ⟨hx, hb, hml, hown, hts⟩
  have w_0 := hts (.constantLong RX7 94 (3)) (List.mem_of_getElem? (i := 1) rfl)
  have hl := lv_entry ([.int p1, .int p2]) (n := 2) (Nat.le_of_ble_eq_true rfl)
  rw [lg_entry_eq]
  generalize (lg_sl ([.int p1, .int p2]) ++ List.replicate (2 - (lg_sl ([.int p1, .int p2])).length) Slot.unset).toArray = ls at hl ⊢
  have hl : lv_has ls 2 [(0, .int p1), (1, .int p2)] := hl
  unfold pf_X7_isSheet at hf
  refine lv_iload_n hx hb dX7_isSheet_0 rfl (lv_at hl 0 rfl) ?_
  refine lv_i2l hx hb dX7_isSheet_1 rfl ?_
  refine lv_lconst (v := 0) hx hb dX7_isSheet_2 (by decide) ?_
  refine lv_ldc2 hx hb hown w_0 dX7_isSheet_3 ?_
  obtain ⟨r1, h2, hf⟩ := bd_s hf
  refine ks_i (va_runS (As := [.long (Int32.toInt64 p1), .long 0, .long 3]) (rest := []) hcf (cz_X7_in l D k A ws (Int32.toInt64 p1) 0 3 r1 h2) (va_cwS 3 hts gX7_isSheet_X7_in rfl rfl rfl (by decide +kernel) ⟨Nat.le_of_ble_eq_true rfl, Nat.le_of_ble_eq_true rfl⟩) (pw_S hP hK hD) rfl rfl hl.1 rfl (lv_room (Nat.le_of_ble_eq_true rfl)) dX7_isSheet_6 ⟨Nat.zero_le _, Nat.zero_le _⟩) ?_
  refine lv_if_eq (tgt := 28) hx hb dX7_isSheet_9 (by decide) (fun c3 => ?_) (fun c3 => ?_)
  · have hf := it_p c3 hf
    refine lv_iconst (v := 0) hx hb dX7_isSheet_28 (by decide) ?_
    obtain rfl := so_i hf
    exact W.zret (v := 0) (ty := .boolean) hx hb hr rfl (fun t ht _ => ⟨rfl, ht⟩) (fun _ h => absurd h List.not_mem_nil) dX7_isSheet_29
  · have hf := it_n c3 hf
    refine lv_iload_n hx hb dX7_isSheet_12 rfl (lv_at hl 1 rfl) ?_
    refine lv_i2l hx hb dX7_isSheet_13 rfl ?_
    refine lv_lconst (v := 0) hx hb dX7_isSheet_14 (by decide) ?_
    refine lv_ldc2 hx hb hown w_0 dX7_isSheet_15 ?_
    obtain ⟨r4, h5, hf⟩ := bd_s hf
    refine ks_i (va_runS (As := [.long (Int32.toInt64 p2), .long 0, .long 3]) (rest := []) hcf (cz_X7_in l D k A ws (Int32.toInt64 p2) 0 3 r4 h5) (va_cwS 3 hts gX7_isSheet_X7_in rfl rfl rfl (by decide +kernel) ⟨Nat.le_of_ble_eq_true rfl, Nat.le_of_ble_eq_true rfl⟩) (pw_S hP hK hD) rfl rfl hl.1 rfl (lv_room (Nat.le_of_ble_eq_true rfl)) dX7_isSheet_18 ⟨Nat.zero_le _, Nat.zero_le _⟩) ?_
    refine lv_if_eq (tgt := 28) hx hb dX7_isSheet_21 (by decide) (fun c6 => ?_) (fun c6 => ?_)
    · have hf := it_p c6 hf
      refine lv_iconst (v := 0) hx hb dX7_isSheet_28 (by decide) ?_
      obtain rfl := so_i hf
      exact W.zret (v := 0) (ty := .boolean) hx hb hr rfl (fun t ht _ => ⟨rfl, ht⟩) (fun _ h => absurd h List.not_mem_nil) dX7_isSheet_29
    · have hf := it_n c6 hf
      refine lv_iconst (v := 1) hx hb dX7_isSheet_24 (by decide) ?_
      refine lv_goto (tgt := 29) hx hb dX7_isSheet_25 (by decide) ?_
      obtain rfl := so_i hf
      exact W.zret (v := 1) (ty := .boolean) hx hb hr rfl (fun t ht _ => ⟨rfl, ht⟩) (fun _ h => absurd h List.not_mem_nil) dX7_isSheet_29

theorem in_X7_found_X7 : ∀ w ∈ u_ws RX7 TX7 18, w ∈ wsX7_found := fun w h => List.mem_cons_of_mem _ (List.mem_append_right _ h)
def pf_X7_found (laneOf : Nat → Int32) (sizeOf : Nat → Int32)  (p1 : Int32) (p2 : Int32) (p3 : Int32) (p4 : Int32) : Option (Int32) :=
  ck_O (in_b p1 4) (
    if 0 ≤ (laneOf (Int32.toNatClampNeg p1)) then
      ck_O (in_b p1 4) (
        if (laneOf (Int32.toNatClampNeg p1)) = p2 then
          if p3 < 0 then
            some (-13)
          else
            ck_O (in_b p1 4) (
              if p3 ≤ ((sizeOf (Int32.toNatClampNeg p1)) - p4) then
                some 0
              else
                some (-13))
        else
          some (-12))
    else
      some (-11))

set_option maxHeartbeats 4000000 in
set_option maxRecDepth 100000 in
theorem cz_X7_found (l : Launch) (D : va_G) (k : kt_T) (A : Nat → Nat) (ws : va_W) (q : Nat)  (st : Nat → Int32) (past : Nat → Int32) (image : Nat → Int32) (imagePast : Nat → Int32) (tape : Nat → Int32) (laneOf : Nat → Int32) (sizeOf : Nat → Int32) (items : Nat → Int64) (least : Nat → Int32) (costs : Nat → Int32) (hops : Nat → Int32) (comes : Nat → Int32) (chain : Nat → Int32) (told : Nat → Int32) (acts : Int32) (imageActs : Int32) (tapeMany : Int32) (readAt : Int32) (p1 : Int32) (p2 : Int32) (p3 : Int32) (p4 : Int32) (out : Int32) (hf : pf_X7_found laneOf sizeOf p1 p2 p3 p4 = some out) (h_this : is_Y k A ws q st past image imagePast tape laneOf sizeOf items least costs hops comes chain told acts imageActs tapeMany readAt)  : Met l yX7_found wsX7_found { frames := 0, cells := 0, slots := 0, locals := 0 } (va_Pc [.ref (A q), .int p1, .int p2, .int p3, .int p4] (pw_P D k ws)) (qs_Q (some (.int out))) 0 0 (fun _ => False) := by
  refine Met.ofW (cc := cX7_found) (maxL := 5) (ret := (some .int)) (by decide) rfl ?_
  intro p e s m args below meth c s₁ B hml hv
  obtain ⟨rfl, hP, hK, hD⟩ := hv
  have C0 : cx_P p s m meth c [.ref (A q), .int p1, .int p2, .int p3, .int p4].toArray cX7_found 5 wsX7_found RX7 (some .int) := ⟨B.exec, B.bytes, hml, findClass_of_methodNamed B.named, atoms_spec (ws := wsX7_found) B.pre, B.returns, B.notSynchronized⟩
  obtain ⟨hx, hb, hml, hown, hts, hr, hlocks⟩ := id C0
  have hcf : CallFix p m c cX7_found 5 s [.ref (A q), .int p1, .int p2, .int p3, .int p4].toArray wsX7_found RX7 := ⟨hx, hb, hml, hown, hts⟩
  have w_0 := hts (.fieldLink RX7 29 "LeastRoutesModel" "laneOf" "[I") (List.mem_of_getElem? (i := 1) rfl)
  have w_1 := hts (.fieldLink RX7 32 "LeastRoutesModel" "sizeOf" "[I") (List.mem_of_getElem? (i := 2) rfl)
  have hl := lv_entry ([.ref (A q), .int p1, .int p2, .int p3, .int p4]) (n := 5) (Nat.le_of_ble_eq_true rfl)
  rw [lg_entry_eq]
  generalize (lg_sl ([.ref (A q), .int p1, .int p2, .int p3, .int p4]) ++ List.replicate (5 - (lg_sl ([.ref (A q), .int p1, .int p2, .int p3, .int p4])).length) Slot.unset).toArray = ls at hl ⊢
  have hl : lv_has ls 5 [(0, .ref (A q)), (1, .int p1), (2, .int p2), (3, .int p3), (4, .int p4)] := hl
  unfold pf_X7_found at hf
  refine lv_aload_n hx hb dX7_found_0 rfl (lv_at hl 0 rfl) ?_
  obtain ⟨h1, h2, h3, h4, h5, h6, h7, h8, h9, h10, h11, h12, h13, h14, h15⟩ := h_this
  refine va_get (D := D) (ci := 7) (v := .ref (A (q + 6))) (C := RX7) (T := TX7) (N := 18) hx hb hts in_X7_found_X7 hown hK.1 hP (q) h1 rfl 8 (by decide) w_0 (fun _ h9 => h9) rfl dX7_found_1 ?_
  refine lv_iload_n hx hb dX7_found_4 rfl (lv_at hl 1 rfl) ?_
  obtain ⟨z16, hf⟩ := ck_s hf
  refine va_iald hx hb hK.1 hP (q + 6) 0 h7 rfl (in_s z16) dX7_found_5 ?_
  refine lv_if_ge (tgt := 12) hx hb dX7_found_6 (by decide) (fun c17 => ?_) (fun c17 => ?_)
  · have hf := it_p c17 hf
    refine lv_aload_n hx hb dX7_found_12 rfl (lv_at hl 0 rfl) ?_
    refine va_get (D := D) (ci := 7) (v := .ref (A (q + 6))) (C := RX7) (T := TX7) (N := 18) hx hb hts in_X7_found_X7 hown hK.1 hP (q) h1 rfl 8 (by decide) w_0 (fun _ h9 => h9) rfl dX7_found_13 ?_
    refine lv_iload_n hx hb dX7_found_16 rfl (lv_at hl 1 rfl) ?_
    obtain ⟨z18, hf⟩ := ck_s hf
    refine va_iald hx hb hK.1 hP (q + 6) 0 h7 rfl (in_s z18) dX7_found_17 ?_
    refine lv_iload_n hx hb dX7_found_18 rfl (lv_at hl 2 rfl) ?_
    refine lv_icmp_eq (tgt := 25) hx hb dX7_found_19 (by decide) (fun c19 => ?_) (fun c19 => ?_)
    · have hf := it_p c19 hf
      refine lv_iload_n hx hb dX7_found_25 rfl (lv_at hl 3 rfl) ?_
      refine lv_if_lt (tgt := 42) hx hb dX7_found_26 (by decide) (fun c20 => ?_) (fun c20 => ?_)
      · have hf := it_p c20 hf
        refine lv_bipush (v := (-13)) hx hb dX7_found_42 (by decide) ?_
        refine lv_goto (tgt := 48) hx hb dX7_found_44 (by decide) ?_
        obtain rfl := so_i hf
        exact W.iret (v := (-13)) hx hb hr (fun t ht _ => ⟨rfl, ht⟩) (fun _ h => absurd h List.not_mem_nil) dX7_found_48
      · have hf := it_n c20 hf
        refine lv_iload_n hx hb dX7_found_29 rfl (lv_at hl 3 rfl) ?_
        refine lv_aload_n hx hb dX7_found_30 rfl (lv_at hl 0 rfl) ?_
        refine va_get (D := D) (ci := 7) (v := .ref (A (q + 7))) (C := RX7) (T := TX7) (N := 18) hx hb hts in_X7_found_X7 hown hK.1 hP (q) h1 rfl 9 (by decide) w_1 (fun _ h9 => h9) rfl dX7_found_31 ?_
        refine lv_iload_n hx hb dX7_found_34 rfl (lv_at hl 1 rfl) ?_
        obtain ⟨z21, hf⟩ := ck_s hf
        refine va_iald hx hb hK.1 hP (q + 7) 0 h8 rfl (in_s z21) dX7_found_35 ?_
        refine lv_iload hx hb dX7_found_36 (lv_at hl 4 rfl) ?_
        refine lv_isub hx hb dX7_found_38 ?_
        refine lv_icmp_le (tgt := 47) hx hb dX7_found_39 (by decide) (fun c22 => ?_) (fun c22 => ?_)
        · have hf := it_p c22 hf
          refine lv_iconst (v := 0) hx hb dX7_found_47 (by decide) ?_
          obtain rfl := so_i hf
          exact W.iret (v := 0) hx hb hr (fun t ht _ => ⟨rfl, ht⟩) (fun _ h => absurd h List.not_mem_nil) dX7_found_48
        · have hf := it_n c22 hf
          refine lv_bipush (v := (-13)) hx hb dX7_found_42 (by decide) ?_
          refine lv_goto (tgt := 48) hx hb dX7_found_44 (by decide) ?_
          obtain rfl := so_i hf
          exact W.iret (v := (-13)) hx hb hr (fun t ht _ => ⟨rfl, ht⟩) (fun _ h => absurd h List.not_mem_nil) dX7_found_48
    · have hf := it_n c19 hf
      refine lv_bipush (v := (-12)) hx hb dX7_found_22 (by decide) ?_
      obtain rfl := so_i hf
      exact W.iret (v := (-12)) hx hb hr (fun t ht _ => ⟨rfl, ht⟩) (fun _ h => absurd h List.not_mem_nil) dX7_found_24
  · have hf := it_n c17 hf
    refine lv_bipush (v := (-11)) hx hb dX7_found_9 (by decide) ?_
    obtain rfl := so_i hf
    exact W.iret (v := (-11)) hx hb hr (fun t ht _ => ⟨rfl, ht⟩) (fun _ h => absurd h List.not_mem_nil) dX7_found_11

theorem in_X7_isLength_X7 : ∀ w ∈ u_ws RX7 TX7 18, w ∈ wsX7_isLength := fun w h => List.mem_cons_of_mem _ (List.mem_append_right _ h)
def lp_X7_isLength_63  (items : Nat → Int64) (x1 : Int32) (x2 : Int32) (x3 : Int32) (x4 : Int32) (x5 : Int32) (x6 : Int32) (v0 : Int32) (g_15 : Int32 → Int32 → Option (Int32)) : Option (Int32) :=
  if x4 = 0 then
    g_15 0 (x6 + 1)
  else
    if v0 = 0 then
      g_15 1 (x6 + 1)
    else
      ck_O (in_b ((x1 + (2 * x5)) + 1) 120) (
        ck_O (in_b ((x1 + (2 * x6)) + 1) 120) (
          if (lg_cmp (items (Int32.toNatClampNeg ((x1 + (2 * x5)) + 1))) (items (Int32.toNatClampNeg ((x1 + (2 * x6)) + 1)))) = 0 then
            g_15 1 (x6 + 1)
          else
            g_15 0 (x6 + 1)))

def lp_X7_isLength_15  (items : Nat → Int64) (x1 : Int32) (x2 : Int32) (x3 : Int32) (x5 : Int32) (g_6 : Int32 → Int32 → Option (Int32)) : Nat → Int32 → Int32 → Option (Int32)
  | 0, _, _ => none
  | n + 1, x4, x6 =>
    if x5 ≤ x6 then
      g_6 x4 (x5 + 1)
    else
      ck_O (in_b (x1 + (2 * x5)) 120) (
        ck_O (in_b (x1 + (2 * x6)) 120) (
          if (lg_cmp ((items (Int32.toNatClampNeg (x1 + (2 * x5)))) >>> ((Int32.toInt64 (8 - x3)) &&& 63)) ((items (Int32.toNatClampNeg (x1 + (2 * x6)))) >>> ((Int32.toInt64 (8 - x3)) &&& 63))) = 0 then
            lp_X7_isLength_63 items x1 x2 x3 x4 x5 x6 1 (lp_X7_isLength_15 items x1 x2 x3 x5 g_6 n)
          else
            lp_X7_isLength_63 items x1 x2 x3 x4 x5 x6 0 (lp_X7_isLength_15 items x1 x2 x3 x5 g_6 n)))

def lp_X7_isLength_6  (items : Nat → Int64) (x1 : Int32) (x2 : Int32) (x3 : Int32) : Nat → Int32 → Int32 → Option (Int32)
  | 0, _, _ => none
  | n + 1, x4, x5 =>
    if x2 ≤ x5 then
      ck_O (bo_b x4) (
        some x4)
    else
      lp_X7_isLength_15 items x1 x2 x3 x5 (lp_X7_isLength_6 items x1 x2 x3 n) fu_N x4 0

def pf_X7_isLength (items : Nat → Int64)  (p1 : Int32) (p2 : Int32) (p3 : Int32) : Option (Int32) :=
  lp_X7_isLength_6 items p1 p2 p3 fu_N 1 0

set_option maxHeartbeats 4000000 in
set_option maxRecDepth 100000 in
theorem wl_X7_isLength_63 {p : Program} {e : Env} {s : State} {m : MethodId} {args : Array Value} {below : List Frame} {meth : Method} {c : Code} (l : Launch) (D : va_G) (k : kt_T) (A : Nat → Nat) (ws : va_W) (q : Nat)  (out : Int32) (hK : kk_P D k s) (C0 : cx_P p s m meth c args cX7_isLength 8 wsX7_isLength RX7 (some .boolean))  (st : Nat → Int32) (past : Nat → Int32) (image : Nat → Int32) (imagePast : Nat → Int32) (tape : Nat → Int32) (laneOf : Nat → Int32) (sizeOf : Nat → Int32) (items : Nat → Int64) (least : Nat → Int32) (costs : Nat → Int32) (hops : Nat → Int32) (comes : Nat → Int32) (chain : Nat → Int32) (told : Nat → Int32) (acts : Int32) (imageActs : Int32) (tapeMany : Int32) (readAt : Int32) (x1 : Int32) (x2 : Int32) (x3 : Int32) (x4 : Int32) (x5 : Int32) (x6 : Int32) (v0 : Int32) (g_15 : Int32 → Int32 → Option (Int32)) (hg_15 : ∀ (x4 : Int32) (x6 : Int32) (ls : Array Slot), g_15 x4 x6 = some out → lv_has ls 8 [(0, .ref (A q)), (1, .int x1), (2, .int x2), (3, .int x3), (4, .int x4), (5, .int x5), (6, .int x6)] → W p l e (headSpec wsX7_isLength { frames := 0, cells := 0, slots := 0, locals := 0 }).room s m args below meth c s.heap [] 0 0 (MQ below (qs_Q (some (.int out))) args s 0 0 (fun _ => False)) (F0 m 15 ls [])) (h_this : is_Y k A ws q st past image imagePast tape laneOf sizeOf items least costs hops comes chain told acts imageActs tapeMany readAt) (hP : va_P D vwCl ws s.heap) (hD : va_D (fun _ => True) ws) : ∀ (ls : Array Slot), lp_X7_isLength_63 items x1 x2 x3 x4 x5 x6 v0 g_15 = some out → lv_has ls 8 [(0, .ref (A q)), (1, .int x1), (2, .int x2), (3, .int x3), (4, .int x4), (5, .int x5), (6, .int x6)] → W p l e (headSpec wsX7_isLength { frames := 0, cells := 0, slots := 0, locals := 0 }).room s m args below meth c s.heap [] 0 0 (MQ below (qs_Q (some (.int out))) args s 0 0 (fun _ => False)) (F0 m 63 ls [.int v0]) := by
  obtain ⟨hx, hb, hml, hown, hts, hr, hlocks⟩ := id C0
  have hcf : CallFix p m c cX7_isLength 8 s args wsX7_isLength RX7 := ⟨hx, hb, hml, hown, hts⟩
  have w_0 := hts (.fieldLink RX7 35 "LeastRoutesModel" "items" "[J") (List.mem_of_getElem? (i := 1) rfl)
  intro ls hf hl
  unfold lp_X7_isLength_63 at hf
  refine lv_istore (lv' := [(7, .int v0), (0, .ref (A q)), (1, .int x1), (2, .int x2), (3, .int x3), (4, .int x4), (5, .int x5), (6, .int x6)]) hx hb dX7_isLength_63 hl (by decide) rfl (fun ls hl => ?_)
  refine lv_iload hx hb dX7_isLength_65 (lv_at hl 5 rfl) ?_
  refine lv_if_eq (tgt := 109) hx hb dX7_isLength_67 (by decide) (fun c22 => ?_) (fun c22 => ?_)
  · have hf := it_p c22 hf
    refine lv_iconst (v := 0) hx hb dX7_isLength_109 (by decide) ?_
    refine lv_istore (lv' := [(4, .int 0), (7, .int v0), (0, .ref (A q)), (1, .int x1), (2, .int x2), (3, .int x3), (5, .int x5), (6, .int x6)]) hx hb dX7_isLength_110 hl (by decide) rfl (fun ls hl => ?_)
    refine lv_iinc (v := (x6 + 1)) (lv' := [(6, .int (x6 + 1)), (4, .int 0), (7, .int v0), (0, .ref (A q)), (1, .int x1), (2, .int x2), (3, .int x3), (5, .int x5)]) hx hb dX7_isLength_112 hl (k := 7) rfl rfl (by decide) rfl (fun ls hl => ?_)
    refine lv_goto (tgt := 15) hx hb dX7_isLength_115 (by decide) ?_
    exact hg_15 0 (x6 + 1) _ hf (lv_sub hl [3, 4, 5, 6, 1, 7, 0] rfl)
  · have hf := it_n c22 hf
    refine lv_iload hx hb dX7_isLength_70 (lv_at hl 0 rfl) ?_
    refine lv_if_eq (tgt := 105) hx hb dX7_isLength_72 (by decide) (fun c23 => ?_) (fun c23 => ?_)
    · have hf := it_p c23 hf
      refine lv_iconst (v := 1) hx hb dX7_isLength_105 (by decide) ?_
      refine lv_goto (tgt := 110) hx hb dX7_isLength_106 (by decide) ?_
      refine lv_istore (lv' := [(4, .int 1), (7, .int v0), (0, .ref (A q)), (1, .int x1), (2, .int x2), (3, .int x3), (5, .int x5), (6, .int x6)]) hx hb dX7_isLength_110 hl (by decide) rfl (fun ls hl => ?_)
      refine lv_iinc (v := (x6 + 1)) (lv' := [(6, .int (x6 + 1)), (4, .int 1), (7, .int v0), (0, .ref (A q)), (1, .int x1), (2, .int x2), (3, .int x3), (5, .int x5)]) hx hb dX7_isLength_112 hl (k := 7) rfl rfl (by decide) rfl (fun ls hl => ?_)
      refine lv_goto (tgt := 15) hx hb dX7_isLength_115 (by decide) ?_
      exact hg_15 1 (x6 + 1) _ hf (lv_sub hl [3, 4, 5, 6, 1, 7, 0] rfl)
    · have hf := it_n c23 hf
      refine lv_aload_n hx hb dX7_isLength_75 rfl (lv_at hl 1 rfl) ?_
      obtain ⟨h24, h25, h26, h27, h28, h29, h30, h31, h32, h33, h34, h35, h36, h37, h38⟩ := h_this
      refine va_get (D := D) (ci := 7) (v := .ref (A (q + 8))) (C := RX7) (T := TX7) (N := 18) hx hb hts in_X7_isLength_X7 hown hK.1 hP (q) h24 rfl 10 (by decide) w_0 (fun _ h9 => h9) rfl dX7_isLength_76 ?_
      refine lv_iload_n hx hb dX7_isLength_79 rfl (lv_at hl 2 rfl) ?_
      refine lv_iconst (v := 2) hx hb dX7_isLength_80 (by decide) ?_
      refine lv_iload hx hb dX7_isLength_81 (lv_at hl 6 rfl) ?_
      refine lv_imul hx hb dX7_isLength_83 ?_
      refine lv_iadd hx hb dX7_isLength_84 ?_
      refine lv_iconst (v := 1) hx hb dX7_isLength_85 (by decide) ?_
      refine lv_iadd hx hb dX7_isLength_86 ?_
      obtain ⟨z39, hf⟩ := ck_s hf
      refine va_lald hx hb hK.1 hP (q + 8) 1 h32 rfl (in_s z39) dX7_isLength_87 ?_
      refine lv_aload_n hx hb dX7_isLength_88 rfl (lv_at hl 1 rfl) ?_
      refine va_get (D := D) (ci := 7) (v := .ref (A (q + 8))) (C := RX7) (T := TX7) (N := 18) hx hb hts in_X7_isLength_X7 hown hK.1 hP (q) h24 rfl 10 (by decide) w_0 (fun _ h9 => h9) rfl dX7_isLength_89 ?_
      refine lv_iload_n hx hb dX7_isLength_92 rfl (lv_at hl 2 rfl) ?_
      refine lv_iconst (v := 2) hx hb dX7_isLength_93 (by decide) ?_
      refine lv_iload hx hb dX7_isLength_94 (lv_at hl 7 rfl) ?_
      refine lv_imul hx hb dX7_isLength_96 ?_
      refine lv_iadd hx hb dX7_isLength_97 ?_
      refine lv_iconst (v := 1) hx hb dX7_isLength_98 (by decide) ?_
      refine lv_iadd hx hb dX7_isLength_99 ?_
      obtain ⟨z40, hf⟩ := ck_s hf
      refine va_lald hx hb hK.1 hP (q + 8) 1 h32 rfl (in_s z40) dX7_isLength_100 ?_
      refine W.lcmp hx hb dX7_isLength_101 ?_
      refine lv_if_ne (tgt := 109) hx hb dX7_isLength_102 (by decide) (fun c41 => ?_) (fun c41 => ?_)
      · have hf := it_n c41 hf
        refine lv_iconst (v := 0) hx hb dX7_isLength_109 (by decide) ?_
        refine lv_istore (lv' := [(4, .int 0), (7, .int v0), (0, .ref (A q)), (1, .int x1), (2, .int x2), (3, .int x3), (5, .int x5), (6, .int x6)]) hx hb dX7_isLength_110 hl (by decide) rfl (fun ls hl => ?_)
        refine lv_iinc (v := (x6 + 1)) (lv' := [(6, .int (x6 + 1)), (4, .int 0), (7, .int v0), (0, .ref (A q)), (1, .int x1), (2, .int x2), (3, .int x3), (5, .int x5)]) hx hb dX7_isLength_112 hl (k := 7) rfl rfl (by decide) rfl (fun ls hl => ?_)
        refine lv_goto (tgt := 15) hx hb dX7_isLength_115 (by decide) ?_
        exact hg_15 0 (x6 + 1) _ hf (lv_sub hl [3, 4, 5, 6, 1, 7, 0] rfl)
      · have hf := it_p c41 hf
        refine lv_iconst (v := 1) hx hb dX7_isLength_105 (by decide) ?_
        refine lv_goto (tgt := 110) hx hb dX7_isLength_106 (by decide) ?_
        refine lv_istore (lv' := [(4, .int 1), (7, .int v0), (0, .ref (A q)), (1, .int x1), (2, .int x2), (3, .int x3), (5, .int x5), (6, .int x6)]) hx hb dX7_isLength_110 hl (by decide) rfl (fun ls hl => ?_)
        refine lv_iinc (v := (x6 + 1)) (lv' := [(6, .int (x6 + 1)), (4, .int 1), (7, .int v0), (0, .ref (A q)), (1, .int x1), (2, .int x2), (3, .int x3), (5, .int x5)]) hx hb dX7_isLength_112 hl (k := 7) rfl rfl (by decide) rfl (fun ls hl => ?_)
        refine lv_goto (tgt := 15) hx hb dX7_isLength_115 (by decide) ?_
        exact hg_15 1 (x6 + 1) _ hf (lv_sub hl [3, 4, 5, 6, 1, 7, 0] rfl)

set_option maxHeartbeats 4000000 in
set_option maxRecDepth 100000 in
theorem wl_X7_isLength_15 {p : Program} {e : Env} {s : State} {m : MethodId} {args : Array Value} {below : List Frame} {meth : Method} {c : Code} (l : Launch) (D : va_G) (k : kt_T) (A : Nat → Nat) (ws : va_W) (q : Nat)  (out : Int32) (hK : kk_P D k s) (C0 : cx_P p s m meth c args cX7_isLength 8 wsX7_isLength RX7 (some .boolean))  (st : Nat → Int32) (past : Nat → Int32) (image : Nat → Int32) (imagePast : Nat → Int32) (tape : Nat → Int32) (laneOf : Nat → Int32) (sizeOf : Nat → Int32) (items : Nat → Int64) (least : Nat → Int32) (costs : Nat → Int32) (hops : Nat → Int32) (comes : Nat → Int32) (chain : Nat → Int32) (told : Nat → Int32) (acts : Int32) (imageActs : Int32) (tapeMany : Int32) (readAt : Int32) (x1 : Int32) (x2 : Int32) (x3 : Int32) (x5 : Int32)  (g_6 : Int32 → Int32 → Option (Int32)) (hg_6 : ∀ (x4 : Int32) (x5 : Int32) (ls : Array Slot), g_6 x4 x5 = some out → lv_has ls 8 [(0, .ref (A q)), (1, .int x1), (2, .int x2), (3, .int x3), (4, .int x4), (5, .int x5)] → W p l e (headSpec wsX7_isLength { frames := 0, cells := 0, slots := 0, locals := 0 }).room s m args below meth c s.heap [] 0 0 (MQ below (qs_Q (some (.int out))) args s 0 0 (fun _ => False)) (F0 m 6 ls [])) (h_this : is_Y k A ws q st past image imagePast tape laneOf sizeOf items least costs hops comes chain told acts imageActs tapeMany readAt) (hP : va_P D vwCl ws s.heap) (hD : va_D (fun _ => True) ws) : ∀ (n : Nat) (x4 : Int32) (x6 : Int32) (ls : Array Slot), lp_X7_isLength_15 items x1 x2 x3 x5 g_6 n x4 x6 = some out → lv_has ls 8 [(0, .ref (A q)), (1, .int x1), (2, .int x2), (3, .int x3), (4, .int x4), (5, .int x5), (6, .int x6)] → W p l e (headSpec wsX7_isLength { frames := 0, cells := 0, slots := 0, locals := 0 }).room s m args below meth c s.heap [] 0 0 (MQ below (qs_Q (some (.int out))) args s 0 0 (fun _ => False)) (F0 m 15 ls []) := by
  obtain ⟨hx, hb, hml, hown, hts, hr, hlocks⟩ := id C0
  have hcf : CallFix p m c cX7_isLength 8 s args wsX7_isLength RX7 := ⟨hx, hb, hml, hown, hts⟩
  have w_0 := hts (.fieldLink RX7 35 "LeastRoutesModel" "items" "[J") (List.mem_of_getElem? (i := 1) rfl)
  intro n
  induction n with
  | zero =>
    intro x4 x6 ls hf hl
    exact (no_s hf).elim
  | succ n ih =>
    intro x4 x6 ls hf hl
    rw [lp_X7_isLength_15] at hf
    refine lv_iload hx hb dX7_isLength_15 (lv_at hl 6 rfl) ?_
    refine lv_iload hx hb dX7_isLength_17 (lv_at hl 5 rfl) ?_
    refine lv_icmp_ge (tgt := 118) hx hb dX7_isLength_19 (by decide) (fun c3 => ?_) (fun c3 => ?_)
    · have hf := it_p c3 hf
      refine lv_iinc (v := (x5 + 1)) (lv' := [(5, .int (x5 + 1)), (0, .ref (A q)), (1, .int x1), (2, .int x2), (3, .int x3), (4, .int x4), (6, .int x6)]) hx hb dX7_isLength_118 hl (k := 5) rfl rfl (by decide) rfl (fun ls hl => ?_)
      refine lv_goto (tgt := 6) hx hb dX7_isLength_121 (by decide) ?_
      exact hg_6 x4 (x5 + 1) _ hf (lv_sub hl [1, 2, 3, 4, 5, 0] rfl)
    · have hf := it_n c3 hf
      refine lv_aload_n hx hb dX7_isLength_22 rfl (lv_at hl 0 rfl) ?_
      obtain ⟨h4, h5, h6, h7, h8, h9, h10, h11, h12, h13, h14, h15, h16, h17, h18⟩ := h_this
      refine va_get (D := D) (ci := 7) (v := .ref (A (q + 8))) (C := RX7) (T := TX7) (N := 18) hx hb hts in_X7_isLength_X7 hown hK.1 hP (q) h4 rfl 10 (by decide) w_0 (fun _ h9 => h9) rfl dX7_isLength_23 ?_
      refine lv_iload_n hx hb dX7_isLength_26 rfl (lv_at hl 1 rfl) ?_
      refine lv_iconst (v := 2) hx hb dX7_isLength_27 (by decide) ?_
      refine lv_iload hx hb dX7_isLength_28 (lv_at hl 5 rfl) ?_
      refine lv_imul hx hb dX7_isLength_30 ?_
      refine lv_iadd hx hb dX7_isLength_31 ?_
      obtain ⟨z19, hf⟩ := ck_s hf
      refine va_lald hx hb hK.1 hP (q + 8) 1 h12 rfl (in_s z19) dX7_isLength_32 ?_
      refine lv_bipush (v := 8) hx hb dX7_isLength_33 (by decide) ?_
      refine lv_iload_n hx hb dX7_isLength_35 rfl (lv_at hl 3 rfl) ?_
      refine lv_isub hx hb dX7_isLength_36 ?_
      refine lv_lshr hx hb dX7_isLength_37 rfl ?_
      refine lv_aload_n hx hb dX7_isLength_38 rfl (lv_at hl 0 rfl) ?_
      refine va_get (D := D) (ci := 7) (v := .ref (A (q + 8))) (C := RX7) (T := TX7) (N := 18) hx hb hts in_X7_isLength_X7 hown hK.1 hP (q) h4 rfl 10 (by decide) w_0 (fun _ h9 => h9) rfl dX7_isLength_39 ?_
      refine lv_iload_n hx hb dX7_isLength_42 rfl (lv_at hl 1 rfl) ?_
      refine lv_iconst (v := 2) hx hb dX7_isLength_43 (by decide) ?_
      refine lv_iload hx hb dX7_isLength_44 (lv_at hl 6 rfl) ?_
      refine lv_imul hx hb dX7_isLength_46 ?_
      refine lv_iadd hx hb dX7_isLength_47 ?_
      obtain ⟨z20, hf⟩ := ck_s hf
      refine va_lald hx hb hK.1 hP (q + 8) 1 h12 rfl (in_s z20) dX7_isLength_48 ?_
      refine lv_bipush (v := 8) hx hb dX7_isLength_49 (by decide) ?_
      refine lv_iload_n hx hb dX7_isLength_51 rfl (lv_at hl 3 rfl) ?_
      refine lv_isub hx hb dX7_isLength_52 ?_
      refine lv_lshr hx hb dX7_isLength_53 rfl ?_
      refine W.lcmp hx hb dX7_isLength_54 ?_
      refine lv_if_ne (tgt := 62) hx hb dX7_isLength_55 (by decide) (fun c21 => ?_) (fun c21 => ?_)
      · have hf := it_n c21 hf
        refine lv_iconst (v := 0) hx hb dX7_isLength_62 (by decide) ?_
        have h42 : is_Y k A ws (q) st past image imagePast tape laneOf sizeOf items least costs hops comes chain told acts imageActs tapeMany readAt := ⟨h4, h5, h6, h7, h8, h9, h10, h11, h12, h13, h14, h15, h16, h17, h18⟩
        exact wl_X7_isLength_63 l D k A ws q _ hK C0 st past image imagePast tape laneOf sizeOf items least costs hops comes chain told acts imageActs tapeMany readAt x1 x2 x3 x4 x5 x6 0 _ ih h42 hP hD _ hf (lv_sub hl [0, 1, 2, 3, 4, 5, 6] rfl)
      · have hf := it_p c21 hf
        refine lv_iconst (v := 1) hx hb dX7_isLength_58 (by decide) ?_
        refine lv_goto (tgt := 63) hx hb dX7_isLength_59 (by decide) ?_
        have h43 : is_Y k A ws (q) st past image imagePast tape laneOf sizeOf items least costs hops comes chain told acts imageActs tapeMany readAt := ⟨h4, h5, h6, h7, h8, h9, h10, h11, h12, h13, h14, h15, h16, h17, h18⟩
        exact wl_X7_isLength_63 l D k A ws q _ hK C0 st past image imagePast tape laneOf sizeOf items least costs hops comes chain told acts imageActs tapeMany readAt x1 x2 x3 x4 x5 x6 1 _ ih h43 hP hD _ hf (lv_sub hl [0, 1, 2, 3, 4, 5, 6] rfl)

set_option maxHeartbeats 4000000 in
set_option maxRecDepth 100000 in
theorem wl_X7_isLength_6 {p : Program} {e : Env} {s : State} {m : MethodId} {args : Array Value} {below : List Frame} {meth : Method} {c : Code} (l : Launch) (D : va_G) (k : kt_T) (A : Nat → Nat) (ws : va_W) (q : Nat)  (out : Int32) (hK : kk_P D k s) (C0 : cx_P p s m meth c args cX7_isLength 8 wsX7_isLength RX7 (some .boolean))  (st : Nat → Int32) (past : Nat → Int32) (image : Nat → Int32) (imagePast : Nat → Int32) (tape : Nat → Int32) (laneOf : Nat → Int32) (sizeOf : Nat → Int32) (items : Nat → Int64) (least : Nat → Int32) (costs : Nat → Int32) (hops : Nat → Int32) (comes : Nat → Int32) (chain : Nat → Int32) (told : Nat → Int32) (acts : Int32) (imageActs : Int32) (tapeMany : Int32) (readAt : Int32) (x1 : Int32) (x2 : Int32) (x3 : Int32)   (h_this : is_Y k A ws q st past image imagePast tape laneOf sizeOf items least costs hops comes chain told acts imageActs tapeMany readAt) (hP : va_P D vwCl ws s.heap) (hD : va_D (fun _ => True) ws) : ∀ (n : Nat) (x4 : Int32) (x5 : Int32) (ls : Array Slot), lp_X7_isLength_6 items x1 x2 x3 n x4 x5 = some out → lv_has ls 8 [(0, .ref (A q)), (1, .int x1), (2, .int x2), (3, .int x3), (4, .int x4), (5, .int x5)] → W p l e (headSpec wsX7_isLength { frames := 0, cells := 0, slots := 0, locals := 0 }).room s m args below meth c s.heap [] 0 0 (MQ below (qs_Q (some (.int out))) args s 0 0 (fun _ => False)) (F0 m 6 ls []) := by
  obtain ⟨hx, hb, hml, hown, hts, hr, hlocks⟩ := id C0
  have hcf : CallFix p m c cX7_isLength 8 s args wsX7_isLength RX7 := ⟨hx, hb, hml, hown, hts⟩
  intro n
  induction n with
  | zero =>
    intro x4 x5 ls hf hl
    exact (no_s hf).elim
  | succ n ih =>
    intro x4 x5 ls hf hl
    rw [lp_X7_isLength_6] at hf
    refine lv_iload hx hb dX7_isLength_6 (lv_at hl 5 rfl) ?_
    refine lv_iload_n hx hb dX7_isLength_8 rfl (lv_at hl 2 rfl) ?_
    refine lv_icmp_ge (tgt := 124) hx hb dX7_isLength_9 (by decide) (fun c1 => ?_) (fun c1 => ?_)
    · have hf := it_p c1 hf
      refine lv_iload hx hb dX7_isLength_124 (lv_at hl 4 rfl) ?_
      obtain ⟨z2, hf⟩ := ck_s hf
      obtain rfl := so_i hf
      exact W.zret (v := x4) (ty := .boolean) hx hb hr (bo_s z2) (fun t ht _ => ⟨rfl, ht⟩) (fun _ h => absurd h List.not_mem_nil) dX7_isLength_126
    · have hf := it_n c1 hf
      refine lv_iconst (v := 0) hx hb dX7_isLength_12 (by decide) ?_
      refine lv_istore (lv' := [(6, .int 0), (0, .ref (A q)), (1, .int x1), (2, .int x2), (3, .int x3), (4, .int x4), (5, .int x5)]) hx hb dX7_isLength_13 hl (by decide) rfl (fun ls hl => ?_)
      exact wl_X7_isLength_15 l D k A ws q _ hK C0 st past image imagePast tape laneOf sizeOf items least costs hops comes chain told acts imageActs tapeMany readAt x1 x2 x3 x5 _ ih h_this hP hD fu_N x4 0 _ hf (lv_sub hl [1, 2, 3, 4, 5, 6, 0] rfl)

set_option maxHeartbeats 4000000 in
set_option maxRecDepth 100000 in
theorem cz_X7_isLength (l : Launch) (D : va_G) (k : kt_T) (A : Nat → Nat) (ws : va_W) (q : Nat)  (st : Nat → Int32) (past : Nat → Int32) (image : Nat → Int32) (imagePast : Nat → Int32) (tape : Nat → Int32) (laneOf : Nat → Int32) (sizeOf : Nat → Int32) (items : Nat → Int64) (least : Nat → Int32) (costs : Nat → Int32) (hops : Nat → Int32) (comes : Nat → Int32) (chain : Nat → Int32) (told : Nat → Int32) (acts : Int32) (imageActs : Int32) (tapeMany : Int32) (readAt : Int32) (p1 : Int32) (p2 : Int32) (p3 : Int32) (out : Int32) (hf : pf_X7_isLength items p1 p2 p3 = some out) (h_this : is_Y k A ws q st past image imagePast tape laneOf sizeOf items least costs hops comes chain told acts imageActs tapeMany readAt)  : Met l yX7_isLength wsX7_isLength { frames := 0, cells := 0, slots := 0, locals := 0 } (va_Pc [.ref (A q), .int p1, .int p2, .int p3] (pw_P D k ws)) (qs_Q (some (.int out))) 0 0 (fun _ => False) := by
  refine Met.ofW (cc := cX7_isLength) (maxL := 8) (ret := (some .boolean)) (by decide) rfl ?_
  intro p e s m args below meth c s₁ B hml hv
  obtain ⟨rfl, hP, hK, hD⟩ := hv
  have C0 : cx_P p s m meth c [.ref (A q), .int p1, .int p2, .int p3].toArray cX7_isLength 8 wsX7_isLength RX7 (some .boolean) := ⟨B.exec, B.bytes, hml, findClass_of_methodNamed B.named, atoms_spec (ws := wsX7_isLength) B.pre, B.returns, B.notSynchronized⟩
  obtain ⟨hx, hb, hml, hown, hts, hr, hlocks⟩ := id C0
  have hcf : CallFix p m c cX7_isLength 8 s [.ref (A q), .int p1, .int p2, .int p3].toArray wsX7_isLength RX7 := ⟨hx, hb, hml, hown, hts⟩
  have hl := lv_entry ([.ref (A q), .int p1, .int p2, .int p3]) (n := 8) (Nat.le_of_ble_eq_true rfl)
  rw [lg_entry_eq]
  generalize (lg_sl ([.ref (A q), .int p1, .int p2, .int p3]) ++ List.replicate (8 - (lg_sl ([.ref (A q), .int p1, .int p2, .int p3])).length) Slot.unset).toArray = ls at hl ⊢
  have hl : lv_has ls 8 [(0, .ref (A q)), (1, .int p1), (2, .int p2), (3, .int p3)] := hl
  unfold pf_X7_isLength at hf
  refine lv_iconst (v := 1) hx hb dX7_isLength_0 (by decide) ?_
  refine lv_istore (lv' := [(4, .int 1), (0, .ref (A q)), (1, .int p1), (2, .int p2), (3, .int p3)]) hx hb dX7_isLength_1 hl (by decide) rfl (fun ls hl => ?_)
  refine lv_iconst (v := 0) hx hb dX7_isLength_3 (by decide) ?_
  refine lv_istore (lv' := [(5, .int 0), (4, .int 1), (0, .ref (A q)), (1, .int p1), (2, .int p2), (3, .int p3)]) hx hb dX7_isLength_4 hl (by decide) rfl (fun ls hl => ?_)
  exact wl_X7_isLength_6 l D k A ws q _ hK C0 st past image imagePast tape laneOf sizeOf items least costs hops comes chain told acts imageActs tapeMany readAt p1 p2 p3 h_this hP hD fu_N 1 0 _ hf (lv_sub hl [2, 3, 4, 5, 1, 0] rfl)

theorem in_X7_lengths_X7 : ∀ w ∈ u_ws RX7 TX7 18, w ∈ wsX7_lengths := fun w h => List.mem_cons_of_mem _ (List.mem_append_right _ h)
def lp_X7_lengths_123  (items : Nat → Int64) (x4 : Int32) (x6 : Int32) : Nat → Int32 → Int32 → Option (Int32)
  | 0, _, _ => none
  | n + 1, x7, x8 =>
    if 8 < x8 then
      some x7
    else
      (pf_X7_isLength items x6 x4 x8).bind (fun r12 =>
        if r12 = 0 then
          lp_X7_lengths_123 items x4 x6 n (x7 ||| 0) (x8 + 1)
        else
          lt_O (x7 ||| ((1 : Int32) <<< (x8 &&& 31))) (fun y15 =>
            lp_X7_lengths_123 items x4 x6 n y15 (x8 + 1)))

def lp_X7_lengths_55  (items : Nat → Int64) (x4 : Int32) (x6 : Int32) : Nat → Int32 → Option (Int32)
  | 0, _ => none
  | n + 1, x7 =>
    if x4 ≤ x7 then
      lp_X7_lengths_123 items x4 x6 fu_N 0 0
    else
      ck_O (in_b (x6 + (2 * x7)) 120) (
        (pf_X7_in (items (Int32.toNatClampNeg (x6 + (2 * x7)))) 0 255).bind (fun r33 =>
          if r33 = 0 then
            some (-2)
          else
            ck_O (in_b ((x6 + (2 * x7)) + 1) 120) (
              (pf_X7_in (items (Int32.toNatClampNeg ((x6 + (2 * x7)) + 1))) 0 7).bind (fun r37 =>
                if r37 = 0 then
                  some (-2)
                else
                  lp_X7_lengths_55 items x4 x6 n (x7 + 1)))))

def pf_X7_lengths (laneOf : Nat → Int32) (sizeOf : Nat → Int32) (items : Nat → Int64)  (p1 : Int32) (p2 : Int32) (p3 : Int32) (p4 : Int32) : Option (Int32) :=
  (pf_X7_isSheet p1 p2).bind (fun r1 =>
    if r1 = 0 then
      some (-1)
    else
      (pf_X7_in (Int32.toInt64 p4) 1 12).bind (fun r4 =>
        if r4 = 0 then
          some (-1)
        else
          (pf_X7_found laneOf sizeOf p1 p2 p3 (2 * p4)).bind (fun r7 =>
            if r7 = 0 then
              lp_X7_lengths_55 items p4 ((30 * p1) + p3) fu_N 0
            else
              some r7)))

set_option maxHeartbeats 4000000 in
set_option maxRecDepth 100000 in
theorem wl_X7_lengths_123 {p : Program} {e : Env} {s : State} {m : MethodId} {args : Array Value} {below : List Frame} {meth : Method} {c : Code} (l : Launch) (D : va_G) (k : kt_T) (A : Nat → Nat) (ws : va_W) (q : Nat)  (out : Int32) (hK : kk_P D k s) (C0 : cx_P p s m meth c args cX7_lengths 9 wsX7_lengths RX7 (some .int))  (st : Nat → Int32) (past : Nat → Int32) (image : Nat → Int32) (imagePast : Nat → Int32) (tape : Nat → Int32) (laneOf : Nat → Int32) (sizeOf : Nat → Int32) (items : Nat → Int64) (least : Nat → Int32) (costs : Nat → Int32) (hops : Nat → Int32) (comes : Nat → Int32) (chain : Nat → Int32) (told : Nat → Int32) (acts : Int32) (imageActs : Int32) (tapeMany : Int32) (readAt : Int32) (x4 : Int32) (x6 : Int32)   (h_this : is_Y k A ws q st past image imagePast tape laneOf sizeOf items least costs hops comes chain told acts imageActs tapeMany readAt) (hP : va_P D vwCl ws s.heap) (hD : va_D (fun _ => True) ws) : ∀ (n : Nat) (x7 : Int32) (x8 : Int32) (ls : Array Slot), lp_X7_lengths_123 items x4 x6 n x7 x8 = some out → lv_has ls 9 [(0, .ref (A q)), (4, .int x4), (6, .int x6), (7, .int x7), (8, .int x8)] → W p l e (headSpec wsX7_lengths { frames := 2, cells := 0, slots := 0, locals := 46 }).room s m args below meth c s.heap [] 0 0 (MQ below (qs_Q (some (.int out))) args s 0 0 (fun _ => False)) (F0 m 123 ls []) := by
  obtain ⟨hx, hb, hml, hown, hts, hr, hlocks⟩ := id C0
  have hcf : CallFix p m c cX7_lengths 9 s args wsX7_lengths RX7 := ⟨hx, hb, hml, hown, hts⟩
  intro n
  induction n with
  | zero =>
    intro x7 x8 ls hf hl
    exact (no_s hf).elim
  | succ n ih =>
    intro x7 x8 ls hf hl
    rw [lp_X7_lengths_123] at hf
    refine lv_iload hx hb dX7_lengths_123 (lv_at hl 4 rfl) ?_
    refine lv_bipush (v := 8) hx hb dX7_lengths_125 (by decide) ?_
    refine lv_icmp_gt (tgt := 162) hx hb dX7_lengths_127 (by decide) (fun c11 => ?_) (fun c11 => ?_)
    · have hf := it_p c11 hf
      refine lv_iload hx hb dX7_lengths_162 (lv_at hl 3 rfl) ?_
      obtain rfl := so_i hf
      exact W.iret (v := x7) hx hb hr (fun t ht _ => ⟨rfl, ht⟩) (fun _ h => absurd h List.not_mem_nil) dX7_lengths_164
    · have hf := it_n c11 hf
      refine lv_iload hx hb dX7_lengths_130 (lv_at hl 3 rfl) ?_
      refine lv_aload_n hx hb dX7_lengths_132 rfl (lv_at hl 0 rfl) ?_
      refine lv_iload hx hb dX7_lengths_133 (lv_at hl 2 rfl) ?_
      refine lv_iload hx hb dX7_lengths_135 (lv_at hl 1 rfl) ?_
      refine lv_iload hx hb dX7_lengths_137 (lv_at hl 4 rfl) ?_
      obtain ⟨r12, h13, hf⟩ := bd_s hf
      refine ks_i (va_runV (As := [.int x6, .int x4, .int x8]) (rest := [.int x7]) hcf (cz_X7_isLength l D k A ws (q) st past image imagePast tape laneOf sizeOf items least costs hops comes chain told acts imageActs tapeMany readAt x6 x4 x8 r12 h13 h_this) (cwV 3 hts gX7_lengths_X7_isLength rfl rfl rfl (by decide +kernel) ⟨Nat.le_of_ble_eq_true rfl, Nat.le_of_ble_eq_true rfl⟩) (pw_V hP hK hD (ci := 7) h_this.1 rfl) rfl rfl hl.1 rfl (lv_room (Nat.le_of_ble_eq_true rfl)) dX7_lengths_139 ⟨Nat.zero_le _, Nat.zero_le _⟩) ?_
      refine lv_if_eq (tgt := 152) hx hb dX7_lengths_142 (by decide) (fun c14 => ?_) (fun c14 => ?_)
      · have hf := it_p c14 hf
        refine lv_iconst (v := 0) hx hb dX7_lengths_152 (by decide) ?_
        refine lv_ior hx hb dX7_lengths_153 ?_
        refine lv_istore (lv' := [(7, .int (x7 ||| 0)), (0, .ref (A q)), (4, .int x4), (6, .int x6), (8, .int x8)]) hx hb dX7_lengths_154 hl (by decide) rfl (fun ls hl => ?_)
        refine lv_iinc (v := (x8 + 1)) (lv' := [(8, .int (x8 + 1)), (7, .int (x7 ||| 0)), (0, .ref (A q)), (4, .int x4), (6, .int x6)]) hx hb dX7_lengths_156 hl (k := 4) rfl rfl (by decide) rfl (fun ls hl => ?_)
        refine lv_goto (tgt := 123) hx hb dX7_lengths_159 (by decide) ?_
        exact ih (x7 ||| 0) (x8 + 1) _ hf (lv_sub hl [2, 3, 4, 1, 0] rfl)
      · have hf := it_n c14 hf
        refine lv_iconst (v := 1) hx hb dX7_lengths_145 (by decide) ?_
        refine lv_iload hx hb dX7_lengths_146 (lv_at hl 4 rfl) ?_
        refine lv_ishl hx hb dX7_lengths_148 ?_
        refine lv_goto (tgt := 153) hx hb dX7_lengths_149 (by decide) ?_
        refine lv_ior hx hb dX7_lengths_153 ?_
        refine lv_topi (fun y15 e16 => ?_)
        have hf := lt_s' e16 hf
        refine lv_istore (lv' := [(7, .int y15), (0, .ref (A q)), (4, .int x4), (6, .int x6), (8, .int x8)]) hx hb dX7_lengths_154 hl (by decide) rfl (fun ls hl => ?_)
        refine lv_iinc (v := (x8 + 1)) (lv' := [(8, .int (x8 + 1)), (7, .int y15), (0, .ref (A q)), (4, .int x4), (6, .int x6)]) hx hb dX7_lengths_156 hl (k := 4) rfl rfl (by decide) rfl (fun ls hl => ?_)
        refine lv_goto (tgt := 123) hx hb dX7_lengths_159 (by decide) ?_
        exact ih y15 (x8 + 1) _ hf (lv_sub hl [2, 3, 4, 1, 0] rfl)

set_option maxHeartbeats 4000000 in
set_option maxRecDepth 100000 in
theorem wl_X7_lengths_55 {p : Program} {e : Env} {s : State} {m : MethodId} {args : Array Value} {below : List Frame} {meth : Method} {c : Code} (l : Launch) (D : va_G) (k : kt_T) (A : Nat → Nat) (ws : va_W) (q : Nat)  (out : Int32) (hK : kk_P D k s) (C0 : cx_P p s m meth c args cX7_lengths 9 wsX7_lengths RX7 (some .int))  (st : Nat → Int32) (past : Nat → Int32) (image : Nat → Int32) (imagePast : Nat → Int32) (tape : Nat → Int32) (laneOf : Nat → Int32) (sizeOf : Nat → Int32) (items : Nat → Int64) (least : Nat → Int32) (costs : Nat → Int32) (hops : Nat → Int32) (comes : Nat → Int32) (chain : Nat → Int32) (told : Nat → Int32) (acts : Int32) (imageActs : Int32) (tapeMany : Int32) (readAt : Int32) (x4 : Int32) (x6 : Int32)   (h_this : is_Y k A ws q st past image imagePast tape laneOf sizeOf items least costs hops comes chain told acts imageActs tapeMany readAt) (hP : va_P D vwCl ws s.heap) (hD : va_D (fun _ => True) ws) : ∀ (n : Nat) (x7 : Int32) (ls : Array Slot), lp_X7_lengths_55 items x4 x6 n x7 = some out → lv_has ls 9 [(0, .ref (A q)), (4, .int x4), (6, .int x6), (7, .int x7)] → W p l e (headSpec wsX7_lengths { frames := 2, cells := 0, slots := 0, locals := 46 }).room s m args below meth c s.heap [] 0 0 (MQ below (qs_Q (some (.int out))) args s 0 0 (fun _ => False)) (F0 m 55 ls []) := by
  obtain ⟨hx, hb, hml, hown, hts, hr, hlocks⟩ := id C0
  have hcf : CallFix p m c cX7_lengths 9 s args wsX7_lengths RX7 := ⟨hx, hb, hml, hown, hts⟩
  have w_1 := hts (.fieldLink RX7 35 "LeastRoutesModel" "items" "[J") (List.mem_of_getElem? (i := 2) rfl)
  have w_2 := hts (.constantLong RX7 88 (255)) (List.mem_of_getElem? (i := 3) rfl)
  have w_3 := hts (.constantLong RX7 116 (7)) (List.mem_of_getElem? (i := 4) rfl)
  intro n
  induction n with
  | zero =>
    intro x7 ls hf hl
    exact (no_s hf).elim
  | succ n ih =>
    intro x7 ls hf hl
    rw [lp_X7_lengths_55] at hf
    refine lv_iload hx hb dX7_lengths_55 (lv_at hl 3 rfl) ?_
    refine lv_iload hx hb dX7_lengths_57 (lv_at hl 1 rfl) ?_
    refine lv_icmp_ge (tgt := 117) hx hb dX7_lengths_59 (by decide) (fun c10 => ?_) (fun c10 => ?_)
    · have hf := it_p c10 hf
      refine lv_iconst (v := 0) hx hb dX7_lengths_117 (by decide) ?_
      refine lv_istore (lv' := [(7, .int 0), (0, .ref (A q)), (4, .int x4), (6, .int x6)]) hx hb dX7_lengths_118 hl (by decide) rfl (fun ls hl => ?_)
      refine lv_iconst (v := 0) hx hb dX7_lengths_120 (by decide) ?_
      refine lv_istore (lv' := [(8, .int 0), (7, .int 0), (0, .ref (A q)), (4, .int x4), (6, .int x6)]) hx hb dX7_lengths_121 hl (by decide) rfl (fun ls hl => ?_)
      exact wl_X7_lengths_123 l D k A ws q _ hK C0 st past image imagePast tape laneOf sizeOf items least costs hops comes chain told acts imageActs tapeMany readAt x4 x6 h_this hP hD fu_N 0 0 _ hf (lv_sub hl [2, 3, 4, 1, 0] rfl)
    · have hf := it_n c10 hf
      refine lv_aload_n hx hb dX7_lengths_62 rfl (lv_at hl 0 rfl) ?_
      obtain ⟨h17, h18, h19, h20, h21, h22, h23, h24, h25, h26, h27, h28, h29, h30, h31⟩ := h_this
      refine va_get (D := D) (ci := 7) (v := .ref (A (q + 8))) (C := RX7) (T := TX7) (N := 18) hx hb hts in_X7_lengths_X7 hown hK.1 hP (q) h17 rfl 10 (by decide) w_1 (fun _ h9 => h9) rfl dX7_lengths_63 ?_
      refine lv_iload hx hb dX7_lengths_66 (lv_at hl 2 rfl) ?_
      refine lv_iconst (v := 2) hx hb dX7_lengths_68 (by decide) ?_
      refine lv_iload hx hb dX7_lengths_69 (lv_at hl 3 rfl) ?_
      refine lv_imul hx hb dX7_lengths_71 ?_
      refine lv_iadd hx hb dX7_lengths_72 ?_
      obtain ⟨z32, hf⟩ := ck_s hf
      refine va_lald hx hb hK.1 hP (q + 8) 1 h25 rfl (in_s z32) dX7_lengths_73 ?_
      refine lv_lconst (v := 0) hx hb dX7_lengths_74 (by decide) ?_
      refine lv_ldc2 hx hb hown w_2 dX7_lengths_75 ?_
      obtain ⟨r33, h34, hf⟩ := bd_s hf
      refine ks_i (va_runS (As := [.long (items (Int32.toNatClampNeg (x6 + (2 * x7)))), .long 0, .long 255]) (rest := []) hcf (cz_X7_in l D k A ws (items (Int32.toNatClampNeg (x6 + (2 * x7)))) 0 255 r33 h34) (va_cwS 3 hts gX7_lengths_X7_in rfl rfl rfl (by decide +kernel) ⟨Nat.le_of_ble_eq_true rfl, Nat.le_of_ble_eq_true rfl⟩) (pw_S hP hK hD) rfl rfl hl.1 rfl (lv_room (Nat.le_of_ble_eq_true rfl)) dX7_lengths_78 ⟨Nat.zero_le _, Nat.zero_le _⟩) ?_
      refine lv_if_eq (tgt := 108) hx hb dX7_lengths_81 (by decide) (fun c35 => ?_) (fun c35 => ?_)
      · have hf := it_p c35 hf
        refine lv_bipush (v := (-2)) hx hb dX7_lengths_108 (by decide) ?_
        obtain rfl := so_i hf
        exact W.iret (v := (-2)) hx hb hr (fun t ht _ => ⟨rfl, ht⟩) (fun _ h => absurd h List.not_mem_nil) dX7_lengths_110
      · have hf := it_n c35 hf
        refine lv_aload_n hx hb dX7_lengths_84 rfl (lv_at hl 0 rfl) ?_
        refine va_get (D := D) (ci := 7) (v := .ref (A (q + 8))) (C := RX7) (T := TX7) (N := 18) hx hb hts in_X7_lengths_X7 hown hK.1 hP (q) h17 rfl 10 (by decide) w_1 (fun _ h9 => h9) rfl dX7_lengths_85 ?_
        refine lv_iload hx hb dX7_lengths_88 (lv_at hl 2 rfl) ?_
        refine lv_iconst (v := 2) hx hb dX7_lengths_90 (by decide) ?_
        refine lv_iload hx hb dX7_lengths_91 (lv_at hl 3 rfl) ?_
        refine lv_imul hx hb dX7_lengths_93 ?_
        refine lv_iadd hx hb dX7_lengths_94 ?_
        refine lv_iconst (v := 1) hx hb dX7_lengths_95 (by decide) ?_
        refine lv_iadd hx hb dX7_lengths_96 ?_
        obtain ⟨z36, hf⟩ := ck_s hf
        refine va_lald hx hb hK.1 hP (q + 8) 1 h25 rfl (in_s z36) dX7_lengths_97 ?_
        refine lv_lconst (v := 0) hx hb dX7_lengths_98 (by decide) ?_
        refine lv_ldc2 hx hb hown w_3 dX7_lengths_99 ?_
        obtain ⟨r37, h38, hf⟩ := bd_s hf
        refine ks_i (va_runS (As := [.long (items (Int32.toNatClampNeg ((x6 + (2 * x7)) + 1))), .long 0, .long 7]) (rest := []) hcf (cz_X7_in l D k A ws (items (Int32.toNatClampNeg ((x6 + (2 * x7)) + 1))) 0 7 r37 h38) (va_cwS 3 hts gX7_lengths_X7_in rfl rfl rfl (by decide +kernel) ⟨Nat.le_of_ble_eq_true rfl, Nat.le_of_ble_eq_true rfl⟩) (pw_S hP hK hD) rfl rfl hl.1 rfl (lv_room (Nat.le_of_ble_eq_true rfl)) dX7_lengths_102 ⟨Nat.zero_le _, Nat.zero_le _⟩) ?_
        refine lv_if_ne (tgt := 111) hx hb dX7_lengths_105 (by decide) (fun c39 => ?_) (fun c39 => ?_)
        · have hf := it_n c39 hf
          refine lv_iinc (v := (x7 + 1)) (lv' := [(7, .int (x7 + 1)), (0, .ref (A q)), (4, .int x4), (6, .int x6)]) hx hb dX7_lengths_111 hl (k := 3) rfl rfl (by decide) rfl (fun ls hl => ?_)
          refine lv_goto (tgt := 55) hx hb dX7_lengths_114 (by decide) ?_
          exact ih (x7 + 1) _ hf (lv_sub hl [1, 2, 3, 0] rfl)
        · have hf := it_p c39 hf
          refine lv_bipush (v := (-2)) hx hb dX7_lengths_108 (by decide) ?_
          obtain rfl := so_i hf
          exact W.iret (v := (-2)) hx hb hr (fun t ht _ => ⟨rfl, ht⟩) (fun _ h => absurd h List.not_mem_nil) dX7_lengths_110

set_option maxHeartbeats 4000000 in
set_option maxRecDepth 100000 in
theorem cz_X7_lengths (l : Launch) (D : va_G) (k : kt_T) (A : Nat → Nat) (ws : va_W) (q : Nat)  (st : Nat → Int32) (past : Nat → Int32) (image : Nat → Int32) (imagePast : Nat → Int32) (tape : Nat → Int32) (laneOf : Nat → Int32) (sizeOf : Nat → Int32) (items : Nat → Int64) (least : Nat → Int32) (costs : Nat → Int32) (hops : Nat → Int32) (comes : Nat → Int32) (chain : Nat → Int32) (told : Nat → Int32) (acts : Int32) (imageActs : Int32) (tapeMany : Int32) (readAt : Int32) (p1 : Int32) (p2 : Int32) (p3 : Int32) (p4 : Int32) (out : Int32) (hf : pf_X7_lengths laneOf sizeOf items p1 p2 p3 p4 = some out) (h_this : is_Y k A ws q st past image imagePast tape laneOf sizeOf items least costs hops comes chain told acts imageActs tapeMany readAt)  : Met l yX7_lengths wsX7_lengths { frames := 2, cells := 0, slots := 0, locals := 46 } (va_Pc [.ref (A q), .int p1, .int p2, .int p3, .int p4] (pw_P D k ws)) (qs_Q (some (.int out))) 0 0 (fun _ => False) := by
  refine Met.ofW (cc := cX7_lengths) (maxL := 9) (ret := (some .int)) (by decide) rfl ?_
  intro p e s m args below meth c s₁ B hml hv
  obtain ⟨rfl, hP, hK, hD⟩ := hv
  have C0 : cx_P p s m meth c [.ref (A q), .int p1, .int p2, .int p3, .int p4].toArray cX7_lengths 9 wsX7_lengths RX7 (some .int) := ⟨B.exec, B.bytes, hml, findClass_of_methodNamed B.named, atoms_spec (ws := wsX7_lengths) B.pre, B.returns, B.notSynchronized⟩
  obtain ⟨hx, hb, hml, hown, hts, hr, hlocks⟩ := id C0
  have hcf : CallFix p m c cX7_lengths 9 s [.ref (A q), .int p1, .int p2, .int p3, .int p4].toArray wsX7_lengths RX7 := ⟨hx, hb, hml, hown, hts⟩
  have w_0 := hts (.constantLong RX7 207 (12)) (List.mem_of_getElem? (i := 1) rfl)
  have hl := lv_entry ([.ref (A q), .int p1, .int p2, .int p3, .int p4]) (n := 9) (Nat.le_of_ble_eq_true rfl)
  rw [lg_entry_eq]
  generalize (lg_sl ([.ref (A q), .int p1, .int p2, .int p3, .int p4]) ++ List.replicate (9 - (lg_sl ([.ref (A q), .int p1, .int p2, .int p3, .int p4])).length) Slot.unset).toArray = ls at hl ⊢
  have hl : lv_has ls 9 [(0, .ref (A q)), (1, .int p1), (2, .int p2), (3, .int p3), (4, .int p4)] := hl
  unfold pf_X7_lengths at hf
  refine lv_iload_n hx hb dX7_lengths_0 rfl (lv_at hl 1 rfl) ?_
  refine lv_iload_n hx hb dX7_lengths_1 rfl (lv_at hl 2 rfl) ?_
  obtain ⟨r1, h2, hf⟩ := bd_s hf
  refine ks_i (va_runS (As := [.int p1, .int p2]) (rest := []) hcf (cz_X7_isSheet l D k A ws p1 p2 r1 h2) (va_cwS 2 hts gX7_lengths_X7_isSheet rfl rfl rfl (by decide +kernel) ⟨Nat.le_of_ble_eq_true rfl, Nat.le_of_ble_eq_true rfl⟩) (pw_S hP hK hD) rfl rfl hl.1 rfl (lv_room (Nat.le_of_ble_eq_true rfl)) dX7_lengths_2 ⟨Nat.zero_le _, Nat.zero_le _⟩) ?_
  refine lv_if_eq (tgt := 21) hx hb dX7_lengths_5 (by decide) (fun c3 => ?_) (fun c3 => ?_)
  · have hf := it_p c3 hf
    refine lv_iconst (v := (-1)) hx hb dX7_lengths_21 (by decide) ?_
    obtain rfl := so_i hf
    exact W.iret (v := (-1)) hx hb hr (fun t ht _ => ⟨rfl, ht⟩) (fun _ h => absurd h List.not_mem_nil) dX7_lengths_22
  · have hf := it_n c3 hf
    refine lv_iload hx hb dX7_lengths_8 (lv_at hl 4 rfl) ?_
    refine lv_i2l hx hb dX7_lengths_10 rfl ?_
    refine lv_lconst (v := 1) hx hb dX7_lengths_11 (by decide) ?_
    refine lv_ldc2 hx hb hown w_0 dX7_lengths_12 ?_
    obtain ⟨r4, h5, hf⟩ := bd_s hf
    refine ks_i (va_runS (As := [.long (Int32.toInt64 p4), .long 1, .long 12]) (rest := []) hcf (cz_X7_in l D k A ws (Int32.toInt64 p4) 1 12 r4 h5) (va_cwS 3 hts gX7_lengths_X7_in rfl rfl rfl (by decide +kernel) ⟨Nat.le_of_ble_eq_true rfl, Nat.le_of_ble_eq_true rfl⟩) (pw_S hP hK hD) rfl rfl hl.1 rfl (lv_room (Nat.le_of_ble_eq_true rfl)) dX7_lengths_15 ⟨Nat.zero_le _, Nat.zero_le _⟩) ?_
    refine lv_if_ne (tgt := 23) hx hb dX7_lengths_18 (by decide) (fun c6 => ?_) (fun c6 => ?_)
    · have hf := it_n c6 hf
      refine lv_aload_n hx hb dX7_lengths_23 rfl (lv_at hl 0 rfl) ?_
      refine lv_iload_n hx hb dX7_lengths_24 rfl (lv_at hl 1 rfl) ?_
      refine lv_iload_n hx hb dX7_lengths_25 rfl (lv_at hl 2 rfl) ?_
      refine lv_iload_n hx hb dX7_lengths_26 rfl (lv_at hl 3 rfl) ?_
      refine lv_iconst (v := 2) hx hb dX7_lengths_27 (by decide) ?_
      refine lv_iload hx hb dX7_lengths_28 (lv_at hl 4 rfl) ?_
      refine lv_imul hx hb dX7_lengths_30 ?_
      obtain ⟨r7, h8, hf⟩ := bd_s hf
      refine ks_i (va_runV (As := [.int p1, .int p2, .int p3, .int (2 * p4)]) (rest := []) hcf (cz_X7_found l D k A ws (q) st past image imagePast tape laneOf sizeOf items least costs hops comes chain told acts imageActs tapeMany readAt p1 p2 p3 (2 * p4) r7 h8 h_this) (cwV 4 hts gX7_lengths_X7_found rfl rfl rfl (by decide +kernel) ⟨Nat.le_of_ble_eq_true rfl, Nat.le_of_ble_eq_true rfl⟩) (pw_V hP hK hD (ci := 7) h_this.1 rfl) rfl rfl hl.1 rfl (lv_room (Nat.le_of_ble_eq_true rfl)) dX7_lengths_31 ⟨Nat.zero_le _, Nat.zero_le _⟩) ?_
      refine lv_istore (lv' := [(5, .int r7), (0, .ref (A q)), (1, .int p1), (2, .int p2), (3, .int p3), (4, .int p4)]) hx hb dX7_lengths_34 hl (by decide) rfl (fun ls hl => ?_)
      refine lv_iload hx hb dX7_lengths_36 (lv_at hl 0 rfl) ?_
      refine lv_if_eq (tgt := 44) hx hb dX7_lengths_38 (by decide) (fun c9 => ?_) (fun c9 => ?_)
      · have hf := it_p c9 hf
        refine lv_bipush (v := 30) hx hb dX7_lengths_44 (by decide) ?_
        refine lv_iload_n hx hb dX7_lengths_46 rfl (lv_at hl 2 rfl) ?_
        refine lv_imul hx hb dX7_lengths_47 ?_
        refine lv_iload_n hx hb dX7_lengths_48 rfl (lv_at hl 4 rfl) ?_
        refine lv_iadd hx hb dX7_lengths_49 ?_
        refine lv_istore (lv' := [(6, .int ((30 * p1) + p3)), (5, .int r7), (0, .ref (A q)), (1, .int p1), (2, .int p2), (3, .int p3), (4, .int p4)]) hx hb dX7_lengths_50 hl (by decide) rfl (fun ls hl => ?_)
        refine lv_iconst (v := 0) hx hb dX7_lengths_52 (by decide) ?_
        refine lv_istore (lv' := [(7, .int 0), (6, .int ((30 * p1) + p3)), (5, .int r7), (0, .ref (A q)), (1, .int p1), (2, .int p2), (3, .int p3), (4, .int p4)]) hx hb dX7_lengths_53 hl (by decide) rfl (fun ls hl => ?_)
        exact wl_X7_lengths_55 l D k A ws q _ hK C0 st past image imagePast tape laneOf sizeOf items least costs hops comes chain told acts imageActs tapeMany readAt p4 ((30 * p1) + p3) h_this hP hD fu_N 0 _ hf (lv_sub hl [3, 7, 1, 0] rfl)
      · have hf := it_n c9 hf
        refine lv_iload hx hb dX7_lengths_41 (lv_at hl 0 rfl) ?_
        obtain rfl := so_i hf
        exact W.iret (v := r7) hx hb hr (fun t ht _ => ⟨rfl, ht⟩) (fun _ h => absurd h List.not_mem_nil) dX7_lengths_43
    · have hf := it_p c6 hf
      refine lv_iconst (v := (-1)) hx hb dX7_lengths_21 (by decide) ?_
      obtain rfl := so_i hf
      exact W.iret (v := (-1)) hx hb hr (fun t ht _ => ⟨rfl, ht⟩) (fun _ h => absurd h List.not_mem_nil) dX7_lengths_22

def pf_X7_lowest   (p1 : Int64) (p2 : Int32) : Option (Int64) :=
  if p2 = 0 then
    some ((p1 <<< ((Int32.toInt64 56) &&& 63)) >>> ((Int32.toInt64 56) &&& 63))
  else
    if p2 = 1 then
      some ((p1 <<< ((Int32.toInt64 48) &&& 63)) >>> ((Int32.toInt64 48) &&& 63))
    else
      if p2 = 2 then
        some ((p1 <<< ((Int32.toInt64 32) &&& 63)) >>> ((Int32.toInt64 32) &&& 63))
      else
        some p1

set_option maxHeartbeats 4000000 in
set_option maxRecDepth 100000 in
theorem cz_X7_lowest (l : Launch) (D : va_G) (k : kt_T) (A : Nat → Nat) (ws : va_W)    (p1 : Int64) (p2 : Int32) (out : Int64) (hf : pf_X7_lowest p1 p2 = some out)   : Met l yX7_lowest wsX7_lowest { frames := 0, cells := 0, slots := 0, locals := 0 } (va_Pc [.long p1, .int p2] (pw_P D k ws)) (qs_Q (some (.long out))) 0 0 (fun _ => False) := by
  refine Met.ofW (cc := cX7_lowest) (maxL := 3) (ret := (some .long)) (by decide) rfl ?_
  intro p e s m args below meth c s₁ B hml hv
  obtain ⟨rfl, hP, hK, hD⟩ := hv
  have C0 : cx_P p s m meth c [.long p1, .int p2].toArray cX7_lowest 3 wsX7_lowest RX7 (some .long) := ⟨B.exec, B.bytes, hml, findClass_of_methodNamed B.named, atoms_spec (ws := wsX7_lowest) B.pre, B.returns, B.notSynchronized⟩
  obtain ⟨hx, hb, hml, hown, hts, hr, hlocks⟩ := id C0
  have hcf : CallFix p m c cX7_lowest 3 s [.long p1, .int p2].toArray wsX7_lowest RX7 := ⟨hx, hb, hml, hown, hts⟩
  have hl := lv_entry ([.long p1, .int p2]) (n := 3) (Nat.le_of_ble_eq_true rfl)
  rw [lg_entry_eq]
  generalize (lg_sl ([.long p1, .int p2]) ++ List.replicate (3 - (lg_sl ([.long p1, .int p2])).length) Slot.unset).toArray = ls at hl ⊢
  have hl : lv_has ls 3 [(0, .long p1), (2, .int p2)] := hl
  unfold pf_X7_lowest at hf
  refine lv_iload_n hx hb dX7_lowest_0 rfl (lv_at hl 1 rfl) ?_
  refine lv_if_ne (tgt := 14) hx hb dX7_lowest_1 (by decide) (fun c1 => ?_) (fun c1 => ?_)
  · have hf := it_n c1 hf
    refine lv_iload_n hx hb dX7_lowest_14 rfl (lv_at hl 1 rfl) ?_
    refine lv_iconst (v := 1) hx hb dX7_lowest_15 (by decide) ?_
    refine lv_icmp_ne (tgt := 29) hx hb dX7_lowest_16 (by decide) (fun c2 => ?_) (fun c2 => ?_)
    · have hf := it_n c2 hf
      refine lv_iload_n hx hb dX7_lowest_29 rfl (lv_at hl 1 rfl) ?_
      refine lv_iconst (v := 2) hx hb dX7_lowest_30 (by decide) ?_
      refine lv_icmp_ne (tgt := 44) hx hb dX7_lowest_31 (by decide) (fun c3 => ?_) (fun c3 => ?_)
      · have hf := it_n c3 hf
        refine lv_lload_n hx hb dX7_lowest_44 rfl (lv_at hl 0 rfl) ?_
        obtain rfl := so_i hf
        exact W.lret (v := p1) hx hb hr (fun t ht _ => ⟨rfl, ht⟩) (fun _ h => absurd h List.not_mem_nil) dX7_lowest_45
      · have hf := it_p c3 hf
        refine lv_lload_n hx hb dX7_lowest_34 rfl (lv_at hl 0 rfl) ?_
        refine lv_bipush (v := 32) hx hb dX7_lowest_35 (by decide) ?_
        refine lv_lshl hx hb dX7_lowest_37 rfl ?_
        refine lv_bipush (v := 32) hx hb dX7_lowest_38 (by decide) ?_
        refine lv_lshr hx hb dX7_lowest_40 rfl ?_
        refine lv_goto (tgt := 45) hx hb dX7_lowest_41 (by decide) ?_
        obtain rfl := so_i hf
        exact W.lret (v := ((p1 <<< ((Int32.toInt64 32) &&& 63)) >>> ((Int32.toInt64 32) &&& 63))) hx hb hr (fun t ht _ => ⟨rfl, ht⟩) (fun _ h => absurd h List.not_mem_nil) dX7_lowest_45
    · have hf := it_p c2 hf
      refine lv_lload_n hx hb dX7_lowest_19 rfl (lv_at hl 0 rfl) ?_
      refine lv_bipush (v := 48) hx hb dX7_lowest_20 (by decide) ?_
      refine lv_lshl hx hb dX7_lowest_22 rfl ?_
      refine lv_bipush (v := 48) hx hb dX7_lowest_23 (by decide) ?_
      refine lv_lshr hx hb dX7_lowest_25 rfl ?_
      refine lv_goto (tgt := 45) hx hb dX7_lowest_26 (by decide) ?_
      obtain rfl := so_i hf
      exact W.lret (v := ((p1 <<< ((Int32.toInt64 48) &&& 63)) >>> ((Int32.toInt64 48) &&& 63))) hx hb hr (fun t ht _ => ⟨rfl, ht⟩) (fun _ h => absurd h List.not_mem_nil) dX7_lowest_45
  · have hf := it_p c1 hf
    refine lv_lload_n hx hb dX7_lowest_4 rfl (lv_at hl 0 rfl) ?_
    refine lv_bipush (v := 56) hx hb dX7_lowest_5 (by decide) ?_
    refine lv_lshl hx hb dX7_lowest_7 rfl ?_
    refine lv_bipush (v := 56) hx hb dX7_lowest_8 (by decide) ?_
    refine lv_lshr hx hb dX7_lowest_10 rfl ?_
    refine lv_goto (tgt := 45) hx hb dX7_lowest_11 (by decide) ?_
    obtain rfl := so_i hf
    exact W.lret (v := ((p1 <<< ((Int32.toInt64 56) &&& 63)) >>> ((Int32.toInt64 56) &&& 63))) hx hb hr (fun t ht _ => ⟨rfl, ht⟩) (fun _ h => absurd h List.not_mem_nil) dX7_lowest_45

theorem in_X7_film_X7 : ∀ w ∈ u_ws RX7 TX7 18, w ∈ wsX7_film := fun w h => List.mem_cons_of_mem _ (List.mem_append_right _ h)
def lp_X7_film_73  (least : Nat → Int32) (costs : Nat → Int32) (hops : Nat → Int32) (comes : Nat → Int32) (x1 : Int32) (x2 : Int32) (x3 : Int32) (x4 : Int32) (x5 : Int32) : Nat → (Nat → Int64) → Int32 → Option (Int32 × (Nat → Int64) × (Nat → Int32) × (Nat → Int32) × (Nat → Int32) × (Nat → Int32))
  | 0, _, _ => none
  | n + 1, items, x7 =>
    if x2 ≤ x7 then
      some ((2 * x2), items, least, costs, hops, comes)
    else
      (pf_X7_leastAt least (x1 + x7)).bind (fun r37 =>
        (pf_X7_lowest (Int32.toInt64 r37) x4).bind (fun r54 =>
          ck_O (in_b (((30 * x3) + x5) + (2 * x7)) 120) (
            ck_O (in_b r37 512) (
              ck_O (in_b ((((30 * x3) + x5) + (2 * x7)) + 1) 120) (
                lp_X7_film_73 least costs hops comes x1 x2 x3 x4 x5 n (vp_updL (vp_updL items (Int32.toNatClampNeg (((30 * x3) + x5) + (2 * x7))) r54) (Int32.toNatClampNeg ((((30 * x3) + x5) + (2 * x7)) + 1)) (Int32.toInt64 (least (Int32.toNatClampNeg r37)))) (x7 + 1))))))

def pf_X7_film (st : Nat → Int32) (laneOf : Nat → Int32) (sizeOf : Nat → Int32) (items : Nat → Int64) (least : Nat → Int32) (costs : Nat → Int32) (hops : Nat → Int32) (comes : Nat → Int32)  (p1 : Int32) (p2 : Int32) (p3 : Int32) (p4 : Int32) (p5 : Int32) : Option (Int32 × (Nat → Int64) × (Nat → Int32) × (Nat → Int32) × (Nat → Int32) × (Nat → Int32)) :=
  if p1 < 0 then
    some ((-1), items, least, costs, hops, comes)
  else
    (pf_X7_in (Int32.toInt64 p2) 0 12).bind (fun r2 =>
      if r2 = 0 then
        some ((-1), items, least, costs, hops, comes)
      else
        (pf_X7_isSheet p3 p4).bind (fun r5 =>
          if r5 = 0 then
            some ((-1), items, least, costs, hops, comes)
          else
            (pf_X7_lays st least costs hops comes).bind (fun r8 =>
              (pf_X7_many r8.1 512 0).bind (fun r29 =>
                if p1 ≤ (r29 - p2) then
                  (pf_X7_found laneOf sizeOf p3 p4 p5 (2 * p2)).bind (fun r33 =>
                    if r33 = 0 then
                      lp_X7_film_73 r8.1 r8.2.1 r8.2.2.1 r8.2.2.2 p1 p2 p3 p4 p5 fu_N items 0
                    else
                      some (r33, items, r8.1, r8.2.1, r8.2.2.1, r8.2.2.2))
                else
                  some ((-2), items, r8.1, r8.2.1, r8.2.2.1, r8.2.2.2)))))

set_option maxHeartbeats 4000000 in
set_option maxRecDepth 100000 in
theorem wl_X7_film_73 {p : Program} {e : Env} {s : State} {m : MethodId} {args : Array Value} {below : List Frame} {meth : Method} {c : Code} (l : Launch) (D : va_G) (k : kt_T) (A : Nat → Nat) (ws : va_W) (q : Nat)  (out : Int32 × (Nat → Int64) × (Nat → Int32) × (Nat → Int32) × (Nat → Int32) × (Nat → Int32)) (hK : kk_P D k s) (C0 : cx_P p s m meth c args cX7_film 9 wsX7_film RX7 (some .int))  (st : Nat → Int32) (past : Nat → Int32) (image : Nat → Int32) (imagePast : Nat → Int32) (tape : Nat → Int32) (laneOf : Nat → Int32) (sizeOf : Nat → Int32) (least : Nat → Int32) (costs : Nat → Int32) (hops : Nat → Int32) (comes : Nat → Int32) (chain : Nat → Int32) (told : Nat → Int32) (acts : Int32) (imageActs : Int32) (tapeMany : Int32) (readAt : Int32) (x1 : Int32) (x2 : Int32) (x3 : Int32) (x4 : Int32) (x5 : Int32)    : ∀ (n : Nat) (items : Nat → Int64) (x7 : Int32) (w : va_W) (H : Heap) (locs : List Loc) (ls : Array Slot), lp_X7_film_73 least costs hops comes x1 x2 x3 x4 x5 n items x7 = some out → is_Y k A w q st past image imagePast tape laneOf sizeOf items least costs hops comes chain told acts imageActs tapeMany readAt → sm_W ws w q (q + 15) → va_P D vwCl w H → va_D (va_A ws s.heap.size) w → va_S (va_A ws s.heap.size) s.heap H locs → lv_has ls 9 [(0, .ref (A q)), (1, .int x1), (2, .int x2), (3, .int x3), (4, .int x4), (5, .int x5), (7, .int x7)] → W p l e (headSpec wsX7_film { frames := 5, cells := 0, slots := 0, locals := 110 }).room s m args below meth c H locs 0 0 (MQ below (qw_Q D ws s.heap.size (some (.int out.1)) (fun u => is_Y k A u q st past image imagePast tape laneOf sizeOf out.2.1 out.2.2.1 out.2.2.2.1 out.2.2.2.2.1 out.2.2.2.2.2 chain told acts imageActs tapeMany readAt ∧ sm_W ws u q (q + 15))) args s 0 0 (va_A ws s.heap.size)) (F0 m 73 ls []) := by
  obtain ⟨hx, hb, hml, hown, hts, hr, hlocks⟩ := id C0
  have hcf : CallFix p m c cX7_film 9 s args wsX7_film RX7 := ⟨hx, hb, hml, hown, hts⟩
  have hA : ∀ q, s.heap.size ≤ q → va_A ws s.heap.size q := fun q h => Or.inr h
  have w_1 := hts (.fieldLink RX7 39 "LeastRoutesModel" "least" "[I") (List.mem_of_getElem? (i := 2) rfl)
  have w_2 := hts (.fieldLink RX7 35 "LeastRoutesModel" "items" "[J") (List.mem_of_getElem? (i := 3) rfl)
  intro n
  induction n with
  | zero =>
    intro items x7 w H locs ls hf h_this hsm hP hD hS hl
    exact (no_s hf).elim
  | succ n ih =>
    intro items x7 w H locs ls hf h_this hsm hP hD hS hl
    rw [lp_X7_film_73] at hf
    refine lv_iload hx hb dX7_film_73 (lv_at hl 6 rfl) ?_
    refine lv_iload_n hx hb dX7_film_75 rfl (lv_at hl 2 rfl) ?_
    refine lv_icmp_ge (tgt := 147) hx hb dX7_film_76 (by decide) (fun c36 => ?_) (fun c36 => ?_)
    · have hf := it_p c36 hf
      refine lv_iconst (v := 2) hx hb dX7_film_147 (by decide) ?_
      refine lv_iload_n hx hb dX7_film_148 rfl (lv_at hl 2 rfl) ?_
      refine lv_imul hx hb dX7_film_149 ?_
      obtain rfl := so_i hf
      exact W.iret (v := (2 * x2)) hx hb hr (qw_end hS hP hD ⟨h_this, hsm⟩) hS.2.2 dX7_film_150
    · have hf := it_n c36 hf
      refine lv_aload_n hx hb dX7_film_79 rfl (lv_at hl 0 rfl) ?_
      refine lv_iload_n hx hb dX7_film_80 rfl (lv_at hl 1 rfl) ?_
      refine lv_iload hx hb dX7_film_81 (lv_at hl 6 rfl) ?_
      refine lv_iadd hx hb dX7_film_83 ?_
      obtain ⟨r37, h38, hf⟩ := bd_s hf
      refine ks_i (va_runV (As := [.int (x1 + x7)]) (rest := []) hcf (cz_X7_leastAt l D k A w (q) st past image imagePast tape laneOf sizeOf items least costs hops comes chain told acts imageActs tapeMany readAt (x1 + x7) r37 h38 h_this) (cwV 1 hts gX7_film_X7_leastAt rfl rfl rfl (by decide +kernel) ⟨Nat.le_of_ble_eq_true rfl, Nat.le_of_ble_eq_true rfl⟩) (pw_V hP hK hD (ci := 7) h_this.1 rfl) rfl rfl hl.1 rfl (lv_room (Nat.le_of_ble_eq_true rfl)) dX7_film_84 ⟨Nat.zero_le _, Nat.zero_le _⟩) ?_
      refine lv_istore (lv' := [(8, .int r37), (0, .ref (A q)), (1, .int x1), (2, .int x2), (3, .int x3), (4, .int x4), (5, .int x5), (7, .int x7)]) hx hb dX7_film_87 hl (by decide) rfl (fun ls hl => ?_)
      refine lv_aload_n hx hb dX7_film_89 rfl (lv_at hl 1 rfl) ?_
      obtain ⟨h39, h40, h41, h42, h43, h44, h45, h46, h47, h48, h49, h50, h51, h52, h53⟩ := h_this
      refine va_get (D := D) (ci := 7) (v := .ref (A (q + 8))) (C := RX7) (T := TX7) (N := 18) hx hb hts in_X7_film_X7 hown hK.1 hP (q) h39 rfl 10 (by decide) w_2 (fun _ h9 => h9) rfl dX7_film_90 ?_
      refine lv_bipush (v := 30) hx hb dX7_film_93 (by decide) ?_
      refine lv_iload_n hx hb dX7_film_95 rfl (lv_at hl 4 rfl) ?_
      refine lv_imul hx hb dX7_film_96 ?_
      refine lv_iload hx hb dX7_film_97 (lv_at hl 6 rfl) ?_
      refine lv_iadd hx hb dX7_film_99 ?_
      refine lv_iconst (v := 2) hx hb dX7_film_100 (by decide) ?_
      refine lv_iload hx hb dX7_film_101 (lv_at hl 7 rfl) ?_
      refine lv_imul hx hb dX7_film_103 ?_
      refine lv_iadd hx hb dX7_film_104 ?_
      refine lv_iload hx hb dX7_film_105 (lv_at hl 0 rfl) ?_
      refine lv_i2l hx hb dX7_film_107 rfl ?_
      refine lv_iload hx hb dX7_film_108 (lv_at hl 5 rfl) ?_
      obtain ⟨r54, h55, hf⟩ := bd_s hf
      refine ks_l (va_runS (As := [.long (Int32.toInt64 r37), .int x4]) (rest := [.int (((30 * x3) + x5) + (2 * x7)), .ref (A (q + 8))]) hcf (cz_X7_lowest l D k A w (Int32.toInt64 r37) x4 r54 h55) (va_cwS 2 hts gX7_film_X7_lowest rfl rfl rfl (by decide +kernel) ⟨Nat.le_of_ble_eq_true rfl, Nat.le_of_ble_eq_true rfl⟩) (pw_S hP hK hD) rfl rfl hl.1 rfl (lv_room (Nat.le_of_ble_eq_true rfl)) dX7_film_110 ⟨Nat.zero_le _, Nat.zero_le _⟩) ?_
      obtain ⟨z56, hf⟩ := ck_s hf
      refine va_last hx hb hK.1 hP hD hS (q + 8) 1 h47 rfl (in_s z56) dX7_film_113 (fun _ _ hP hD hS => ?_)
      obtain ⟨u57, h58, m59, hP, hD⟩ := wd_put hP hD h47
      have hsm := sm_tr hsm m59 (by omega) (by omega)
      refine lv_aload_n hx hb dX7_film_114 rfl (lv_at hl 1 rfl) ?_
      have h60 := sm_at m59 (by omega) h39
      refine va_get (D := D) (ci := 7) (v := .ref (A (q + 8))) (C := RX7) (T := TX7) (N := 18) hx hb hts in_X7_film_X7 hown hK.1 hP (q) h60 rfl 10 (by decide) w_2 (fun _ h9 => h9) rfl dX7_film_115 ?_
      refine lv_bipush (v := 30) hx hb dX7_film_118 (by decide) ?_
      refine lv_iload_n hx hb dX7_film_120 rfl (lv_at hl 4 rfl) ?_
      refine lv_imul hx hb dX7_film_121 ?_
      refine lv_iload hx hb dX7_film_122 (lv_at hl 6 rfl) ?_
      refine lv_iadd hx hb dX7_film_124 ?_
      refine lv_iconst (v := 2) hx hb dX7_film_125 (by decide) ?_
      refine lv_iload hx hb dX7_film_126 (lv_at hl 7 rfl) ?_
      refine lv_imul hx hb dX7_film_128 ?_
      refine lv_iadd hx hb dX7_film_129 ?_
      refine lv_iconst (v := 1) hx hb dX7_film_130 (by decide) ?_
      refine lv_iadd hx hb dX7_film_131 ?_
      refine lv_aload_n hx hb dX7_film_132 rfl (lv_at hl 1 rfl) ?_
      refine va_get (D := D) (ci := 7) (v := .ref (A (q + 9))) (C := RX7) (T := TX7) (N := 18) hx hb hts in_X7_film_X7 hown hK.1 hP (q) h60 rfl 11 (by decide) w_1 (fun _ h9 => h9) rfl dX7_film_133 ?_
      refine lv_iload hx hb dX7_film_136 (lv_at hl 0 rfl) ?_
      have h61 := sm_at m59 (by omega) h48
      obtain ⟨z62, hf⟩ := ck_s hf
      refine va_iald hx hb hK.1 hP (q + 9) 0 h61 rfl (in_s z62) dX7_film_138 ?_
      refine lv_i2l hx hb dX7_film_139 rfl ?_
      obtain ⟨z63, hf⟩ := ck_s hf
      refine va_last hx hb hK.1 hP hD hS (q + 8) 1 h58 rfl (in_s z63) dX7_film_140 (fun _ _ hP hD hS => ?_)
      obtain ⟨u64, h65, m66, hP, hD⟩ := wd_put hP hD h58
      have hsm := sm_tr hsm m66 (by omega) (by omega)
      refine lv_iinc (v := (x7 + 1)) (lv' := [(7, .int (x7 + 1)), (8, .int r37), (0, .ref (A q)), (1, .int x1), (2, .int x2), (3, .int x3), (4, .int x4), (5, .int x5)]) hx hb dX7_film_141 hl (k := 7) rfl rfl (by decide) rfl (fun ls hl => ?_)
      refine lv_goto (tgt := 73) hx hb dX7_film_144 (by decide) ?_
      have h67 := sm_at m66 (by omega) h60
      have h68 := sm_at m59 (by omega) h40
      have h69 := sm_at m66 (by omega) h68
      have h70 := sm_at m59 (by omega) h41
      have h71 := sm_at m66 (by omega) h70
      have h72 := sm_at m59 (by omega) h42
      have h73 := sm_at m66 (by omega) h72
      have h74 := sm_at m59 (by omega) h43
      have h75 := sm_at m66 (by omega) h74
      have h76 := sm_at m59 (by omega) h44
      have h77 := sm_at m66 (by omega) h76
      have h78 := sm_at m59 (by omega) h45
      have h79 := sm_at m66 (by omega) h78
      have h80 := sm_at m59 (by omega) h46
      have h81 := sm_at m66 (by omega) h80
      have h82 := sm_at m66 (by omega) h61
      have h83 := sm_at m59 (by omega) h49
      have h84 := sm_at m66 (by omega) h83
      have h85 := sm_at m59 (by omega) h50
      have h86 := sm_at m66 (by omega) h85
      have h87 := sm_at m59 (by omega) h51
      have h88 := sm_at m66 (by omega) h87
      have h89 := sm_at m59 (by omega) h52
      have h90 := sm_at m66 (by omega) h89
      have h91 := sm_at m59 (by omega) h53
      have h92 := sm_at m66 (by omega) h91
      have h93 : is_Y k A u64 (q) st past image imagePast tape laneOf sizeOf (vp_updL (vp_updL items (Int32.toNatClampNeg (((30 * x3) + x5) + (2 * x7))) r54) (Int32.toNatClampNeg ((((30 * x3) + x5) + (2 * x7)) + 1)) (Int32.toInt64 (least (Int32.toNatClampNeg r37)))) least costs hops comes chain told acts imageActs tapeMany readAt := ⟨h67, h69, h71, h73, h75, h77, h79, h81, h65, h82, h84, h86, h88, h90, h92⟩
      exact ih (vp_updL (vp_updL items (Int32.toNatClampNeg (((30 * x3) + x5) + (2 * x7))) r54) (Int32.toNatClampNeg ((((30 * x3) + x5) + (2 * x7)) + 1)) (Int32.toInt64 (least (Int32.toNatClampNeg r37)))) (x7 + 1) _ _ _ _ hf h93 hsm hP hD hS (lv_sub hl [2, 3, 4, 5, 6, 7, 0] rfl)

set_option maxHeartbeats 4000000 in
set_option maxRecDepth 100000 in
theorem cz_X7_film (l : Launch) (D : va_G) (k : kt_T) (A : Nat → Nat) (ws : va_W) (q : Nat)  (st : Nat → Int32) (past : Nat → Int32) (image : Nat → Int32) (imagePast : Nat → Int32) (tape : Nat → Int32) (laneOf : Nat → Int32) (sizeOf : Nat → Int32) (items : Nat → Int64) (least : Nat → Int32) (costs : Nat → Int32) (hops : Nat → Int32) (comes : Nat → Int32) (chain : Nat → Int32) (told : Nat → Int32) (acts : Int32) (imageActs : Int32) (tapeMany : Int32) (readAt : Int32) (p1 : Int32) (p2 : Int32) (p3 : Int32) (p4 : Int32) (p5 : Int32) (out : Int32 × (Nat → Int64) × (Nat → Int32) × (Nat → Int32) × (Nat → Int32) × (Nat → Int32)) (hf : pf_X7_film st laneOf sizeOf items least costs hops comes p1 p2 p3 p4 p5 = some out) (h_this : is_Y k A ws q st past image imagePast tape laneOf sizeOf items least costs hops comes chain told acts imageActs tapeMany readAt)  (sz0 : Nat) : Met l yX7_film wsX7_film { frames := 5, cells := 0, slots := 0, locals := 110 } (va_Pc [.ref (A q), .int p1, .int p2, .int p3, .int p4, .int p5] (px_P D k ws sz0)) (qw_Q D ws sz0 (some (.int out.1)) (fun u => is_Y k A u q st past image imagePast tape laneOf sizeOf out.2.1 out.2.2.1 out.2.2.2.1 out.2.2.2.2.1 out.2.2.2.2.2 chain told acts imageActs tapeMany readAt ∧ sm_W ws u q (q + 15))) 0 0 (va_A ws sz0) := by
  refine Met.ofW (cc := cX7_film) (maxL := 9) (ret := (some .int)) (by decide) rfl ?_
  intro p e s m args below meth c s₁ B hml hv
  obtain ⟨rfl, hsz, hP, hK, hD0⟩ := hv
  subst hsz
  have hD := hD0.self (sz := s.heap.size)
  have C0 : cx_P p s m meth c [.ref (A q), .int p1, .int p2, .int p3, .int p4, .int p5].toArray cX7_film 9 wsX7_film RX7 (some .int) := ⟨B.exec, B.bytes, hml, findClass_of_methodNamed B.named, atoms_spec (ws := wsX7_film) B.pre, B.returns, B.notSynchronized⟩
  obtain ⟨hx, hb, hml, hown, hts, hr, hlocks⟩ := id C0
  have hcf : CallFix p m c cX7_film 9 s [.ref (A q), .int p1, .int p2, .int p3, .int p4, .int p5].toArray wsX7_film RX7 := ⟨hx, hb, hml, hown, hts⟩
  have hA : ∀ q, s.heap.size ≤ q → va_A ws s.heap.size q := fun q h => Or.inr h
  have hS : va_S (va_A ws s.heap.size) s.heap s.heap [] := va_S.rf
  have hsm : sm_W ws ws q (q + 15) := sm_rf
  have w_0 := hts (.constantLong RX7 207 (12)) (List.mem_of_getElem? (i := 1) rfl)
  have w_1 := hts (.fieldLink RX7 39 "LeastRoutesModel" "least" "[I") (List.mem_of_getElem? (i := 2) rfl)
  have hl := lv_entry ([.ref (A q), .int p1, .int p2, .int p3, .int p4, .int p5]) (n := 9) (Nat.le_of_ble_eq_true rfl)
  rw [lg_entry_eq]
  generalize (lg_sl ([.ref (A q), .int p1, .int p2, .int p3, .int p4, .int p5]) ++ List.replicate (9 - (lg_sl ([.ref (A q), .int p1, .int p2, .int p3, .int p4, .int p5])).length) Slot.unset).toArray = ls at hl ⊢
  have hl : lv_has ls 9 [(0, .ref (A q)), (1, .int p1), (2, .int p2), (3, .int p3), (4, .int p4), (5, .int p5)] := hl
  unfold pf_X7_film at hf
  refine lv_iload_n hx hb dX7_film_0 rfl (lv_at hl 1 rfl) ?_
  refine lv_if_lt (tgt := 25) hx hb dX7_film_1 (by decide) (fun c1 => ?_) (fun c1 => ?_)
  · have hf := it_p c1 hf
    refine lv_iconst (v := (-1)) hx hb dX7_film_25 (by decide) ?_
    obtain rfl := so_i hf
    exact W.iret (v := (-1)) hx hb hr (qw_end hS hP hD ⟨h_this, hsm⟩) hS.2.2 dX7_film_26
  · have hf := it_n c1 hf
    refine lv_iload_n hx hb dX7_film_4 rfl (lv_at hl 2 rfl) ?_
    refine lv_i2l hx hb dX7_film_5 rfl ?_
    refine lv_lconst (v := 0) hx hb dX7_film_6 (by decide) ?_
    refine lv_ldc2 hx hb hown w_0 dX7_film_7 ?_
    obtain ⟨r2, h3, hf⟩ := bd_s hf
    refine ks_i (va_runS (As := [.long (Int32.toInt64 p2), .long 0, .long 12]) (rest := []) hcf (cz_X7_in l D k A ws (Int32.toInt64 p2) 0 12 r2 h3) (va_cwS 3 hts gX7_film_X7_in rfl rfl rfl (by decide +kernel) ⟨Nat.le_of_ble_eq_true rfl, Nat.le_of_ble_eq_true rfl⟩) (pw_S hP hK hD) rfl rfl hl.1 rfl (lv_room (Nat.le_of_ble_eq_true rfl)) dX7_film_10 ⟨Nat.zero_le _, Nat.zero_le _⟩) ?_
    refine lv_if_eq (tgt := 25) hx hb dX7_film_13 (by decide) (fun c4 => ?_) (fun c4 => ?_)
    · have hf := it_p c4 hf
      refine lv_iconst (v := (-1)) hx hb dX7_film_25 (by decide) ?_
      obtain rfl := so_i hf
      exact W.iret (v := (-1)) hx hb hr (qw_end hS hP hD ⟨h_this, hsm⟩) hS.2.2 dX7_film_26
    · have hf := it_n c4 hf
      refine lv_iload_n hx hb dX7_film_16 rfl (lv_at hl 3 rfl) ?_
      refine lv_iload hx hb dX7_film_17 (lv_at hl 4 rfl) ?_
      obtain ⟨r5, h6, hf⟩ := bd_s hf
      refine ks_i (va_runS (As := [.int p3, .int p4]) (rest := []) hcf (cz_X7_isSheet l D k A ws p3 p4 r5 h6) (va_cwS 2 hts gX7_film_X7_isSheet rfl rfl rfl (by decide +kernel) ⟨Nat.le_of_ble_eq_true rfl, Nat.le_of_ble_eq_true rfl⟩) (pw_S hP hK hD) rfl rfl hl.1 rfl (lv_room (Nat.le_of_ble_eq_true rfl)) dX7_film_19 ⟨Nat.zero_le _, Nat.zero_le _⟩) ?_
      refine lv_if_ne (tgt := 27) hx hb dX7_film_22 (by decide) (fun c7 => ?_) (fun c7 => ?_)
      · have hf := it_n c7 hf
        refine lv_aload_n hx hb dX7_film_27 rfl (lv_at hl 0 rfl) ?_
        obtain ⟨r8, h9, hf⟩ := bd_s hf
        refine kw_v (va_runV (As := []) (rest := []) hcf (cz_X7_lays l D k A ws (q) st past image imagePast tape laneOf sizeOf items least costs hops comes chain told acts imageActs tapeMany readAt r8 h9 h_this _) (cwV 0 hts gX7_film_X7_lays rfl rfl rfl (by decide +kernel) ⟨Nat.le_of_ble_eq_true rfl, Nat.le_of_ble_eq_true rfl⟩) (px_V hP hK hD (ci := 7) h_this.1 rfl) rfl rfl hl.1 rfl (lv_room (Nat.le_of_ble_eq_true rfl)) dX7_film_28 ⟨Nat.zero_le _, Nat.zero_le _⟩) hD hS hA (fun u10 _ _ h11 hP hD hS => ?_)
        obtain ⟨h13, m12⟩ := h11
        have hsm := sm_tr hsm m12 (by omega) (by omega)
        refine lv_iload_n hx hb dX7_film_31 rfl (lv_at hl 1 rfl) ?_
        refine lv_aload_n hx hb dX7_film_32 rfl (lv_at hl 0 rfl) ?_
        obtain ⟨h14, h15, h16, h17, h18, h19, h20, h21, h22, h23, h24, h25, h26, h27, h28⟩ := h13
        refine va_get (D := D) (ci := 7) (v := .ref (A (q + 9))) (C := RX7) (T := TX7) (N := 18) hx hb hts in_X7_film_X7 hown hK.1 hP (q) h14 rfl 11 (by decide) w_1 (fun _ h9 => h9) rfl dX7_film_33 ?_
        refine lv_iconst (v := 0) hx hb dX7_film_36 (by decide) ?_
        obtain ⟨r29, h30, hf⟩ := bd_s hf
        refine ks_i (va_runS (As := [.ref (A (q + 9)), .int 0]) (rest := [.int p1]) hcf (cz_X7_many l D k A u10 (q + 9) 512 r8.1 0 r29 h30 h23) (va_cwS 2 hts gX7_film_X7_many rfl rfl rfl (by decide +kernel) ⟨Nat.le_of_ble_eq_true rfl, Nat.le_of_ble_eq_true rfl⟩) (pw_S hP hK hD) rfl rfl hl.1 rfl (lv_room (Nat.le_of_ble_eq_true rfl)) dX7_film_37 ⟨Nat.zero_le _, Nat.zero_le _⟩) ?_
        refine lv_iload_n hx hb dX7_film_40 rfl (lv_at hl 2 rfl) ?_
        refine lv_isub hx hb dX7_film_41 ?_
        refine lv_icmp_le (tgt := 48) hx hb dX7_film_42 (by decide) (fun c31 => ?_) (fun c31 => ?_)
        · have hf := it_p c31 hf
          refine lv_aload_n hx hb dX7_film_48 rfl (lv_at hl 0 rfl) ?_
          refine lv_iload_n hx hb dX7_film_49 rfl (lv_at hl 3 rfl) ?_
          refine lv_iload hx hb dX7_film_50 (lv_at hl 4 rfl) ?_
          refine lv_iload hx hb dX7_film_52 (lv_at hl 5 rfl) ?_
          refine lv_iconst (v := 2) hx hb dX7_film_54 (by decide) ?_
          refine lv_iload_n hx hb dX7_film_55 rfl (lv_at hl 2 rfl) ?_
          refine lv_imul hx hb dX7_film_56 ?_
          have h32 : is_Y k A u10 (q) st past image imagePast tape laneOf sizeOf items r8.1 r8.2.1 r8.2.2.1 r8.2.2.2 chain told acts imageActs tapeMany readAt := ⟨h14, h15, h16, h17, h18, h19, h20, h21, h22, h23, h24, h25, h26, h27, h28⟩
          obtain ⟨r33, h34, hf⟩ := bd_s hf
          refine ks_i (va_runV (As := [.int p3, .int p4, .int p5, .int (2 * p2)]) (rest := []) hcf (cz_X7_found l D k A u10 (q) st past image imagePast tape laneOf sizeOf items r8.1 r8.2.1 r8.2.2.1 r8.2.2.2 chain told acts imageActs tapeMany readAt p3 p4 p5 (2 * p2) r33 h34 h32) (cwV 4 hts gX7_film_X7_found rfl rfl rfl (by decide +kernel) ⟨Nat.le_of_ble_eq_true rfl, Nat.le_of_ble_eq_true rfl⟩) (pw_V hP hK hD (ci := 7) h32.1 rfl) rfl rfl hl.1 rfl (lv_room (Nat.le_of_ble_eq_true rfl)) dX7_film_57 ⟨Nat.zero_le _, Nat.zero_le _⟩) ?_
          refine lv_istore (lv' := [(6, .int r33), (0, .ref (A q)), (1, .int p1), (2, .int p2), (3, .int p3), (4, .int p4), (5, .int p5)]) hx hb dX7_film_60 hl (by decide) rfl (fun ls hl => ?_)
          refine lv_iload hx hb dX7_film_62 (lv_at hl 0 rfl) ?_
          refine lv_if_eq (tgt := 70) hx hb dX7_film_64 (by decide) (fun c35 => ?_) (fun c35 => ?_)
          · have hf := it_p c35 hf
            refine lv_iconst (v := 0) hx hb dX7_film_70 (by decide) ?_
            refine lv_istore (lv' := [(7, .int 0), (6, .int r33), (0, .ref (A q)), (1, .int p1), (2, .int p2), (3, .int p3), (4, .int p4), (5, .int p5)]) hx hb dX7_film_71 hl (by decide) rfl (fun ls hl => ?_)
            exact wl_X7_film_73 l D k A ws q _ hK C0 st past image imagePast tape laneOf sizeOf r8.1 r8.2.1 r8.2.2.1 r8.2.2.2 chain told acts imageActs tapeMany readAt p1 p2 p3 p4 p5 fu_N items 0 _ _ _ _ hf h32 hsm hP hD hS (lv_sub hl [2, 3, 4, 5, 6, 7, 0] rfl)
          · have hf := it_n c35 hf
            refine lv_iload hx hb dX7_film_67 (lv_at hl 0 rfl) ?_
            obtain rfl := so_i hf
            exact W.iret (v := r33) hx hb hr (qw_end hS hP hD ⟨h32, hsm⟩) hS.2.2 dX7_film_69
        · have hf := it_n c31 hf
          refine lv_bipush (v := (-2)) hx hb dX7_film_45 (by decide) ?_
          obtain rfl := so_i hf
          have h94 : is_Y k A u10 (q) st past image imagePast tape laneOf sizeOf items r8.1 r8.2.1 r8.2.2.1 r8.2.2.2 chain told acts imageActs tapeMany readAt := ⟨h14, h15, h16, h17, h18, h19, h20, h21, h22, h23, h24, h25, h26, h27, h28⟩
          exact W.iret (v := (-2)) hx hb hr (qw_end hS hP hD ⟨h94, hsm⟩) hS.2.2 dX7_film_47
      · have hf := it_p c7 hf
        refine lv_iconst (v := (-1)) hx hb dX7_film_25 (by decide) ?_
        obtain rfl := so_i hf
        exact W.iret (v := (-1)) hx hb hr (qw_end hS hP hD ⟨h_this, hsm⟩) hS.2.2 dX7_film_26

theorem in_X7_sheet_X7 : ∀ w ∈ u_ws RX7 TX7 18, w ∈ wsX7_sheet := fun w h => List.mem_cons_of_mem _ (List.mem_append_right _ h)
def lp_X7_sheet_40  (laneOf : Nat → Int32) (sizeOf : Nat → Int32) (x1 : Int32) (x3 : Int32) : Nat → (Nat → Int64) → Int32 → Option (Int32 × (Nat → Int32) × (Nat → Int32) × (Nat → Int64))
  | 0, _, _ => none
  | n + 1, items, x4 =>
    if x3 ≤ x4 then
      some (x3, laneOf, sizeOf, items)
    else
      ck_O (in_b ((30 * x1) + x4) 120) (
        lp_X7_sheet_40 laneOf sizeOf x1 x3 n (vp_updL items (Int32.toNatClampNeg ((30 * x1) + x4)) 0) (x4 + 1))

def pf_X7_sheet (laneOf : Nat → Int32) (sizeOf : Nat → Int32) (items : Nat → Int64)  (p1 : Int32) (p2 : Int32) (p3 : Int32) : Option (Int32 × (Nat → Int32) × (Nat → Int32) × (Nat → Int64)) :=
  (pf_X7_isSheet p1 p2).bind (fun r1 =>
    if r1 = 0 then
      some ((-1), laneOf, sizeOf, items)
    else
      if p3 ≤ 30 then
        if 0 ≤ p3 then
          ck_O (in_b p1 4) (
            ck_O (in_b p1 4) (
              lp_X7_sheet_40 (upd laneOf (Int32.toNatClampNeg p1) p2) (upd sizeOf (Int32.toNatClampNeg p1) p3) p1 p3 fu_N items 0))
        else
          some ((-14), laneOf, sizeOf, items)
      else
        some ((-1), laneOf, sizeOf, items))

set_option maxHeartbeats 4000000 in
set_option maxRecDepth 100000 in
theorem wl_X7_sheet_40 {p : Program} {e : Env} {s : State} {m : MethodId} {args : Array Value} {below : List Frame} {meth : Method} {c : Code} (l : Launch) (D : va_G) (k : kt_T) (A : Nat → Nat) (ws : va_W) (q : Nat)  (out : Int32 × (Nat → Int32) × (Nat → Int32) × (Nat → Int64)) (hK : kk_P D k s) (C0 : cx_P p s m meth c args cX7_sheet 5 wsX7_sheet RX7 (some .int))  (st : Nat → Int32) (past : Nat → Int32) (image : Nat → Int32) (imagePast : Nat → Int32) (tape : Nat → Int32) (laneOf : Nat → Int32) (sizeOf : Nat → Int32) (least : Nat → Int32) (costs : Nat → Int32) (hops : Nat → Int32) (comes : Nat → Int32) (chain : Nat → Int32) (told : Nat → Int32) (acts : Int32) (imageActs : Int32) (tapeMany : Int32) (readAt : Int32) (x1 : Int32) (x3 : Int32)    : ∀ (n : Nat) (items : Nat → Int64) (x4 : Int32) (w : va_W) (H : Heap) (locs : List Loc) (ls : Array Slot), lp_X7_sheet_40 laneOf sizeOf x1 x3 n items x4 = some out → is_Y k A w q st past image imagePast tape laneOf sizeOf items least costs hops comes chain told acts imageActs tapeMany readAt → sm_W ws w q (q + 15) → va_P D vwCl w H → va_D (va_A ws s.heap.size) w → va_S (va_A ws s.heap.size) s.heap H locs → lv_has ls 5 [(0, .ref (A q)), (1, .int x1), (3, .int x3), (4, .int x4)] → W p l e (headSpec wsX7_sheet { frames := 2, cells := 0, slots := 0, locals := 46 }).room s m args below meth c H locs 0 0 (MQ below (qw_Q D ws s.heap.size (some (.int out.1)) (fun u => is_Y k A u q st past image imagePast tape out.2.1 out.2.2.1 out.2.2.2 least costs hops comes chain told acts imageActs tapeMany readAt ∧ sm_W ws u q (q + 15))) args s 0 0 (va_A ws s.heap.size)) (F0 m 40 ls []) := by
  obtain ⟨hx, hb, hml, hown, hts, hr, hlocks⟩ := id C0
  have hcf : CallFix p m c cX7_sheet 5 s args wsX7_sheet RX7 := ⟨hx, hb, hml, hown, hts⟩
  have hA : ∀ q, s.heap.size ≤ q → va_A ws s.heap.size q := fun q h => Or.inr h
  have w_2 := hts (.fieldLink RX7 35 "LeastRoutesModel" "items" "[J") (List.mem_of_getElem? (i := 3) rfl)
  intro n
  induction n with
  | zero =>
    intro items x4 w H locs ls hf h_this hsm hP hD hS hl
    exact (no_s hf).elim
  | succ n ih =>
    intro items x4 w H locs ls hf h_this hsm hP hD hS hl
    rw [lp_X7_sheet_40] at hf
    refine lv_iload hx hb dX7_sheet_40 (lv_at hl 3 rfl) ?_
    refine lv_iload_n hx hb dX7_sheet_42 rfl (lv_at hl 2 rfl) ?_
    refine lv_icmp_ge (tgt := 65) hx hb dX7_sheet_43 (by decide) (fun c31 => ?_) (fun c31 => ?_)
    · have hf := it_p c31 hf
      refine lv_iload_n hx hb dX7_sheet_65 rfl (lv_at hl 2 rfl) ?_
      obtain rfl := so_i hf
      exact W.iret (v := x3) hx hb hr (qw_end hS hP hD ⟨h_this, hsm⟩) hS.2.2 dX7_sheet_66
    · have hf := it_n c31 hf
      refine lv_aload_n hx hb dX7_sheet_46 rfl (lv_at hl 0 rfl) ?_
      obtain ⟨h32, h33, h34, h35, h36, h37, h38, h39, h40, h41, h42, h43, h44, h45, h46⟩ := h_this
      refine va_get (D := D) (ci := 7) (v := .ref (A (q + 8))) (C := RX7) (T := TX7) (N := 18) hx hb hts in_X7_sheet_X7 hown hK.1 hP (q) h32 rfl 10 (by decide) w_2 (fun _ h9 => h9) rfl dX7_sheet_47 ?_
      refine lv_bipush (v := 30) hx hb dX7_sheet_50 (by decide) ?_
      refine lv_iload_n hx hb dX7_sheet_52 rfl (lv_at hl 1 rfl) ?_
      refine lv_imul hx hb dX7_sheet_53 ?_
      refine lv_iload hx hb dX7_sheet_54 (lv_at hl 3 rfl) ?_
      refine lv_iadd hx hb dX7_sheet_56 ?_
      refine lv_lconst (v := 0) hx hb dX7_sheet_57 (by decide) ?_
      obtain ⟨z47, hf⟩ := ck_s hf
      refine va_last hx hb hK.1 hP hD hS (q + 8) 1 h40 rfl (in_s z47) dX7_sheet_58 (fun _ _ hP hD hS => ?_)
      obtain ⟨u48, h49, m50, hP, hD⟩ := wd_put hP hD h40
      have hsm := sm_tr hsm m50 (by omega) (by omega)
      refine lv_iinc (v := (x4 + 1)) (lv' := [(4, .int (x4 + 1)), (0, .ref (A q)), (1, .int x1), (3, .int x3)]) hx hb dX7_sheet_59 hl (k := 3) rfl rfl (by decide) rfl (fun ls hl => ?_)
      refine lv_goto (tgt := 40) hx hb dX7_sheet_62 (by decide) ?_
      have h51 := sm_at m50 (by omega) h32
      have h52 := sm_at m50 (by omega) h33
      have h53 := sm_at m50 (by omega) h34
      have h54 := sm_at m50 (by omega) h35
      have h55 := sm_at m50 (by omega) h36
      have h56 := sm_at m50 (by omega) h37
      have h57 := sm_at m50 (by omega) h38
      have h58 := sm_at m50 (by omega) h39
      have h59 := sm_at m50 (by omega) h41
      have h60 := sm_at m50 (by omega) h42
      have h61 := sm_at m50 (by omega) h43
      have h62 := sm_at m50 (by omega) h44
      have h63 := sm_at m50 (by omega) h45
      have h64 := sm_at m50 (by omega) h46
      have h65 : is_Y k A u48 (q) st past image imagePast tape laneOf sizeOf (vp_updL items (Int32.toNatClampNeg ((30 * x1) + x4)) 0) least costs hops comes chain told acts imageActs tapeMany readAt := ⟨h51, h52, h53, h54, h55, h56, h57, h58, h49, h59, h60, h61, h62, h63, h64⟩
      exact ih (vp_updL items (Int32.toNatClampNeg ((30 * x1) + x4)) 0) (x4 + 1) _ _ _ _ hf h65 hsm hP hD hS (lv_sub hl [1, 2, 3, 0] rfl)

set_option maxHeartbeats 4000000 in
set_option maxRecDepth 100000 in
theorem cz_X7_sheet (l : Launch) (D : va_G) (k : kt_T) (A : Nat → Nat) (ws : va_W) (q : Nat)  (st : Nat → Int32) (past : Nat → Int32) (image : Nat → Int32) (imagePast : Nat → Int32) (tape : Nat → Int32) (laneOf : Nat → Int32) (sizeOf : Nat → Int32) (items : Nat → Int64) (least : Nat → Int32) (costs : Nat → Int32) (hops : Nat → Int32) (comes : Nat → Int32) (chain : Nat → Int32) (told : Nat → Int32) (acts : Int32) (imageActs : Int32) (tapeMany : Int32) (readAt : Int32) (p1 : Int32) (p2 : Int32) (p3 : Int32) (out : Int32 × (Nat → Int32) × (Nat → Int32) × (Nat → Int64)) (hf : pf_X7_sheet laneOf sizeOf items p1 p2 p3 = some out) (h_this : is_Y k A ws q st past image imagePast tape laneOf sizeOf items least costs hops comes chain told acts imageActs tapeMany readAt)  (sz0 : Nat) : Met l yX7_sheet wsX7_sheet { frames := 2, cells := 0, slots := 0, locals := 46 } (va_Pc [.ref (A q), .int p1, .int p2, .int p3] (px_P D k ws sz0)) (qw_Q D ws sz0 (some (.int out.1)) (fun u => is_Y k A u q st past image imagePast tape out.2.1 out.2.2.1 out.2.2.2 least costs hops comes chain told acts imageActs tapeMany readAt ∧ sm_W ws u q (q + 15))) 0 0 (va_A ws sz0) := by
  refine Met.ofW (cc := cX7_sheet) (maxL := 5) (ret := (some .int)) (by decide) rfl ?_
  intro p e s m args below meth c s₁ B hml hv
  obtain ⟨rfl, hsz, hP, hK, hD0⟩ := hv
  subst hsz
  have hD := hD0.self (sz := s.heap.size)
  have C0 : cx_P p s m meth c [.ref (A q), .int p1, .int p2, .int p3].toArray cX7_sheet 5 wsX7_sheet RX7 (some .int) := ⟨B.exec, B.bytes, hml, findClass_of_methodNamed B.named, atoms_spec (ws := wsX7_sheet) B.pre, B.returns, B.notSynchronized⟩
  obtain ⟨hx, hb, hml, hown, hts, hr, hlocks⟩ := id C0
  have hcf : CallFix p m c cX7_sheet 5 s [.ref (A q), .int p1, .int p2, .int p3].toArray wsX7_sheet RX7 := ⟨hx, hb, hml, hown, hts⟩
  have hA : ∀ q, s.heap.size ≤ q → va_A ws s.heap.size q := fun q h => Or.inr h
  have hS : va_S (va_A ws s.heap.size) s.heap s.heap [] := va_S.rf
  have hsm : sm_W ws ws q (q + 15) := sm_rf
  have w_0 := hts (.fieldLink RX7 29 "LeastRoutesModel" "laneOf" "[I") (List.mem_of_getElem? (i := 1) rfl)
  have w_1 := hts (.fieldLink RX7 32 "LeastRoutesModel" "sizeOf" "[I") (List.mem_of_getElem? (i := 2) rfl)
  have hl := lv_entry ([.ref (A q), .int p1, .int p2, .int p3]) (n := 5) (Nat.le_of_ble_eq_true rfl)
  rw [lg_entry_eq]
  generalize (lg_sl ([.ref (A q), .int p1, .int p2, .int p3]) ++ List.replicate (5 - (lg_sl ([.ref (A q), .int p1, .int p2, .int p3])).length) Slot.unset).toArray = ls at hl ⊢
  have hl : lv_has ls 5 [(0, .ref (A q)), (1, .int p1), (2, .int p2), (3, .int p3)] := hl
  unfold pf_X7_sheet at hf
  refine lv_iload_n hx hb dX7_sheet_0 rfl (lv_at hl 1 rfl) ?_
  refine lv_iload_n hx hb dX7_sheet_1 rfl (lv_at hl 2 rfl) ?_
  obtain ⟨r1, h2, hf⟩ := bd_s hf
  refine ks_i (va_runS (As := [.int p1, .int p2]) (rest := []) hcf (cz_X7_isSheet l D k A ws p1 p2 r1 h2) (va_cwS 2 hts gX7_sheet_X7_isSheet rfl rfl rfl (by decide +kernel) ⟨Nat.le_of_ble_eq_true rfl, Nat.le_of_ble_eq_true rfl⟩) (pw_S hP hK hD) rfl rfl hl.1 rfl (lv_room (Nat.le_of_ble_eq_true rfl)) dX7_sheet_2 ⟨Nat.zero_le _, Nat.zero_le _⟩) ?_
  refine lv_if_eq (tgt := 14) hx hb dX7_sheet_5 (by decide) (fun c3 => ?_) (fun c3 => ?_)
  · have hf := it_p c3 hf
    refine lv_iconst (v := (-1)) hx hb dX7_sheet_14 (by decide) ?_
    obtain rfl := so_i hf
    exact W.iret (v := (-1)) hx hb hr (qw_end hS hP hD ⟨h_this, hsm⟩) hS.2.2 dX7_sheet_15
  · have hf := it_n c3 hf
    refine lv_iload_n hx hb dX7_sheet_8 rfl (lv_at hl 3 rfl) ?_
    refine lv_bipush (v := 30) hx hb dX7_sheet_9 (by decide) ?_
    refine lv_icmp_le (tgt := 16) hx hb dX7_sheet_11 (by decide) (fun c4 => ?_) (fun c4 => ?_)
    · have hf := it_p c4 hf
      refine lv_iload_n hx hb dX7_sheet_16 rfl (lv_at hl 3 rfl) ?_
      refine lv_if_ge (tgt := 23) hx hb dX7_sheet_17 (by decide) (fun c5 => ?_) (fun c5 => ?_)
      · have hf := it_p c5 hf
        refine lv_aload_n hx hb dX7_sheet_23 rfl (lv_at hl 0 rfl) ?_
        obtain ⟨h6, h7, h8, h9, h10, h11, h12, h13, h14, h15, h16, h17, h18, h19, h20⟩ := h_this
        refine va_get (D := D) (ci := 7) (v := .ref (A (q + 6))) (C := RX7) (T := TX7) (N := 18) hx hb hts in_X7_sheet_X7 hown hK.1 hP (q) h6 rfl 8 (by decide) w_0 (fun _ h9 => h9) rfl dX7_sheet_24 ?_
        refine lv_iload_n hx hb dX7_sheet_27 rfl (lv_at hl 1 rfl) ?_
        refine lv_iload_n hx hb dX7_sheet_28 rfl (lv_at hl 2 rfl) ?_
        obtain ⟨z21, hf⟩ := ck_s hf
        refine va_iast hx hb hK.1 hP hD hS (q + 6) 0 h12 rfl (in_s z21) dX7_sheet_29 (fun _ _ hP hD hS => ?_)
        obtain ⟨u22, h23, m24, hP, hD⟩ := wd_put hP hD h12
        have hsm := sm_tr hsm m24 (by omega) (by omega)
        refine lv_aload_n hx hb dX7_sheet_30 rfl (lv_at hl 0 rfl) ?_
        have h25 := sm_at m24 (by omega) h6
        refine va_get (D := D) (ci := 7) (v := .ref (A (q + 7))) (C := RX7) (T := TX7) (N := 18) hx hb hts in_X7_sheet_X7 hown hK.1 hP (q) h25 rfl 9 (by decide) w_1 (fun _ h9 => h9) rfl dX7_sheet_31 ?_
        refine lv_iload_n hx hb dX7_sheet_34 rfl (lv_at hl 1 rfl) ?_
        refine lv_iload_n hx hb dX7_sheet_35 rfl (lv_at hl 3 rfl) ?_
        have h26 := sm_at m24 (by omega) h13
        obtain ⟨z27, hf⟩ := ck_s hf
        refine va_iast hx hb hK.1 hP hD hS (q + 7) 0 h26 rfl (in_s z27) dX7_sheet_36 (fun _ _ hP hD hS => ?_)
        obtain ⟨u28, h29, m30, hP, hD⟩ := wd_put hP hD h26
        have hsm := sm_tr hsm m30 (by omega) (by omega)
        refine lv_iconst (v := 0) hx hb dX7_sheet_37 (by decide) ?_
        refine lv_istore (lv' := [(4, .int 0), (0, .ref (A q)), (1, .int p1), (2, .int p2), (3, .int p3)]) hx hb dX7_sheet_38 hl (by decide) rfl (fun ls hl => ?_)
        have h66 := sm_at m30 (by omega) h25
        have h67 := sm_at m24 (by omega) h7
        have h68 := sm_at m30 (by omega) h67
        have h69 := sm_at m24 (by omega) h8
        have h70 := sm_at m30 (by omega) h69
        have h71 := sm_at m24 (by omega) h9
        have h72 := sm_at m30 (by omega) h71
        have h73 := sm_at m24 (by omega) h10
        have h74 := sm_at m30 (by omega) h73
        have h75 := sm_at m24 (by omega) h11
        have h76 := sm_at m30 (by omega) h75
        have h77 := sm_at m30 (by omega) h23
        have h78 := sm_at m24 (by omega) h14
        have h79 := sm_at m30 (by omega) h78
        have h80 := sm_at m24 (by omega) h15
        have h81 := sm_at m30 (by omega) h80
        have h82 := sm_at m24 (by omega) h16
        have h83 := sm_at m30 (by omega) h82
        have h84 := sm_at m24 (by omega) h17
        have h85 := sm_at m30 (by omega) h84
        have h86 := sm_at m24 (by omega) h18
        have h87 := sm_at m30 (by omega) h86
        have h88 := sm_at m24 (by omega) h19
        have h89 := sm_at m30 (by omega) h88
        have h90 := sm_at m24 (by omega) h20
        have h91 := sm_at m30 (by omega) h90
        have h92 : is_Y k A u28 (q) st past image imagePast tape (upd laneOf (Int32.toNatClampNeg p1) p2) (upd sizeOf (Int32.toNatClampNeg p1) p3) items least costs hops comes chain told acts imageActs tapeMany readAt := ⟨h66, h68, h70, h72, h74, h76, h77, h29, h79, h81, h83, h85, h87, h89, h91⟩
        exact wl_X7_sheet_40 l D k A ws q _ hK C0 st past image imagePast tape (upd laneOf (Int32.toNatClampNeg p1) p2) (upd sizeOf (Int32.toNatClampNeg p1) p3) least costs hops comes chain told acts imageActs tapeMany readAt p1 p3 fu_N items 0 _ _ _ _ hf h92 hsm hP hD hS (lv_sub hl [1, 2, 4, 0] rfl)
      · have hf := it_n c5 hf
        refine lv_bipush (v := (-14)) hx hb dX7_sheet_20 (by decide) ?_
        obtain rfl := so_i hf
        exact W.iret (v := (-14)) hx hb hr (qw_end hS hP hD ⟨h_this, hsm⟩) hS.2.2 dX7_sheet_22
    · have hf := it_n c4 hf
      refine lv_iconst (v := (-1)) hx hb dX7_sheet_14 (by decide) ?_
      obtain rfl := so_i hf
      exact W.iret (v := (-1)) hx hb hr (qw_end hS hP hD ⟨h_this, hsm⟩) hS.2.2 dX7_sheet_15

theorem in_X7_drop_X7 : ∀ w ∈ u_ws RX7 TX7 18, w ∈ wsX7_drop := fun w h => List.mem_cons_of_mem _ (List.mem_append_right _ h)
def pf_X7_drop (laneOf : Nat → Int32) (sizeOf : Nat → Int32)  (p1 : Int32) : Option (Int32 × (Nat → Int32)) :=
  (pf_X7_in (Int32.toInt64 p1) 0 3).bind (fun r1 =>
    if r1 = 0 then
      some ((-1), laneOf)
    else
      ck_O (in_b p1 4) (
        if 0 ≤ (laneOf (Int32.toNatClampNeg p1)) then
          ck_O (in_b p1 4) (
            ck_O (in_b p1 4) (
              some ((sizeOf (Int32.toNatClampNeg p1)), (upd laneOf (Int32.toNatClampNeg p1) (-4)))))
        else
          some ((-11), laneOf)))

set_option maxHeartbeats 4000000 in
set_option maxRecDepth 100000 in
theorem cz_X7_drop (l : Launch) (D : va_G) (k : kt_T) (A : Nat → Nat) (ws : va_W) (q : Nat)  (st : Nat → Int32) (past : Nat → Int32) (image : Nat → Int32) (imagePast : Nat → Int32) (tape : Nat → Int32) (laneOf : Nat → Int32) (sizeOf : Nat → Int32) (items : Nat → Int64) (least : Nat → Int32) (costs : Nat → Int32) (hops : Nat → Int32) (comes : Nat → Int32) (chain : Nat → Int32) (told : Nat → Int32) (acts : Int32) (imageActs : Int32) (tapeMany : Int32) (readAt : Int32) (p1 : Int32) (out : Int32 × (Nat → Int32)) (hf : pf_X7_drop laneOf sizeOf p1 = some out) (h_this : is_Y k A ws q st past image imagePast tape laneOf sizeOf items least costs hops comes chain told acts imageActs tapeMany readAt)  (sz0 : Nat) : Met l yX7_drop wsX7_drop { frames := 1, cells := 0, slots := 0, locals := 25 } (va_Pc [.ref (A q), .int p1] (px_P D k ws sz0)) (qw_Q D ws sz0 (some (.int out.1)) (fun u => is_Y k A u q st past image imagePast tape out.2 sizeOf items least costs hops comes chain told acts imageActs tapeMany readAt ∧ sm_W ws u q (q + 15))) 0 0 (va_A ws sz0) := by
  refine Met.ofW (cc := cX7_drop) (maxL := 2) (ret := (some .int)) (by decide) rfl ?_
  intro p e s m args below meth c s₁ B hml hv
  obtain ⟨rfl, hsz, hP, hK, hD0⟩ := hv
  subst hsz
  have hD := hD0.self (sz := s.heap.size)
  have C0 : cx_P p s m meth c [.ref (A q), .int p1].toArray cX7_drop 2 wsX7_drop RX7 (some .int) := ⟨B.exec, B.bytes, hml, findClass_of_methodNamed B.named, atoms_spec (ws := wsX7_drop) B.pre, B.returns, B.notSynchronized⟩
  obtain ⟨hx, hb, hml, hown, hts, hr, hlocks⟩ := id C0
  have hcf : CallFix p m c cX7_drop 2 s [.ref (A q), .int p1].toArray wsX7_drop RX7 := ⟨hx, hb, hml, hown, hts⟩
  have hA : ∀ q, s.heap.size ≤ q → va_A ws s.heap.size q := fun q h => Or.inr h
  have hS : va_S (va_A ws s.heap.size) s.heap s.heap [] := va_S.rf
  have hsm : sm_W ws ws q (q + 15) := sm_rf
  have w_0 := hts (.constantLong RX7 94 (3)) (List.mem_of_getElem? (i := 1) rfl)
  have w_1 := hts (.fieldLink RX7 29 "LeastRoutesModel" "laneOf" "[I") (List.mem_of_getElem? (i := 2) rfl)
  have w_2 := hts (.fieldLink RX7 32 "LeastRoutesModel" "sizeOf" "[I") (List.mem_of_getElem? (i := 3) rfl)
  have hl := lv_entry ([.ref (A q), .int p1]) (n := 2) (Nat.le_of_ble_eq_true rfl)
  rw [lg_entry_eq]
  generalize (lg_sl ([.ref (A q), .int p1]) ++ List.replicate (2 - (lg_sl ([.ref (A q), .int p1])).length) Slot.unset).toArray = ls at hl ⊢
  have hl : lv_has ls 2 [(0, .ref (A q)), (1, .int p1)] := hl
  unfold pf_X7_drop at hf
  refine lv_iload_n hx hb dX7_drop_0 rfl (lv_at hl 1 rfl) ?_
  refine lv_i2l hx hb dX7_drop_1 rfl ?_
  refine lv_lconst (v := 0) hx hb dX7_drop_2 (by decide) ?_
  refine lv_ldc2 hx hb hown w_0 dX7_drop_3 ?_
  obtain ⟨r1, h2, hf⟩ := bd_s hf
  refine ks_i (va_runS (As := [.long (Int32.toInt64 p1), .long 0, .long 3]) (rest := []) hcf (cz_X7_in l D k A ws (Int32.toInt64 p1) 0 3 r1 h2) (va_cwS 3 hts gX7_drop_X7_in rfl rfl rfl (by decide +kernel) ⟨Nat.le_of_ble_eq_true rfl, Nat.le_of_ble_eq_true rfl⟩) (pw_S hP hK hD) rfl rfl hl.1 rfl (lv_room (Nat.le_of_ble_eq_true rfl)) dX7_drop_6 ⟨Nat.zero_le _, Nat.zero_le _⟩) ?_
  refine lv_if_ne (tgt := 14) hx hb dX7_drop_9 (by decide) (fun c3 => ?_) (fun c3 => ?_)
  · have hf := it_n c3 hf
    refine lv_aload_n hx hb dX7_drop_14 rfl (lv_at hl 0 rfl) ?_
    obtain ⟨h4, h5, h6, h7, h8, h9, h10, h11, h12, h13, h14, h15, h16, h17, h18⟩ := h_this
    refine va_get (D := D) (ci := 7) (v := .ref (A (q + 6))) (C := RX7) (T := TX7) (N := 18) hx hb hts in_X7_drop_X7 hown hK.1 hP (q) h4 rfl 8 (by decide) w_1 (fun _ h9 => h9) rfl dX7_drop_15 ?_
    refine lv_iload_n hx hb dX7_drop_18 rfl (lv_at hl 1 rfl) ?_
    obtain ⟨z19, hf⟩ := ck_s hf
    refine va_iald hx hb hK.1 hP (q + 6) 0 h10 rfl (in_s z19) dX7_drop_19 ?_
    refine lv_if_ge (tgt := 26) hx hb dX7_drop_20 (by decide) (fun c20 => ?_) (fun c20 => ?_)
    · have hf := it_p c20 hf
      refine lv_aload_n hx hb dX7_drop_26 rfl (lv_at hl 0 rfl) ?_
      refine va_get (D := D) (ci := 7) (v := .ref (A (q + 6))) (C := RX7) (T := TX7) (N := 18) hx hb hts in_X7_drop_X7 hown hK.1 hP (q) h4 rfl 8 (by decide) w_1 (fun _ h9 => h9) rfl dX7_drop_27 ?_
      refine lv_iload_n hx hb dX7_drop_30 rfl (lv_at hl 1 rfl) ?_
      refine lv_bipush (v := (-4)) hx hb dX7_drop_31 (by decide) ?_
      obtain ⟨z21, hf⟩ := ck_s hf
      refine va_iast hx hb hK.1 hP hD hS (q + 6) 0 h10 rfl (in_s z21) dX7_drop_33 (fun _ _ hP hD hS => ?_)
      obtain ⟨u22, h23, m24, hP, hD⟩ := wd_put hP hD h10
      have hsm := sm_tr hsm m24 (by omega) (by omega)
      refine lv_aload_n hx hb dX7_drop_34 rfl (lv_at hl 0 rfl) ?_
      have h25 := sm_at m24 (by omega) h4
      refine va_get (D := D) (ci := 7) (v := .ref (A (q + 7))) (C := RX7) (T := TX7) (N := 18) hx hb hts in_X7_drop_X7 hown hK.1 hP (q) h25 rfl 9 (by decide) w_2 (fun _ h9 => h9) rfl dX7_drop_35 ?_
      refine lv_iload_n hx hb dX7_drop_38 rfl (lv_at hl 1 rfl) ?_
      have h26 := sm_at m24 (by omega) h11
      obtain ⟨z27, hf⟩ := ck_s hf
      refine va_iald hx hb hK.1 hP (q + 7) 0 h26 rfl (in_s z27) dX7_drop_39 ?_
      obtain rfl := so_i hf
      have h28 := sm_at m24 (by omega) h5
      have h29 := sm_at m24 (by omega) h6
      have h30 := sm_at m24 (by omega) h7
      have h31 := sm_at m24 (by omega) h8
      have h32 := sm_at m24 (by omega) h9
      have h33 := sm_at m24 (by omega) h12
      have h34 := sm_at m24 (by omega) h13
      have h35 := sm_at m24 (by omega) h14
      have h36 := sm_at m24 (by omega) h15
      have h37 := sm_at m24 (by omega) h16
      have h38 := sm_at m24 (by omega) h17
      have h39 := sm_at m24 (by omega) h18
      have h40 : is_Y k A u22 (q) st past image imagePast tape (upd laneOf (Int32.toNatClampNeg p1) (-4)) sizeOf items least costs hops comes chain told acts imageActs tapeMany readAt := ⟨h25, h28, h29, h30, h31, h32, h23, h26, h33, h34, h35, h36, h37, h38, h39⟩
      exact W.iret (v := (sizeOf (Int32.toNatClampNeg p1))) hx hb hr (qw_end hS hP hD ⟨h40, hsm⟩) hS.2.2 dX7_drop_40
    · have hf := it_n c20 hf
      refine lv_bipush (v := (-11)) hx hb dX7_drop_23 (by decide) ?_
      obtain rfl := so_i hf
      have h41 : is_Y k A ws (q) st past image imagePast tape laneOf sizeOf items least costs hops comes chain told acts imageActs tapeMany readAt := ⟨h4, h5, h6, h7, h8, h9, h10, h11, h12, h13, h14, h15, h16, h17, h18⟩
      exact W.iret (v := (-11)) hx hb hr (qw_end hS hP hD ⟨h41, hsm⟩) hS.2.2 dX7_drop_25
  · have hf := it_p c3 hf
    refine lv_iconst (v := (-1)) hx hb dX7_drop_12 (by decide) ?_
    obtain rfl := so_i hf
    exact W.iret (v := (-1)) hx hb hr (qw_end hS hP hD ⟨h_this, hsm⟩) hS.2.2 dX7_drop_13

theorem in_X7_item_X7 : ∀ w ∈ u_ws RX7 TX7 18, w ∈ wsX7_item := fun w h => List.mem_cons_of_mem _ (List.mem_append_right _ h)
def pf_X7_item (laneOf : Nat → Int32) (sizeOf : Nat → Int32) (items : Nat → Int64)  (p1 : Int32) (p2 : Int32) (p3 : Int32) (p4 : Int64) : Option (Int32 × (Nat → Int64)) :=
  (pf_X7_isSheet p1 p2).bind (fun r1 =>
    if r1 = 0 then
      some ((-1), items)
    else
      (pf_X7_found laneOf sizeOf p1 p2 p3 1).bind (fun r4 =>
        if r4 = 0 then
          (pf_X7_lowest p4 p2).bind (fun r22 =>
            ck_O (in_b ((30 * p1) + p3) 120) (
              some (1, (vp_updL items (Int32.toNatClampNeg ((30 * p1) + p3)) r22))))
        else
          some (r4, items)))

set_option maxHeartbeats 4000000 in
set_option maxRecDepth 100000 in
theorem cz_X7_item (l : Launch) (D : va_G) (k : kt_T) (A : Nat → Nat) (ws : va_W) (q : Nat)  (st : Nat → Int32) (past : Nat → Int32) (image : Nat → Int32) (imagePast : Nat → Int32) (tape : Nat → Int32) (laneOf : Nat → Int32) (sizeOf : Nat → Int32) (items : Nat → Int64) (least : Nat → Int32) (costs : Nat → Int32) (hops : Nat → Int32) (comes : Nat → Int32) (chain : Nat → Int32) (told : Nat → Int32) (acts : Int32) (imageActs : Int32) (tapeMany : Int32) (readAt : Int32) (p1 : Int32) (p2 : Int32) (p3 : Int32) (p4 : Int64) (out : Int32 × (Nat → Int64)) (hf : pf_X7_item laneOf sizeOf items p1 p2 p3 p4 = some out) (h_this : is_Y k A ws q st past image imagePast tape laneOf sizeOf items least costs hops comes chain told acts imageActs tapeMany readAt)  (sz0 : Nat) : Met l yX7_item wsX7_item { frames := 2, cells := 0, slots := 0, locals := 46 } (va_Pc [.ref (A q), .int p1, .int p2, .int p3, .long p4] (px_P D k ws sz0)) (qw_Q D ws sz0 (some (.int out.1)) (fun u => is_Y k A u q st past image imagePast tape laneOf sizeOf out.2 least costs hops comes chain told acts imageActs tapeMany readAt ∧ sm_W ws u q (q + 15))) 0 0 (va_A ws sz0) := by
  refine Met.ofW (cc := cX7_item) (maxL := 7) (ret := (some .int)) (by decide) rfl ?_
  intro p e s m args below meth c s₁ B hml hv
  obtain ⟨rfl, hsz, hP, hK, hD0⟩ := hv
  subst hsz
  have hD := hD0.self (sz := s.heap.size)
  have C0 : cx_P p s m meth c [.ref (A q), .int p1, .int p2, .int p3, .long p4].toArray cX7_item 7 wsX7_item RX7 (some .int) := ⟨B.exec, B.bytes, hml, findClass_of_methodNamed B.named, atoms_spec (ws := wsX7_item) B.pre, B.returns, B.notSynchronized⟩
  obtain ⟨hx, hb, hml, hown, hts, hr, hlocks⟩ := id C0
  have hcf : CallFix p m c cX7_item 7 s [.ref (A q), .int p1, .int p2, .int p3, .long p4].toArray wsX7_item RX7 := ⟨hx, hb, hml, hown, hts⟩
  have hA : ∀ q, s.heap.size ≤ q → va_A ws s.heap.size q := fun q h => Or.inr h
  have hS : va_S (va_A ws s.heap.size) s.heap s.heap [] := va_S.rf
  have hsm : sm_W ws ws q (q + 15) := sm_rf
  have w_0 := hts (.fieldLink RX7 35 "LeastRoutesModel" "items" "[J") (List.mem_of_getElem? (i := 1) rfl)
  have hl := lv_entry ([.ref (A q), .int p1, .int p2, .int p3, .long p4]) (n := 7) (Nat.le_of_ble_eq_true rfl)
  rw [lg_entry_eq]
  generalize (lg_sl ([.ref (A q), .int p1, .int p2, .int p3, .long p4]) ++ List.replicate (7 - (lg_sl ([.ref (A q), .int p1, .int p2, .int p3, .long p4])).length) Slot.unset).toArray = ls at hl ⊢
  have hl : lv_has ls 7 [(0, .ref (A q)), (1, .int p1), (2, .int p2), (3, .int p3), (4, .long p4)] := hl
  unfold pf_X7_item at hf
  refine lv_iload_n hx hb dX7_item_0 rfl (lv_at hl 1 rfl) ?_
  refine lv_iload_n hx hb dX7_item_1 rfl (lv_at hl 2 rfl) ?_
  obtain ⟨r1, h2, hf⟩ := bd_s hf
  refine ks_i (va_runS (As := [.int p1, .int p2]) (rest := []) hcf (cz_X7_isSheet l D k A ws p1 p2 r1 h2) (va_cwS 2 hts gX7_item_X7_isSheet rfl rfl rfl (by decide +kernel) ⟨Nat.le_of_ble_eq_true rfl, Nat.le_of_ble_eq_true rfl⟩) (pw_S hP hK hD) rfl rfl hl.1 rfl (lv_room (Nat.le_of_ble_eq_true rfl)) dX7_item_2 ⟨Nat.zero_le _, Nat.zero_le _⟩) ?_
  refine lv_if_ne (tgt := 10) hx hb dX7_item_5 (by decide) (fun c3 => ?_) (fun c3 => ?_)
  · have hf := it_n c3 hf
    refine lv_aload_n hx hb dX7_item_10 rfl (lv_at hl 0 rfl) ?_
    refine lv_iload_n hx hb dX7_item_11 rfl (lv_at hl 1 rfl) ?_
    refine lv_iload_n hx hb dX7_item_12 rfl (lv_at hl 2 rfl) ?_
    refine lv_iload_n hx hb dX7_item_13 rfl (lv_at hl 3 rfl) ?_
    refine lv_iconst (v := 1) hx hb dX7_item_14 (by decide) ?_
    obtain ⟨r4, h5, hf⟩ := bd_s hf
    refine ks_i (va_runV (As := [.int p1, .int p2, .int p3, .int 1]) (rest := []) hcf (cz_X7_found l D k A ws (q) st past image imagePast tape laneOf sizeOf items least costs hops comes chain told acts imageActs tapeMany readAt p1 p2 p3 1 r4 h5 h_this) (cwV 4 hts gX7_item_X7_found rfl rfl rfl (by decide +kernel) ⟨Nat.le_of_ble_eq_true rfl, Nat.le_of_ble_eq_true rfl⟩) (pw_V hP hK hD (ci := 7) h_this.1 rfl) rfl rfl hl.1 rfl (lv_room (Nat.le_of_ble_eq_true rfl)) dX7_item_15 ⟨Nat.zero_le _, Nat.zero_le _⟩) ?_
    refine lv_istore (lv' := [(6, .int r4), (0, .ref (A q)), (1, .int p1), (2, .int p2), (3, .int p3), (4, .long p4)]) hx hb dX7_item_18 hl (by decide) rfl (fun ls hl => ?_)
    refine lv_iload hx hb dX7_item_20 (lv_at hl 0 rfl) ?_
    refine lv_if_eq (tgt := 28) hx hb dX7_item_22 (by decide) (fun c6 => ?_) (fun c6 => ?_)
    · have hf := it_p c6 hf
      refine lv_aload_n hx hb dX7_item_28 rfl (lv_at hl 1 rfl) ?_
      obtain ⟨h7, h8, h9, h10, h11, h12, h13, h14, h15, h16, h17, h18, h19, h20, h21⟩ := h_this
      refine va_get (D := D) (ci := 7) (v := .ref (A (q + 8))) (C := RX7) (T := TX7) (N := 18) hx hb hts in_X7_item_X7 hown hK.1 hP (q) h7 rfl 10 (by decide) w_0 (fun _ h9 => h9) rfl dX7_item_29 ?_
      refine lv_bipush (v := 30) hx hb dX7_item_32 (by decide) ?_
      refine lv_iload_n hx hb dX7_item_34 rfl (lv_at hl 2 rfl) ?_
      refine lv_imul hx hb dX7_item_35 ?_
      refine lv_iload_n hx hb dX7_item_36 rfl (lv_at hl 4 rfl) ?_
      refine lv_iadd hx hb dX7_item_37 ?_
      refine lv_lload hx hb dX7_item_38 (lv_at hl 5 rfl) ?_
      refine lv_iload_n hx hb dX7_item_40 rfl (lv_at hl 3 rfl) ?_
      obtain ⟨r22, h23, hf⟩ := bd_s hf
      refine ks_l (va_runS (As := [.long p4, .int p2]) (rest := [.int ((30 * p1) + p3), .ref (A (q + 8))]) hcf (cz_X7_lowest l D k A ws p4 p2 r22 h23) (va_cwS 2 hts gX7_item_X7_lowest rfl rfl rfl (by decide +kernel) ⟨Nat.le_of_ble_eq_true rfl, Nat.le_of_ble_eq_true rfl⟩) (pw_S hP hK hD) rfl rfl hl.1 rfl (lv_room (Nat.le_of_ble_eq_true rfl)) dX7_item_41 ⟨Nat.zero_le _, Nat.zero_le _⟩) ?_
      obtain ⟨z24, hf⟩ := ck_s hf
      refine va_last hx hb hK.1 hP hD hS (q + 8) 1 h15 rfl (in_s z24) dX7_item_44 (fun _ _ hP hD hS => ?_)
      obtain ⟨u25, h26, m27, hP, hD⟩ := wd_put hP hD h15
      have hsm := sm_tr hsm m27 (by omega) (by omega)
      refine lv_iconst (v := 1) hx hb dX7_item_45 (by decide) ?_
      obtain rfl := so_i hf
      have h28 := sm_at m27 (by omega) h7
      have h29 := sm_at m27 (by omega) h8
      have h30 := sm_at m27 (by omega) h9
      have h31 := sm_at m27 (by omega) h10
      have h32 := sm_at m27 (by omega) h11
      have h33 := sm_at m27 (by omega) h12
      have h34 := sm_at m27 (by omega) h13
      have h35 := sm_at m27 (by omega) h14
      have h36 := sm_at m27 (by omega) h16
      have h37 := sm_at m27 (by omega) h17
      have h38 := sm_at m27 (by omega) h18
      have h39 := sm_at m27 (by omega) h19
      have h40 := sm_at m27 (by omega) h20
      have h41 := sm_at m27 (by omega) h21
      have h42 : is_Y k A u25 (q) st past image imagePast tape laneOf sizeOf (vp_updL items (Int32.toNatClampNeg ((30 * p1) + p3)) r22) least costs hops comes chain told acts imageActs tapeMany readAt := ⟨h28, h29, h30, h31, h32, h33, h34, h35, h26, h36, h37, h38, h39, h40, h41⟩
      exact W.iret (v := 1) hx hb hr (qw_end hS hP hD ⟨h42, hsm⟩) hS.2.2 dX7_item_46
    · have hf := it_n c6 hf
      refine lv_iload hx hb dX7_item_25 (lv_at hl 0 rfl) ?_
      obtain rfl := so_i hf
      exact W.iret (v := r4) hx hb hr (qw_end hS hP hD ⟨h_this, hsm⟩) hS.2.2 dX7_item_27
  · have hf := it_p c3 hf
    refine lv_iconst (v := (-1)) hx hb dX7_item_8 (by decide) ?_
    obtain rfl := so_i hf
    exact W.iret (v := (-1)) hx hb hr (qw_end hS hP hD ⟨h_this, hsm⟩) hS.2.2 dX7_item_9

theorem in_X7_copy_X7 : ∀ w ∈ u_ws RX7 TX7 18, w ∈ wsX7_copy := fun w h => List.mem_cons_of_mem _ (List.mem_append_right _ h)
def lp_X7_copy_156  (items : Nat → Int64) (x1 : Int32) (x2 : Int32) (x3 : Int32) (x4 : Int32) (x5 : Int32) (x6 : Int32) (x7 : Int32) (v0 : Int32) (g_132 : (Nat → Int64) → Int32 → Option (Int32 × (Nat → Int64))) : Option (Int32 × (Nat → Int64)) :=
  ck_O (in_b (((30 * x1) + x2) + v0) 120) (
    ck_O (in_b (((30 * x3) + x4) + v0) 120) (
      g_132 (vp_updL items (Int32.toNatClampNeg (((30 * x3) + x4) + v0)) (items (Int32.toNatClampNeg (((30 * x1) + x2) + v0)))) (x7 + 1)))

def lp_X7_copy_132  (x1 : Int32) (x2 : Int32) (x3 : Int32) (x4 : Int32) (x5 : Int32) (x6 : Int32) : Nat → (Nat → Int64) → Int32 → Option (Int32 × (Nat → Int64))
  | 0, _, _ => none
  | n + 1, items, x7 =>
    if x5 ≤ x7 then
      some (x5, items)
    else
      if x6 = 0 then
        lp_X7_copy_156 items x1 x2 x3 x4 x5 x6 x7 x7 (lp_X7_copy_132 x1 x2 x3 x4 x5 x6 n)
      else
        lp_X7_copy_156 items x1 x2 x3 x4 x5 x6 x7 ((x5 - 1) - x7) (lp_X7_copy_132 x1 x2 x3 x4 x5 x6 n)

def pf_X7_copy (laneOf : Nat → Int32) (sizeOf : Nat → Int32) (items : Nat → Int64)  (p1 : Int32) (p2 : Int32) (p3 : Int32) (p4 : Int32) (p5 : Int32) : Option (Int32 × (Nat → Int64)) :=
  (pf_X7_in (Int32.toInt64 p1) 0 3).bind (fun r1 =>
    if r1 = 0 then
      some ((-1), items)
    else
      (pf_X7_in (Int32.toInt64 p3) 0 3).bind (fun r4 =>
        if r4 = 0 then
          some ((-1), items)
        else
          ck_O (in_b p1 4) (
            if (laneOf (Int32.toNatClampNeg p1)) < 0 then
              some ((-11), items)
            else
              ck_O (in_b p3 4) (
                if 0 ≤ (laneOf (Int32.toNatClampNeg p3)) then
                  ck_O (in_b p1 4) (
                    ck_O (in_b p3 4) (
                      if (laneOf (Int32.toNatClampNeg p1)) = (laneOf (Int32.toNatClampNeg p3)) then
                        if p5 < 0 then
                          some ((-13), items)
                        else
                          if 30 < p5 then
                            some ((-13), items)
                          else
                            if p2 < 0 then
                              some ((-13), items)
                            else
                              if p4 < 0 then
                                some ((-13), items)
                              else
                                ck_O (in_b p1 4) (
                                  if ((sizeOf (Int32.toNatClampNeg p1)) - p5) < p2 then
                                    some ((-13), items)
                                  else
                                    ck_O (in_b p3 4) (
                                      if p4 ≤ ((sizeOf (Int32.toNatClampNeg p3)) - p5) then
                                        if p4 ≤ p2 then
                                          lp_X7_copy_132 p1 p2 p3 p4 p5 0 fu_N items 0
                                        else
                                          lp_X7_copy_132 p1 p2 p3 p4 p5 1 fu_N items 0
                                      else
                                        some ((-13), items)))
                      else
                        some ((-12), items)))
                else
                  some ((-11), items)))))

set_option maxHeartbeats 4000000 in
set_option maxRecDepth 100000 in
theorem wl_X7_copy_156 {p : Program} {e : Env} {s : State} {m : MethodId} {args : Array Value} {below : List Frame} {meth : Method} {c : Code} (l : Launch) (D : va_G) (k : kt_T) (A : Nat → Nat) (ws : va_W) (q : Nat)  (out : Int32 × (Nat → Int64)) (hK : kk_P D k s) (C0 : cx_P p s m meth c args cX7_copy 9 wsX7_copy RX7 (some .int))  (st : Nat → Int32) (past : Nat → Int32) (image : Nat → Int32) (imagePast : Nat → Int32) (tape : Nat → Int32) (laneOf : Nat → Int32) (sizeOf : Nat → Int32) (items : Nat → Int64) (least : Nat → Int32) (costs : Nat → Int32) (hops : Nat → Int32) (comes : Nat → Int32) (chain : Nat → Int32) (told : Nat → Int32) (acts : Int32) (imageActs : Int32) (tapeMany : Int32) (readAt : Int32) (x1 : Int32) (x2 : Int32) (x3 : Int32) (x4 : Int32) (x5 : Int32) (x6 : Int32) (x7 : Int32) (v0 : Int32) (g_132 : (Nat → Int64) → Int32 → Option (Int32 × (Nat → Int64))) (hg_132 : ∀ (items : Nat → Int64) (x7 : Int32) (w : va_W) (H : Heap) (locs : List Loc) (ls : Array Slot), g_132 items x7 = some out → is_Y k A w q st past image imagePast tape laneOf sizeOf items least costs hops comes chain told acts imageActs tapeMany readAt → sm_W ws w q (q + 15) → va_P D vwCl w H → va_D (va_A ws s.heap.size) w → va_S (va_A ws s.heap.size) s.heap H locs → lv_has ls 9 [(0, .ref (A q)), (1, .int x1), (2, .int x2), (3, .int x3), (4, .int x4), (5, .int x5), (6, .int x6), (7, .int x7)] → W p l e (headSpec wsX7_copy { frames := 1, cells := 0, slots := 0, locals := 25 }).room s m args below meth c H locs 0 0 (MQ below (qw_Q D ws s.heap.size (some (.int out.1)) (fun u => is_Y k A u q st past image imagePast tape laneOf sizeOf out.2 least costs hops comes chain told acts imageActs tapeMany readAt ∧ sm_W ws u q (q + 15))) args s 0 0 (va_A ws s.heap.size)) (F0 m 132 ls []))  : ∀ (w : va_W) (H : Heap) (locs : List Loc) (ls : Array Slot), lp_X7_copy_156 items x1 x2 x3 x4 x5 x6 x7 v0 g_132 = some out → is_Y k A w q st past image imagePast tape laneOf sizeOf items least costs hops comes chain told acts imageActs tapeMany readAt → sm_W ws w q (q + 15) → va_P D vwCl w H → va_D (va_A ws s.heap.size) w → va_S (va_A ws s.heap.size) s.heap H locs → lv_has ls 9 [(0, .ref (A q)), (1, .int x1), (2, .int x2), (3, .int x3), (4, .int x4), (5, .int x5), (6, .int x6), (7, .int x7)] → W p l e (headSpec wsX7_copy { frames := 1, cells := 0, slots := 0, locals := 25 }).room s m args below meth c H locs 0 0 (MQ below (qw_Q D ws s.heap.size (some (.int out.1)) (fun u => is_Y k A u q st past image imagePast tape laneOf sizeOf out.2 least costs hops comes chain told acts imageActs tapeMany readAt ∧ sm_W ws u q (q + 15))) args s 0 0 (va_A ws s.heap.size)) (F0 m 156 ls [.int v0]) := by
  obtain ⟨hx, hb, hml, hown, hts, hr, hlocks⟩ := id C0
  have hcf : CallFix p m c cX7_copy 9 s args wsX7_copy RX7 := ⟨hx, hb, hml, hown, hts⟩
  have hA : ∀ q, s.heap.size ≤ q → va_A ws s.heap.size q := fun q h => Or.inr h
  have w_3 := hts (.fieldLink RX7 35 "LeastRoutesModel" "items" "[J") (List.mem_of_getElem? (i := 4) rfl)
  intro w H locs ls hf h_this hsm hP hD hS hl
  unfold lp_X7_copy_156 at hf
  refine lv_istore (lv' := [(8, .int v0), (0, .ref (A q)), (1, .int x1), (2, .int x2), (3, .int x3), (4, .int x4), (5, .int x5), (6, .int x6), (7, .int x7)]) hx hb dX7_copy_156 hl (by decide) rfl (fun ls hl => ?_)
  refine lv_aload_n hx hb dX7_copy_158 rfl (lv_at hl 1 rfl) ?_
  obtain ⟨h46, h47, h48, h49, h50, h51, h52, h53, h54, h55, h56, h57, h58, h59, h60⟩ := h_this
  refine va_get (D := D) (ci := 7) (v := .ref (A (q + 8))) (C := RX7) (T := TX7) (N := 18) hx hb hts in_X7_copy_X7 hown hK.1 hP (q) h46 rfl 10 (by decide) w_3 (fun _ h9 => h9) rfl dX7_copy_159 ?_
  refine lv_bipush (v := 30) hx hb dX7_copy_162 (by decide) ?_
  refine lv_iload_n hx hb dX7_copy_164 rfl (lv_at hl 4 rfl) ?_
  refine lv_imul hx hb dX7_copy_165 ?_
  refine lv_iload hx hb dX7_copy_166 (lv_at hl 5 rfl) ?_
  refine lv_iadd hx hb dX7_copy_168 ?_
  refine lv_iload hx hb dX7_copy_169 (lv_at hl 0 rfl) ?_
  refine lv_iadd hx hb dX7_copy_171 ?_
  refine lv_aload_n hx hb dX7_copy_172 rfl (lv_at hl 1 rfl) ?_
  refine va_get (D := D) (ci := 7) (v := .ref (A (q + 8))) (C := RX7) (T := TX7) (N := 18) hx hb hts in_X7_copy_X7 hown hK.1 hP (q) h46 rfl 10 (by decide) w_3 (fun _ h9 => h9) rfl dX7_copy_173 ?_
  refine lv_bipush (v := 30) hx hb dX7_copy_176 (by decide) ?_
  refine lv_iload_n hx hb dX7_copy_178 rfl (lv_at hl 2 rfl) ?_
  refine lv_imul hx hb dX7_copy_179 ?_
  refine lv_iload_n hx hb dX7_copy_180 rfl (lv_at hl 3 rfl) ?_
  refine lv_iadd hx hb dX7_copy_181 ?_
  refine lv_iload hx hb dX7_copy_182 (lv_at hl 0 rfl) ?_
  refine lv_iadd hx hb dX7_copy_184 ?_
  obtain ⟨z61, hf⟩ := ck_s hf
  refine va_lald hx hb hK.1 hP (q + 8) 1 h54 rfl (in_s z61) dX7_copy_185 ?_
  obtain ⟨z62, hf⟩ := ck_s hf
  refine va_last hx hb hK.1 hP hD hS (q + 8) 1 h54 rfl (in_s z62) dX7_copy_186 (fun _ _ hP hD hS => ?_)
  obtain ⟨u63, h64, m65, hP, hD⟩ := wd_put hP hD h54
  have hsm := sm_tr hsm m65 (by omega) (by omega)
  refine lv_iinc (v := (x7 + 1)) (lv' := [(7, .int (x7 + 1)), (8, .int v0), (0, .ref (A q)), (1, .int x1), (2, .int x2), (3, .int x3), (4, .int x4), (5, .int x5), (6, .int x6)]) hx hb dX7_copy_187 hl (k := 8) rfl rfl (by decide) rfl (fun ls hl => ?_)
  refine lv_goto (tgt := 132) hx hb dX7_copy_190 (by decide) ?_
  have h66 := sm_at m65 (by omega) h46
  have h67 := sm_at m65 (by omega) h47
  have h68 := sm_at m65 (by omega) h48
  have h69 := sm_at m65 (by omega) h49
  have h70 := sm_at m65 (by omega) h50
  have h71 := sm_at m65 (by omega) h51
  have h72 := sm_at m65 (by omega) h52
  have h73 := sm_at m65 (by omega) h53
  have h74 := sm_at m65 (by omega) h55
  have h75 := sm_at m65 (by omega) h56
  have h76 := sm_at m65 (by omega) h57
  have h77 := sm_at m65 (by omega) h58
  have h78 := sm_at m65 (by omega) h59
  have h79 := sm_at m65 (by omega) h60
  have h80 : is_Y k A u63 (q) st past image imagePast tape laneOf sizeOf (vp_updL items (Int32.toNatClampNeg (((30 * x3) + x4) + v0)) (items (Int32.toNatClampNeg (((30 * x1) + x2) + v0)))) least costs hops comes chain told acts imageActs tapeMany readAt := ⟨h66, h67, h68, h69, h70, h71, h72, h73, h64, h74, h75, h76, h77, h78, h79⟩
  exact hg_132 (vp_updL items (Int32.toNatClampNeg (((30 * x3) + x4) + v0)) (items (Int32.toNatClampNeg (((30 * x1) + x2) + v0)))) (x7 + 1) _ _ _ _ hf h80 hsm hP hD hS (lv_sub hl [2, 3, 4, 5, 6, 7, 8, 0] rfl)

set_option maxHeartbeats 4000000 in
set_option maxRecDepth 100000 in
theorem wl_X7_copy_132 {p : Program} {e : Env} {s : State} {m : MethodId} {args : Array Value} {below : List Frame} {meth : Method} {c : Code} (l : Launch) (D : va_G) (k : kt_T) (A : Nat → Nat) (ws : va_W) (q : Nat)  (out : Int32 × (Nat → Int64)) (hK : kk_P D k s) (C0 : cx_P p s m meth c args cX7_copy 9 wsX7_copy RX7 (some .int))  (st : Nat → Int32) (past : Nat → Int32) (image : Nat → Int32) (imagePast : Nat → Int32) (tape : Nat → Int32) (laneOf : Nat → Int32) (sizeOf : Nat → Int32) (least : Nat → Int32) (costs : Nat → Int32) (hops : Nat → Int32) (comes : Nat → Int32) (chain : Nat → Int32) (told : Nat → Int32) (acts : Int32) (imageActs : Int32) (tapeMany : Int32) (readAt : Int32) (x1 : Int32) (x2 : Int32) (x3 : Int32) (x4 : Int32) (x5 : Int32) (x6 : Int32)    : ∀ (n : Nat) (items : Nat → Int64) (x7 : Int32) (w : va_W) (H : Heap) (locs : List Loc) (ls : Array Slot), lp_X7_copy_132 x1 x2 x3 x4 x5 x6 n items x7 = some out → is_Y k A w q st past image imagePast tape laneOf sizeOf items least costs hops comes chain told acts imageActs tapeMany readAt → sm_W ws w q (q + 15) → va_P D vwCl w H → va_D (va_A ws s.heap.size) w → va_S (va_A ws s.heap.size) s.heap H locs → lv_has ls 9 [(0, .ref (A q)), (1, .int x1), (2, .int x2), (3, .int x3), (4, .int x4), (5, .int x5), (6, .int x6), (7, .int x7)] → W p l e (headSpec wsX7_copy { frames := 1, cells := 0, slots := 0, locals := 25 }).room s m args below meth c H locs 0 0 (MQ below (qw_Q D ws s.heap.size (some (.int out.1)) (fun u => is_Y k A u q st past image imagePast tape laneOf sizeOf out.2 least costs hops comes chain told acts imageActs tapeMany readAt ∧ sm_W ws u q (q + 15))) args s 0 0 (va_A ws s.heap.size)) (F0 m 132 ls []) := by
  obtain ⟨hx, hb, hml, hown, hts, hr, hlocks⟩ := id C0
  have hcf : CallFix p m c cX7_copy 9 s args wsX7_copy RX7 := ⟨hx, hb, hml, hown, hts⟩
  have hA : ∀ q, s.heap.size ≤ q → va_A ws s.heap.size q := fun q h => Or.inr h
  intro n
  induction n with
  | zero =>
    intro items x7 w H locs ls hf h_this hsm hP hD hS hl
    exact (no_s hf).elim
  | succ n ih =>
    intro items x7 w H locs ls hf h_this hsm hP hD hS hl
    rw [lp_X7_copy_132] at hf
    refine lv_iload hx hb dX7_copy_132 (lv_at hl 7 rfl) ?_
    refine lv_iload hx hb dX7_copy_134 (lv_at hl 5 rfl) ?_
    refine lv_icmp_ge (tgt := 193) hx hb dX7_copy_136 (by decide) (fun c44 => ?_) (fun c44 => ?_)
    · have hf := it_p c44 hf
      refine lv_iload hx hb dX7_copy_193 (lv_at hl 5 rfl) ?_
      obtain rfl := so_i hf
      exact W.iret (v := x5) hx hb hr (qw_end hS hP hD ⟨h_this, hsm⟩) hS.2.2 dX7_copy_195
    · have hf := it_n c44 hf
      refine lv_iload hx hb dX7_copy_139 (lv_at hl 6 rfl) ?_
      refine lv_if_eq (tgt := 154) hx hb dX7_copy_141 (by decide) (fun c45 => ?_) (fun c45 => ?_)
      · have hf := it_p c45 hf
        refine lv_iload hx hb dX7_copy_154 (lv_at hl 7 rfl) ?_
        exact wl_X7_copy_156 l D k A ws q _ hK C0 st past image imagePast tape laneOf sizeOf items least costs hops comes chain told acts imageActs tapeMany readAt x1 x2 x3 x4 x5 x6 x7 x7 _ ih _ _ _ _ hf h_this hsm hP hD hS (lv_sub hl [0, 1, 2, 3, 4, 5, 6, 7] rfl)
      · have hf := it_n c45 hf
        refine lv_iload hx hb dX7_copy_144 (lv_at hl 5 rfl) ?_
        refine lv_iconst (v := 1) hx hb dX7_copy_146 (by decide) ?_
        refine lv_isub hx hb dX7_copy_147 ?_
        refine lv_iload hx hb dX7_copy_148 (lv_at hl 7 rfl) ?_
        refine lv_isub hx hb dX7_copy_150 ?_
        refine lv_goto (tgt := 156) hx hb dX7_copy_151 (by decide) ?_
        exact wl_X7_copy_156 l D k A ws q _ hK C0 st past image imagePast tape laneOf sizeOf items least costs hops comes chain told acts imageActs tapeMany readAt x1 x2 x3 x4 x5 x6 x7 ((x5 - 1) - x7) _ ih _ _ _ _ hf h_this hsm hP hD hS (lv_sub hl [0, 1, 2, 3, 4, 5, 6, 7] rfl)

set_option maxHeartbeats 4000000 in
set_option maxRecDepth 100000 in
theorem cz_X7_copy (l : Launch) (D : va_G) (k : kt_T) (A : Nat → Nat) (ws : va_W) (q : Nat)  (st : Nat → Int32) (past : Nat → Int32) (image : Nat → Int32) (imagePast : Nat → Int32) (tape : Nat → Int32) (laneOf : Nat → Int32) (sizeOf : Nat → Int32) (items : Nat → Int64) (least : Nat → Int32) (costs : Nat → Int32) (hops : Nat → Int32) (comes : Nat → Int32) (chain : Nat → Int32) (told : Nat → Int32) (acts : Int32) (imageActs : Int32) (tapeMany : Int32) (readAt : Int32) (p1 : Int32) (p2 : Int32) (p3 : Int32) (p4 : Int32) (p5 : Int32) (out : Int32 × (Nat → Int64)) (hf : pf_X7_copy laneOf sizeOf items p1 p2 p3 p4 p5 = some out) (h_this : is_Y k A ws q st past image imagePast tape laneOf sizeOf items least costs hops comes chain told acts imageActs tapeMany readAt)  (sz0 : Nat) : Met l yX7_copy wsX7_copy { frames := 1, cells := 0, slots := 0, locals := 25 } (va_Pc [.ref (A q), .int p1, .int p2, .int p3, .int p4, .int p5] (px_P D k ws sz0)) (qw_Q D ws sz0 (some (.int out.1)) (fun u => is_Y k A u q st past image imagePast tape laneOf sizeOf out.2 least costs hops comes chain told acts imageActs tapeMany readAt ∧ sm_W ws u q (q + 15))) 0 0 (va_A ws sz0) := by
  refine Met.ofW (cc := cX7_copy) (maxL := 9) (ret := (some .int)) (by decide) rfl ?_
  intro p e s m args below meth c s₁ B hml hv
  obtain ⟨rfl, hsz, hP, hK, hD0⟩ := hv
  subst hsz
  have hD := hD0.self (sz := s.heap.size)
  have C0 : cx_P p s m meth c [.ref (A q), .int p1, .int p2, .int p3, .int p4, .int p5].toArray cX7_copy 9 wsX7_copy RX7 (some .int) := ⟨B.exec, B.bytes, hml, findClass_of_methodNamed B.named, atoms_spec (ws := wsX7_copy) B.pre, B.returns, B.notSynchronized⟩
  obtain ⟨hx, hb, hml, hown, hts, hr, hlocks⟩ := id C0
  have hcf : CallFix p m c cX7_copy 9 s [.ref (A q), .int p1, .int p2, .int p3, .int p4, .int p5].toArray wsX7_copy RX7 := ⟨hx, hb, hml, hown, hts⟩
  have hA : ∀ q, s.heap.size ≤ q → va_A ws s.heap.size q := fun q h => Or.inr h
  have hS : va_S (va_A ws s.heap.size) s.heap s.heap [] := va_S.rf
  have hsm : sm_W ws ws q (q + 15) := sm_rf
  have w_0 := hts (.constantLong RX7 94 (3)) (List.mem_of_getElem? (i := 1) rfl)
  have w_1 := hts (.fieldLink RX7 29 "LeastRoutesModel" "laneOf" "[I") (List.mem_of_getElem? (i := 2) rfl)
  have w_2 := hts (.fieldLink RX7 32 "LeastRoutesModel" "sizeOf" "[I") (List.mem_of_getElem? (i := 3) rfl)
  have hl := lv_entry ([.ref (A q), .int p1, .int p2, .int p3, .int p4, .int p5]) (n := 9) (Nat.le_of_ble_eq_true rfl)
  rw [lg_entry_eq]
  generalize (lg_sl ([.ref (A q), .int p1, .int p2, .int p3, .int p4, .int p5]) ++ List.replicate (9 - (lg_sl ([.ref (A q), .int p1, .int p2, .int p3, .int p4, .int p5])).length) Slot.unset).toArray = ls at hl ⊢
  have hl : lv_has ls 9 [(0, .ref (A q)), (1, .int p1), (2, .int p2), (3, .int p3), (4, .int p4), (5, .int p5)] := hl
  unfold pf_X7_copy at hf
  refine lv_iload_n hx hb dX7_copy_0 rfl (lv_at hl 1 rfl) ?_
  refine lv_i2l hx hb dX7_copy_1 rfl ?_
  refine lv_lconst (v := 0) hx hb dX7_copy_2 (by decide) ?_
  refine lv_ldc2 hx hb hown w_0 dX7_copy_3 ?_
  obtain ⟨r1, h2, hf⟩ := bd_s hf
  refine ks_i (va_runS (As := [.long (Int32.toInt64 p1), .long 0, .long 3]) (rest := []) hcf (cz_X7_in l D k A ws (Int32.toInt64 p1) 0 3 r1 h2) (va_cwS 3 hts gX7_copy_X7_in rfl rfl rfl (by decide +kernel) ⟨Nat.le_of_ble_eq_true rfl, Nat.le_of_ble_eq_true rfl⟩) (pw_S hP hK hD) rfl rfl hl.1 rfl (lv_room (Nat.le_of_ble_eq_true rfl)) dX7_copy_6 ⟨Nat.zero_le _, Nat.zero_le _⟩) ?_
  refine lv_if_eq (tgt := 24) hx hb dX7_copy_9 (by decide) (fun c3 => ?_) (fun c3 => ?_)
  · have hf := it_p c3 hf
    refine lv_iconst (v := (-1)) hx hb dX7_copy_24 (by decide) ?_
    obtain rfl := so_i hf
    exact W.iret (v := (-1)) hx hb hr (qw_end hS hP hD ⟨h_this, hsm⟩) hS.2.2 dX7_copy_25
  · have hf := it_n c3 hf
    refine lv_iload_n hx hb dX7_copy_12 rfl (lv_at hl 3 rfl) ?_
    refine lv_i2l hx hb dX7_copy_13 rfl ?_
    refine lv_lconst (v := 0) hx hb dX7_copy_14 (by decide) ?_
    refine lv_ldc2 hx hb hown w_0 dX7_copy_15 ?_
    obtain ⟨r4, h5, hf⟩ := bd_s hf
    refine ks_i (va_runS (As := [.long (Int32.toInt64 p3), .long 0, .long 3]) (rest := []) hcf (cz_X7_in l D k A ws (Int32.toInt64 p3) 0 3 r4 h5) (va_cwS 3 hts gX7_copy_X7_in rfl rfl rfl (by decide +kernel) ⟨Nat.le_of_ble_eq_true rfl, Nat.le_of_ble_eq_true rfl⟩) (pw_S hP hK hD) rfl rfl hl.1 rfl (lv_room (Nat.le_of_ble_eq_true rfl)) dX7_copy_18 ⟨Nat.zero_le _, Nat.zero_le _⟩) ?_
    refine lv_if_ne (tgt := 26) hx hb dX7_copy_21 (by decide) (fun c6 => ?_) (fun c6 => ?_)
    · have hf := it_n c6 hf
      refine lv_aload_n hx hb dX7_copy_26 rfl (lv_at hl 0 rfl) ?_
      obtain ⟨h7, h8, h9, h10, h11, h12, h13, h14, h15, h16, h17, h18, h19, h20, h21⟩ := h_this
      refine va_get (D := D) (ci := 7) (v := .ref (A (q + 6))) (C := RX7) (T := TX7) (N := 18) hx hb hts in_X7_copy_X7 hown hK.1 hP (q) h7 rfl 8 (by decide) w_1 (fun _ h9 => h9) rfl dX7_copy_27 ?_
      refine lv_iload_n hx hb dX7_copy_30 rfl (lv_at hl 1 rfl) ?_
      obtain ⟨z22, hf⟩ := ck_s hf
      refine va_iald hx hb hK.1 hP (q + 6) 0 h13 rfl (in_s z22) dX7_copy_31 ?_
      refine lv_if_lt (tgt := 44) hx hb dX7_copy_32 (by decide) (fun c23 => ?_) (fun c23 => ?_)
      · have hf := it_p c23 hf
        refine lv_bipush (v := (-11)) hx hb dX7_copy_44 (by decide) ?_
        obtain rfl := so_i hf
        have h24 : is_Y k A ws (q) st past image imagePast tape laneOf sizeOf items least costs hops comes chain told acts imageActs tapeMany readAt := ⟨h7, h8, h9, h10, h11, h12, h13, h14, h15, h16, h17, h18, h19, h20, h21⟩
        exact W.iret (v := (-11)) hx hb hr (qw_end hS hP hD ⟨h24, hsm⟩) hS.2.2 dX7_copy_46
      · have hf := it_n c23 hf
        refine lv_aload_n hx hb dX7_copy_35 rfl (lv_at hl 0 rfl) ?_
        refine va_get (D := D) (ci := 7) (v := .ref (A (q + 6))) (C := RX7) (T := TX7) (N := 18) hx hb hts in_X7_copy_X7 hown hK.1 hP (q) h7 rfl 8 (by decide) w_1 (fun _ h9 => h9) rfl dX7_copy_36 ?_
        refine lv_iload_n hx hb dX7_copy_39 rfl (lv_at hl 3 rfl) ?_
        obtain ⟨z25, hf⟩ := ck_s hf
        refine va_iald hx hb hK.1 hP (q + 6) 0 h13 rfl (in_s z25) dX7_copy_40 ?_
        refine lv_if_ge (tgt := 47) hx hb dX7_copy_41 (by decide) (fun c26 => ?_) (fun c26 => ?_)
        · have hf := it_p c26 hf
          refine lv_aload_n hx hb dX7_copy_47 rfl (lv_at hl 0 rfl) ?_
          refine va_get (D := D) (ci := 7) (v := .ref (A (q + 6))) (C := RX7) (T := TX7) (N := 18) hx hb hts in_X7_copy_X7 hown hK.1 hP (q) h7 rfl 8 (by decide) w_1 (fun _ h9 => h9) rfl dX7_copy_48 ?_
          refine lv_iload_n hx hb dX7_copy_51 rfl (lv_at hl 1 rfl) ?_
          obtain ⟨z27, hf⟩ := ck_s hf
          refine va_iald hx hb hK.1 hP (q + 6) 0 h13 rfl (in_s z27) dX7_copy_52 ?_
          refine lv_aload_n hx hb dX7_copy_53 rfl (lv_at hl 0 rfl) ?_
          refine va_get (D := D) (ci := 7) (v := .ref (A (q + 6))) (C := RX7) (T := TX7) (N := 18) hx hb hts in_X7_copy_X7 hown hK.1 hP (q) h7 rfl 8 (by decide) w_1 (fun _ h9 => h9) rfl dX7_copy_54 ?_
          refine lv_iload_n hx hb dX7_copy_57 rfl (lv_at hl 3 rfl) ?_
          obtain ⟨z28, hf⟩ := ck_s hf
          refine va_iald hx hb hK.1 hP (q + 6) 0 h13 rfl (in_s z28) dX7_copy_58 ?_
          refine lv_icmp_eq (tgt := 65) hx hb dX7_copy_59 (by decide) (fun c29 => ?_) (fun c29 => ?_)
          · have hf := it_p c29 hf
            refine lv_iload hx hb dX7_copy_65 (lv_at hl 5 rfl) ?_
            refine lv_if_lt (tgt := 113) hx hb dX7_copy_67 (by decide) (fun c30 => ?_) (fun c30 => ?_)
            · have hf := it_p c30 hf
              refine lv_bipush (v := (-13)) hx hb dX7_copy_113 (by decide) ?_
              obtain rfl := so_i hf
              have h31 : is_Y k A ws (q) st past image imagePast tape laneOf sizeOf items least costs hops comes chain told acts imageActs tapeMany readAt := ⟨h7, h8, h9, h10, h11, h12, h13, h14, h15, h16, h17, h18, h19, h20, h21⟩
              exact W.iret (v := (-13)) hx hb hr (qw_end hS hP hD ⟨h31, hsm⟩) hS.2.2 dX7_copy_115
            · have hf := it_n c30 hf
              refine lv_iload hx hb dX7_copy_70 (lv_at hl 5 rfl) ?_
              refine lv_bipush (v := 30) hx hb dX7_copy_72 (by decide) ?_
              refine lv_icmp_gt (tgt := 113) hx hb dX7_copy_74 (by decide) (fun c32 => ?_) (fun c32 => ?_)
              · have hf := it_p c32 hf
                refine lv_bipush (v := (-13)) hx hb dX7_copy_113 (by decide) ?_
                obtain rfl := so_i hf
                have h33 : is_Y k A ws (q) st past image imagePast tape laneOf sizeOf items least costs hops comes chain told acts imageActs tapeMany readAt := ⟨h7, h8, h9, h10, h11, h12, h13, h14, h15, h16, h17, h18, h19, h20, h21⟩
                exact W.iret (v := (-13)) hx hb hr (qw_end hS hP hD ⟨h33, hsm⟩) hS.2.2 dX7_copy_115
              · have hf := it_n c32 hf
                refine lv_iload_n hx hb dX7_copy_77 rfl (lv_at hl 2 rfl) ?_
                refine lv_if_lt (tgt := 113) hx hb dX7_copy_78 (by decide) (fun c34 => ?_) (fun c34 => ?_)
                · have hf := it_p c34 hf
                  refine lv_bipush (v := (-13)) hx hb dX7_copy_113 (by decide) ?_
                  obtain rfl := so_i hf
                  have h35 : is_Y k A ws (q) st past image imagePast tape laneOf sizeOf items least costs hops comes chain told acts imageActs tapeMany readAt := ⟨h7, h8, h9, h10, h11, h12, h13, h14, h15, h16, h17, h18, h19, h20, h21⟩
                  exact W.iret (v := (-13)) hx hb hr (qw_end hS hP hD ⟨h35, hsm⟩) hS.2.2 dX7_copy_115
                · have hf := it_n c34 hf
                  refine lv_iload hx hb dX7_copy_81 (lv_at hl 4 rfl) ?_
                  refine lv_if_lt (tgt := 113) hx hb dX7_copy_83 (by decide) (fun c36 => ?_) (fun c36 => ?_)
                  · have hf := it_p c36 hf
                    refine lv_bipush (v := (-13)) hx hb dX7_copy_113 (by decide) ?_
                    obtain rfl := so_i hf
                    have h37 : is_Y k A ws (q) st past image imagePast tape laneOf sizeOf items least costs hops comes chain told acts imageActs tapeMany readAt := ⟨h7, h8, h9, h10, h11, h12, h13, h14, h15, h16, h17, h18, h19, h20, h21⟩
                    exact W.iret (v := (-13)) hx hb hr (qw_end hS hP hD ⟨h37, hsm⟩) hS.2.2 dX7_copy_115
                  · have hf := it_n c36 hf
                    refine lv_iload_n hx hb dX7_copy_86 rfl (lv_at hl 2 rfl) ?_
                    refine lv_aload_n hx hb dX7_copy_87 rfl (lv_at hl 0 rfl) ?_
                    refine va_get (D := D) (ci := 7) (v := .ref (A (q + 7))) (C := RX7) (T := TX7) (N := 18) hx hb hts in_X7_copy_X7 hown hK.1 hP (q) h7 rfl 9 (by decide) w_2 (fun _ h9 => h9) rfl dX7_copy_88 ?_
                    refine lv_iload_n hx hb dX7_copy_91 rfl (lv_at hl 1 rfl) ?_
                    obtain ⟨z38, hf⟩ := ck_s hf
                    refine va_iald hx hb hK.1 hP (q + 7) 0 h14 rfl (in_s z38) dX7_copy_92 ?_
                    refine lv_iload hx hb dX7_copy_93 (lv_at hl 5 rfl) ?_
                    refine lv_isub hx hb dX7_copy_95 ?_
                    refine lv_icmp_gt (tgt := 113) hx hb dX7_copy_96 (by decide) (fun c39 => ?_) (fun c39 => ?_)
                    · have hf := it_p c39 hf
                      refine lv_bipush (v := (-13)) hx hb dX7_copy_113 (by decide) ?_
                      obtain rfl := so_i hf
                      have h40 : is_Y k A ws (q) st past image imagePast tape laneOf sizeOf items least costs hops comes chain told acts imageActs tapeMany readAt := ⟨h7, h8, h9, h10, h11, h12, h13, h14, h15, h16, h17, h18, h19, h20, h21⟩
                      exact W.iret (v := (-13)) hx hb hr (qw_end hS hP hD ⟨h40, hsm⟩) hS.2.2 dX7_copy_115
                    · have hf := it_n c39 hf
                      refine lv_iload hx hb dX7_copy_99 (lv_at hl 4 rfl) ?_
                      refine lv_aload_n hx hb dX7_copy_101 rfl (lv_at hl 0 rfl) ?_
                      refine va_get (D := D) (ci := 7) (v := .ref (A (q + 7))) (C := RX7) (T := TX7) (N := 18) hx hb hts in_X7_copy_X7 hown hK.1 hP (q) h7 rfl 9 (by decide) w_2 (fun _ h9 => h9) rfl dX7_copy_102 ?_
                      refine lv_iload_n hx hb dX7_copy_105 rfl (lv_at hl 3 rfl) ?_
                      obtain ⟨z41, hf⟩ := ck_s hf
                      refine va_iald hx hb hK.1 hP (q + 7) 0 h14 rfl (in_s z41) dX7_copy_106 ?_
                      refine lv_iload hx hb dX7_copy_107 (lv_at hl 5 rfl) ?_
                      refine lv_isub hx hb dX7_copy_109 ?_
                      refine lv_icmp_le (tgt := 116) hx hb dX7_copy_110 (by decide) (fun c42 => ?_) (fun c42 => ?_)
                      · have hf := it_p c42 hf
                        refine lv_iload hx hb dX7_copy_116 (lv_at hl 4 rfl) ?_
                        refine lv_iload_n hx hb dX7_copy_118 rfl (lv_at hl 2 rfl) ?_
                        refine lv_icmp_le (tgt := 126) hx hb dX7_copy_119 (by decide) (fun c43 => ?_) (fun c43 => ?_)
                        · have hf := it_p c43 hf
                          refine lv_iconst (v := 0) hx hb dX7_copy_126 (by decide) ?_
                          refine lv_istore (lv' := [(6, .int 0), (0, .ref (A q)), (1, .int p1), (2, .int p2), (3, .int p3), (4, .int p4), (5, .int p5)]) hx hb dX7_copy_127 hl (by decide) rfl (fun ls hl => ?_)
                          refine lv_iconst (v := 0) hx hb dX7_copy_129 (by decide) ?_
                          refine lv_istore (lv' := [(7, .int 0), (6, .int 0), (0, .ref (A q)), (1, .int p1), (2, .int p2), (3, .int p3), (4, .int p4), (5, .int p5)]) hx hb dX7_copy_130 hl (by decide) rfl (fun ls hl => ?_)
                          have h81 : is_Y k A ws (q) st past image imagePast tape laneOf sizeOf items least costs hops comes chain told acts imageActs tapeMany readAt := ⟨h7, h8, h9, h10, h11, h12, h13, h14, h15, h16, h17, h18, h19, h20, h21⟩
                          exact wl_X7_copy_132 l D k A ws q _ hK C0 st past image imagePast tape laneOf sizeOf least costs hops comes chain told acts imageActs tapeMany readAt p1 p2 p3 p4 p5 0 fu_N items 0 _ _ _ _ hf h81 hsm hP hD hS (lv_sub hl [2, 3, 4, 5, 6, 7, 1, 0] rfl)
                        · have hf := it_n c43 hf
                          refine lv_iconst (v := 1) hx hb dX7_copy_122 (by decide) ?_
                          refine lv_goto (tgt := 127) hx hb dX7_copy_123 (by decide) ?_
                          refine lv_istore (lv' := [(6, .int 1), (0, .ref (A q)), (1, .int p1), (2, .int p2), (3, .int p3), (4, .int p4), (5, .int p5)]) hx hb dX7_copy_127 hl (by decide) rfl (fun ls hl => ?_)
                          refine lv_iconst (v := 0) hx hb dX7_copy_129 (by decide) ?_
                          refine lv_istore (lv' := [(7, .int 0), (6, .int 1), (0, .ref (A q)), (1, .int p1), (2, .int p2), (3, .int p3), (4, .int p4), (5, .int p5)]) hx hb dX7_copy_130 hl (by decide) rfl (fun ls hl => ?_)
                          have h82 : is_Y k A ws (q) st past image imagePast tape laneOf sizeOf items least costs hops comes chain told acts imageActs tapeMany readAt := ⟨h7, h8, h9, h10, h11, h12, h13, h14, h15, h16, h17, h18, h19, h20, h21⟩
                          exact wl_X7_copy_132 l D k A ws q _ hK C0 st past image imagePast tape laneOf sizeOf least costs hops comes chain told acts imageActs tapeMany readAt p1 p2 p3 p4 p5 1 fu_N items 0 _ _ _ _ hf h82 hsm hP hD hS (lv_sub hl [2, 3, 4, 5, 6, 7, 1, 0] rfl)
                      · have hf := it_n c42 hf
                        refine lv_bipush (v := (-13)) hx hb dX7_copy_113 (by decide) ?_
                        obtain rfl := so_i hf
                        have h83 : is_Y k A ws (q) st past image imagePast tape laneOf sizeOf items least costs hops comes chain told acts imageActs tapeMany readAt := ⟨h7, h8, h9, h10, h11, h12, h13, h14, h15, h16, h17, h18, h19, h20, h21⟩
                        exact W.iret (v := (-13)) hx hb hr (qw_end hS hP hD ⟨h83, hsm⟩) hS.2.2 dX7_copy_115
          · have hf := it_n c29 hf
            refine lv_bipush (v := (-12)) hx hb dX7_copy_62 (by decide) ?_
            obtain rfl := so_i hf
            have h84 : is_Y k A ws (q) st past image imagePast tape laneOf sizeOf items least costs hops comes chain told acts imageActs tapeMany readAt := ⟨h7, h8, h9, h10, h11, h12, h13, h14, h15, h16, h17, h18, h19, h20, h21⟩
            exact W.iret (v := (-12)) hx hb hr (qw_end hS hP hD ⟨h84, hsm⟩) hS.2.2 dX7_copy_64
        · have hf := it_n c26 hf
          refine lv_bipush (v := (-11)) hx hb dX7_copy_44 (by decide) ?_
          obtain rfl := so_i hf
          have h85 : is_Y k A ws (q) st past image imagePast tape laneOf sizeOf items least costs hops comes chain told acts imageActs tapeMany readAt := ⟨h7, h8, h9, h10, h11, h12, h13, h14, h15, h16, h17, h18, h19, h20, h21⟩
          exact W.iret (v := (-11)) hx hb hr (qw_end hS hP hD ⟨h85, hsm⟩) hS.2.2 dX7_copy_46
    · have hf := it_p c6 hf
      refine lv_iconst (v := (-1)) hx hb dX7_copy_24 (by decide) ?_
      obtain rfl := so_i hf
      exact W.iret (v := (-1)) hx hb hr (qw_end hS hP hD ⟨h_this, hsm⟩) hS.2.2 dX7_copy_25

