theorem in_X3_howMany_X3 : ∀ w ∈ u_ws RX3 TX3 2, w ∈ wsX3_howMany := fun w h => List.mem_cons_of_mem _ (List.mem_append_right _ h)
def pf_X3_howMany (sz : Int32)   : Option (Int32) :=
  some sz

set_option maxHeartbeats 4000000 in
set_option maxRecDepth 100000 in
theorem cz_X3_howMany (l : Launch) (D : va_G) (k : kt_T) (A : Nat → Nat) (ws : va_W) (q : Nat)  (pl : Nat → Int64) (sz : Int32)  (out : Int32) (hf : pf_X3_howMany sz = some out) (h_this : is_T k A ws q pl sz)  : Met l yX3_howMany wsX3_howMany { frames := 0, cells := 0, slots := 0, locals := 0 } (va_Pc [.ref (A q)] (pw_P D k ws)) (qs_Q (some (.int out))) 0 0 (fun _ => False) := by
  refine Met.ofW (cc := cX3_howMany) (maxL := 1) (ret := (some .int)) (by decide) rfl ?_
  intro p e s m args below meth c s₁ B hml hv
  obtain ⟨rfl, hP, hK, hD⟩ := hv
  have C0 : cx_P p s m meth c [.ref (A q)].toArray cX3_howMany 1 wsX3_howMany RX3 (some .int) := ⟨B.exec, B.bytes, hml, findClass_of_methodNamed B.named, atoms_spec (ws := wsX3_howMany) B.pre, B.returns, B.notSynchronized⟩
  obtain ⟨hx, hb, hml, hown, hts, hr, hlocks⟩ := id C0
  have hcf : CallFix p m c cX3_howMany 1 s [.ref (A q)].toArray wsX3_howMany RX3 := ⟨hx, hb, hml, hown, hts⟩
  have w_0 := hts (.fieldLink RX3 15 "LeastRoutes$Table" "size" "I") (List.mem_of_getElem? (i := 1) rfl)
  have hl := lv_entry ([.ref (A q)]) (n := 1) (Nat.le_of_ble_eq_true rfl)
  rw [lg_entry_eq]
  generalize (lg_sl ([.ref (A q)]) ++ List.replicate (1 - (lg_sl ([.ref (A q)])).length) Slot.unset).toArray = ls at hl ⊢
  have hl : lv_has ls 1 [(0, .ref (A q))] := hl
  unfold pf_X3_howMany at hf
  refine lv_aload_n hx hb dX3_howMany_0 rfl (lv_at hl 0 rfl) ?_
  obtain ⟨h1, h2⟩ := h_this
  refine va_get (D := D) (ci := 3) (v := .int sz) (C := RX3) (T := TX3) (N := 2) hx hb hts in_X3_howMany_X3 hown hK.1 hP (q) h1 rfl 1 (by decide) w_0 (fun _ h9 => h9) rfl dX3_howMany_1 ?_
  obtain rfl := so_i hf
  exact W.iret (v := sz) hx hb hr (fun t ht _ => ⟨rfl, ht⟩) (fun _ h => absurd h List.not_mem_nil) dX3_howMany_4

theorem in_X3_hopAt_X3 : ∀ w ∈ u_ws RX3 TX3 2, w ∈ wsX3_hopAt := fun w h => List.mem_cons_of_mem _ (List.mem_append_right _ h)
def pf_X3_hopAt (pl : Nat → Int64)  (p1 : Int32) : Option (Int32) :=
  if p1 < 1 then
    some (-4)
  else
    if p1 < 512 then
      ck_O (in_b (p1 >>> (4 &&& 31)) 32) (
        lt_O ((Int64.toInt32 (((Int64.toUInt64 (pl (Int32.toNatClampNeg (p1 >>> (4 &&& 31))))) >>> ((Int64.toUInt64 (Int32.toInt64 (4 * (p1 &&& 15)))) &&& Int64.toUInt64 63)).toInt64)) &&& 15) (fun y6 =>
          if y6 = 0 then
            some (-4)
          else
            some (y6 - 1)))
    else
      some (-4)

set_option maxHeartbeats 4000000 in
set_option maxRecDepth 100000 in
theorem cz_X3_hopAt (l : Launch) (D : va_G) (k : kt_T) (A : Nat → Nat) (ws : va_W) (q : Nat)  (pl : Nat → Int64) (sz : Int32) (p1 : Int32) (out : Int32) (hf : pf_X3_hopAt pl p1 = some out) (h_this : is_T k A ws q pl sz)  : Met l yX3_hopAt wsX3_hopAt { frames := 0, cells := 0, slots := 0, locals := 0 } (va_Pc [.ref (A q), .int p1] (pw_P D k ws)) (qs_Q (some (.int out))) 0 0 (fun _ => False) := by
  refine Met.ofW (cc := cX3_hopAt) (maxL := 3) (ret := (some .int)) (by decide) rfl ?_
  intro p e s m args below meth c s₁ B hml hv
  obtain ⟨rfl, hP, hK, hD⟩ := hv
  have C0 : cx_P p s m meth c [.ref (A q), .int p1].toArray cX3_hopAt 3 wsX3_hopAt RX3 (some .int) := ⟨B.exec, B.bytes, hml, findClass_of_methodNamed B.named, atoms_spec (ws := wsX3_hopAt) B.pre, B.returns, B.notSynchronized⟩
  obtain ⟨hx, hb, hml, hown, hts, hr, hlocks⟩ := id C0
  have hcf : CallFix p m c cX3_hopAt 3 s [.ref (A q), .int p1].toArray wsX3_hopAt RX3 := ⟨hx, hb, hml, hown, hts⟩
  have w_0 := hts (.fieldLink RX3 9 "LeastRoutes$Table" "places" "[J") (List.mem_of_getElem? (i := 1) rfl)
  have hl := lv_entry ([.ref (A q), .int p1]) (n := 3) (Nat.le_of_ble_eq_true rfl)
  rw [lg_entry_eq]
  generalize (lg_sl ([.ref (A q), .int p1]) ++ List.replicate (3 - (lg_sl ([.ref (A q), .int p1])).length) Slot.unset).toArray = ls at hl ⊢
  have hl : lv_has ls 3 [(0, .ref (A q)), (1, .int p1)] := hl
  unfold pf_X3_hopAt at hf
  refine lv_iload_n hx hb dX3_hopAt_0 rfl (lv_at hl 1 rfl) ?_
  refine lv_iconst (v := 1) hx hb dX3_hopAt_1 (by decide) ?_
  refine lv_icmp_lt (tgt := 12) hx hb dX3_hopAt_2 (by decide) (fun c1 => ?_) (fun c1 => ?_)
  · have hf := it_p c1 hf
    refine lv_bipush (v := (-4)) hx hb dX3_hopAt_12 (by decide) ?_
    obtain rfl := so_i hf
    exact W.iret (v := (-4)) hx hb hr (fun t ht _ => ⟨rfl, ht⟩) (fun _ h => absurd h List.not_mem_nil) dX3_hopAt_14
  · have hf := it_n c1 hf
    refine lv_iload_n hx hb dX3_hopAt_5 rfl (lv_at hl 1 rfl) ?_
    refine lv_sipush (v := 512) hx hb dX3_hopAt_6 (by decide) ?_
    refine lv_icmp_lt (tgt := 15) hx hb dX3_hopAt_9 (by decide) (fun c2 => ?_) (fun c2 => ?_)
    · have hf := it_p c2 hf
      refine lv_aload_n hx hb dX3_hopAt_15 rfl (lv_at hl 0 rfl) ?_
      obtain ⟨h3, h4⟩ := h_this
      refine va_get (D := D) (ci := 3) (v := .ref (A (q + 1))) (C := RX3) (T := TX3) (N := 2) hx hb hts in_X3_hopAt_X3 hown hK.1 hP (q) h3 rfl 0 (by decide) w_0 (fun _ h9 => h9) rfl dX3_hopAt_16 ?_
      refine lv_iload_n hx hb dX3_hopAt_19 rfl (lv_at hl 1 rfl) ?_
      refine lv_iconst (v := 4) hx hb dX3_hopAt_20 (by decide) ?_
      refine lv_ishr hx hb dX3_hopAt_21 ?_
      obtain ⟨z5, hf⟩ := ck_s hf
      refine va_lald hx hb hK.1 hP (q + 1) 1 h4 rfl (in_s z5) dX3_hopAt_22 ?_
      refine lv_iconst (v := 4) hx hb dX3_hopAt_23 (by decide) ?_
      refine lv_iload_n hx hb dX3_hopAt_24 rfl (lv_at hl 1 rfl) ?_
      refine lv_bipush (v := 15) hx hb dX3_hopAt_25 (by decide) ?_
      refine lv_iand hx hb dX3_hopAt_27 ?_
      refine lv_imul hx hb dX3_hopAt_28 ?_
      refine lv_lushr hx hb dX3_hopAt_29 rfl ?_
      refine lv_l2i hx hb dX3_hopAt_30 rfl ?_
      refine lv_bipush (v := 15) hx hb dX3_hopAt_31 (by decide) ?_
      refine lv_iand hx hb dX3_hopAt_33 ?_
      refine lv_topi (fun y6 e7 => ?_)
      have hf := lt_s' e7 hf
      refine lv_istore_n (lv' := [(2, .int y6), (0, .ref (A q)), (1, .int p1)]) hx hb dX3_hopAt_34 rfl hl (by decide) rfl (fun ls hl => ?_)
      refine lv_iload_n hx hb dX3_hopAt_35 rfl (lv_at hl 0 rfl) ?_
      refine lv_if_ne (tgt := 44) hx hb dX3_hopAt_36 (by decide) (fun c8 => ?_) (fun c8 => ?_)
      · have hf := it_n c8 hf
        refine lv_iload_n hx hb dX3_hopAt_44 rfl (lv_at hl 0 rfl) ?_
        refine lv_iconst (v := 1) hx hb dX3_hopAt_45 (by decide) ?_
        refine lv_isub hx hb dX3_hopAt_46 ?_
        obtain rfl := so_i hf
        exact W.iret (v := (y6 - 1)) hx hb hr (fun t ht _ => ⟨rfl, ht⟩) (fun _ h => absurd h List.not_mem_nil) dX3_hopAt_47
      · have hf := it_p c8 hf
        refine lv_bipush (v := (-4)) hx hb dX3_hopAt_39 (by decide) ?_
        refine lv_goto (tgt := 47) hx hb dX3_hopAt_41 (by decide) ?_
        obtain rfl := so_i hf
        exact W.iret (v := (-4)) hx hb hr (fun t ht _ => ⟨rfl, ht⟩) (fun _ h => absurd h List.not_mem_nil) dX3_hopAt_47
    · have hf := it_n c2 hf
      refine lv_bipush (v := (-4)) hx hb dX3_hopAt_12 (by decide) ?_
      obtain rfl := so_i hf
      exact W.iret (v := (-4)) hx hb hr (fun t ht _ => ⟨rfl, ht⟩) (fun _ h => absurd h List.not_mem_nil) dX3_hopAt_14

theorem in_X3_setPlace_X3 : ∀ w ∈ u_ws RX3 TX3 2, w ∈ wsX3_setPlace := fun w h => List.mem_cons_of_mem _ (List.mem_append_right _ h)
def pf_X3_setPlace (pl : Nat → Int64)  (p1 : Int32) (p2 : Int32) : Option ((Nat → Int64)) :=
  if p1 < 1 then
    some pl
  else
    if 512 ≤ p1 then
      some pl
    else
      ck_O (in_b (p1 >>> (4 &&& 31)) 32) (
        ck_O (in_b (p1 >>> (4 &&& 31)) 32) (
          some (vp_updL pl (Int32.toNatClampNeg (p1 >>> (4 &&& 31))) (((pl (Int32.toNatClampNeg (p1 >>> (4 &&& 31)))) &&& (((15 : Int64) <<< ((Int32.toInt64 (4 * (p1 &&& 15))) &&& 63)) ^^^ (-1))) ||| ((Int32.toInt64 p2) <<< ((Int32.toInt64 (4 * (p1 &&& 15))) &&& 63))))))

set_option maxHeartbeats 4000000 in
set_option maxRecDepth 100000 in
theorem cz_X3_setPlace (l : Launch) (D : va_G) (k : kt_T) (A : Nat → Nat) (ws : va_W) (q : Nat)  (pl : Nat → Int64) (sz : Int32) (p1 : Int32) (p2 : Int32) (out : (Nat → Int64)) (hf : pf_X3_setPlace pl p1 p2 = some out) (h_this : is_T k A ws q pl sz)  (sz0 : Nat) : Met l yX3_setPlace wsX3_setPlace { frames := 0, cells := 0, slots := 0, locals := 0 } (va_Pc [.ref (A q), .int p1, .int p2] (px_P D k ws sz0)) (qw_Q D ws sz0 none (fun u => is_T k A u q out sz ∧ sm_W ws u q (q + 2))) 0 0 (va_A ws sz0) := by
  refine Met.ofW (cc := cX3_setPlace) (maxL := 4) (ret := none) (by decide) rfl ?_
  intro p e s m args below meth c s₁ B hml hv
  obtain ⟨rfl, hsz, hP, hK, hD0⟩ := hv
  subst hsz
  have hD := hD0.self (sz := s.heap.size)
  have C0 : cx_P p s m meth c [.ref (A q), .int p1, .int p2].toArray cX3_setPlace 4 wsX3_setPlace RX3 none := ⟨B.exec, B.bytes, hml, findClass_of_methodNamed B.named, atoms_spec (ws := wsX3_setPlace) B.pre, B.returns, B.notSynchronized⟩
  obtain ⟨hx, hb, hml, hown, hts, hr, hlocks⟩ := id C0
  have hcf : CallFix p m c cX3_setPlace 4 s [.ref (A q), .int p1, .int p2].toArray wsX3_setPlace RX3 := ⟨hx, hb, hml, hown, hts⟩
  have hA : ∀ q, s.heap.size ≤ q → va_A ws s.heap.size q := fun q h => Or.inr h
  have hS : va_S (va_A ws s.heap.size) s.heap s.heap [] := va_S.rf
  have hsm : sm_W ws ws q (q + 2) := sm_rf
  have w_0 := hts (.fieldLink RX3 9 "LeastRoutes$Table" "places" "[J") (List.mem_of_getElem? (i := 1) rfl)
  have w_1 := hts (.constantLong RX3 67 (15)) (List.mem_of_getElem? (i := 2) rfl)
  have w_2 := hts (.constantLong RX3 69 (-1)) (List.mem_of_getElem? (i := 3) rfl)
  have hl := lv_entry ([.ref (A q), .int p1, .int p2]) (n := 4) (Nat.le_of_ble_eq_true rfl)
  rw [lg_entry_eq]
  generalize (lg_sl ([.ref (A q), .int p1, .int p2]) ++ List.replicate (4 - (lg_sl ([.ref (A q), .int p1, .int p2])).length) Slot.unset).toArray = ls at hl ⊢
  have hl : lv_has ls 4 [(0, .ref (A q)), (1, .int p1), (2, .int p2)] := hl
  unfold pf_X3_setPlace at hf
  refine lv_iload_n hx hb dX3_setPlace_0 rfl (lv_at hl 1 rfl) ?_
  refine lv_iconst (v := 1) hx hb dX3_setPlace_1 (by decide) ?_
  refine lv_icmp_lt (tgt := 50) hx hb dX3_setPlace_2 (by decide) (fun c1 => ?_) (fun c1 => ?_)
  · have hf := it_p c1 hf
    obtain rfl := so_i hf
    exact W.vret hx hb hr (qw_end hS hP hD ⟨h_this, hsm⟩) hS.2.2 dX3_setPlace_50
  · have hf := it_n c1 hf
    refine lv_iload_n hx hb dX3_setPlace_5 rfl (lv_at hl 1 rfl) ?_
    refine lv_sipush (v := 512) hx hb dX3_setPlace_6 (by decide) ?_
    refine lv_icmp_ge (tgt := 50) hx hb dX3_setPlace_9 (by decide) (fun c2 => ?_) (fun c2 => ?_)
    · have hf := it_p c2 hf
      obtain rfl := so_i hf
      exact W.vret hx hb hr (qw_end hS hP hD ⟨h_this, hsm⟩) hS.2.2 dX3_setPlace_50
    · have hf := it_n c2 hf
      refine lv_iconst (v := 4) hx hb dX3_setPlace_12 (by decide) ?_
      refine lv_iload_n hx hb dX3_setPlace_13 rfl (lv_at hl 1 rfl) ?_
      refine lv_bipush (v := 15) hx hb dX3_setPlace_14 (by decide) ?_
      refine lv_iand hx hb dX3_setPlace_16 ?_
      refine lv_imul hx hb dX3_setPlace_17 ?_
      refine lv_istore_n (lv' := [(3, .int (4 * (p1 &&& 15))), (0, .ref (A q)), (1, .int p1), (2, .int p2)]) hx hb dX3_setPlace_18 rfl hl (by decide) rfl (fun ls hl => ?_)
      refine lv_aload_n hx hb dX3_setPlace_19 rfl (lv_at hl 1 rfl) ?_
      obtain ⟨h3, h4⟩ := h_this
      refine va_get (D := D) (ci := 3) (v := .ref (A (q + 1))) (C := RX3) (T := TX3) (N := 2) hx hb hts in_X3_setPlace_X3 hown hK.1 hP (q) h3 rfl 0 (by decide) w_0 (fun _ h9 => h9) rfl dX3_setPlace_20 ?_
      refine lv_iload_n hx hb dX3_setPlace_23 rfl (lv_at hl 2 rfl) ?_
      refine lv_iconst (v := 4) hx hb dX3_setPlace_24 (by decide) ?_
      refine lv_ishr hx hb dX3_setPlace_25 ?_
      refine lv_aload_n hx hb dX3_setPlace_26 rfl (lv_at hl 1 rfl) ?_
      refine va_get (D := D) (ci := 3) (v := .ref (A (q + 1))) (C := RX3) (T := TX3) (N := 2) hx hb hts in_X3_setPlace_X3 hown hK.1 hP (q) h3 rfl 0 (by decide) w_0 (fun _ h9 => h9) rfl dX3_setPlace_27 ?_
      refine lv_iload_n hx hb dX3_setPlace_30 rfl (lv_at hl 2 rfl) ?_
      refine lv_iconst (v := 4) hx hb dX3_setPlace_31 (by decide) ?_
      refine lv_ishr hx hb dX3_setPlace_32 ?_
      obtain ⟨z5, hf⟩ := ck_s hf
      refine va_lald hx hb hK.1 hP (q + 1) 1 h4 rfl (in_s z5) dX3_setPlace_33 ?_
      refine lv_ldc2 hx hb hown w_1 dX3_setPlace_34 ?_
      refine lv_iload_n hx hb dX3_setPlace_37 rfl (lv_at hl 0 rfl) ?_
      refine lv_lshl hx hb dX3_setPlace_38 rfl ?_
      refine lv_ldc2 hx hb hown w_2 dX3_setPlace_39 ?_
      refine lv_lxor hx hb dX3_setPlace_42 ?_
      refine lv_land hx hb dX3_setPlace_43 ?_
      refine lv_iload_n hx hb dX3_setPlace_44 rfl (lv_at hl 3 rfl) ?_
      refine lv_i2l hx hb dX3_setPlace_45 rfl ?_
      refine lv_iload_n hx hb dX3_setPlace_46 rfl (lv_at hl 0 rfl) ?_
      refine lv_lshl hx hb dX3_setPlace_47 rfl ?_
      refine lv_lor hx hb dX3_setPlace_48 ?_
      obtain ⟨z6, hf⟩ := ck_s hf
      refine va_last hx hb hK.1 hP hD hS (q + 1) 1 h4 rfl (in_s z6) dX3_setPlace_49 (fun _ _ hP hD hS => ?_)
      obtain ⟨u7, h8, m9, hP, hD⟩ := wd_put hP hD h4
      have hsm := sm_tr hsm m9 (by omega) (by omega)
      obtain rfl := so_i hf
      have h10 := sm_at m9 (by omega) h3
      have h11 : is_T k A u7 (q) (vp_updL pl (Int32.toNatClampNeg (p1 >>> (4 &&& 31))) (((pl (Int32.toNatClampNeg (p1 >>> (4 &&& 31)))) &&& (((15 : Int64) <<< ((Int32.toInt64 (4 * (p1 &&& 15))) &&& 63)) ^^^ (-1))) ||| ((Int32.toInt64 p2) <<< ((Int32.toInt64 (4 * (p1 &&& 15))) &&& 63)))) sz := ⟨h10, h8⟩
      exact W.vret hx hb hr (qw_end hS hP hD ⟨h11, hsm⟩) hS.2.2 dX3_setPlace_50

theorem in_X3_put_X3 : ∀ w ∈ u_ws RX3 TX3 2, w ∈ wsX3_put := fun w h => List.mem_cons_of_mem _ (List.mem_append_right _ h)
def pf_X3_put (pl : Nat → Int64) (sz : Int32)  (p1 : Int32) (p2 : Int32) : Option ((Nat → Int64) × Int32) :=
  (pf_X6_isPrefix p1).bind (fun r1 =>
    if r1 = 0 then
      some (pl, sz)
    else
      (pf_X6_isHop p2).bind (fun r4 =>
        if r4 = 0 then
          some (pl, sz)
        else
          (pf_X3_hopAt pl p1).bind (fun r10 =>
            if r10 = (-4) then
              (pf_X3_setPlace pl p1 (p2 + 1)).bind (fun r35 =>
                some (r35, (sz + 1)))
            else
              (pf_X3_setPlace pl p1 (p2 + 1)).bind (fun r21 =>
                some (r21, (sz + 0))))))

set_option maxHeartbeats 4000000 in
set_option maxRecDepth 100000 in
theorem cz_X3_put (l : Launch) (D : va_G) (k : kt_T) (A : Nat → Nat) (ws : va_W) (q : Nat)  (pl : Nat → Int64) (sz : Int32) (p1 : Int32) (p2 : Int32) (out : (Nat → Int64) × Int32) (hf : pf_X3_put pl sz p1 p2 = some out) (h_this : is_T k A ws q pl sz)  (sz0 : Nat) : Met l yX3_put wsX3_put { frames := 1, cells := 0, slots := 0, locals := 23 } (va_Pc [.ref (A q), .int p1, .int p2] (px_P D k ws sz0)) (qw_Q D ws sz0 none (fun u => is_T k A u q out.1 out.2 ∧ sm_W ws u q (q + 2))) 0 0 (va_A ws sz0) := by
  refine Met.ofW (cc := cX3_put) (maxL := 3) (ret := none) (by decide) rfl ?_
  intro p e s m args below meth c s₁ B hml hv
  obtain ⟨rfl, hsz, hP, hK, hD0⟩ := hv
  subst hsz
  have hD := hD0.self (sz := s.heap.size)
  have C0 : cx_P p s m meth c [.ref (A q), .int p1, .int p2].toArray cX3_put 3 wsX3_put RX3 none := ⟨B.exec, B.bytes, hml, findClass_of_methodNamed B.named, atoms_spec (ws := wsX3_put) B.pre, B.returns, B.notSynchronized⟩
  obtain ⟨hx, hb, hml, hown, hts, hr, hlocks⟩ := id C0
  have hcf : CallFix p m c cX3_put 3 s [.ref (A q), .int p1, .int p2].toArray wsX3_put RX3 := ⟨hx, hb, hml, hown, hts⟩
  have hA : ∀ q, s.heap.size ≤ q → va_A ws s.heap.size q := fun q h => Or.inr h
  have hS : va_S (va_A ws s.heap.size) s.heap s.heap [] := va_S.rf
  have hsm : sm_W ws ws q (q + 2) := sm_rf
  have w_0 := hts (.initialized RX6) (List.mem_of_getElem? (i := 3) rfl)
  have w_1 := hts (.static yX6_isPrefix) (List.mem_of_getElem? (i := 2) rfl)
  have w_2 := hts (.static yX6_isHop) (List.mem_of_getElem? (i := 5) rfl)
  have w_3 := hts (.fieldLink RX3 15 "LeastRoutes$Table" "size" "I") (List.mem_of_getElem? (i := 1) rfl)
  have hl := lv_entry ([.ref (A q), .int p1, .int p2]) (n := 3) (Nat.le_of_ble_eq_true rfl)
  rw [lg_entry_eq]
  generalize (lg_sl ([.ref (A q), .int p1, .int p2]) ++ List.replicate (3 - (lg_sl ([.ref (A q), .int p1, .int p2])).length) Slot.unset).toArray = ls at hl ⊢
  have hl : lv_has ls 3 [(0, .ref (A q)), (1, .int p1), (2, .int p2)] := hl
  unfold pf_X3_put at hf
  refine lv_iload_n hx hb dX3_put_0 rfl (lv_at hl 1 rfl) ?_
  obtain ⟨r1, h2, hf⟩ := bd_s hf
  refine ks_i (va_runSN (As := [.int p1]) (rest := []) hcf (cz_X6_isPrefix l D k A ws p1 r1 h2) ⟨(va_cnB 1 hts gX3_put_X6_isPrefix_n19 rfl rfl rfl (hK.2 (RX3, 19, yX6_isPrefix, RX6) (List.mem_of_getElem? (i := 10) rfl)) w_0 (by decide +kernel) ⟨Nat.le_of_ble_eq_true rfl, Nat.le_of_ble_eq_true rfl⟩), w_1, trivial⟩ (pw_S hP hK hD) rfl rfl hl.1 rfl (lv_room (Nat.le_of_ble_eq_true rfl)) dX3_put_1 ⟨Nat.zero_le _, Nat.zero_le _⟩) ?_
  refine lv_if_eq (tgt := 46) hx hb dX3_put_4 (by decide) (fun c3 => ?_) (fun c3 => ?_)
  · have hf := it_p c3 hf
    obtain rfl := so_i hf
    exact W.vret hx hb hr (qw_end hS hP hD ⟨h_this, hsm⟩) hS.2.2 dX3_put_46
  · have hf := it_n c3 hf
    refine lv_iload_n hx hb dX3_put_7 rfl (lv_at hl 2 rfl) ?_
    obtain ⟨r4, h5, hf⟩ := bd_s hf
    refine ks_i (va_runSN (As := [.int p2]) (rest := []) hcf (cz_X6_isHop l D k A ws p2 r4 h5) ⟨(va_cnB 1 hts gX3_put_X6_isHop_n23 rfl rfl rfl (hK.2 (RX3, 23, yX6_isHop, RX6) (List.mem_of_getElem? (i := 9) rfl)) w_0 (by decide +kernel) ⟨Nat.le_of_ble_eq_true rfl, Nat.le_of_ble_eq_true rfl⟩), w_2, trivial⟩ (pw_S hP hK hD) rfl rfl hl.1 rfl (lv_room (Nat.le_of_ble_eq_true rfl)) dX3_put_8 ⟨Nat.zero_le _, Nat.zero_le _⟩) ?_
    refine lv_if_eq (tgt := 46) hx hb dX3_put_11 (by decide) (fun c6 => ?_) (fun c6 => ?_)
    · have hf := it_p c6 hf
      obtain rfl := so_i hf
      exact W.vret hx hb hr (qw_end hS hP hD ⟨h_this, hsm⟩) hS.2.2 dX3_put_46
    · have hf := it_n c6 hf
      refine lv_aload_n hx hb dX3_put_14 rfl (lv_at hl 0 rfl) ?_
      refine lv_dup hx hb dX3_put_15 rfl ?_
      obtain ⟨h7, h8⟩ := h_this
      refine va_get (D := D) (ci := 3) (v := .int sz) (C := RX3) (T := TX3) (N := 2) hx hb hts in_X3_put_X3 hown hK.1 hP (q) h7 rfl 1 (by decide) w_3 (fun _ h9 => h9) rfl dX3_put_16 ?_
      refine lv_aload_n hx hb dX3_put_19 rfl (lv_at hl 0 rfl) ?_
      refine lv_iload_n hx hb dX3_put_20 rfl (lv_at hl 1 rfl) ?_
      have h9 : is_T k A ws (q) pl sz := ⟨h7, h8⟩
      obtain ⟨r10, h11, hf⟩ := bd_s hf
      refine ks_i (va_runV (As := [.int p1]) (rest := [.int sz, .ref (A q)]) hcf (cz_X3_hopAt l D k A ws (q) pl sz p1 r10 h11 h9) (cwV 1 hts gX3_put_X3_hopAt rfl rfl rfl (by decide +kernel) ⟨Nat.le_of_ble_eq_true rfl, Nat.le_of_ble_eq_true rfl⟩) (pw_V hP hK hD (ci := 3) h9.1 rfl) rfl rfl hl.1 rfl (lv_room (Nat.le_of_ble_eq_true rfl)) dX3_put_21 ⟨Nat.zero_le _, Nat.zero_le _⟩) ?_
      refine lv_bipush (v := (-4)) hx hb dX3_put_24 (by decide) ?_
      refine lv_icmp_ne (tgt := 33) hx hb dX3_put_26 (by decide) (fun c12 => ?_) (fun c12 => ?_)
      · have hf := it_n c12 hf
        refine lv_iconst (v := 0) hx hb dX3_put_33 (by decide) ?_
        refine lv_iadd hx hb dX3_put_34 ?_
        obtain ⟨h13, h14⟩ := h9
        refine va_put (D := D) (ci := 3) (v := .int (sz + 0)) (ty := .int) (C := RX3) (T := TX3) (N := 2) hx hb hts in_X3_put_X3 tyX3 tyX3_ok nmX3 hown hK.1 hP hD hS (q) h13 rfl 1 (by decide) w_3 (fun _ h9 => h9) rfl (by decide +kernel) rfl rfl (Nat.le_of_ble_eq_true rfl) dX3_put_35 (fun _ _ hP hD hS => ?_)
        obtain ⟨u15, h16, m17, hP, hD⟩ := wd_put hP hD h13
        have hsm := sm_tr hsm m17 (by omega) (by omega)
        have h18 : u15[q]? = some (A (q), .inr (3, [.ref (A (q + 1)), .int (sz + 0)])) := h16
        refine lv_aload_n hx hb dX3_put_38 rfl (lv_at hl 0 rfl) ?_
        refine lv_iload_n hx hb dX3_put_39 rfl (lv_at hl 1 rfl) ?_
        refine lv_iload_n hx hb dX3_put_40 rfl (lv_at hl 2 rfl) ?_
        refine lv_iconst (v := 1) hx hb dX3_put_41 (by decide) ?_
        refine lv_iadd hx hb dX3_put_42 ?_
        have h19 := sm_at m17 (by omega) h14
        have h20 : is_T k A u15 (q) pl (sz + 0) := ⟨h18, h19⟩
        obtain ⟨r21, h22, hf⟩ := bd_s hf
        refine kw_v (va_runV (As := [.int p1, .int (p2 + 1)]) (rest := []) hcf (cz_X3_setPlace l D k A u15 (q) pl (sz + 0) p1 (p2 + 1) r21 h22 h20 _) (cwV 2 hts gX3_put_X3_setPlace rfl rfl rfl (by decide +kernel) ⟨Nat.le_of_ble_eq_true rfl, Nat.le_of_ble_eq_true rfl⟩) (px_V hP hK hD (ci := 3) h20.1 rfl) rfl rfl hl.1 rfl (lv_room (Nat.le_of_ble_eq_true rfl)) dX3_put_43 ⟨Nat.zero_le _, Nat.zero_le _⟩) hD hS hA (fun u23 _ _ h24 hP hD hS => ?_)
        obtain ⟨h26, m25⟩ := h24
        have hsm := sm_tr hsm m25 (by omega) (by omega)
        obtain rfl := so_i hf
        exact W.vret hx hb hr (qw_end hS hP hD ⟨h26, hsm⟩) hS.2.2 dX3_put_46
      · have hf := it_p c12 hf
        refine lv_iconst (v := 1) hx hb dX3_put_29 (by decide) ?_
        refine lv_goto (tgt := 34) hx hb dX3_put_30 (by decide) ?_
        refine lv_iadd hx hb dX3_put_34 ?_
        obtain ⟨h27, h28⟩ := h9
        refine va_put (D := D) (ci := 3) (v := .int (sz + 1)) (ty := .int) (C := RX3) (T := TX3) (N := 2) hx hb hts in_X3_put_X3 tyX3 tyX3_ok nmX3 hown hK.1 hP hD hS (q) h27 rfl 1 (by decide) w_3 (fun _ h9 => h9) rfl (by decide +kernel) rfl rfl (Nat.le_of_ble_eq_true rfl) dX3_put_35 (fun _ _ hP hD hS => ?_)
        obtain ⟨u29, h30, m31, hP, hD⟩ := wd_put hP hD h27
        have hsm := sm_tr hsm m31 (by omega) (by omega)
        have h32 : u29[q]? = some (A (q), .inr (3, [.ref (A (q + 1)), .int (sz + 1)])) := h30
        refine lv_aload_n hx hb dX3_put_38 rfl (lv_at hl 0 rfl) ?_
        refine lv_iload_n hx hb dX3_put_39 rfl (lv_at hl 1 rfl) ?_
        refine lv_iload_n hx hb dX3_put_40 rfl (lv_at hl 2 rfl) ?_
        refine lv_iconst (v := 1) hx hb dX3_put_41 (by decide) ?_
        refine lv_iadd hx hb dX3_put_42 ?_
        have h33 := sm_at m31 (by omega) h28
        have h34 : is_T k A u29 (q) pl (sz + 1) := ⟨h32, h33⟩
        obtain ⟨r35, h36, hf⟩ := bd_s hf
        refine kw_v (va_runV (As := [.int p1, .int (p2 + 1)]) (rest := []) hcf (cz_X3_setPlace l D k A u29 (q) pl (sz + 1) p1 (p2 + 1) r35 h36 h34 _) (cwV 2 hts gX3_put_X3_setPlace rfl rfl rfl (by decide +kernel) ⟨Nat.le_of_ble_eq_true rfl, Nat.le_of_ble_eq_true rfl⟩) (px_V hP hK hD (ci := 3) h34.1 rfl) rfl rfl hl.1 rfl (lv_room (Nat.le_of_ble_eq_true rfl)) dX3_put_43 ⟨Nat.zero_le _, Nat.zero_le _⟩) hD hS hA (fun u37 _ _ h38 hP hD hS => ?_)
        obtain ⟨h40, m39⟩ := h38
        have hsm := sm_tr hsm m39 (by omega) (by omega)
        obtain rfl := so_i hf
        exact W.vret hx hb hr (qw_end hS hP hD ⟨h40, hsm⟩) hS.2.2 dX3_put_46

theorem in_X3_takeOut_X3 : ∀ w ∈ u_ws RX3 TX3 2, w ∈ wsX3_takeOut := fun w h => List.mem_cons_of_mem _ (List.mem_append_right _ h)
def pf_X3_takeOut (pl : Nat → Int64) (sz : Int32)  (p1 : Int32) : Option ((Nat → Int64) × Int32) :=
  (pf_X3_hopAt pl p1).bind (fun r1 =>
    if r1 = (-4) then
      some (pl, sz)
    else
      (pf_X3_setPlace pl p1 0).bind (fun r12 =>
        some (r12, (sz - 1))))

set_option maxHeartbeats 4000000 in
set_option maxRecDepth 100000 in
theorem cz_X3_takeOut (l : Launch) (D : va_G) (k : kt_T) (A : Nat → Nat) (ws : va_W) (q : Nat)  (pl : Nat → Int64) (sz : Int32) (p1 : Int32) (out : (Nat → Int64) × Int32) (hf : pf_X3_takeOut pl sz p1 = some out) (h_this : is_T k A ws q pl sz)  (sz0 : Nat) : Met l yX3_takeOut wsX3_takeOut { frames := 1, cells := 0, slots := 0, locals := 23 } (va_Pc [.ref (A q), .int p1] (px_P D k ws sz0)) (qw_Q D ws sz0 none (fun u => is_T k A u q out.1 out.2 ∧ sm_W ws u q (q + 2))) 0 0 (va_A ws sz0) := by
  refine Met.ofW (cc := cX3_takeOut) (maxL := 2) (ret := none) (by decide) rfl ?_
  intro p e s m args below meth c s₁ B hml hv
  obtain ⟨rfl, hsz, hP, hK, hD0⟩ := hv
  subst hsz
  have hD := hD0.self (sz := s.heap.size)
  have C0 : cx_P p s m meth c [.ref (A q), .int p1].toArray cX3_takeOut 2 wsX3_takeOut RX3 none := ⟨B.exec, B.bytes, hml, findClass_of_methodNamed B.named, atoms_spec (ws := wsX3_takeOut) B.pre, B.returns, B.notSynchronized⟩
  obtain ⟨hx, hb, hml, hown, hts, hr, hlocks⟩ := id C0
  have hcf : CallFix p m c cX3_takeOut 2 s [.ref (A q), .int p1].toArray wsX3_takeOut RX3 := ⟨hx, hb, hml, hown, hts⟩
  have hA : ∀ q, s.heap.size ≤ q → va_A ws s.heap.size q := fun q h => Or.inr h
  have hS : va_S (va_A ws s.heap.size) s.heap s.heap [] := va_S.rf
  have hsm : sm_W ws ws q (q + 2) := sm_rf
  have w_0 := hts (.fieldLink RX3 15 "LeastRoutes$Table" "size" "I") (List.mem_of_getElem? (i := 1) rfl)
  have hl := lv_entry ([.ref (A q), .int p1]) (n := 2) (Nat.le_of_ble_eq_true rfl)
  rw [lg_entry_eq]
  generalize (lg_sl ([.ref (A q), .int p1]) ++ List.replicate (2 - (lg_sl ([.ref (A q), .int p1])).length) Slot.unset).toArray = ls at hl ⊢
  have hl : lv_has ls 2 [(0, .ref (A q)), (1, .int p1)] := hl
  unfold pf_X3_takeOut at hf
  refine lv_aload_n hx hb dX3_takeOut_0 rfl (lv_at hl 0 rfl) ?_
  refine lv_iload_n hx hb dX3_takeOut_1 rfl (lv_at hl 1 rfl) ?_
  obtain ⟨r1, h2, hf⟩ := bd_s hf
  refine ks_i (va_runV (As := [.int p1]) (rest := []) hcf (cz_X3_hopAt l D k A ws (q) pl sz p1 r1 h2 h_this) (cwV 1 hts gX3_takeOut_X3_hopAt rfl rfl rfl (by decide +kernel) ⟨Nat.le_of_ble_eq_true rfl, Nat.le_of_ble_eq_true rfl⟩) (pw_V hP hK hD (ci := 3) h_this.1 rfl) rfl rfl hl.1 rfl (lv_room (Nat.le_of_ble_eq_true rfl)) dX3_takeOut_2 ⟨Nat.zero_le _, Nat.zero_le _⟩) ?_
  refine lv_bipush (v := (-4)) hx hb dX3_takeOut_5 (by decide) ?_
  refine lv_icmp_eq (tgt := 26) hx hb dX3_takeOut_7 (by decide) (fun c3 => ?_) (fun c3 => ?_)
  · have hf := it_p c3 hf
    obtain rfl := so_i hf
    exact W.vret hx hb hr (qw_end hS hP hD ⟨h_this, hsm⟩) hS.2.2 dX3_takeOut_26
  · have hf := it_n c3 hf
    refine lv_aload_n hx hb dX3_takeOut_10 rfl (lv_at hl 0 rfl) ?_
    refine lv_dup hx hb dX3_takeOut_11 rfl ?_
    obtain ⟨h4, h5⟩ := h_this
    refine va_get (D := D) (ci := 3) (v := .int sz) (C := RX3) (T := TX3) (N := 2) hx hb hts in_X3_takeOut_X3 hown hK.1 hP (q) h4 rfl 1 (by decide) w_0 (fun _ h9 => h9) rfl dX3_takeOut_12 ?_
    refine lv_iconst (v := 1) hx hb dX3_takeOut_15 (by decide) ?_
    refine lv_isub hx hb dX3_takeOut_16 ?_
    refine va_put (D := D) (ci := 3) (v := .int (sz - 1)) (ty := .int) (C := RX3) (T := TX3) (N := 2) hx hb hts in_X3_takeOut_X3 tyX3 tyX3_ok nmX3 hown hK.1 hP hD hS (q) h4 rfl 1 (by decide) w_0 (fun _ h9 => h9) rfl (by decide +kernel) rfl rfl (Nat.le_of_ble_eq_true rfl) dX3_takeOut_17 (fun _ _ hP hD hS => ?_)
    obtain ⟨u6, h7, m8, hP, hD⟩ := wd_put hP hD h4
    have hsm := sm_tr hsm m8 (by omega) (by omega)
    have h9 : u6[q]? = some (A (q), .inr (3, [.ref (A (q + 1)), .int (sz - 1)])) := h7
    refine lv_aload_n hx hb dX3_takeOut_20 rfl (lv_at hl 0 rfl) ?_
    refine lv_iload_n hx hb dX3_takeOut_21 rfl (lv_at hl 1 rfl) ?_
    refine lv_iconst (v := 0) hx hb dX3_takeOut_22 (by decide) ?_
    have h10 := sm_at m8 (by omega) h5
    have h11 : is_T k A u6 (q) pl (sz - 1) := ⟨h9, h10⟩
    obtain ⟨r12, h13, hf⟩ := bd_s hf
    refine kw_v (va_runV (As := [.int p1, .int 0]) (rest := []) hcf (cz_X3_setPlace l D k A u6 (q) pl (sz - 1) p1 0 r12 h13 h11 _) (cwV 2 hts gX3_takeOut_X3_setPlace rfl rfl rfl (by decide +kernel) ⟨Nat.le_of_ble_eq_true rfl, Nat.le_of_ble_eq_true rfl⟩) (px_V hP hK hD (ci := 3) h11.1 rfl) rfl rfl hl.1 rfl (lv_room (Nat.le_of_ble_eq_true rfl)) dX3_takeOut_23 ⟨Nat.zero_le _, Nat.zero_le _⟩) hD hS hA (fun u14 _ _ h15 hP hD hS => ?_)
    obtain ⟨h17, m16⟩ := h15
    have hsm := sm_tr hsm m16 (by omega) (by omega)
    obtain rfl := so_i hf
    exact W.vret hx hb hr (qw_end hS hP hD ⟨h17, hsm⟩) hS.2.2 dX3_takeOut_26

theorem in_X3_makeEmpty_X3 : ∀ w ∈ u_ws RX3 TX3 2, w ∈ wsX3_makeEmpty := fun w h => List.mem_cons_of_mem _ (List.mem_append_right _ h)
def pf_X3_makeEmpty (pl : Nat → Int64) (sz : Int32)   : Option ((Nat → Int64) × Int32) :=
  (pf_J7_fill_d0a16 pl 32 0).bind (fun r3 =>
    some (r3, 0))

set_option maxHeartbeats 4000000 in
set_option maxRecDepth 100000 in
theorem cz_X3_makeEmpty (l : Launch) (D : va_G) (k : kt_T) (A : Nat → Nat) (ws : va_W) (q : Nat)  (pl : Nat → Int64) (sz : Int32)  (out : (Nat → Int64) × Int32) (hf : pf_X3_makeEmpty pl sz = some out) (h_this : is_T k A ws q pl sz)  (sz0 : Nat) : Met l yX3_makeEmpty wsX3_makeEmpty { frames := 1, cells := 0, slots := 0, locals := 24 } (va_Pc [.ref (A q)] (px_P D k ws sz0)) (qw_Q D ws sz0 none (fun u => is_T k A u q out.1 out.2 ∧ sm_W ws u q (q + 2))) 0 0 (va_A ws sz0) := by
  refine Met.ofW (cc := cX3_makeEmpty) (maxL := 1) (ret := none) (by decide) rfl ?_
  intro p e s m args below meth c s₁ B hml hv
  obtain ⟨rfl, hsz, hP, hK, hD0⟩ := hv
  subst hsz
  have hD := hD0.self (sz := s.heap.size)
  have C0 : cx_P p s m meth c [.ref (A q)].toArray cX3_makeEmpty 1 wsX3_makeEmpty RX3 none := ⟨B.exec, B.bytes, hml, findClass_of_methodNamed B.named, atoms_spec (ws := wsX3_makeEmpty) B.pre, B.returns, B.notSynchronized⟩
  obtain ⟨hx, hb, hml, hown, hts, hr, hlocks⟩ := id C0
  have hcf : CallFix p m c cX3_makeEmpty 1 s [.ref (A q)].toArray wsX3_makeEmpty RX3 := ⟨hx, hb, hml, hown, hts⟩
  have hA : ∀ q, s.heap.size ≤ q → va_A ws s.heap.size q := fun q h => Or.inr h
  have hS : va_S (va_A ws s.heap.size) s.heap s.heap [] := va_S.rf
  have hsm : sm_W ws ws q (q + 2) := sm_rf
  have w_0 := hts (.fieldLink RX3 9 "LeastRoutes$Table" "places" "[J") (List.mem_of_getElem? (i := 1) rfl)
  have w_1 := hts (.fieldLink RX3 15 "LeastRoutes$Table" "size" "I") (List.mem_of_getElem? (i := 2) rfl)
  have hl := lv_entry ([.ref (A q)]) (n := 1) (Nat.le_of_ble_eq_true rfl)
  rw [lg_entry_eq]
  generalize (lg_sl ([.ref (A q)]) ++ List.replicate (1 - (lg_sl ([.ref (A q)])).length) Slot.unset).toArray = ls at hl ⊢
  have hl : lv_has ls 1 [(0, .ref (A q))] := hl
  unfold pf_X3_makeEmpty at hf
  refine lv_aload_n hx hb dX3_makeEmpty_0 rfl (lv_at hl 0 rfl) ?_
  obtain ⟨h1, h2⟩ := h_this
  refine va_get (D := D) (ci := 3) (v := .ref (A (q + 1))) (C := RX3) (T := TX3) (N := 2) hx hb hts in_X3_makeEmpty_X3 hown hK.1 hP (q) h1 rfl 0 (by decide) w_0 (fun _ h9 => h9) rfl dX3_makeEmpty_1 ?_
  refine lv_lconst (v := 0) hx hb dX3_makeEmpty_4 (by decide) ?_
  obtain ⟨r3, h4, hf⟩ := bd_s hf
  refine kw_v (va_runS (As := [.ref (A (q + 1)), .long 0]) (rest := []) hcf (cz_J7_fill_d0a16 l D k A ws (q + 1) 32 pl 0 r3 h4 h2 _) (va_cwS 2 hts gX3_makeEmpty_J7_fill_d0a16 rfl rfl rfl (by decide +kernel) ⟨Nat.le_of_ble_eq_true rfl, Nat.le_of_ble_eq_true rfl⟩) (px_S hP hK hD) rfl rfl hl.1 rfl (lv_room (Nat.le_of_ble_eq_true rfl)) dX3_makeEmpty_5 ⟨Nat.zero_le _, Nat.zero_le _⟩) hD hS hA (fun u5 _ _ h6 hP hD hS => ?_)
  obtain ⟨h8, m7⟩ := h6
  have hsm := sm_tr hsm m7 (by omega) (by omega)
  refine lv_aload_n hx hb dX3_makeEmpty_8 rfl (lv_at hl 0 rfl) ?_
  refine lv_iconst (v := 0) hx hb dX3_makeEmpty_9 (by decide) ?_
  have h9 := sm_at m7 (by omega) h1
  refine va_put (D := D) (ci := 3) (v := .int 0) (ty := .int) (C := RX3) (T := TX3) (N := 2) hx hb hts in_X3_makeEmpty_X3 tyX3 tyX3_ok nmX3 hown hK.1 hP hD hS (q) h9 rfl 1 (by decide) w_1 (fun _ h9 => h9) rfl (by decide +kernel) rfl rfl (Nat.le_of_ble_eq_true rfl) dX3_makeEmpty_10 (fun _ _ hP hD hS => ?_)
  obtain ⟨u10, h11, m12, hP, hD⟩ := wd_put hP hD h9
  have hsm := sm_tr hsm m12 (by omega) (by omega)
  have h13 : u10[q]? = some (A (q), .inr (3, [.ref (A (q + 1)), .int 0])) := h11
  obtain rfl := so_i hf
  have h14 := sm_at m12 (by omega) h8
  have h15 : is_T k A u10 (q) r3 0 := ⟨h13, h14⟩
  exact W.vret hx hb hr (qw_end hS hP hD ⟨h15, hsm⟩) hS.2.2 dX3_makeEmpty_13

theorem in_X3_takeFrom_X3 : ∀ w ∈ u_ws RX3 TX3 2, w ∈ wsX3_takeFrom := fun w h => List.mem_cons_of_mem _ (List.mem_append_right _ h)
def pf_X3_takeFrom (pl : Nat → Int64) (sz : Int32) (o1_pl : Nat → Int64) (o1_sz : Int32)   : Option ((Nat → Int64) × Int32) :=
  some ((va_cpy o1_pl pl (Int32.toNatClampNeg 0) (Int32.toNatClampNeg 0) (Int32.toNatClampNeg 32)), o1_sz)

set_option maxHeartbeats 4000000 in
set_option maxRecDepth 100000 in
theorem cz_X3_takeFrom (l : Launch) (D : va_G) (k : kt_T) (A : Nat → Nat) (ws : va_W) (q q1 : Nat)  (pl : Nat → Int64) (sz : Int32) (o1_pl : Nat → Int64) (o1_sz : Int32)  (out : (Nat → Int64) × Int32) (hf : pf_X3_takeFrom pl sz o1_pl o1_sz = some out) (h_this : is_T k A ws q pl sz) (h_o1 : is_T k A ws q1 o1_pl o1_sz) (hdis : (q + 2 ≤ q1 ∨ q1 + 2 ≤ q)) (sz0 : Nat) : Met l yX3_takeFrom wsX3_takeFrom { frames := 1, cells := 0, slots := 0, locals := 60 } (va_Pc [.ref (A q), .ref (A q1)] (px_P D k ws sz0)) (qw_Q D ws sz0 none (fun u => is_T k A u q out.1 out.2 ∧ sm_W ws u q (q + 2))) 0 0 (va_A ws sz0) := by
  refine Met.ofW (cc := cX3_takeFrom) (maxL := 2) (ret := none) (by decide) rfl ?_
  intro p e s m args below meth c s₁ B hml hv
  obtain ⟨rfl, hsz, hP, hK, hD0⟩ := hv
  subst hsz
  have hD := hD0.self (sz := s.heap.size)
  have C0 : cx_P p s m meth c [.ref (A q), .ref (A q1)].toArray cX3_takeFrom 2 wsX3_takeFrom RX3 none := ⟨B.exec, B.bytes, hml, findClass_of_methodNamed B.named, atoms_spec (ws := wsX3_takeFrom) B.pre, B.returns, B.notSynchronized⟩
  obtain ⟨hx, hb, hml, hown, hts, hr, hlocks⟩ := id C0
  have hcf : CallFix p m c cX3_takeFrom 2 s [.ref (A q), .ref (A q1)].toArray wsX3_takeFrom RX3 := ⟨hx, hb, hml, hown, hts⟩
  have hA : ∀ q, s.heap.size ≤ q → va_A ws s.heap.size q := fun q h => Or.inr h
  have hS : va_S (va_A ws s.heap.size) s.heap s.heap [] := va_S.rf
  have hsm : sm_W ws ws q (q + 2) := sm_rf
  have w_0 := hts (.fieldLink RX3 9 "LeastRoutes$Table" "places" "[J") (List.mem_of_getElem? (i := 1) rfl)
  have w_1 := hts (.methodLink RX3 40 arraycopyName) (List.mem_of_getElem? (i := 2) rfl)
  have w_2 := hts (.native arraycopyName) (List.mem_of_getElem? (i := 3) rfl)
  have w_3 := hts (.static arraycopyName) (List.mem_of_getElem? (i := 4) rfl)
  have w_4 := hts (.initialized "java/lang/System") (List.mem_of_getElem? (i := 5) rfl)
  have w_5 := hts (.fieldLink RX3 15 "LeastRoutes$Table" "size" "I") (List.mem_of_getElem? (i := 6) rfl)
  have hl := lv_entry ([.ref (A q), .ref (A q1)]) (n := 2) (Nat.le_of_ble_eq_true rfl)
  rw [lg_entry_eq]
  generalize (lg_sl ([.ref (A q), .ref (A q1)]) ++ List.replicate (2 - (lg_sl ([.ref (A q), .ref (A q1)])).length) Slot.unset).toArray = ls at hl ⊢
  have hl : lv_has ls 2 [(0, .ref (A q)), (1, .ref (A q1))] := hl
  unfold pf_X3_takeFrom at hf
  refine lv_aload_n hx hb dX3_takeFrom_0 rfl (lv_at hl 1 rfl) ?_
  obtain ⟨h1, h2⟩ := h_o1
  refine va_get (D := D) (ci := 3) (v := .ref (A (q1 + 1))) (C := RX3) (T := TX3) (N := 2) hx hb hts in_X3_takeFrom_X3 hown hK.1 hP (q1) h1 rfl 0 (by decide) w_0 (fun _ h9 => h9) rfl dX3_takeFrom_1 ?_
  refine lv_iconst (v := 0) hx hb dX3_takeFrom_4 (by decide) ?_
  refine lv_aload_n hx hb dX3_takeFrom_5 rfl (lv_at hl 0 rfl) ?_
  obtain ⟨h3, h4⟩ := h_this
  refine va_get (D := D) (ci := 3) (v := .ref (A (q + 1))) (C := RX3) (T := TX3) (N := 2) hx hb hts in_X3_takeFrom_X3 hown hK.1 hP (q) h3 rfl 0 (by decide) w_0 (fun _ h9 => h9) rfl dX3_takeFrom_6 ?_
  refine lv_iconst (v := 0) hx hb dX3_takeFrom_9 (by decide) ?_
  refine lv_aload_n hx hb dX3_takeFrom_10 rfl (lv_at hl 0 rfl) ?_
  refine va_get (D := D) (ci := 3) (v := .ref (A (q + 1))) (C := RX3) (T := TX3) (N := 2) hx hb hts in_X3_takeFrom_X3 hown hK.1 hP (q) h3 rfl 0 (by decide) w_0 (fun _ h9 => h9) rfl dX3_takeFrom_11 ?_
  refine va_alen (v := 32) hx hb hK.1 hP (q + 1) 1 h4 rfl rfl dX3_takeFrom_14 ?_
  refine va_copyl hx hb (hml.trans hl.1.symm) hown w_1 w_2 w_3 w_4 hK.1 hP hD hS (q1 + 1) (q + 1) 1 1 h2 h4 rfl rfl rfl (by decide) (by decide) (by decide) (by decide) (by decide) (fun _ _ => rfl) (Nat.le_of_ble_eq_true rfl) (by decide +kernel) dX3_takeFrom_15 (fun _ _ hP hD hS => ?_)
  obtain ⟨u6, h7, m8, hP, hD⟩ := wd_put hP hD h4
  have hsm := sm_tr hsm m8 (by omega) (by omega)
  refine lv_aload_n hx hb dX3_takeFrom_18 rfl (lv_at hl 0 rfl) ?_
  refine lv_aload_n hx hb dX3_takeFrom_19 rfl (lv_at hl 1 rfl) ?_
  have h9 := sm_at m8 (by omega) h1
  refine va_get (D := D) (ci := 3) (v := .int o1_sz) (C := RX3) (T := TX3) (N := 2) hx hb hts in_X3_takeFrom_X3 hown hK.1 hP (q1) h9 rfl 1 (by decide) w_5 (fun _ h9 => h9) rfl dX3_takeFrom_20 ?_
  have h10 := sm_at m8 (by omega) h3
  refine va_put (D := D) (ci := 3) (v := .int o1_sz) (ty := .int) (C := RX3) (T := TX3) (N := 2) hx hb hts in_X3_takeFrom_X3 tyX3 tyX3_ok nmX3 hown hK.1 hP hD hS (q) h10 rfl 1 (by decide) w_5 (fun _ h9 => h9) rfl (by decide +kernel) rfl rfl (Nat.le_of_ble_eq_true rfl) dX3_takeFrom_23 (fun _ _ hP hD hS => ?_)
  obtain ⟨u11, h12, m13, hP, hD⟩ := wd_put hP hD h10
  have hsm := sm_tr hsm m13 (by omega) (by omega)
  have h14 : u11[q]? = some (A (q), .inr (3, [.ref (A (q + 1)), .int o1_sz])) := h12
  obtain rfl := so_i hf
  have h15 := sm_at m13 (by omega) h7
  have h16 : is_T k A u11 (q) (va_cpy o1_pl pl (Int32.toNatClampNeg 0) (Int32.toNatClampNeg 0) (Int32.toNatClampNeg 32)) o1_sz := ⟨h14, h15⟩
  exact W.vret hx hb hr (qw_end hS hP hD ⟨h16, hsm⟩) hS.2.2 dX3_takeFrom_26

def lp_X3_deciderOf_2  (pl : Nat → Int64) (x1 : Int32) : Nat → Int32 → Option (Int32)
  | 0, _ => none
  | n + 1, x2 =>
    if 8 < x2 then
      some (-4)
    else
      lt_O ((256 + x1) >>> (x2 &&& 31)) (fun y2 =>
        (pf_X3_hopAt pl y2).bind (fun r4 =>
          if r4 = (-4) then
            lp_X3_deciderOf_2 pl x1 n (x2 + 1)
          else
            some y2))

def pf_X3_deciderOf (pl : Nat → Int64)  (p1 : Int32) : Option (Int32) :=
  lp_X3_deciderOf_2 pl p1 fu_N 0

set_option maxHeartbeats 4000000 in
set_option maxRecDepth 100000 in
theorem wl_X3_deciderOf_2 {p : Program} {e : Env} {s : State} {m : MethodId} {args : Array Value} {below : List Frame} {meth : Method} {c : Code} (l : Launch) (D : va_G) (k : kt_T) (A : Nat → Nat) (ws : va_W) (q : Nat)  (out : Int32) (hK : kk_P D k s) (C0 : cx_P p s m meth c args cX3_deciderOf 4 wsX3_deciderOf RX3 (some .int))  (pl : Nat → Int64) (sz : Int32) (x1 : Int32)   (h_this : is_T k A ws q pl sz) (hP : va_P D vwCl ws s.heap) (hD : va_D (fun _ => True) ws) : ∀ (n : Nat) (x2 : Int32) (ls : Array Slot), lp_X3_deciderOf_2 pl x1 n x2 = some out → lv_has ls 4 [(0, .ref (A q)), (1, .int x1), (2, .int x2)] → W p l e (headSpec wsX3_deciderOf { frames := 1, cells := 0, slots := 0, locals := 22 }).room s m args below meth c s.heap [] 0 0 (MQ below (qs_Q (some (.int out))) args s 0 0 (fun _ => False)) (F0 m 2 ls []) := by
  obtain ⟨hx, hb, hml, hown, hts, hr, hlocks⟩ := id C0
  have hcf : CallFix p m c cX3_deciderOf 4 s args wsX3_deciderOf RX3 := ⟨hx, hb, hml, hown, hts⟩
  intro n
  induction n with
  | zero =>
    intro x2 ls hf hl
    exact (no_s hf).elim
  | succ n ih =>
    intro x2 ls hf hl
    rw [lp_X3_deciderOf_2] at hf
    refine lv_iload_n hx hb dX3_deciderOf_2 rfl (lv_at hl 2 rfl) ?_
    refine lv_bipush (v := 8) hx hb dX3_deciderOf_3 (by decide) ?_
    refine lv_icmp_gt (tgt := 34) hx hb dX3_deciderOf_5 (by decide) (fun c1 => ?_) (fun c1 => ?_)
    · have hf := it_p c1 hf
      refine lv_bipush (v := (-4)) hx hb dX3_deciderOf_34 (by decide) ?_
      obtain rfl := so_i hf
      exact W.iret (v := (-4)) hx hb hr (fun t ht _ => ⟨rfl, ht⟩) (fun _ h => absurd h List.not_mem_nil) dX3_deciderOf_36
    · have hf := it_n c1 hf
      refine lv_sipush (v := 256) hx hb dX3_deciderOf_8 (by decide) ?_
      refine lv_iload_n hx hb dX3_deciderOf_11 rfl (lv_at hl 1 rfl) ?_
      refine lv_iadd hx hb dX3_deciderOf_12 ?_
      refine lv_iload_n hx hb dX3_deciderOf_13 rfl (lv_at hl 2 rfl) ?_
      refine lv_ishr hx hb dX3_deciderOf_14 ?_
      refine lv_topi (fun y2 e3 => ?_)
      have hf := lt_s' e3 hf
      refine lv_istore_n (lv' := [(3, .int y2), (0, .ref (A q)), (1, .int x1), (2, .int x2)]) hx hb dX3_deciderOf_15 rfl hl (by decide) rfl (fun ls hl => ?_)
      refine lv_aload_n hx hb dX3_deciderOf_16 rfl (lv_at hl 1 rfl) ?_
      refine lv_iload_n hx hb dX3_deciderOf_17 rfl (lv_at hl 0 rfl) ?_
      obtain ⟨r4, h5, hf⟩ := bd_s hf
      refine ks_i (va_runV (As := [.int y2]) (rest := []) hcf (cz_X3_hopAt l D k A ws (q) pl sz y2 r4 h5 h_this) (cwV 1 hts gX3_deciderOf_X3_hopAt rfl rfl rfl (by decide +kernel) ⟨Nat.le_of_ble_eq_true rfl, Nat.le_of_ble_eq_true rfl⟩) (pw_V hP hK hD (ci := 3) h_this.1 rfl) rfl rfl hl.1 rfl (lv_room (Nat.le_of_ble_eq_true rfl)) dX3_deciderOf_18 ⟨Nat.zero_le _, Nat.zero_le _⟩) ?_
      refine lv_bipush (v := (-4)) hx hb dX3_deciderOf_21 (by decide) ?_
      refine lv_icmp_eq (tgt := 28) hx hb dX3_deciderOf_23 (by decide) (fun c6 => ?_) (fun c6 => ?_)
      · have hf := it_p c6 hf
        refine lv_iinc (v := (x2 + 1)) (lv' := [(2, .int (x2 + 1)), (3, .int y2), (0, .ref (A q)), (1, .int x1)]) hx hb dX3_deciderOf_28 hl (k := 3) rfl rfl (by decide) rfl (fun ls hl => ?_)
        refine lv_goto (tgt := 2) hx hb dX3_deciderOf_31 (by decide) ?_
        exact ih (x2 + 1) _ hf (lv_sub hl [2, 3, 0] rfl)
      · have hf := it_n c6 hf
        refine lv_iload_n hx hb dX3_deciderOf_26 rfl (lv_at hl 0 rfl) ?_
        obtain rfl := so_i hf
        exact W.iret (v := y2) hx hb hr (fun t ht _ => ⟨rfl, ht⟩) (fun _ h => absurd h List.not_mem_nil) dX3_deciderOf_27

set_option maxHeartbeats 4000000 in
set_option maxRecDepth 100000 in
theorem cz_X3_deciderOf (l : Launch) (D : va_G) (k : kt_T) (A : Nat → Nat) (ws : va_W) (q : Nat)  (pl : Nat → Int64) (sz : Int32) (p1 : Int32) (out : Int32) (hf : pf_X3_deciderOf pl p1 = some out) (h_this : is_T k A ws q pl sz)  : Met l yX3_deciderOf wsX3_deciderOf { frames := 1, cells := 0, slots := 0, locals := 22 } (va_Pc [.ref (A q), .int p1] (pw_P D k ws)) (qs_Q (some (.int out))) 0 0 (fun _ => False) := by
  refine Met.ofW (cc := cX3_deciderOf) (maxL := 4) (ret := (some .int)) (by decide) rfl ?_
  intro p e s m args below meth c s₁ B hml hv
  obtain ⟨rfl, hP, hK, hD⟩ := hv
  have C0 : cx_P p s m meth c [.ref (A q), .int p1].toArray cX3_deciderOf 4 wsX3_deciderOf RX3 (some .int) := ⟨B.exec, B.bytes, hml, findClass_of_methodNamed B.named, atoms_spec (ws := wsX3_deciderOf) B.pre, B.returns, B.notSynchronized⟩
  obtain ⟨hx, hb, hml, hown, hts, hr, hlocks⟩ := id C0
  have hcf : CallFix p m c cX3_deciderOf 4 s [.ref (A q), .int p1].toArray wsX3_deciderOf RX3 := ⟨hx, hb, hml, hown, hts⟩
  have hl := lv_entry ([.ref (A q), .int p1]) (n := 4) (Nat.le_of_ble_eq_true rfl)
  rw [lg_entry_eq]
  generalize (lg_sl ([.ref (A q), .int p1]) ++ List.replicate (4 - (lg_sl ([.ref (A q), .int p1])).length) Slot.unset).toArray = ls at hl ⊢
  have hl : lv_has ls 4 [(0, .ref (A q)), (1, .int p1)] := hl
  unfold pf_X3_deciderOf at hf
  refine lv_iconst (v := 0) hx hb dX3_deciderOf_0 (by decide) ?_
  refine lv_istore_n (lv' := [(2, .int 0), (0, .ref (A q)), (1, .int p1)]) hx hb dX3_deciderOf_1 rfl hl (by decide) rfl (fun ls hl => ?_)
  exact wl_X3_deciderOf_2 l D k A ws q _ hK C0 pl sz p1 h_this hP hD fu_N 0 _ hf (lv_sub hl [1, 2, 0] rfl)

def pf_X3_hopOfAddress (pl : Nat → Int64)  (p1 : Int32) : Option (Int32) :=
  (pf_X3_deciderOf pl p1).bind (fun r1 =>
    if r1 = (-4) then
      some 0
    else
      (pf_X3_hopAt pl r1).bind (fun r4 =>
        some r4))

set_option maxHeartbeats 4000000 in
set_option maxRecDepth 100000 in
theorem cz_X3_hopOfAddress (l : Launch) (D : va_G) (k : kt_T) (A : Nat → Nat) (ws : va_W) (q : Nat)  (pl : Nat → Int64) (sz : Int32) (p1 : Int32) (out : Int32) (hf : pf_X3_hopOfAddress pl p1 = some out) (h_this : is_T k A ws q pl sz)  : Met l yX3_hopOfAddress wsX3_hopOfAddress { frames := 2, cells := 0, slots := 0, locals := 45 } (va_Pc [.ref (A q), .int p1] (pw_P D k ws)) (qs_Q (some (.int out))) 0 0 (fun _ => False) := by
  refine Met.ofW (cc := cX3_hopOfAddress) (maxL := 3) (ret := (some .int)) (by decide) rfl ?_
  intro p e s m args below meth c s₁ B hml hv
  obtain ⟨rfl, hP, hK, hD⟩ := hv
  have C0 : cx_P p s m meth c [.ref (A q), .int p1].toArray cX3_hopOfAddress 3 wsX3_hopOfAddress RX3 (some .int) := ⟨B.exec, B.bytes, hml, findClass_of_methodNamed B.named, atoms_spec (ws := wsX3_hopOfAddress) B.pre, B.returns, B.notSynchronized⟩
  obtain ⟨hx, hb, hml, hown, hts, hr, hlocks⟩ := id C0
  have hcf : CallFix p m c cX3_hopOfAddress 3 s [.ref (A q), .int p1].toArray wsX3_hopOfAddress RX3 := ⟨hx, hb, hml, hown, hts⟩
  have hl := lv_entry ([.ref (A q), .int p1]) (n := 3) (Nat.le_of_ble_eq_true rfl)
  rw [lg_entry_eq]
  generalize (lg_sl ([.ref (A q), .int p1]) ++ List.replicate (3 - (lg_sl ([.ref (A q), .int p1])).length) Slot.unset).toArray = ls at hl ⊢
  have hl : lv_has ls 3 [(0, .ref (A q)), (1, .int p1)] := hl
  unfold pf_X3_hopOfAddress at hf
  refine lv_aload_n hx hb dX3_hopOfAddress_0 rfl (lv_at hl 0 rfl) ?_
  refine lv_iload_n hx hb dX3_hopOfAddress_1 rfl (lv_at hl 1 rfl) ?_
  obtain ⟨r1, h2, hf⟩ := bd_s hf
  refine ks_i (va_runV (As := [.int p1]) (rest := []) hcf (cz_X3_deciderOf l D k A ws (q) pl sz p1 r1 h2 h_this) (cwV 1 hts gX3_hopOfAddress_X3_deciderOf rfl rfl rfl (by decide +kernel) ⟨Nat.le_of_ble_eq_true rfl, Nat.le_of_ble_eq_true rfl⟩) (pw_V hP hK hD (ci := 3) h_this.1 rfl) rfl rfl hl.1 rfl (lv_room (Nat.le_of_ble_eq_true rfl)) dX3_hopOfAddress_2 ⟨Nat.zero_le _, Nat.zero_le _⟩) ?_
  refine lv_istore_n (lv' := [(2, .int r1), (0, .ref (A q)), (1, .int p1)]) hx hb dX3_hopOfAddress_5 rfl hl (by decide) rfl (fun ls hl => ?_)
  refine lv_iload_n hx hb dX3_hopOfAddress_6 rfl (lv_at hl 0 rfl) ?_
  refine lv_bipush (v := (-4)) hx hb dX3_hopOfAddress_7 (by decide) ?_
  refine lv_icmp_ne (tgt := 16) hx hb dX3_hopOfAddress_9 (by decide) (fun c3 => ?_) (fun c3 => ?_)
  · have hf := it_n c3 hf
    refine lv_aload_n hx hb dX3_hopOfAddress_16 rfl (lv_at hl 1 rfl) ?_
    refine lv_iload_n hx hb dX3_hopOfAddress_17 rfl (lv_at hl 0 rfl) ?_
    obtain ⟨r4, h5, hf⟩ := bd_s hf
    refine ks_i (va_runV (As := [.int r1]) (rest := []) hcf (cz_X3_hopAt l D k A ws (q) pl sz r1 r4 h5 h_this) (cwV 1 hts gX3_hopOfAddress_X3_hopAt rfl rfl rfl (by decide +kernel) ⟨Nat.le_of_ble_eq_true rfl, Nat.le_of_ble_eq_true rfl⟩) (pw_V hP hK hD (ci := 3) h_this.1 rfl) rfl rfl hl.1 rfl (lv_room (Nat.le_of_ble_eq_true rfl)) dX3_hopOfAddress_18 ⟨Nat.zero_le _, Nat.zero_le _⟩) ?_
    obtain rfl := so_i hf
    exact W.iret (v := r4) hx hb hr (fun t ht _ => ⟨rfl, ht⟩) (fun _ h => absurd h List.not_mem_nil) dX3_hopOfAddress_21
  · have hf := it_p c3 hf
    refine lv_iconst (v := 0) hx hb dX3_hopOfAddress_12 (by decide) ?_
    refine lv_goto (tgt := 21) hx hb dX3_hopOfAddress_13 (by decide) ?_
    obtain rfl := so_i hf
    exact W.iret (v := 0) hx hb hr (fun t ht _ => ⟨rfl, ht⟩) (fun _ h => absurd h List.not_mem_nil) dX3_hopOfAddress_21

def lp_X3_hopFromAbove_2  (pl : Nat → Int64) (x1 : Int32) : Nat → Int32 → Option (Int32)
  | 0, _ => none
  | n + 1, x2 =>
    if 8 < x2 then
      some 0
    else
      (pf_X3_hopAt pl (x1 >>> (x2 &&& 31))).bind (fun r2 =>
        if r2 = (-4) then
          lp_X3_hopFromAbove_2 pl x1 n (x2 + 1)
        else
          some r2)

def pf_X3_hopFromAbove (pl : Nat → Int64)  (p1 : Int32) : Option (Int32) :=
  lp_X3_hopFromAbove_2 pl p1 fu_N 1

set_option maxHeartbeats 4000000 in
set_option maxRecDepth 100000 in
theorem wl_X3_hopFromAbove_2 {p : Program} {e : Env} {s : State} {m : MethodId} {args : Array Value} {below : List Frame} {meth : Method} {c : Code} (l : Launch) (D : va_G) (k : kt_T) (A : Nat → Nat) (ws : va_W) (q : Nat)  (out : Int32) (hK : kk_P D k s) (C0 : cx_P p s m meth c args cX3_hopFromAbove 4 wsX3_hopFromAbove RX3 (some .int))  (pl : Nat → Int64) (sz : Int32) (x1 : Int32)   (h_this : is_T k A ws q pl sz) (hP : va_P D vwCl ws s.heap) (hD : va_D (fun _ => True) ws) : ∀ (n : Nat) (x2 : Int32) (ls : Array Slot), lp_X3_hopFromAbove_2 pl x1 n x2 = some out → lv_has ls 4 [(0, .ref (A q)), (1, .int x1), (2, .int x2)] → W p l e (headSpec wsX3_hopFromAbove { frames := 1, cells := 0, slots := 0, locals := 22 }).room s m args below meth c s.heap [] 0 0 (MQ below (qs_Q (some (.int out))) args s 0 0 (fun _ => False)) (F0 m 2 ls []) := by
  obtain ⟨hx, hb, hml, hown, hts, hr, hlocks⟩ := id C0
  have hcf : CallFix p m c cX3_hopFromAbove 4 s args wsX3_hopFromAbove RX3 := ⟨hx, hb, hml, hown, hts⟩
  intro n
  induction n with
  | zero =>
    intro x2 ls hf hl
    exact (no_s hf).elim
  | succ n ih =>
    intro x2 ls hf hl
    rw [lp_X3_hopFromAbove_2] at hf
    refine lv_iload_n hx hb dX3_hopFromAbove_2 rfl (lv_at hl 2 rfl) ?_
    refine lv_bipush (v := 8) hx hb dX3_hopFromAbove_3 (by decide) ?_
    refine lv_icmp_gt (tgt := 30) hx hb dX3_hopFromAbove_5 (by decide) (fun c1 => ?_) (fun c1 => ?_)
    · have hf := it_p c1 hf
      refine lv_iconst (v := 0) hx hb dX3_hopFromAbove_30 (by decide) ?_
      obtain rfl := so_i hf
      exact W.iret (v := 0) hx hb hr (fun t ht _ => ⟨rfl, ht⟩) (fun _ h => absurd h List.not_mem_nil) dX3_hopFromAbove_31
    · have hf := it_n c1 hf
      refine lv_aload_n hx hb dX3_hopFromAbove_8 rfl (lv_at hl 0 rfl) ?_
      refine lv_iload_n hx hb dX3_hopFromAbove_9 rfl (lv_at hl 1 rfl) ?_
      refine lv_iload_n hx hb dX3_hopFromAbove_10 rfl (lv_at hl 2 rfl) ?_
      refine lv_ishr hx hb dX3_hopFromAbove_11 ?_
      obtain ⟨r2, h3, hf⟩ := bd_s hf
      refine ks_i (va_runV (As := [.int (x1 >>> (x2 &&& 31))]) (rest := []) hcf (cz_X3_hopAt l D k A ws (q) pl sz (x1 >>> (x2 &&& 31)) r2 h3 h_this) (cwV 1 hts gX3_hopFromAbove_X3_hopAt rfl rfl rfl (by decide +kernel) ⟨Nat.le_of_ble_eq_true rfl, Nat.le_of_ble_eq_true rfl⟩) (pw_V hP hK hD (ci := 3) h_this.1 rfl) rfl rfl hl.1 rfl (lv_room (Nat.le_of_ble_eq_true rfl)) dX3_hopFromAbove_12 ⟨Nat.zero_le _, Nat.zero_le _⟩) ?_
      refine lv_istore_n (lv' := [(3, .int r2), (0, .ref (A q)), (1, .int x1), (2, .int x2)]) hx hb dX3_hopFromAbove_15 rfl hl (by decide) rfl (fun ls hl => ?_)
      refine lv_iload_n hx hb dX3_hopFromAbove_16 rfl (lv_at hl 0 rfl) ?_
      refine lv_bipush (v := (-4)) hx hb dX3_hopFromAbove_17 (by decide) ?_
      refine lv_icmp_eq (tgt := 24) hx hb dX3_hopFromAbove_19 (by decide) (fun c4 => ?_) (fun c4 => ?_)
      · have hf := it_p c4 hf
        refine lv_iinc (v := (x2 + 1)) (lv' := [(2, .int (x2 + 1)), (3, .int r2), (0, .ref (A q)), (1, .int x1)]) hx hb dX3_hopFromAbove_24 hl (k := 3) rfl rfl (by decide) rfl (fun ls hl => ?_)
        refine lv_goto (tgt := 2) hx hb dX3_hopFromAbove_27 (by decide) ?_
        exact ih (x2 + 1) _ hf (lv_sub hl [2, 3, 0] rfl)
      · have hf := it_n c4 hf
        refine lv_iload_n hx hb dX3_hopFromAbove_22 rfl (lv_at hl 0 rfl) ?_
        obtain rfl := so_i hf
        exact W.iret (v := r2) hx hb hr (fun t ht _ => ⟨rfl, ht⟩) (fun _ h => absurd h List.not_mem_nil) dX3_hopFromAbove_23

set_option maxHeartbeats 4000000 in
set_option maxRecDepth 100000 in
theorem cz_X3_hopFromAbove (l : Launch) (D : va_G) (k : kt_T) (A : Nat → Nat) (ws : va_W) (q : Nat)  (pl : Nat → Int64) (sz : Int32) (p1 : Int32) (out : Int32) (hf : pf_X3_hopFromAbove pl p1 = some out) (h_this : is_T k A ws q pl sz)  : Met l yX3_hopFromAbove wsX3_hopFromAbove { frames := 1, cells := 0, slots := 0, locals := 22 } (va_Pc [.ref (A q), .int p1] (pw_P D k ws)) (qs_Q (some (.int out))) 0 0 (fun _ => False) := by
  refine Met.ofW (cc := cX3_hopFromAbove) (maxL := 4) (ret := (some .int)) (by decide) rfl ?_
  intro p e s m args below meth c s₁ B hml hv
  obtain ⟨rfl, hP, hK, hD⟩ := hv
  have C0 : cx_P p s m meth c [.ref (A q), .int p1].toArray cX3_hopFromAbove 4 wsX3_hopFromAbove RX3 (some .int) := ⟨B.exec, B.bytes, hml, findClass_of_methodNamed B.named, atoms_spec (ws := wsX3_hopFromAbove) B.pre, B.returns, B.notSynchronized⟩
  obtain ⟨hx, hb, hml, hown, hts, hr, hlocks⟩ := id C0
  have hcf : CallFix p m c cX3_hopFromAbove 4 s [.ref (A q), .int p1].toArray wsX3_hopFromAbove RX3 := ⟨hx, hb, hml, hown, hts⟩
  have hl := lv_entry ([.ref (A q), .int p1]) (n := 4) (Nat.le_of_ble_eq_true rfl)
  rw [lg_entry_eq]
  generalize (lg_sl ([.ref (A q), .int p1]) ++ List.replicate (4 - (lg_sl ([.ref (A q), .int p1])).length) Slot.unset).toArray = ls at hl ⊢
  have hl : lv_has ls 4 [(0, .ref (A q)), (1, .int p1)] := hl
  unfold pf_X3_hopFromAbove at hf
  refine lv_iconst (v := 1) hx hb dX3_hopFromAbove_0 (by decide) ?_
  refine lv_istore_n (lv' := [(2, .int 1), (0, .ref (A q)), (1, .int p1)]) hx hb dX3_hopFromAbove_1 rfl hl (by decide) rfl (fun ls hl => ?_)
  exact wl_X3_hopFromAbove_2 l D k A ws q _ hK C0 pl sz p1 h_this hP hD fu_N 1 _ hf (lv_sub hl [1, 2, 0] rfl)

def lp_X3_numberOf_4  (pl : Nat → Int64) (x1 : Int32) : Nat → Int32 → Int32 → Option (Int32)
  | 0, _, _ => none
  | n + 1, x2, x3 =>
    if 512 ≤ x3 then
      some (-4)
    else
      (pf_X3_hopAt pl x3).bind (fun r2 =>
        if r2 = (-4) then
          lp_X3_numberOf_4 pl x1 n x2 (x3 + 1)
        else
          if x2 = x1 then
            some x3
          else
            lp_X3_numberOf_4 pl x1 n (x2 + 1) (x3 + 1))

def pf_X3_numberOf (pl : Nat → Int64)  (p1 : Int32) : Option (Int32) :=
  lp_X3_numberOf_4 pl p1 fu_N 0 1

set_option maxHeartbeats 4000000 in
set_option maxRecDepth 100000 in
theorem wl_X3_numberOf_4 {p : Program} {e : Env} {s : State} {m : MethodId} {args : Array Value} {below : List Frame} {meth : Method} {c : Code} (l : Launch) (D : va_G) (k : kt_T) (A : Nat → Nat) (ws : va_W) (q : Nat)  (out : Int32) (hK : kk_P D k s) (C0 : cx_P p s m meth c args cX3_numberOf 4 wsX3_numberOf RX3 (some .int))  (pl : Nat → Int64) (sz : Int32) (x1 : Int32)   (h_this : is_T k A ws q pl sz) (hP : va_P D vwCl ws s.heap) (hD : va_D (fun _ => True) ws) : ∀ (n : Nat) (x2 : Int32) (x3 : Int32) (ls : Array Slot), lp_X3_numberOf_4 pl x1 n x2 x3 = some out → lv_has ls 4 [(0, .ref (A q)), (1, .int x1), (2, .int x2), (3, .int x3)] → W p l e (headSpec wsX3_numberOf { frames := 1, cells := 0, slots := 0, locals := 22 }).room s m args below meth c s.heap [] 0 0 (MQ below (qs_Q (some (.int out))) args s 0 0 (fun _ => False)) (F0 m 4 ls []) := by
  obtain ⟨hx, hb, hml, hown, hts, hr, hlocks⟩ := id C0
  have hcf : CallFix p m c cX3_numberOf 4 s args wsX3_numberOf RX3 := ⟨hx, hb, hml, hown, hts⟩
  intro n
  induction n with
  | zero =>
    intro x2 x3 ls hf hl
    exact (no_s hf).elim
  | succ n ih =>
    intro x2 x3 ls hf hl
    rw [lp_X3_numberOf_4] at hf
    refine lv_iload_n hx hb dX3_numberOf_4 rfl (lv_at hl 3 rfl) ?_
    refine lv_sipush (v := 512) hx hb dX3_numberOf_5 (by decide) ?_
    refine lv_icmp_ge (tgt := 37) hx hb dX3_numberOf_8 (by decide) (fun c1 => ?_) (fun c1 => ?_)
    · have hf := it_p c1 hf
      refine lv_bipush (v := (-4)) hx hb dX3_numberOf_37 (by decide) ?_
      obtain rfl := so_i hf
      exact W.iret (v := (-4)) hx hb hr (fun t ht _ => ⟨rfl, ht⟩) (fun _ h => absurd h List.not_mem_nil) dX3_numberOf_39
    · have hf := it_n c1 hf
      refine lv_aload_n hx hb dX3_numberOf_11 rfl (lv_at hl 0 rfl) ?_
      refine lv_iload_n hx hb dX3_numberOf_12 rfl (lv_at hl 3 rfl) ?_
      obtain ⟨r2, h3, hf⟩ := bd_s hf
      refine ks_i (va_runV (As := [.int x3]) (rest := []) hcf (cz_X3_hopAt l D k A ws (q) pl sz x3 r2 h3 h_this) (cwV 1 hts gX3_numberOf_X3_hopAt rfl rfl rfl (by decide +kernel) ⟨Nat.le_of_ble_eq_true rfl, Nat.le_of_ble_eq_true rfl⟩) (pw_V hP hK hD (ci := 3) h_this.1 rfl) rfl rfl hl.1 rfl (lv_room (Nat.le_of_ble_eq_true rfl)) dX3_numberOf_13 ⟨Nat.zero_le _, Nat.zero_le _⟩) ?_
      refine lv_bipush (v := (-4)) hx hb dX3_numberOf_16 (by decide) ?_
      refine lv_icmp_eq (tgt := 31) hx hb dX3_numberOf_18 (by decide) (fun c4 => ?_) (fun c4 => ?_)
      · have hf := it_p c4 hf
        refine lv_iinc (v := (x3 + 1)) (lv' := [(3, .int (x3 + 1)), (0, .ref (A q)), (1, .int x1), (2, .int x2)]) hx hb dX3_numberOf_31 hl (k := 3) rfl rfl (by decide) rfl (fun ls hl => ?_)
        refine lv_goto (tgt := 4) hx hb dX3_numberOf_34 (by decide) ?_
        exact ih x2 (x3 + 1) _ hf (lv_sub hl [1, 2, 3, 0] rfl)
      · have hf := it_n c4 hf
        refine lv_iload_n hx hb dX3_numberOf_21 rfl (lv_at hl 2 rfl) ?_
        refine lv_iload_n hx hb dX3_numberOf_22 rfl (lv_at hl 1 rfl) ?_
        refine lv_icmp_ne (tgt := 28) hx hb dX3_numberOf_23 (by decide) (fun c5 => ?_) (fun c5 => ?_)
        · have hf := it_n c5 hf
          refine lv_iinc (v := (x2 + 1)) (lv' := [(2, .int (x2 + 1)), (0, .ref (A q)), (1, .int x1), (3, .int x3)]) hx hb dX3_numberOf_28 hl (k := 2) rfl rfl (by decide) rfl (fun ls hl => ?_)
          refine lv_iinc (v := (x3 + 1)) (lv' := [(3, .int (x3 + 1)), (2, .int (x2 + 1)), (0, .ref (A q)), (1, .int x1)]) hx hb dX3_numberOf_31 hl (k := 3) rfl rfl (by decide) rfl (fun ls hl => ?_)
          refine lv_goto (tgt := 4) hx hb dX3_numberOf_34 (by decide) ?_
          exact ih (x2 + 1) (x3 + 1) _ hf (lv_sub hl [2, 3, 1, 0] rfl)
        · have hf := it_p c5 hf
          refine lv_iload_n hx hb dX3_numberOf_26 rfl (lv_at hl 3 rfl) ?_
          obtain rfl := so_i hf
          exact W.iret (v := x3) hx hb hr (fun t ht _ => ⟨rfl, ht⟩) (fun _ h => absurd h List.not_mem_nil) dX3_numberOf_27

set_option maxHeartbeats 4000000 in
set_option maxRecDepth 100000 in
theorem cz_X3_numberOf (l : Launch) (D : va_G) (k : kt_T) (A : Nat → Nat) (ws : va_W) (q : Nat)  (pl : Nat → Int64) (sz : Int32) (p1 : Int32) (out : Int32) (hf : pf_X3_numberOf pl p1 = some out) (h_this : is_T k A ws q pl sz)  : Met l yX3_numberOf wsX3_numberOf { frames := 1, cells := 0, slots := 0, locals := 22 } (va_Pc [.ref (A q), .int p1] (pw_P D k ws)) (qs_Q (some (.int out))) 0 0 (fun _ => False) := by
  refine Met.ofW (cc := cX3_numberOf) (maxL := 4) (ret := (some .int)) (by decide) rfl ?_
  intro p e s m args below meth c s₁ B hml hv
  obtain ⟨rfl, hP, hK, hD⟩ := hv
  have C0 : cx_P p s m meth c [.ref (A q), .int p1].toArray cX3_numberOf 4 wsX3_numberOf RX3 (some .int) := ⟨B.exec, B.bytes, hml, findClass_of_methodNamed B.named, atoms_spec (ws := wsX3_numberOf) B.pre, B.returns, B.notSynchronized⟩
  obtain ⟨hx, hb, hml, hown, hts, hr, hlocks⟩ := id C0
  have hcf : CallFix p m c cX3_numberOf 4 s [.ref (A q), .int p1].toArray wsX3_numberOf RX3 := ⟨hx, hb, hml, hown, hts⟩
  have hl := lv_entry ([.ref (A q), .int p1]) (n := 4) (Nat.le_of_ble_eq_true rfl)
  rw [lg_entry_eq]
  generalize (lg_sl ([.ref (A q), .int p1]) ++ List.replicate (4 - (lg_sl ([.ref (A q), .int p1])).length) Slot.unset).toArray = ls at hl ⊢
  have hl : lv_has ls 4 [(0, .ref (A q)), (1, .int p1)] := hl
  unfold pf_X3_numberOf at hf
  refine lv_iconst (v := 0) hx hb dX3_numberOf_0 (by decide) ?_
  refine lv_istore_n (lv' := [(2, .int 0), (0, .ref (A q)), (1, .int p1)]) hx hb dX3_numberOf_1 rfl hl (by decide) rfl (fun ls hl => ?_)
  refine lv_iconst (v := 1) hx hb dX3_numberOf_2 (by decide) ?_
  refine lv_istore_n (lv' := [(3, .int 1), (2, .int 0), (0, .ref (A q)), (1, .int p1)]) hx hb dX3_numberOf_3 rfl hl (by decide) rfl (fun ls hl => ?_)
  exact wl_X3_numberOf_4 l D k A ws q _ hK C0 pl sz p1 h_this hP hD fu_N 0 1 _ hf (lv_sub hl [2, 3, 1, 0] rfl)

def lp_X3_hasHop_2  (pl : Nat → Int64) (x1 : Int32) : Nat → Int32 → Option (Int32)
  | 0, _ => none
  | n + 1, x2 =>
    if 512 ≤ x2 then
      some 0
    else
      (pf_X3_hopAt pl x2).bind (fun r2 =>
        if r2 = x1 then
          some 1
        else
          lp_X3_hasHop_2 pl x1 n (x2 + 1))

def pf_X3_hasHop (pl : Nat → Int64)  (p1 : Int32) : Option (Int32) :=
  lp_X3_hasHop_2 pl p1 fu_N 1

set_option maxHeartbeats 4000000 in
set_option maxRecDepth 100000 in
theorem wl_X3_hasHop_2 {p : Program} {e : Env} {s : State} {m : MethodId} {args : Array Value} {below : List Frame} {meth : Method} {c : Code} (l : Launch) (D : va_G) (k : kt_T) (A : Nat → Nat) (ws : va_W) (q : Nat)  (out : Int32) (hK : kk_P D k s) (C0 : cx_P p s m meth c args cX3_hasHop 3 wsX3_hasHop RX3 (some .boolean))  (pl : Nat → Int64) (sz : Int32) (x1 : Int32)   (h_this : is_T k A ws q pl sz) (hP : va_P D vwCl ws s.heap) (hD : va_D (fun _ => True) ws) : ∀ (n : Nat) (x2 : Int32) (ls : Array Slot), lp_X3_hasHop_2 pl x1 n x2 = some out → lv_has ls 3 [(0, .ref (A q)), (1, .int x1), (2, .int x2)] → W p l e (headSpec wsX3_hasHop { frames := 1, cells := 0, slots := 0, locals := 22 }).room s m args below meth c s.heap [] 0 0 (MQ below (qs_Q (some (.int out))) args s 0 0 (fun _ => False)) (F0 m 2 ls []) := by
  obtain ⟨hx, hb, hml, hown, hts, hr, hlocks⟩ := id C0
  have hcf : CallFix p m c cX3_hasHop 3 s args wsX3_hasHop RX3 := ⟨hx, hb, hml, hown, hts⟩
  intro n
  induction n with
  | zero =>
    intro x2 ls hf hl
    exact (no_s hf).elim
  | succ n ih =>
    intro x2 ls hf hl
    rw [lp_X3_hasHop_2] at hf
    refine lv_iload_n hx hb dX3_hasHop_2 rfl (lv_at hl 2 rfl) ?_
    refine lv_sipush (v := 512) hx hb dX3_hasHop_3 (by decide) ?_
    refine lv_icmp_ge (tgt := 26) hx hb dX3_hasHop_6 (by decide) (fun c1 => ?_) (fun c1 => ?_)
    · have hf := it_p c1 hf
      refine lv_iconst (v := 0) hx hb dX3_hasHop_26 (by decide) ?_
      obtain rfl := so_i hf
      exact W.zret (v := 0) (ty := .boolean) hx hb hr rfl (fun t ht _ => ⟨rfl, ht⟩) (fun _ h => absurd h List.not_mem_nil) dX3_hasHop_27
    · have hf := it_n c1 hf
      refine lv_aload_n hx hb dX3_hasHop_9 rfl (lv_at hl 0 rfl) ?_
      refine lv_iload_n hx hb dX3_hasHop_10 rfl (lv_at hl 2 rfl) ?_
      obtain ⟨r2, h3, hf⟩ := bd_s hf
      refine ks_i (va_runV (As := [.int x2]) (rest := []) hcf (cz_X3_hopAt l D k A ws (q) pl sz x2 r2 h3 h_this) (cwV 1 hts gX3_hasHop_X3_hopAt rfl rfl rfl (by decide +kernel) ⟨Nat.le_of_ble_eq_true rfl, Nat.le_of_ble_eq_true rfl⟩) (pw_V hP hK hD (ci := 3) h_this.1 rfl) rfl rfl hl.1 rfl (lv_room (Nat.le_of_ble_eq_true rfl)) dX3_hasHop_11 ⟨Nat.zero_le _, Nat.zero_le _⟩) ?_
      refine lv_iload_n hx hb dX3_hasHop_14 rfl (lv_at hl 1 rfl) ?_
      refine lv_icmp_ne (tgt := 20) hx hb dX3_hasHop_15 (by decide) (fun c4 => ?_) (fun c4 => ?_)
      · have hf := it_n c4 hf
        refine lv_iinc (v := (x2 + 1)) (lv' := [(2, .int (x2 + 1)), (0, .ref (A q)), (1, .int x1)]) hx hb dX3_hasHop_20 hl (k := 2) rfl rfl (by decide) rfl (fun ls hl => ?_)
        refine lv_goto (tgt := 2) hx hb dX3_hasHop_23 (by decide) ?_
        exact ih (x2 + 1) _ hf (lv_sub hl [1, 2, 0] rfl)
      · have hf := it_p c4 hf
        refine lv_iconst (v := 1) hx hb dX3_hasHop_18 (by decide) ?_
        obtain rfl := so_i hf
        exact W.zret (v := 1) (ty := .boolean) hx hb hr rfl (fun t ht _ => ⟨rfl, ht⟩) (fun _ h => absurd h List.not_mem_nil) dX3_hasHop_19

set_option maxHeartbeats 4000000 in
set_option maxRecDepth 100000 in
theorem cz_X3_hasHop (l : Launch) (D : va_G) (k : kt_T) (A : Nat → Nat) (ws : va_W) (q : Nat)  (pl : Nat → Int64) (sz : Int32) (p1 : Int32) (out : Int32) (hf : pf_X3_hasHop pl p1 = some out) (h_this : is_T k A ws q pl sz)  : Met l yX3_hasHop wsX3_hasHop { frames := 1, cells := 0, slots := 0, locals := 22 } (va_Pc [.ref (A q), .int p1] (pw_P D k ws)) (qs_Q (some (.int out))) 0 0 (fun _ => False) := by
  refine Met.ofW (cc := cX3_hasHop) (maxL := 3) (ret := (some .boolean)) (by decide) rfl ?_
  intro p e s m args below meth c s₁ B hml hv
  obtain ⟨rfl, hP, hK, hD⟩ := hv
  have C0 : cx_P p s m meth c [.ref (A q), .int p1].toArray cX3_hasHop 3 wsX3_hasHop RX3 (some .boolean) := ⟨B.exec, B.bytes, hml, findClass_of_methodNamed B.named, atoms_spec (ws := wsX3_hasHop) B.pre, B.returns, B.notSynchronized⟩
  obtain ⟨hx, hb, hml, hown, hts, hr, hlocks⟩ := id C0
  have hcf : CallFix p m c cX3_hasHop 3 s [.ref (A q), .int p1].toArray wsX3_hasHop RX3 := ⟨hx, hb, hml, hown, hts⟩
  have hl := lv_entry ([.ref (A q), .int p1]) (n := 3) (Nat.le_of_ble_eq_true rfl)
  rw [lg_entry_eq]
  generalize (lg_sl ([.ref (A q), .int p1]) ++ List.replicate (3 - (lg_sl ([.ref (A q), .int p1])).length) Slot.unset).toArray = ls at hl ⊢
  have hl : lv_has ls 3 [(0, .ref (A q)), (1, .int p1)] := hl
  unfold pf_X3_hasHop at hf
  refine lv_iconst (v := 1) hx hb dX3_hasHop_0 (by decide) ?_
  refine lv_istore_n (lv' := [(2, .int 1), (0, .ref (A q)), (1, .int p1)]) hx hb dX3_hasHop_1 rfl hl (by decide) rfl (fun ls hl => ?_)
  exact wl_X3_hasHop_2 l D k A ws q _ hK C0 pl sz p1 h_this hP hD fu_N 1 _ hf (lv_sub hl [1, 2, 0] rfl)

def lp_X3_replaceHop_5  (x1 : Int32) (x2 : Int32) : Nat → (Nat → Int64) → Int32 → Int32 → Int32 → Option (Int32 × (Nat → Int64) × Int32)
  | 0, _, _, _, _ => none
  | n + 1, pl, sz, x3, x4 =>
    if 512 ≤ x4 then
      some (x3, pl, sz)
    else
      (pf_X3_hopAt pl x4).bind (fun r2 =>
        if r2 = x1 then
          (pf_X3_put pl sz x4 x2).bind (fun r5 =>
            lp_X3_replaceHop_5 x1 x2 n r5.1 r5.2 (x3 + 1) (x4 + 1))
        else
          lp_X3_replaceHop_5 x1 x2 n pl sz x3 (x4 + 1))

def pf_X3_replaceHop (pl : Nat → Int64) (sz : Int32)  (p1 : Int32) (p2 : Int32) : Option (Int32 × (Nat → Int64) × Int32) :=
  lp_X3_replaceHop_5 p1 p2 fu_N pl sz 0 1

set_option maxHeartbeats 4000000 in
set_option maxRecDepth 100000 in
theorem wl_X3_replaceHop_5 {p : Program} {e : Env} {s : State} {m : MethodId} {args : Array Value} {below : List Frame} {meth : Method} {c : Code} (l : Launch) (D : va_G) (k : kt_T) (A : Nat → Nat) (ws : va_W) (q : Nat)  (out : Int32 × (Nat → Int64) × Int32) (hK : kk_P D k s) (C0 : cx_P p s m meth c args cX3_replaceHop 5 wsX3_replaceHop RX3 (some .int))   (x1 : Int32) (x2 : Int32)    : ∀ (n : Nat) (pl : Nat → Int64) (sz : Int32) (x3 : Int32) (x4 : Int32) (w : va_W) (H : Heap) (locs : List Loc) (ls : Array Slot), lp_X3_replaceHop_5 x1 x2 n pl sz x3 x4 = some out → is_T k A w q pl sz → sm_W ws w q (q + 2) → va_P D vwCl w H → va_D (va_A ws s.heap.size) w → va_S (va_A ws s.heap.size) s.heap H locs → lv_has ls 5 [(0, .ref (A q)), (1, .int x1), (2, .int x2), (3, .int x3), (4, .int x4)] → W p l e (headSpec wsX3_replaceHop { frames := 2, cells := 0, slots := 0, locals := 45 }).room s m args below meth c H locs 0 0 (MQ below (qw_Q D ws s.heap.size (some (.int out.1)) (fun u => is_T k A u q out.2.1 out.2.2 ∧ sm_W ws u q (q + 2))) args s 0 0 (va_A ws s.heap.size)) (F0 m 5 ls []) := by
  obtain ⟨hx, hb, hml, hown, hts, hr, hlocks⟩ := id C0
  have hcf : CallFix p m c cX3_replaceHop 5 s args wsX3_replaceHop RX3 := ⟨hx, hb, hml, hown, hts⟩
  have hA : ∀ q, s.heap.size ≤ q → va_A ws s.heap.size q := fun q h => Or.inr h
  intro n
  induction n with
  | zero =>
    intro pl sz x3 x4 w H locs ls hf h_this hsm hP hD hS hl
    exact (no_s hf).elim
  | succ n ih =>
    intro pl sz x3 x4 w H locs ls hf h_this hsm hP hD hS hl
    rw [lp_X3_replaceHop_5] at hf
    refine lv_iload hx hb dX3_replaceHop_5 (lv_at hl 4 rfl) ?_
    refine lv_sipush (v := 512) hx hb dX3_replaceHop_7 (by decide) ?_
    refine lv_icmp_ge (tgt := 39) hx hb dX3_replaceHop_10 (by decide) (fun c1 => ?_) (fun c1 => ?_)
    · have hf := it_p c1 hf
      refine lv_iload_n hx hb dX3_replaceHop_39 rfl (lv_at hl 3 rfl) ?_
      obtain rfl := so_i hf
      exact W.iret (v := x3) hx hb hr (qw_end hS hP hD ⟨h_this, hsm⟩) hS.2.2 dX3_replaceHop_40
    · have hf := it_n c1 hf
      refine lv_aload_n hx hb dX3_replaceHop_13 rfl (lv_at hl 0 rfl) ?_
      refine lv_iload hx hb dX3_replaceHop_14 (lv_at hl 4 rfl) ?_
      obtain ⟨r2, h3, hf⟩ := bd_s hf
      refine ks_i (va_runV (As := [.int x4]) (rest := []) hcf (cz_X3_hopAt l D k A w (q) pl sz x4 r2 h3 h_this) (cwV 1 hts gX3_replaceHop_X3_hopAt rfl rfl rfl (by decide +kernel) ⟨Nat.le_of_ble_eq_true rfl, Nat.le_of_ble_eq_true rfl⟩) (pw_V hP hK hD (ci := 3) h_this.1 rfl) rfl rfl hl.1 rfl (lv_room (Nat.le_of_ble_eq_true rfl)) dX3_replaceHop_16 ⟨Nat.zero_le _, Nat.zero_le _⟩) ?_
      refine lv_iload_n hx hb dX3_replaceHop_19 rfl (lv_at hl 1 rfl) ?_
      refine lv_icmp_ne (tgt := 33) hx hb dX3_replaceHop_20 (by decide) (fun c4 => ?_) (fun c4 => ?_)
      · have hf := it_n c4 hf
        refine lv_iinc (v := (x4 + 1)) (lv' := [(4, .int (x4 + 1)), (0, .ref (A q)), (1, .int x1), (2, .int x2), (3, .int x3)]) hx hb dX3_replaceHop_33 hl (k := 4) rfl rfl (by decide) rfl (fun ls hl => ?_)
        refine lv_goto (tgt := 5) hx hb dX3_replaceHop_36 (by decide) ?_
        exact ih pl sz x3 (x4 + 1) _ _ _ _ hf h_this hsm hP hD hS (lv_sub hl [1, 2, 3, 4, 0] rfl)
      · have hf := it_p c4 hf
        refine lv_aload_n hx hb dX3_replaceHop_23 rfl (lv_at hl 0 rfl) ?_
        refine lv_iload hx hb dX3_replaceHop_24 (lv_at hl 4 rfl) ?_
        refine lv_iload_n hx hb dX3_replaceHop_26 rfl (lv_at hl 2 rfl) ?_
        obtain ⟨r5, h6, hf⟩ := bd_s hf
        refine kw_v (va_runV (As := [.int x4, .int x2]) (rest := []) hcf (cz_X3_put l D k A w (q) pl sz x4 x2 r5 h6 h_this _) (cwV 2 hts gX3_replaceHop_X3_put rfl rfl rfl (by decide +kernel) ⟨Nat.le_of_ble_eq_true rfl, Nat.le_of_ble_eq_true rfl⟩) (px_V hP hK hD (ci := 3) h_this.1 rfl) rfl rfl hl.1 rfl (lv_room (Nat.le_of_ble_eq_true rfl)) dX3_replaceHop_27 ⟨Nat.zero_le _, Nat.zero_le _⟩) hD hS hA (fun u7 _ _ h8 hP hD hS => ?_)
        obtain ⟨h10, m9⟩ := h8
        have hsm := sm_tr hsm m9 (by omega) (by omega)
        refine lv_iinc (v := (x3 + 1)) (lv' := [(3, .int (x3 + 1)), (0, .ref (A q)), (1, .int x1), (2, .int x2), (4, .int x4)]) hx hb dX3_replaceHop_30 hl (k := 3) rfl rfl (by decide) rfl (fun ls hl => ?_)
        refine lv_iinc (v := (x4 + 1)) (lv' := [(4, .int (x4 + 1)), (3, .int (x3 + 1)), (0, .ref (A q)), (1, .int x1), (2, .int x2)]) hx hb dX3_replaceHop_33 hl (k := 4) rfl rfl (by decide) rfl (fun ls hl => ?_)
        refine lv_goto (tgt := 5) hx hb dX3_replaceHop_36 (by decide) ?_
        exact ih r5.1 r5.2 (x3 + 1) (x4 + 1) _ _ _ _ hf h10 hsm hP hD hS (lv_sub hl [2, 3, 4, 1, 0] rfl)

set_option maxHeartbeats 4000000 in
set_option maxRecDepth 100000 in
theorem cz_X3_replaceHop (l : Launch) (D : va_G) (k : kt_T) (A : Nat → Nat) (ws : va_W) (q : Nat)  (pl : Nat → Int64) (sz : Int32) (p1 : Int32) (p2 : Int32) (out : Int32 × (Nat → Int64) × Int32) (hf : pf_X3_replaceHop pl sz p1 p2 = some out) (h_this : is_T k A ws q pl sz)  (sz0 : Nat) : Met l yX3_replaceHop wsX3_replaceHop { frames := 2, cells := 0, slots := 0, locals := 45 } (va_Pc [.ref (A q), .int p1, .int p2] (px_P D k ws sz0)) (qw_Q D ws sz0 (some (.int out.1)) (fun u => is_T k A u q out.2.1 out.2.2 ∧ sm_W ws u q (q + 2))) 0 0 (va_A ws sz0) := by
  refine Met.ofW (cc := cX3_replaceHop) (maxL := 5) (ret := (some .int)) (by decide) rfl ?_
  intro p e s m args below meth c s₁ B hml hv
  obtain ⟨rfl, hsz, hP, hK, hD0⟩ := hv
  subst hsz
  have hD := hD0.self (sz := s.heap.size)
  have C0 : cx_P p s m meth c [.ref (A q), .int p1, .int p2].toArray cX3_replaceHop 5 wsX3_replaceHop RX3 (some .int) := ⟨B.exec, B.bytes, hml, findClass_of_methodNamed B.named, atoms_spec (ws := wsX3_replaceHop) B.pre, B.returns, B.notSynchronized⟩
  obtain ⟨hx, hb, hml, hown, hts, hr, hlocks⟩ := id C0
  have hcf : CallFix p m c cX3_replaceHop 5 s [.ref (A q), .int p1, .int p2].toArray wsX3_replaceHop RX3 := ⟨hx, hb, hml, hown, hts⟩
  have hA : ∀ q, s.heap.size ≤ q → va_A ws s.heap.size q := fun q h => Or.inr h
  have hS : va_S (va_A ws s.heap.size) s.heap s.heap [] := va_S.rf
  have hsm : sm_W ws ws q (q + 2) := sm_rf
  have hl := lv_entry ([.ref (A q), .int p1, .int p2]) (n := 5) (Nat.le_of_ble_eq_true rfl)
  rw [lg_entry_eq]
  generalize (lg_sl ([.ref (A q), .int p1, .int p2]) ++ List.replicate (5 - (lg_sl ([.ref (A q), .int p1, .int p2])).length) Slot.unset).toArray = ls at hl ⊢
  have hl : lv_has ls 5 [(0, .ref (A q)), (1, .int p1), (2, .int p2)] := hl
  unfold pf_X3_replaceHop at hf
  refine lv_iconst (v := 0) hx hb dX3_replaceHop_0 (by decide) ?_
  refine lv_istore_n (lv' := [(3, .int 0), (0, .ref (A q)), (1, .int p1), (2, .int p2)]) hx hb dX3_replaceHop_1 rfl hl (by decide) rfl (fun ls hl => ?_)
  refine lv_iconst (v := 1) hx hb dX3_replaceHop_2 (by decide) ?_
  refine lv_istore (lv' := [(4, .int 1), (3, .int 0), (0, .ref (A q)), (1, .int p1), (2, .int p2)]) hx hb dX3_replaceHop_3 hl (by decide) rfl (fun ls hl => ?_)
  exact wl_X3_replaceHop_5 l D k A ws q _ hK C0 p1 p2 fu_N pl sz 0 1 _ _ _ _ hf h_this hsm hP hD hS (lv_sub hl [2, 3, 4, 1, 0] rfl)

def lp_X3_decidesAny_15  (pl : Nat → Int64) (x1 : Int32) (x3 : Int32) : Nat → Int32 → Option (Int32)
  | 0, _ => none
  | n + 1, x4 =>
    if x3 ≤ x4 then
      some 0
    else
      (pf_X3_deciderOf pl x4).bind (fun r6 =>
        if r6 = x1 then
          some 1
        else
          lp_X3_decidesAny_15 pl x1 x3 n (x4 + 1))

def pf_X3_decidesAny (pl : Nat → Int64)  (p1 : Int32) : Option (Int32) :=
  (pf_X6_firstAddress p1).bind (fun r1 =>
    (pf_X6_howManyAddresses p1).bind (fun r3 =>
      lp_X3_decidesAny_15 pl p1 (r1 + r3) fu_N r1))

set_option maxHeartbeats 4000000 in
set_option maxRecDepth 100000 in
theorem wl_X3_decidesAny_15 {p : Program} {e : Env} {s : State} {m : MethodId} {args : Array Value} {below : List Frame} {meth : Method} {c : Code} (l : Launch) (D : va_G) (k : kt_T) (A : Nat → Nat) (ws : va_W) (q : Nat)  (out : Int32) (hK : kk_P D k s) (C0 : cx_P p s m meth c args cX3_decidesAny 5 wsX3_decidesAny RX3 (some .boolean))  (pl : Nat → Int64) (sz : Int32) (x1 : Int32) (x3 : Int32)   (h_this : is_T k A ws q pl sz) (hP : va_P D vwCl ws s.heap) (hD : va_D (fun _ => True) ws) : ∀ (n : Nat) (x4 : Int32) (ls : Array Slot), lp_X3_decidesAny_15 pl x1 x3 n x4 = some out → lv_has ls 5 [(0, .ref (A q)), (1, .int x1), (3, .int x3), (4, .int x4)] → W p l e (headSpec wsX3_decidesAny { frames := 3, cells := 0, slots := 0, locals := 61 }).room s m args below meth c s.heap [] 0 0 (MQ below (qs_Q (some (.int out))) args s 0 0 (fun _ => False)) (F0 m 15 ls []) := by
  obtain ⟨hx, hb, hml, hown, hts, hr, hlocks⟩ := id C0
  have hcf : CallFix p m c cX3_decidesAny 5 s args wsX3_decidesAny RX3 := ⟨hx, hb, hml, hown, hts⟩
  intro n
  induction n with
  | zero =>
    intro x4 ls hf hl
    exact (no_s hf).elim
  | succ n ih =>
    intro x4 ls hf hl
    rw [lp_X3_decidesAny_15] at hf
    refine lv_iload hx hb dX3_decidesAny_15 (lv_at hl 3 rfl) ?_
    refine lv_iload_n hx hb dX3_decidesAny_17 rfl (lv_at hl 2 rfl) ?_
    refine lv_icmp_ge (tgt := 39) hx hb dX3_decidesAny_18 (by decide) (fun c5 => ?_) (fun c5 => ?_)
    · have hf := it_p c5 hf
      refine lv_iconst (v := 0) hx hb dX3_decidesAny_39 (by decide) ?_
      obtain rfl := so_i hf
      exact W.zret (v := 0) (ty := .boolean) hx hb hr rfl (fun t ht _ => ⟨rfl, ht⟩) (fun _ h => absurd h List.not_mem_nil) dX3_decidesAny_40
    · have hf := it_n c5 hf
      refine lv_aload_n hx hb dX3_decidesAny_21 rfl (lv_at hl 0 rfl) ?_
      refine lv_iload hx hb dX3_decidesAny_22 (lv_at hl 3 rfl) ?_
      obtain ⟨r6, h7, hf⟩ := bd_s hf
      refine ks_i (va_runV (As := [.int x4]) (rest := []) hcf (cz_X3_deciderOf l D k A ws (q) pl sz x4 r6 h7 h_this) (cwV 1 hts gX3_decidesAny_X3_deciderOf rfl rfl rfl (by decide +kernel) ⟨Nat.le_of_ble_eq_true rfl, Nat.le_of_ble_eq_true rfl⟩) (pw_V hP hK hD (ci := 3) h_this.1 rfl) rfl rfl hl.1 rfl (lv_room (Nat.le_of_ble_eq_true rfl)) dX3_decidesAny_24 ⟨Nat.zero_le _, Nat.zero_le _⟩) ?_
      refine lv_iload_n hx hb dX3_decidesAny_27 rfl (lv_at hl 1 rfl) ?_
      refine lv_icmp_ne (tgt := 33) hx hb dX3_decidesAny_28 (by decide) (fun c8 => ?_) (fun c8 => ?_)
      · have hf := it_n c8 hf
        refine lv_iinc (v := (x4 + 1)) (lv' := [(4, .int (x4 + 1)), (0, .ref (A q)), (1, .int x1), (3, .int x3)]) hx hb dX3_decidesAny_33 hl (k := 3) rfl rfl (by decide) rfl (fun ls hl => ?_)
        refine lv_goto (tgt := 15) hx hb dX3_decidesAny_36 (by decide) ?_
        exact ih (x4 + 1) _ hf (lv_sub hl [1, 2, 3, 0] rfl)
      · have hf := it_p c8 hf
        refine lv_iconst (v := 1) hx hb dX3_decidesAny_31 (by decide) ?_
        obtain rfl := so_i hf
        exact W.zret (v := 1) (ty := .boolean) hx hb hr rfl (fun t ht _ => ⟨rfl, ht⟩) (fun _ h => absurd h List.not_mem_nil) dX3_decidesAny_32

set_option maxHeartbeats 4000000 in
set_option maxRecDepth 100000 in
theorem cz_X3_decidesAny (l : Launch) (D : va_G) (k : kt_T) (A : Nat → Nat) (ws : va_W) (q : Nat)  (pl : Nat → Int64) (sz : Int32) (p1 : Int32) (out : Int32) (hf : pf_X3_decidesAny pl p1 = some out) (h_this : is_T k A ws q pl sz)  : Met l yX3_decidesAny wsX3_decidesAny { frames := 3, cells := 0, slots := 0, locals := 61 } (va_Pc [.ref (A q), .int p1] (pw_P D k ws)) (qs_Q (some (.int out))) 0 0 (fun _ => False) := by
  refine Met.ofW (cc := cX3_decidesAny) (maxL := 5) (ret := (some .boolean)) (by decide) rfl ?_
  intro p e s m args below meth c s₁ B hml hv
  obtain ⟨rfl, hP, hK, hD⟩ := hv
  have C0 : cx_P p s m meth c [.ref (A q), .int p1].toArray cX3_decidesAny 5 wsX3_decidesAny RX3 (some .boolean) := ⟨B.exec, B.bytes, hml, findClass_of_methodNamed B.named, atoms_spec (ws := wsX3_decidesAny) B.pre, B.returns, B.notSynchronized⟩
  obtain ⟨hx, hb, hml, hown, hts, hr, hlocks⟩ := id C0
  have hcf : CallFix p m c cX3_decidesAny 5 s [.ref (A q), .int p1].toArray wsX3_decidesAny RX3 := ⟨hx, hb, hml, hown, hts⟩
  have w_0 := hts (.initialized RX6) (List.mem_of_getElem? (i := 2) rfl)
  have w_1 := hts (.static yX6_firstAddress) (List.mem_of_getElem? (i := 1) rfl)
  have w_2 := hts (.static yX6_howManyAddresses) (List.mem_of_getElem? (i := 12) rfl)
  have hl := lv_entry ([.ref (A q), .int p1]) (n := 5) (Nat.le_of_ble_eq_true rfl)
  rw [lg_entry_eq]
  generalize (lg_sl ([.ref (A q), .int p1]) ++ List.replicate (5 - (lg_sl ([.ref (A q), .int p1])).length) Slot.unset).toArray = ls at hl ⊢
  have hl : lv_has ls 5 [(0, .ref (A q)), (1, .int p1)] := hl
  unfold pf_X3_decidesAny at hf
  refine lv_iload_n hx hb dX3_decidesAny_0 rfl (lv_at hl 1 rfl) ?_
  obtain ⟨r1, h2, hf⟩ := bd_s hf
  refine ks_i (va_runSN (As := [.int p1]) (rest := []) hcf (cz_X6_firstAddress l D k A ws p1 r1 h2) ⟨(va_cnB 1 hts gX3_decidesAny_X6_firstAddress_n61 rfl rfl rfl (hK.2 (RX3, 61, yX6_firstAddress, RX6) (List.mem_of_getElem? (i := 8) rfl)) w_0 (by decide +kernel) ⟨Nat.le_of_ble_eq_true rfl, Nat.le_of_ble_eq_true rfl⟩), w_1, trivial⟩ (pw_S hP hK hD) rfl rfl hl.1 rfl (lv_room (Nat.le_of_ble_eq_true rfl)) dX3_decidesAny_1 ⟨Nat.zero_le _, Nat.zero_le _⟩) ?_
  refine lv_istore_n (lv' := [(2, .int r1), (0, .ref (A q)), (1, .int p1)]) hx hb dX3_decidesAny_4 rfl hl (by decide) rfl (fun ls hl => ?_)
  refine lv_iload_n hx hb dX3_decidesAny_5 rfl (lv_at hl 0 rfl) ?_
  refine lv_iload_n hx hb dX3_decidesAny_6 rfl (lv_at hl 2 rfl) ?_
  obtain ⟨r3, h4, hf⟩ := bd_s hf
  refine ks_i (va_runSN (As := [.int p1]) (rest := [.int r1]) hcf (cz_X6_howManyAddresses l D k A ws p1 r3 h4) ⟨(va_cnB 1 hts gX3_decidesAny_X6_howManyAddresses_n64 rfl rfl rfl (hK.2 (RX3, 64, yX6_howManyAddresses, RX6) (List.mem_of_getElem? (i := 7) rfl)) w_0 (by decide +kernel) ⟨Nat.le_of_ble_eq_true rfl, Nat.le_of_ble_eq_true rfl⟩), w_2, trivial⟩ (pw_S hP hK hD) rfl rfl hl.1 rfl (lv_room (Nat.le_of_ble_eq_true rfl)) dX3_decidesAny_7 ⟨Nat.zero_le _, Nat.zero_le _⟩) ?_
  refine lv_iadd hx hb dX3_decidesAny_10 ?_
  refine lv_istore_n (lv' := [(3, .int (r1 + r3)), (2, .int r1), (0, .ref (A q)), (1, .int p1)]) hx hb dX3_decidesAny_11 rfl hl (by decide) rfl (fun ls hl => ?_)
  refine lv_iload_n hx hb dX3_decidesAny_12 rfl (lv_at hl 1 rfl) ?_
  refine lv_istore (lv' := [(4, .int r1), (3, .int (r1 + r3)), (2, .int r1), (0, .ref (A q)), (1, .int p1)]) hx hb dX3_decidesAny_13 hl (by decide) rfl (fun ls hl => ?_)
  exact wl_X3_decidesAny_15 l D k A ws q _ hK C0 pl sz p1 (r1 + r3) h_this hP hD fu_N r1 _ hf (lv_sub hl [3, 4, 1, 0] rfl)

def pf_X3_redundancyOf (pl : Nat → Int64)  (p1 : Int32) : Option (Int32) :=
  (pf_X3_hopAt pl p1).bind (fun r1 =>
    if r1 = (-4) then
      some (-4)
    else
      (pf_X3_hopFromAbove pl p1).bind (fun r4 =>
        if r1 = r4 then
          some 1
        else
          (pf_X3_decidesAny pl p1).bind (fun r7 =>
            if r7 = 0 then
              some 1
            else
              some 0)))

set_option maxHeartbeats 4000000 in
set_option maxRecDepth 100000 in
theorem cz_X3_redundancyOf (l : Launch) (D : va_G) (k : kt_T) (A : Nat → Nat) (ws : va_W) (q : Nat)  (pl : Nat → Int64) (sz : Int32) (p1 : Int32) (out : Int32) (hf : pf_X3_redundancyOf pl p1 = some out) (h_this : is_T k A ws q pl sz)  : Met l yX3_redundancyOf wsX3_redundancyOf { frames := 4, cells := 0, slots := 0, locals := 85 } (va_Pc [.ref (A q), .int p1] (pw_P D k ws)) (qs_Q (some (.int out))) 0 0 (fun _ => False) := by
  refine Met.ofW (cc := cX3_redundancyOf) (maxL := 3) (ret := (some .int)) (by decide) rfl ?_
  intro p e s m args below meth c s₁ B hml hv
  obtain ⟨rfl, hP, hK, hD⟩ := hv
  have C0 : cx_P p s m meth c [.ref (A q), .int p1].toArray cX3_redundancyOf 3 wsX3_redundancyOf RX3 (some .int) := ⟨B.exec, B.bytes, hml, findClass_of_methodNamed B.named, atoms_spec (ws := wsX3_redundancyOf) B.pre, B.returns, B.notSynchronized⟩
  obtain ⟨hx, hb, hml, hown, hts, hr, hlocks⟩ := id C0
  have hcf : CallFix p m c cX3_redundancyOf 3 s [.ref (A q), .int p1].toArray wsX3_redundancyOf RX3 := ⟨hx, hb, hml, hown, hts⟩
  have hl := lv_entry ([.ref (A q), .int p1]) (n := 3) (Nat.le_of_ble_eq_true rfl)
  rw [lg_entry_eq]
  generalize (lg_sl ([.ref (A q), .int p1]) ++ List.replicate (3 - (lg_sl ([.ref (A q), .int p1])).length) Slot.unset).toArray = ls at hl ⊢
  have hl : lv_has ls 3 [(0, .ref (A q)), (1, .int p1)] := hl
  unfold pf_X3_redundancyOf at hf
  refine lv_aload_n hx hb dX3_redundancyOf_0 rfl (lv_at hl 0 rfl) ?_
  refine lv_iload_n hx hb dX3_redundancyOf_1 rfl (lv_at hl 1 rfl) ?_
  obtain ⟨r1, h2, hf⟩ := bd_s hf
  refine ks_i (va_runV (As := [.int p1]) (rest := []) hcf (cz_X3_hopAt l D k A ws (q) pl sz p1 r1 h2 h_this) (cwV 1 hts gX3_redundancyOf_X3_hopAt rfl rfl rfl (by decide +kernel) ⟨Nat.le_of_ble_eq_true rfl, Nat.le_of_ble_eq_true rfl⟩) (pw_V hP hK hD (ci := 3) h_this.1 rfl) rfl rfl hl.1 rfl (lv_room (Nat.le_of_ble_eq_true rfl)) dX3_redundancyOf_2 ⟨Nat.zero_le _, Nat.zero_le _⟩) ?_
  refine lv_istore_n (lv' := [(2, .int r1), (0, .ref (A q)), (1, .int p1)]) hx hb dX3_redundancyOf_5 rfl hl (by decide) rfl (fun ls hl => ?_)
  refine lv_iload_n hx hb dX3_redundancyOf_6 rfl (lv_at hl 0 rfl) ?_
  refine lv_bipush (v := (-4)) hx hb dX3_redundancyOf_7 (by decide) ?_
  refine lv_icmp_ne (tgt := 15) hx hb dX3_redundancyOf_9 (by decide) (fun c3 => ?_) (fun c3 => ?_)
  · have hf := it_n c3 hf
    refine lv_iload_n hx hb dX3_redundancyOf_15 rfl (lv_at hl 0 rfl) ?_
    refine lv_aload_n hx hb dX3_redundancyOf_16 rfl (lv_at hl 1 rfl) ?_
    refine lv_iload_n hx hb dX3_redundancyOf_17 rfl (lv_at hl 2 rfl) ?_
    obtain ⟨r4, h5, hf⟩ := bd_s hf
    refine ks_i (va_runV (As := [.int p1]) (rest := [.int r1]) hcf (cz_X3_hopFromAbove l D k A ws (q) pl sz p1 r4 h5 h_this) (cwV 1 hts gX3_redundancyOf_X3_hopFromAbove rfl rfl rfl (by decide +kernel) ⟨Nat.le_of_ble_eq_true rfl, Nat.le_of_ble_eq_true rfl⟩) (pw_V hP hK hD (ci := 3) h_this.1 rfl) rfl rfl hl.1 rfl (lv_room (Nat.le_of_ble_eq_true rfl)) dX3_redundancyOf_18 ⟨Nat.zero_le _, Nat.zero_le _⟩) ?_
    refine lv_icmp_eq (tgt := 32) hx hb dX3_redundancyOf_21 (by decide) (fun c6 => ?_) (fun c6 => ?_)
    · have hf := it_p c6 hf
      refine lv_iconst (v := 1) hx hb dX3_redundancyOf_32 (by decide) ?_
      refine lv_goto (tgt := 37) hx hb dX3_redundancyOf_33 (by decide) ?_
      obtain rfl := so_i hf
      exact W.iret (v := 1) hx hb hr (fun t ht _ => ⟨rfl, ht⟩) (fun _ h => absurd h List.not_mem_nil) dX3_redundancyOf_37
    · have hf := it_n c6 hf
      refine lv_aload_n hx hb dX3_redundancyOf_24 rfl (lv_at hl 1 rfl) ?_
      refine lv_iload_n hx hb dX3_redundancyOf_25 rfl (lv_at hl 2 rfl) ?_
      obtain ⟨r7, h8, hf⟩ := bd_s hf
      refine ks_i (va_runV (As := [.int p1]) (rest := []) hcf (cz_X3_decidesAny l D k A ws (q) pl sz p1 r7 h8 h_this) (cwV 1 hts gX3_redundancyOf_X3_decidesAny rfl rfl rfl (by decide +kernel) ⟨Nat.le_of_ble_eq_true rfl, Nat.le_of_ble_eq_true rfl⟩) (pw_V hP hK hD (ci := 3) h_this.1 rfl) rfl rfl hl.1 rfl (lv_room (Nat.le_of_ble_eq_true rfl)) dX3_redundancyOf_26 ⟨Nat.zero_le _, Nat.zero_le _⟩) ?_
      refine lv_if_ne (tgt := 36) hx hb dX3_redundancyOf_29 (by decide) (fun c9 => ?_) (fun c9 => ?_)
      · have hf := it_n c9 hf
        refine lv_iconst (v := 0) hx hb dX3_redundancyOf_36 (by decide) ?_
        obtain rfl := so_i hf
        exact W.iret (v := 0) hx hb hr (fun t ht _ => ⟨rfl, ht⟩) (fun _ h => absurd h List.not_mem_nil) dX3_redundancyOf_37
      · have hf := it_p c9 hf
        refine lv_iconst (v := 1) hx hb dX3_redundancyOf_32 (by decide) ?_
        refine lv_goto (tgt := 37) hx hb dX3_redundancyOf_33 (by decide) ?_
        obtain rfl := so_i hf
        exact W.iret (v := 1) hx hb hr (fun t ht _ => ⟨rfl, ht⟩) (fun _ h => absurd h List.not_mem_nil) dX3_redundancyOf_37
  · have hf := it_p c3 hf
    refine lv_bipush (v := (-4)) hx hb dX3_redundancyOf_12 (by decide) ?_
    obtain rfl := so_i hf
    exact W.iret (v := (-4)) hx hb hr (fun t ht _ => ⟨rfl, ht⟩) (fun _ h => absurd h List.not_mem_nil) dX3_redundancyOf_14

def lp_X3_countRedundant_4  (pl : Nat → Int64) : Nat → Int32 → Int32 → Option (Int32)
  | 0, _, _ => none
  | n + 1, x1, x2 =>
    if 512 ≤ x2 then
      some x1
    else
      (pf_X3_redundancyOf pl x2).bind (fun r2 =>
        if r2 = 1 then
          lp_X3_countRedundant_4 pl n (x1 + 1) (x2 + 1)
        else
          lp_X3_countRedundant_4 pl n x1 (x2 + 1))

def pf_X3_countRedundant (pl : Nat → Int64)   : Option (Int32) :=
  lp_X3_countRedundant_4 pl fu_N 0 1

set_option maxHeartbeats 4000000 in
set_option maxRecDepth 100000 in
theorem wl_X3_countRedundant_4 {p : Program} {e : Env} {s : State} {m : MethodId} {args : Array Value} {below : List Frame} {meth : Method} {c : Code} (l : Launch) (D : va_G) (k : kt_T) (A : Nat → Nat) (ws : va_W) (q : Nat)  (out : Int32) (hK : kk_P D k s) (C0 : cx_P p s m meth c args cX3_countRedundant 3 wsX3_countRedundant RX3 (some .int))  (pl : Nat → Int64) (sz : Int32)    (h_this : is_T k A ws q pl sz) (hP : va_P D vwCl ws s.heap) (hD : va_D (fun _ => True) ws) : ∀ (n : Nat) (x1 : Int32) (x2 : Int32) (ls : Array Slot), lp_X3_countRedundant_4 pl n x1 x2 = some out → lv_has ls 3 [(0, .ref (A q)), (1, .int x1), (2, .int x2)] → W p l e (headSpec wsX3_countRedundant { frames := 5, cells := 0, slots := 0, locals := 107 }).room s m args below meth c s.heap [] 0 0 (MQ below (qs_Q (some (.int out))) args s 0 0 (fun _ => False)) (F0 m 4 ls []) := by
  obtain ⟨hx, hb, hml, hown, hts, hr, hlocks⟩ := id C0
  have hcf : CallFix p m c cX3_countRedundant 3 s args wsX3_countRedundant RX3 := ⟨hx, hb, hml, hown, hts⟩
  intro n
  induction n with
  | zero =>
    intro x1 x2 ls hf hl
    exact (no_s hf).elim
  | succ n ih =>
    intro x1 x2 ls hf hl
    rw [lp_X3_countRedundant_4] at hf
    refine lv_iload_n hx hb dX3_countRedundant_4 rfl (lv_at hl 2 rfl) ?_
    refine lv_sipush (v := 512) hx hb dX3_countRedundant_5 (by decide) ?_
    refine lv_icmp_ge (tgt := 29) hx hb dX3_countRedundant_8 (by decide) (fun c1 => ?_) (fun c1 => ?_)
    · have hf := it_p c1 hf
      refine lv_iload_n hx hb dX3_countRedundant_29 rfl (lv_at hl 1 rfl) ?_
      obtain rfl := so_i hf
      exact W.iret (v := x1) hx hb hr (fun t ht _ => ⟨rfl, ht⟩) (fun _ h => absurd h List.not_mem_nil) dX3_countRedundant_30
    · have hf := it_n c1 hf
      refine lv_aload_n hx hb dX3_countRedundant_11 rfl (lv_at hl 0 rfl) ?_
      refine lv_iload_n hx hb dX3_countRedundant_12 rfl (lv_at hl 2 rfl) ?_
      obtain ⟨r2, h3, hf⟩ := bd_s hf
      refine ks_i (va_runV (As := [.int x2]) (rest := []) hcf (cz_X3_redundancyOf l D k A ws (q) pl sz x2 r2 h3 h_this) (cwV 1 hts gX3_countRedundant_X3_redundancyOf rfl rfl rfl (by decide +kernel) ⟨Nat.le_of_ble_eq_true rfl, Nat.le_of_ble_eq_true rfl⟩) (pw_V hP hK hD (ci := 3) h_this.1 rfl) rfl rfl hl.1 rfl (lv_room (Nat.le_of_ble_eq_true rfl)) dX3_countRedundant_13 ⟨Nat.zero_le _, Nat.zero_le _⟩) ?_
      refine lv_iconst (v := 1) hx hb dX3_countRedundant_16 (by decide) ?_
      refine lv_icmp_ne (tgt := 23) hx hb dX3_countRedundant_17 (by decide) (fun c4 => ?_) (fun c4 => ?_)
      · have hf := it_n c4 hf
        refine lv_iinc (v := (x2 + 1)) (lv' := [(2, .int (x2 + 1)), (0, .ref (A q)), (1, .int x1)]) hx hb dX3_countRedundant_23 hl (k := 2) rfl rfl (by decide) rfl (fun ls hl => ?_)
        refine lv_goto (tgt := 4) hx hb dX3_countRedundant_26 (by decide) ?_
        exact ih x1 (x2 + 1) _ hf (lv_sub hl [1, 2, 0] rfl)
      · have hf := it_p c4 hf
        refine lv_iinc (v := (x1 + 1)) (lv' := [(1, .int (x1 + 1)), (0, .ref (A q)), (2, .int x2)]) hx hb dX3_countRedundant_20 hl (k := 1) rfl rfl (by decide) rfl (fun ls hl => ?_)
        refine lv_iinc (v := (x2 + 1)) (lv' := [(2, .int (x2 + 1)), (1, .int (x1 + 1)), (0, .ref (A q))]) hx hb dX3_countRedundant_23 hl (k := 2) rfl rfl (by decide) rfl (fun ls hl => ?_)
        refine lv_goto (tgt := 4) hx hb dX3_countRedundant_26 (by decide) ?_
        exact ih (x1 + 1) (x2 + 1) _ hf (lv_sub hl [2, 1, 0] rfl)

set_option maxHeartbeats 4000000 in
set_option maxRecDepth 100000 in
theorem cz_X3_countRedundant (l : Launch) (D : va_G) (k : kt_T) (A : Nat → Nat) (ws : va_W) (q : Nat)  (pl : Nat → Int64) (sz : Int32)  (out : Int32) (hf : pf_X3_countRedundant pl = some out) (h_this : is_T k A ws q pl sz)  : Met l yX3_countRedundant wsX3_countRedundant { frames := 5, cells := 0, slots := 0, locals := 107 } (va_Pc [.ref (A q)] (pw_P D k ws)) (qs_Q (some (.int out))) 0 0 (fun _ => False) := by
  refine Met.ofW (cc := cX3_countRedundant) (maxL := 3) (ret := (some .int)) (by decide) rfl ?_
  intro p e s m args below meth c s₁ B hml hv
  obtain ⟨rfl, hP, hK, hD⟩ := hv
  have C0 : cx_P p s m meth c [.ref (A q)].toArray cX3_countRedundant 3 wsX3_countRedundant RX3 (some .int) := ⟨B.exec, B.bytes, hml, findClass_of_methodNamed B.named, atoms_spec (ws := wsX3_countRedundant) B.pre, B.returns, B.notSynchronized⟩
  obtain ⟨hx, hb, hml, hown, hts, hr, hlocks⟩ := id C0
  have hcf : CallFix p m c cX3_countRedundant 3 s [.ref (A q)].toArray wsX3_countRedundant RX3 := ⟨hx, hb, hml, hown, hts⟩
  have hl := lv_entry ([.ref (A q)]) (n := 3) (Nat.le_of_ble_eq_true rfl)
  rw [lg_entry_eq]
  generalize (lg_sl ([.ref (A q)]) ++ List.replicate (3 - (lg_sl ([.ref (A q)])).length) Slot.unset).toArray = ls at hl ⊢
  have hl : lv_has ls 3 [(0, .ref (A q))] := hl
  unfold pf_X3_countRedundant at hf
  refine lv_iconst (v := 0) hx hb dX3_countRedundant_0 (by decide) ?_
  refine lv_istore_n (lv' := [(1, .int 0), (0, .ref (A q))]) hx hb dX3_countRedundant_1 rfl hl (by decide) rfl (fun ls hl => ?_)
  refine lv_iconst (v := 1) hx hb dX3_countRedundant_2 (by decide) ?_
  refine lv_istore_n (lv' := [(2, .int 1), (1, .int 0), (0, .ref (A q))]) hx hb dX3_countRedundant_3 rfl hl (by decide) rfl (fun ls hl => ?_)
  exact wl_X3_countRedundant_4 l D k A ws q _ hK C0 pl sz h_this hP hD fu_N 0 1 _ hf (lv_sub hl [2, 1, 0] rfl)

