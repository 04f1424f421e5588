def lp_J6_numberOfLeadingZeros_0f7a4_48  (x0 : Int32) (x1 : Int32) : Option (Int32) :=
  if x0 < 16 then
    if x0 < 4 then
      some (x1 - (((Int32.toUInt32 x0) >>> ((Int32.toUInt32 1) &&& Int32.toUInt32 31)).toInt32))
    else
      lt_O (((Int32.toUInt32 x0) >>> ((Int32.toUInt32 2) &&& Int32.toUInt32 31)).toInt32) (fun y6 =>
        some ((x1 + (-2)) - (((Int32.toUInt32 y6) >>> ((Int32.toUInt32 1) &&& Int32.toUInt32 31)).toInt32)))
  else
    lt_O (((Int32.toUInt32 x0) >>> ((Int32.toUInt32 4) &&& Int32.toUInt32 31)).toInt32) (fun y8 =>
      if y8 < 4 then
        some ((x1 + (-4)) - (((Int32.toUInt32 y8) >>> ((Int32.toUInt32 1) &&& Int32.toUInt32 31)).toInt32))
      else
        lt_O (((Int32.toUInt32 y8) >>> ((Int32.toUInt32 2) &&& Int32.toUInt32 31)).toInt32) (fun y11 =>
          some (((x1 + (-4)) + (-2)) - (((Int32.toUInt32 y11) >>> ((Int32.toUInt32 1) &&& Int32.toUInt32 31)).toInt32))))

def lp_J6_numberOfLeadingZeros_0f7a4_33  (x0 : Int32) (x1 : Int32) : Option (Int32) :=
  if x0 < 256 then
    lp_J6_numberOfLeadingZeros_0f7a4_48 x0 x1
  else
    lt_O (((Int32.toUInt32 x0) >>> ((Int32.toUInt32 8) &&& Int32.toUInt32 31)).toInt32) (fun y13 =>
      lp_J6_numberOfLeadingZeros_0f7a4_48 y13 (x1 + (-8)))

def pf_J6_numberOfLeadingZeros_0f7a4   (p1 : Int32) : Option (Int32) :=
  if 0 < p1 then
    if p1 < 65536 then
      lp_J6_numberOfLeadingZeros_0f7a4_33 p1 31
    else
      lt_O (((Int32.toUInt32 p1) >>> ((Int32.toUInt32 16) &&& Int32.toUInt32 31)).toInt32) (fun y15 =>
        lp_J6_numberOfLeadingZeros_0f7a4_33 y15 15)
  else
    if p1 = 0 then
      some 32
    else
      some 0

set_option maxHeartbeats 4000000 in
set_option maxRecDepth 100000 in
theorem wl_J6_numberOfLeadingZeros_0f7a4_48 {p : Program} {e : Env} {s : State} {m : MethodId} {args : Array Value} {below : List Frame} {meth : Method} {c : Code} (l : Launch) (D : va_G) (k : kt_T) (A : Nat → Nat) (ws : va_W)   (out : Int32) (hK : kk_P D k s) (C0 : cx_P p s m meth c args cJ6_numberOfLeadingZeros_0f7a4 2 wsJ6_numberOfLeadingZeros_0f7a4 RJ6 (some .int))   (x0 : Int32) (x1 : Int32)    (hP : va_P D vwCl ws s.heap) (hD : va_D (fun _ => True) ws) : ∀ (ls : Array Slot), lp_J6_numberOfLeadingZeros_0f7a4_48 x0 x1 = some out → lv_has ls 2 [(0, .int x0), (1, .int x1)] → W p l e (headSpec wsJ6_numberOfLeadingZeros_0f7a4 { frames := 0, cells := 0, slots := 0, locals := 0 }).room s m args below meth c s.heap [] 0 0 (MQ below (qs_Q (some (.int out))) args s 0 0 (fun _ => False)) (F0 m 48 ls []) := by
  obtain ⟨hx, hb, hml, hown, hts, hr, hlocks⟩ := id C0
  have hcf : CallFix p m c cJ6_numberOfLeadingZeros_0f7a4 2 s args wsJ6_numberOfLeadingZeros_0f7a4 RJ6 := ⟨hx, hb, hml, hown, hts⟩
  intro ls hf hl
  unfold lp_J6_numberOfLeadingZeros_0f7a4_48 at hf
  refine lv_iload_n hx hb dJ6_numberOfLeadingZeros_0f7a4_48 rfl (lv_at hl 0 rfl) ?_
  refine lv_bipush (v := 16) hx hb dJ6_numberOfLeadingZeros_0f7a4_49 (by decide) ?_
  refine lv_icmp_lt (tgt := 61) hx hb dJ6_numberOfLeadingZeros_0f7a4_51 (by decide) (fun c4 => ?_) (fun c4 => ?_)
  · have hf := it_p c4 hf
    refine lv_iload_n hx hb dJ6_numberOfLeadingZeros_0f7a4_61 rfl (lv_at hl 0 rfl) ?_
    refine lv_iconst (v := 4) hx hb dJ6_numberOfLeadingZeros_0f7a4_62 (by decide) ?_
    refine lv_icmp_lt (tgt := 73) hx hb dJ6_numberOfLeadingZeros_0f7a4_63 (by decide) (fun c5 => ?_) (fun c5 => ?_)
    · have hf := it_p c5 hf
      refine lv_iload_n hx hb dJ6_numberOfLeadingZeros_0f7a4_73 rfl (lv_at hl 1 rfl) ?_
      refine lv_iload_n hx hb dJ6_numberOfLeadingZeros_0f7a4_74 rfl (lv_at hl 0 rfl) ?_
      refine lv_iconst (v := 1) hx hb dJ6_numberOfLeadingZeros_0f7a4_75 (by decide) ?_
      refine lv_iushr hx hb dJ6_numberOfLeadingZeros_0f7a4_76 rfl ?_
      refine lv_isub hx hb dJ6_numberOfLeadingZeros_0f7a4_77 ?_
      obtain rfl := so_i hf
      exact W.iret (v := (x1 - (((Int32.toUInt32 x0) >>> ((Int32.toUInt32 1) &&& Int32.toUInt32 31)).toInt32))) hx hb hr (fun t ht _ => ⟨rfl, ht⟩) (fun _ h => absurd h List.not_mem_nil) dJ6_numberOfLeadingZeros_0f7a4_78
    · have hf := it_n c5 hf
      refine lv_iinc (v := (x1 + (-2))) (lv' := [(1, .int (x1 + (-2))), (0, .int x0)]) hx hb dJ6_numberOfLeadingZeros_0f7a4_66 hl (k := 1) rfl rfl (by decide) rfl (fun ls hl => ?_)
      refine lv_iload_n hx hb dJ6_numberOfLeadingZeros_0f7a4_69 rfl (lv_at hl 1 rfl) ?_
      refine lv_iconst (v := 2) hx hb dJ6_numberOfLeadingZeros_0f7a4_70 (by decide) ?_
      refine lv_iushr hx hb dJ6_numberOfLeadingZeros_0f7a4_71 rfl ?_
      refine lv_topi (fun y6 e7 => ?_)
      have hf := lt_s' e7 hf
      refine lv_istore_n (lv' := [(0, .int y6), (1, .int (x1 + (-2)))]) hx hb dJ6_numberOfLeadingZeros_0f7a4_72 rfl hl (by decide) rfl (fun ls hl => ?_)
      refine lv_iload_n hx hb dJ6_numberOfLeadingZeros_0f7a4_73 rfl (lv_at hl 1 rfl) ?_
      refine lv_iload_n hx hb dJ6_numberOfLeadingZeros_0f7a4_74 rfl (lv_at hl 0 rfl) ?_
      refine lv_iconst (v := 1) hx hb dJ6_numberOfLeadingZeros_0f7a4_75 (by decide) ?_
      refine lv_iushr hx hb dJ6_numberOfLeadingZeros_0f7a4_76 rfl ?_
      refine lv_isub hx hb dJ6_numberOfLeadingZeros_0f7a4_77 ?_
      obtain rfl := so_i hf
      exact W.iret (v := ((x1 + (-2)) - (((Int32.toUInt32 y6) >>> ((Int32.toUInt32 1) &&& Int32.toUInt32 31)).toInt32))) hx hb hr (fun t ht _ => ⟨rfl, ht⟩) (fun _ h => absurd h List.not_mem_nil) dJ6_numberOfLeadingZeros_0f7a4_78
  · have hf := it_n c4 hf
    refine lv_iinc (v := (x1 + (-4))) (lv' := [(1, .int (x1 + (-4))), (0, .int x0)]) hx hb dJ6_numberOfLeadingZeros_0f7a4_54 hl (k := 1) rfl rfl (by decide) rfl (fun ls hl => ?_)
    refine lv_iload_n hx hb dJ6_numberOfLeadingZeros_0f7a4_57 rfl (lv_at hl 1 rfl) ?_
    refine lv_iconst (v := 4) hx hb dJ6_numberOfLeadingZeros_0f7a4_58 (by decide) ?_
    refine lv_iushr hx hb dJ6_numberOfLeadingZeros_0f7a4_59 rfl ?_
    refine lv_topi (fun y8 e9 => ?_)
    have hf := lt_s' e9 hf
    refine lv_istore_n (lv' := [(0, .int y8), (1, .int (x1 + (-4)))]) hx hb dJ6_numberOfLeadingZeros_0f7a4_60 rfl hl (by decide) rfl (fun ls hl => ?_)
    refine lv_iload_n hx hb dJ6_numberOfLeadingZeros_0f7a4_61 rfl (lv_at hl 0 rfl) ?_
    refine lv_iconst (v := 4) hx hb dJ6_numberOfLeadingZeros_0f7a4_62 (by decide) ?_
    refine lv_icmp_lt (tgt := 73) hx hb dJ6_numberOfLeadingZeros_0f7a4_63 (by decide) (fun c10 => ?_) (fun c10 => ?_)
    · have hf := it_p c10 hf
      refine lv_iload_n hx hb dJ6_numberOfLeadingZeros_0f7a4_73 rfl (lv_at hl 1 rfl) ?_
      refine lv_iload_n hx hb dJ6_numberOfLeadingZeros_0f7a4_74 rfl (lv_at hl 0 rfl) ?_
      refine lv_iconst (v := 1) hx hb dJ6_numberOfLeadingZeros_0f7a4_75 (by decide) ?_
      refine lv_iushr hx hb dJ6_numberOfLeadingZeros_0f7a4_76 rfl ?_
      refine lv_isub hx hb dJ6_numberOfLeadingZeros_0f7a4_77 ?_
      obtain rfl := so_i hf
      exact W.iret (v := ((x1 + (-4)) - (((Int32.toUInt32 y8) >>> ((Int32.toUInt32 1) &&& Int32.toUInt32 31)).toInt32))) hx hb hr (fun t ht _ => ⟨rfl, ht⟩) (fun _ h => absurd h List.not_mem_nil) dJ6_numberOfLeadingZeros_0f7a4_78
    · have hf := it_n c10 hf
      refine lv_iinc (v := ((x1 + (-4)) + (-2))) (lv' := [(1, .int ((x1 + (-4)) + (-2))), (0, .int y8)]) hx hb dJ6_numberOfLeadingZeros_0f7a4_66 hl (k := 1) rfl rfl (by decide) rfl (fun ls hl => ?_)
      refine lv_iload_n hx hb dJ6_numberOfLeadingZeros_0f7a4_69 rfl (lv_at hl 1 rfl) ?_
      refine lv_iconst (v := 2) hx hb dJ6_numberOfLeadingZeros_0f7a4_70 (by decide) ?_
      refine lv_iushr hx hb dJ6_numberOfLeadingZeros_0f7a4_71 rfl ?_
      refine lv_topi (fun y11 e12 => ?_)
      have hf := lt_s' e12 hf
      refine lv_istore_n (lv' := [(0, .int y11), (1, .int ((x1 + (-4)) + (-2)))]) hx hb dJ6_numberOfLeadingZeros_0f7a4_72 rfl hl (by decide) rfl (fun ls hl => ?_)
      refine lv_iload_n hx hb dJ6_numberOfLeadingZeros_0f7a4_73 rfl (lv_at hl 1 rfl) ?_
      refine lv_iload_n hx hb dJ6_numberOfLeadingZeros_0f7a4_74 rfl (lv_at hl 0 rfl) ?_
      refine lv_iconst (v := 1) hx hb dJ6_numberOfLeadingZeros_0f7a4_75 (by decide) ?_
      refine lv_iushr hx hb dJ6_numberOfLeadingZeros_0f7a4_76 rfl ?_
      refine lv_isub hx hb dJ6_numberOfLeadingZeros_0f7a4_77 ?_
      obtain rfl := so_i hf
      exact W.iret (v := (((x1 + (-4)) + (-2)) - (((Int32.toUInt32 y11) >>> ((Int32.toUInt32 1) &&& Int32.toUInt32 31)).toInt32))) hx hb hr (fun t ht _ => ⟨rfl, ht⟩) (fun _ h => absurd h List.not_mem_nil) dJ6_numberOfLeadingZeros_0f7a4_78

set_option maxHeartbeats 4000000 in
set_option maxRecDepth 100000 in
theorem wl_J6_numberOfLeadingZeros_0f7a4_33 {p : Program} {e : Env} {s : State} {m : MethodId} {args : Array Value} {below : List Frame} {meth : Method} {c : Code} (l : Launch) (D : va_G) (k : kt_T) (A : Nat → Nat) (ws : va_W)   (out : Int32) (hK : kk_P D k s) (C0 : cx_P p s m meth c args cJ6_numberOfLeadingZeros_0f7a4 2 wsJ6_numberOfLeadingZeros_0f7a4 RJ6 (some .int))   (x0 : Int32) (x1 : Int32)    (hP : va_P D vwCl ws s.heap) (hD : va_D (fun _ => True) ws) : ∀ (ls : Array Slot), lp_J6_numberOfLeadingZeros_0f7a4_33 x0 x1 = some out → lv_has ls 2 [(0, .int x0), (1, .int x1)] → W p l e (headSpec wsJ6_numberOfLeadingZeros_0f7a4 { frames := 0, cells := 0, slots := 0, locals := 0 }).room s m args below meth c s.heap [] 0 0 (MQ below (qs_Q (some (.int out))) args s 0 0 (fun _ => False)) (F0 m 33 ls []) := by
  obtain ⟨hx, hb, hml, hown, hts, hr, hlocks⟩ := id C0
  have hcf : CallFix p m c cJ6_numberOfLeadingZeros_0f7a4 2 s args wsJ6_numberOfLeadingZeros_0f7a4 RJ6 := ⟨hx, hb, hml, hown, hts⟩
  intro ls hf hl
  unfold lp_J6_numberOfLeadingZeros_0f7a4_33 at hf
  refine lv_iload_n hx hb dJ6_numberOfLeadingZeros_0f7a4_33 rfl (lv_at hl 0 rfl) ?_
  refine lv_sipush (v := 256) hx hb dJ6_numberOfLeadingZeros_0f7a4_34 (by decide) ?_
  refine lv_icmp_lt (tgt := 48) hx hb dJ6_numberOfLeadingZeros_0f7a4_37 (by decide) (fun c3 => ?_) (fun c3 => ?_)
  · have hf := it_p c3 hf
    exact wl_J6_numberOfLeadingZeros_0f7a4_48 l D k A ws _ hK C0 x0 x1 hP hD _ hf (lv_sub hl [0, 1] rfl)
  · have hf := it_n c3 hf
    refine lv_iinc (v := (x1 + (-8))) (lv' := [(1, .int (x1 + (-8))), (0, .int x0)]) hx hb dJ6_numberOfLeadingZeros_0f7a4_40 hl (k := 1) rfl rfl (by decide) rfl (fun ls hl => ?_)
    refine lv_iload_n hx hb dJ6_numberOfLeadingZeros_0f7a4_43 rfl (lv_at hl 1 rfl) ?_
    refine lv_bipush (v := 8) hx hb dJ6_numberOfLeadingZeros_0f7a4_44 (by decide) ?_
    refine lv_iushr hx hb dJ6_numberOfLeadingZeros_0f7a4_46 rfl ?_
    refine lv_topi (fun y13 e14 => ?_)
    have hf := lt_s' e14 hf
    refine lv_istore_n (lv' := [(0, .int y13), (1, .int (x1 + (-8)))]) hx hb dJ6_numberOfLeadingZeros_0f7a4_47 rfl hl (by decide) rfl (fun ls hl => ?_)
    exact wl_J6_numberOfLeadingZeros_0f7a4_48 l D k A ws _ hK C0 y13 (x1 + (-8)) hP hD _ hf (lv_sub hl [0, 1] rfl)

set_option maxHeartbeats 4000000 in
set_option maxRecDepth 100000 in
theorem cz_J6_numberOfLeadingZeros_0f7a4 (l : Launch) (D : va_G) (k : kt_T) (A : Nat → Nat) (ws : va_W)    (p1 : Int32) (out : Int32) (hf : pf_J6_numberOfLeadingZeros_0f7a4 p1 = some out)   : Met l yJ6_numberOfLeadingZeros_0f7a4 wsJ6_numberOfLeadingZeros_0f7a4 { frames := 0, cells := 0, slots := 0, locals := 0 } (va_Pc [.int p1] (pw_P D k ws)) (qs_Q (some (.int out))) 0 0 (fun _ => False) := by
  refine Met.ofW (cc := cJ6_numberOfLeadingZeros_0f7a4) (maxL := 2) (ret := (some .int)) (by decide) rfl ?_
  intro p e s m args below meth c s₁ B hml hv
  obtain ⟨rfl, hP, hK, hD⟩ := hv
  have C0 : cx_P p s m meth c [.int p1].toArray cJ6_numberOfLeadingZeros_0f7a4 2 wsJ6_numberOfLeadingZeros_0f7a4 RJ6 (some .int) := ⟨B.exec, B.bytes, hml, findClass_of_methodNamed B.named, atoms_spec (ws := wsJ6_numberOfLeadingZeros_0f7a4) B.pre, B.returns, B.notSynchronized⟩
  obtain ⟨hx, hb, hml, hown, hts, hr, hlocks⟩ := id C0
  have hcf : CallFix p m c cJ6_numberOfLeadingZeros_0f7a4 2 s [.int p1].toArray wsJ6_numberOfLeadingZeros_0f7a4 RJ6 := ⟨hx, hb, hml, hown, hts⟩
  have w_0 := hts (.constant RJ6 264 (65536)) (List.mem_of_getElem? (i := 1) rfl)
  have hl := lv_entry ([.int p1]) (n := 2) (Nat.le_of_ble_eq_true rfl)
  rw [lg_entry_eq]
  generalize (lg_sl ([.int p1]) ++ List.replicate (2 - (lg_sl ([.int p1])).length) Slot.unset).toArray = ls at hl ⊢
  have hl : lv_has ls 2 [(0, .int p1)] := hl
  unfold pf_J6_numberOfLeadingZeros_0f7a4 at hf
  refine lv_iload_n hx hb dJ6_numberOfLeadingZeros_0f7a4_0 rfl (lv_at hl 0 rfl) ?_
  refine lv_if_gt (tgt := 15) hx hb dJ6_numberOfLeadingZeros_0f7a4_1 (by decide) (fun c1 => ?_) (fun c1 => ?_)
  · have hf := it_p c1 hf
    refine lv_bipush (v := 31) hx hb dJ6_numberOfLeadingZeros_0f7a4_15 (by decide) ?_
    refine lv_istore_n (lv' := [(1, .int 31), (0, .int p1)]) hx hb dJ6_numberOfLeadingZeros_0f7a4_17 rfl hl (by decide) rfl (fun ls hl => ?_)
    refine lv_iload_n hx hb dJ6_numberOfLeadingZeros_0f7a4_18 rfl (lv_at hl 1 rfl) ?_
    refine lv_ldcw hx hb hown w_0 dJ6_numberOfLeadingZeros_0f7a4_19 ?_
    refine lv_icmp_lt (tgt := 33) hx hb dJ6_numberOfLeadingZeros_0f7a4_22 (by decide) (fun c2 => ?_) (fun c2 => ?_)
    · have hf := it_p c2 hf
      exact wl_J6_numberOfLeadingZeros_0f7a4_33 l D k A ws _ hK C0 p1 31 hP hD _ hf (lv_sub hl [1, 0] rfl)
    · have hf := it_n c2 hf
      refine lv_iinc (v := 15) (lv' := [(1, .int 15), (0, .int p1)]) hx hb dJ6_numberOfLeadingZeros_0f7a4_25 hl (k := 0) rfl (by decide) (by decide) rfl (fun ls hl => ?_)
      refine lv_iload_n hx hb dJ6_numberOfLeadingZeros_0f7a4_28 rfl (lv_at hl 1 rfl) ?_
      refine lv_bipush (v := 16) hx hb dJ6_numberOfLeadingZeros_0f7a4_29 (by decide) ?_
      refine lv_iushr hx hb dJ6_numberOfLeadingZeros_0f7a4_31 rfl ?_
      refine lv_topi (fun y15 e16 => ?_)
      have hf := lt_s' e16 hf
      refine lv_istore_n (lv' := [(0, .int y15), (1, .int 15)]) hx hb dJ6_numberOfLeadingZeros_0f7a4_32 rfl hl (by decide) rfl (fun ls hl => ?_)
      exact wl_J6_numberOfLeadingZeros_0f7a4_33 l D k A ws _ hK C0 y15 15 hP hD _ hf (lv_sub hl [0, 1] rfl)
  · have hf := it_n c1 hf
    refine lv_iload_n hx hb dJ6_numberOfLeadingZeros_0f7a4_4 rfl (lv_at hl 0 rfl) ?_
    refine lv_if_ne (tgt := 13) hx hb dJ6_numberOfLeadingZeros_0f7a4_5 (by decide) (fun c17 => ?_) (fun c17 => ?_)
    · have hf := it_n c17 hf
      refine lv_iconst (v := 0) hx hb dJ6_numberOfLeadingZeros_0f7a4_13 (by decide) ?_
      obtain rfl := so_i hf
      exact W.iret (v := 0) hx hb hr (fun t ht _ => ⟨rfl, ht⟩) (fun _ h => absurd h List.not_mem_nil) dJ6_numberOfLeadingZeros_0f7a4_14
    · have hf := it_p c17 hf
      refine lv_bipush (v := 32) hx hb dJ6_numberOfLeadingZeros_0f7a4_8 (by decide) ?_
      refine lv_goto (tgt := 14) hx hb dJ6_numberOfLeadingZeros_0f7a4_10 (by decide) ?_
      obtain rfl := so_i hf
      exact W.iret (v := 32) hx hb hr (fun t ht _ => ⟨rfl, ht⟩) (fun _ h => absurd h List.not_mem_nil) dJ6_numberOfLeadingZeros_0f7a4_14

def lp_J6_numberOfTrailingZeros_0f7a4_49  (x0 : Int32) (x1 : Int32) : Option (Int32) :=
  if x0 ≤ 16 then
    if x0 ≤ 4 then
      some (x1 + (((Int32.toUInt32 x0) >>> ((Int32.toUInt32 1) &&& Int32.toUInt32 31)).toInt32))
    else
      lt_O (((Int32.toUInt32 x0) >>> ((Int32.toUInt32 2) &&& Int32.toUInt32 31)).toInt32) (fun y8 =>
        some ((x1 + 2) + (((Int32.toUInt32 y8) >>> ((Int32.toUInt32 1) &&& Int32.toUInt32 31)).toInt32)))
  else
    lt_O (((Int32.toUInt32 x0) >>> ((Int32.toUInt32 4) &&& Int32.toUInt32 31)).toInt32) (fun y10 =>
      if y10 ≤ 4 then
        some ((x1 + 4) + (((Int32.toUInt32 y10) >>> ((Int32.toUInt32 1) &&& Int32.toUInt32 31)).toInt32))
      else
        lt_O (((Int32.toUInt32 y10) >>> ((Int32.toUInt32 2) &&& Int32.toUInt32 31)).toInt32) (fun y13 =>
          some (((x1 + 4) + 2) + (((Int32.toUInt32 y13) >>> ((Int32.toUInt32 1) &&& Int32.toUInt32 31)).toInt32))))

def lp_J6_numberOfTrailingZeros_0f7a4_34  (x0 : Int32) (x1 : Int32) : Option (Int32) :=
  if x0 ≤ 256 then
    lp_J6_numberOfTrailingZeros_0f7a4_49 x0 x1
  else
    lt_O (((Int32.toUInt32 x0) >>> ((Int32.toUInt32 8) &&& Int32.toUInt32 31)).toInt32) (fun y15 =>
      lp_J6_numberOfTrailingZeros_0f7a4_49 y15 (x1 + 8))

def pf_J6_numberOfTrailingZeros_0f7a4   (p1 : Int32) : Option (Int32) :=
  lt_O ((p1 ^^^ (-1)) &&& (p1 - 1)) (fun y1 =>
    if 0 < y1 then
      if y1 ≤ 65536 then
        lp_J6_numberOfTrailingZeros_0f7a4_34 y1 1
      else
        lt_O (((Int32.toUInt32 y1) >>> ((Int32.toUInt32 16) &&& Int32.toUInt32 31)).toInt32) (fun y17 =>
          lp_J6_numberOfTrailingZeros_0f7a4_34 y17 17)
    else
      some (y1 &&& 32))

set_option maxHeartbeats 4000000 in
set_option maxRecDepth 100000 in
theorem wl_J6_numberOfTrailingZeros_0f7a4_49 {p : Program} {e : Env} {s : State} {m : MethodId} {args : Array Value} {below : List Frame} {meth : Method} {c : Code} (l : Launch) (D : va_G) (k : kt_T) (A : Nat → Nat) (ws : va_W)   (out : Int32) (hK : kk_P D k s) (C0 : cx_P p s m meth c args cJ6_numberOfTrailingZeros_0f7a4 2 wsJ6_numberOfTrailingZeros_0f7a4 RJ6 (some .int))   (x0 : Int32) (x1 : Int32)    (hP : va_P D vwCl ws s.heap) (hD : va_D (fun _ => True) ws) : ∀ (ls : Array Slot), lp_J6_numberOfTrailingZeros_0f7a4_49 x0 x1 = some out → lv_has ls 2 [(0, .int x0), (1, .int x1)] → W p l e (headSpec wsJ6_numberOfTrailingZeros_0f7a4 { frames := 0, cells := 0, slots := 0, locals := 0 }).room s m args below meth c s.heap [] 0 0 (MQ below (qs_Q (some (.int out))) args s 0 0 (fun _ => False)) (F0 m 49 ls []) := by
  obtain ⟨hx, hb, hml, hown, hts, hr, hlocks⟩ := id C0
  have hcf : CallFix p m c cJ6_numberOfTrailingZeros_0f7a4 2 s args wsJ6_numberOfTrailingZeros_0f7a4 RJ6 := ⟨hx, hb, hml, hown, hts⟩
  intro ls hf hl
  unfold lp_J6_numberOfTrailingZeros_0f7a4_49 at hf
  refine lv_iload_n hx hb dJ6_numberOfTrailingZeros_0f7a4_49 rfl (lv_at hl 0 rfl) ?_
  refine lv_bipush (v := 16) hx hb dJ6_numberOfTrailingZeros_0f7a4_50 (by decide) ?_
  refine lv_icmp_le (tgt := 62) hx hb dJ6_numberOfTrailingZeros_0f7a4_52 (by decide) (fun c6 => ?_) (fun c6 => ?_)
  · have hf := it_p c6 hf
    refine lv_iload_n hx hb dJ6_numberOfTrailingZeros_0f7a4_62 rfl (lv_at hl 0 rfl) ?_
    refine lv_iconst (v := 4) hx hb dJ6_numberOfTrailingZeros_0f7a4_63 (by decide) ?_
    refine lv_icmp_le (tgt := 74) hx hb dJ6_numberOfTrailingZeros_0f7a4_64 (by decide) (fun c7 => ?_) (fun c7 => ?_)
    · have hf := it_p c7 hf
      refine lv_iload_n hx hb dJ6_numberOfTrailingZeros_0f7a4_74 rfl (lv_at hl 1 rfl) ?_
      refine lv_iload_n hx hb dJ6_numberOfTrailingZeros_0f7a4_75 rfl (lv_at hl 0 rfl) ?_
      refine lv_iconst (v := 1) hx hb dJ6_numberOfTrailingZeros_0f7a4_76 (by decide) ?_
      refine lv_iushr hx hb dJ6_numberOfTrailingZeros_0f7a4_77 rfl ?_
      refine lv_iadd hx hb dJ6_numberOfTrailingZeros_0f7a4_78 ?_
      obtain rfl := so_i hf
      exact W.iret (v := (x1 + (((Int32.toUInt32 x0) >>> ((Int32.toUInt32 1) &&& Int32.toUInt32 31)).toInt32))) hx hb hr (fun t ht _ => ⟨rfl, ht⟩) (fun _ h => absurd h List.not_mem_nil) dJ6_numberOfTrailingZeros_0f7a4_79
    · have hf := it_n c7 hf
      refine lv_iinc (v := (x1 + 2)) (lv' := [(1, .int (x1 + 2)), (0, .int x0)]) hx hb dJ6_numberOfTrailingZeros_0f7a4_67 hl (k := 1) rfl rfl (by decide) rfl (fun ls hl => ?_)
      refine lv_iload_n hx hb dJ6_numberOfTrailingZeros_0f7a4_70 rfl (lv_at hl 1 rfl) ?_
      refine lv_iconst (v := 2) hx hb dJ6_numberOfTrailingZeros_0f7a4_71 (by decide) ?_
      refine lv_iushr hx hb dJ6_numberOfTrailingZeros_0f7a4_72 rfl ?_
      refine lv_topi (fun y8 e9 => ?_)
      have hf := lt_s' e9 hf
      refine lv_istore_n (lv' := [(0, .int y8), (1, .int (x1 + 2))]) hx hb dJ6_numberOfTrailingZeros_0f7a4_73 rfl hl (by decide) rfl (fun ls hl => ?_)
      refine lv_iload_n hx hb dJ6_numberOfTrailingZeros_0f7a4_74 rfl (lv_at hl 1 rfl) ?_
      refine lv_iload_n hx hb dJ6_numberOfTrailingZeros_0f7a4_75 rfl (lv_at hl 0 rfl) ?_
      refine lv_iconst (v := 1) hx hb dJ6_numberOfTrailingZeros_0f7a4_76 (by decide) ?_
      refine lv_iushr hx hb dJ6_numberOfTrailingZeros_0f7a4_77 rfl ?_
      refine lv_iadd hx hb dJ6_numberOfTrailingZeros_0f7a4_78 ?_
      obtain rfl := so_i hf
      exact W.iret (v := ((x1 + 2) + (((Int32.toUInt32 y8) >>> ((Int32.toUInt32 1) &&& Int32.toUInt32 31)).toInt32))) hx hb hr (fun t ht _ => ⟨rfl, ht⟩) (fun _ h => absurd h List.not_mem_nil) dJ6_numberOfTrailingZeros_0f7a4_79
  · have hf := it_n c6 hf
    refine lv_iinc (v := (x1 + 4)) (lv' := [(1, .int (x1 + 4)), (0, .int x0)]) hx hb dJ6_numberOfTrailingZeros_0f7a4_55 hl (k := 1) rfl rfl (by decide) rfl (fun ls hl => ?_)
    refine lv_iload_n hx hb dJ6_numberOfTrailingZeros_0f7a4_58 rfl (lv_at hl 1 rfl) ?_
    refine lv_iconst (v := 4) hx hb dJ6_numberOfTrailingZeros_0f7a4_59 (by decide) ?_
    refine lv_iushr hx hb dJ6_numberOfTrailingZeros_0f7a4_60 rfl ?_
    refine lv_topi (fun y10 e11 => ?_)
    have hf := lt_s' e11 hf
    refine lv_istore_n (lv' := [(0, .int y10), (1, .int (x1 + 4))]) hx hb dJ6_numberOfTrailingZeros_0f7a4_61 rfl hl (by decide) rfl (fun ls hl => ?_)
    refine lv_iload_n hx hb dJ6_numberOfTrailingZeros_0f7a4_62 rfl (lv_at hl 0 rfl) ?_
    refine lv_iconst (v := 4) hx hb dJ6_numberOfTrailingZeros_0f7a4_63 (by decide) ?_
    refine lv_icmp_le (tgt := 74) hx hb dJ6_numberOfTrailingZeros_0f7a4_64 (by decide) (fun c12 => ?_) (fun c12 => ?_)
    · have hf := it_p c12 hf
      refine lv_iload_n hx hb dJ6_numberOfTrailingZeros_0f7a4_74 rfl (lv_at hl 1 rfl) ?_
      refine lv_iload_n hx hb dJ6_numberOfTrailingZeros_0f7a4_75 rfl (lv_at hl 0 rfl) ?_
      refine lv_iconst (v := 1) hx hb dJ6_numberOfTrailingZeros_0f7a4_76 (by decide) ?_
      refine lv_iushr hx hb dJ6_numberOfTrailingZeros_0f7a4_77 rfl ?_
      refine lv_iadd hx hb dJ6_numberOfTrailingZeros_0f7a4_78 ?_
      obtain rfl := so_i hf
      exact W.iret (v := ((x1 + 4) + (((Int32.toUInt32 y10) >>> ((Int32.toUInt32 1) &&& Int32.toUInt32 31)).toInt32))) hx hb hr (fun t ht _ => ⟨rfl, ht⟩) (fun _ h => absurd h List.not_mem_nil) dJ6_numberOfTrailingZeros_0f7a4_79
    · have hf := it_n c12 hf
      refine lv_iinc (v := ((x1 + 4) + 2)) (lv' := [(1, .int ((x1 + 4) + 2)), (0, .int y10)]) hx hb dJ6_numberOfTrailingZeros_0f7a4_67 hl (k := 1) rfl rfl (by decide) rfl (fun ls hl => ?_)
      refine lv_iload_n hx hb dJ6_numberOfTrailingZeros_0f7a4_70 rfl (lv_at hl 1 rfl) ?_
      refine lv_iconst (v := 2) hx hb dJ6_numberOfTrailingZeros_0f7a4_71 (by decide) ?_
      refine lv_iushr hx hb dJ6_numberOfTrailingZeros_0f7a4_72 rfl ?_
      refine lv_topi (fun y13 e14 => ?_)
      have hf := lt_s' e14 hf
      refine lv_istore_n (lv' := [(0, .int y13), (1, .int ((x1 + 4) + 2))]) hx hb dJ6_numberOfTrailingZeros_0f7a4_73 rfl hl (by decide) rfl (fun ls hl => ?_)
      refine lv_iload_n hx hb dJ6_numberOfTrailingZeros_0f7a4_74 rfl (lv_at hl 1 rfl) ?_
      refine lv_iload_n hx hb dJ6_numberOfTrailingZeros_0f7a4_75 rfl (lv_at hl 0 rfl) ?_
      refine lv_iconst (v := 1) hx hb dJ6_numberOfTrailingZeros_0f7a4_76 (by decide) ?_
      refine lv_iushr hx hb dJ6_numberOfTrailingZeros_0f7a4_77 rfl ?_
      refine lv_iadd hx hb dJ6_numberOfTrailingZeros_0f7a4_78 ?_
      obtain rfl := so_i hf
      exact W.iret (v := (((x1 + 4) + 2) + (((Int32.toUInt32 y13) >>> ((Int32.toUInt32 1) &&& Int32.toUInt32 31)).toInt32))) hx hb hr (fun t ht _ => ⟨rfl, ht⟩) (fun _ h => absurd h List.not_mem_nil) dJ6_numberOfTrailingZeros_0f7a4_79

set_option maxHeartbeats 4000000 in
set_option maxRecDepth 100000 in
theorem wl_J6_numberOfTrailingZeros_0f7a4_34 {p : Program} {e : Env} {s : State} {m : MethodId} {args : Array Value} {below : List Frame} {meth : Method} {c : Code} (l : Launch) (D : va_G) (k : kt_T) (A : Nat → Nat) (ws : va_W)   (out : Int32) (hK : kk_P D k s) (C0 : cx_P p s m meth c args cJ6_numberOfTrailingZeros_0f7a4 2 wsJ6_numberOfTrailingZeros_0f7a4 RJ6 (some .int))   (x0 : Int32) (x1 : Int32)    (hP : va_P D vwCl ws s.heap) (hD : va_D (fun _ => True) ws) : ∀ (ls : Array Slot), lp_J6_numberOfTrailingZeros_0f7a4_34 x0 x1 = some out → lv_has ls 2 [(0, .int x0), (1, .int x1)] → W p l e (headSpec wsJ6_numberOfTrailingZeros_0f7a4 { frames := 0, cells := 0, slots := 0, locals := 0 }).room s m args below meth c s.heap [] 0 0 (MQ below (qs_Q (some (.int out))) args s 0 0 (fun _ => False)) (F0 m 34 ls []) := by
  obtain ⟨hx, hb, hml, hown, hts, hr, hlocks⟩ := id C0
  have hcf : CallFix p m c cJ6_numberOfTrailingZeros_0f7a4 2 s args wsJ6_numberOfTrailingZeros_0f7a4 RJ6 := ⟨hx, hb, hml, hown, hts⟩
  intro ls hf hl
  unfold lp_J6_numberOfTrailingZeros_0f7a4_34 at hf
  refine lv_iload_n hx hb dJ6_numberOfTrailingZeros_0f7a4_34 rfl (lv_at hl 0 rfl) ?_
  refine lv_sipush (v := 256) hx hb dJ6_numberOfTrailingZeros_0f7a4_35 (by decide) ?_
  refine lv_icmp_le (tgt := 49) hx hb dJ6_numberOfTrailingZeros_0f7a4_38 (by decide) (fun c5 => ?_) (fun c5 => ?_)
  · have hf := it_p c5 hf
    exact wl_J6_numberOfTrailingZeros_0f7a4_49 l D k A ws _ hK C0 x0 x1 hP hD _ hf (lv_sub hl [0, 1] rfl)
  · have hf := it_n c5 hf
    refine lv_iinc (v := (x1 + 8)) (lv' := [(1, .int (x1 + 8)), (0, .int x0)]) hx hb dJ6_numberOfTrailingZeros_0f7a4_41 hl (k := 1) rfl rfl (by decide) rfl (fun ls hl => ?_)
    refine lv_iload_n hx hb dJ6_numberOfTrailingZeros_0f7a4_44 rfl (lv_at hl 1 rfl) ?_
    refine lv_bipush (v := 8) hx hb dJ6_numberOfTrailingZeros_0f7a4_45 (by decide) ?_
    refine lv_iushr hx hb dJ6_numberOfTrailingZeros_0f7a4_47 rfl ?_
    refine lv_topi (fun y15 e16 => ?_)
    have hf := lt_s' e16 hf
    refine lv_istore_n (lv' := [(0, .int y15), (1, .int (x1 + 8))]) hx hb dJ6_numberOfTrailingZeros_0f7a4_48 rfl hl (by decide) rfl (fun ls hl => ?_)
    exact wl_J6_numberOfTrailingZeros_0f7a4_49 l D k A ws _ hK C0 y15 (x1 + 8) hP hD _ hf (lv_sub hl [0, 1] rfl)

set_option maxHeartbeats 4000000 in
set_option maxRecDepth 100000 in
theorem cz_J6_numberOfTrailingZeros_0f7a4 (l : Launch) (D : va_G) (k : kt_T) (A : Nat → Nat) (ws : va_W)    (p1 : Int32) (out : Int32) (hf : pf_J6_numberOfTrailingZeros_0f7a4 p1 = some out)   : Met l yJ6_numberOfTrailingZeros_0f7a4 wsJ6_numberOfTrailingZeros_0f7a4 { frames := 0, cells := 0, slots := 0, locals := 0 } (va_Pc [.int p1] (pw_P D k ws)) (qs_Q (some (.int out))) 0 0 (fun _ => False) := by
  refine Met.ofW (cc := cJ6_numberOfTrailingZeros_0f7a4) (maxL := 2) (ret := (some .int)) (by decide) rfl ?_
  intro p e s m args below meth c s₁ B hml hv
  obtain ⟨rfl, hP, hK, hD⟩ := hv
  have C0 : cx_P p s m meth c [.int p1].toArray cJ6_numberOfTrailingZeros_0f7a4 2 wsJ6_numberOfTrailingZeros_0f7a4 RJ6 (some .int) := ⟨B.exec, B.bytes, hml, findClass_of_methodNamed B.named, atoms_spec (ws := wsJ6_numberOfTrailingZeros_0f7a4) B.pre, B.returns, B.notSynchronized⟩
  obtain ⟨hx, hb, hml, hown, hts, hr, hlocks⟩ := id C0
  have hcf : CallFix p m c cJ6_numberOfTrailingZeros_0f7a4 2 s [.int p1].toArray wsJ6_numberOfTrailingZeros_0f7a4 RJ6 := ⟨hx, hb, hml, hown, hts⟩
  have w_0 := hts (.constant RJ6 264 (65536)) (List.mem_of_getElem? (i := 1) rfl)
  have hl := lv_entry ([.int p1]) (n := 2) (Nat.le_of_ble_eq_true rfl)
  rw [lg_entry_eq]
  generalize (lg_sl ([.int p1]) ++ List.replicate (2 - (lg_sl ([.int p1])).length) Slot.unset).toArray = ls at hl ⊢
  have hl : lv_has ls 2 [(0, .int p1)] := hl
  unfold pf_J6_numberOfTrailingZeros_0f7a4 at hf
  refine lv_iload_n hx hb dJ6_numberOfTrailingZeros_0f7a4_0 rfl (lv_at hl 0 rfl) ?_
  refine lv_iconst (v := (-1)) hx hb dJ6_numberOfTrailingZeros_0f7a4_1 (by decide) ?_
  refine lv_ixor hx hb dJ6_numberOfTrailingZeros_0f7a4_2 ?_
  refine lv_iload_n hx hb dJ6_numberOfTrailingZeros_0f7a4_3 rfl (lv_at hl 0 rfl) ?_
  refine lv_iconst (v := 1) hx hb dJ6_numberOfTrailingZeros_0f7a4_4 (by decide) ?_
  refine lv_isub hx hb dJ6_numberOfTrailingZeros_0f7a4_5 ?_
  refine lv_iand hx hb dJ6_numberOfTrailingZeros_0f7a4_6 ?_
  refine lv_topi (fun y1 e2 => ?_)
  have hf := lt_s' e2 hf
  refine lv_istore_n (lv' := [(0, .int y1)]) hx hb dJ6_numberOfTrailingZeros_0f7a4_7 rfl hl (by decide) rfl (fun ls hl => ?_)
  refine lv_iload_n hx hb dJ6_numberOfTrailingZeros_0f7a4_8 rfl (lv_at hl 0 rfl) ?_
  refine lv_if_gt (tgt := 17) hx hb dJ6_numberOfTrailingZeros_0f7a4_9 (by decide) (fun c3 => ?_) (fun c3 => ?_)
  · have hf := it_p c3 hf
    refine lv_iconst (v := 1) hx hb dJ6_numberOfTrailingZeros_0f7a4_17 (by decide) ?_
    refine lv_istore_n (lv' := [(1, .int 1), (0, .int y1)]) hx hb dJ6_numberOfTrailingZeros_0f7a4_18 rfl hl (by decide) rfl (fun ls hl => ?_)
    refine lv_iload_n hx hb dJ6_numberOfTrailingZeros_0f7a4_19 rfl (lv_at hl 1 rfl) ?_
    refine lv_ldcw hx hb hown w_0 dJ6_numberOfTrailingZeros_0f7a4_20 ?_
    refine lv_icmp_le (tgt := 34) hx hb dJ6_numberOfTrailingZeros_0f7a4_23 (by decide) (fun c4 => ?_) (fun c4 => ?_)
    · have hf := it_p c4 hf
      exact wl_J6_numberOfTrailingZeros_0f7a4_34 l D k A ws _ hK C0 y1 1 hP hD _ hf (lv_sub hl [1, 0] rfl)
    · have hf := it_n c4 hf
      refine lv_iinc (v := 17) (lv' := [(1, .int 17), (0, .int y1)]) hx hb dJ6_numberOfTrailingZeros_0f7a4_26 hl (k := 0) rfl (by decide) (by decide) rfl (fun ls hl => ?_)
      refine lv_iload_n hx hb dJ6_numberOfTrailingZeros_0f7a4_29 rfl (lv_at hl 1 rfl) ?_
      refine lv_bipush (v := 16) hx hb dJ6_numberOfTrailingZeros_0f7a4_30 (by decide) ?_
      refine lv_iushr hx hb dJ6_numberOfTrailingZeros_0f7a4_32 rfl ?_
      refine lv_topi (fun y17 e18 => ?_)
      have hf := lt_s' e18 hf
      refine lv_istore_n (lv' := [(0, .int y17), (1, .int 17)]) hx hb dJ6_numberOfTrailingZeros_0f7a4_33 rfl hl (by decide) rfl (fun ls hl => ?_)
      exact wl_J6_numberOfTrailingZeros_0f7a4_34 l D k A ws _ hK C0 y17 17 hP hD _ hf (lv_sub hl [0, 1] rfl)
  · have hf := it_n c3 hf
    refine lv_iload_n hx hb dJ6_numberOfTrailingZeros_0f7a4_12 rfl (lv_at hl 0 rfl) ?_
    refine lv_bipush (v := 32) hx hb dJ6_numberOfTrailingZeros_0f7a4_13 (by decide) ?_
    refine lv_iand hx hb dJ6_numberOfTrailingZeros_0f7a4_15 ?_
    obtain rfl := so_i hf
    exact W.iret (v := (y1 &&& 32)) hx hb hr (fun t ht _ => ⟨rfl, ht⟩) (fun _ h => absurd h List.not_mem_nil) dJ6_numberOfTrailingZeros_0f7a4_16

def pf_J6_bitCount_0f7a4   (p1 : Int32) : Option (Int32) :=
  lt_O (p1 - ((((Int32.toUInt32 p1) >>> ((Int32.toUInt32 1) &&& Int32.toUInt32 31)).toInt32) &&& 1431655765)) (fun y1 =>
    lt_O ((y1 &&& 858993459) + ((((Int32.toUInt32 y1) >>> ((Int32.toUInt32 2) &&& Int32.toUInt32 31)).toInt32) &&& 858993459)) (fun y3 =>
      lt_O ((y3 + (((Int32.toUInt32 y3) >>> ((Int32.toUInt32 4) &&& Int32.toUInt32 31)).toInt32)) &&& 252645135) (fun y5 =>
        lt_O (y5 + (((Int32.toUInt32 y5) >>> ((Int32.toUInt32 8) &&& Int32.toUInt32 31)).toInt32)) (fun y7 =>
          lt_O (y7 + (((Int32.toUInt32 y7) >>> ((Int32.toUInt32 16) &&& Int32.toUInt32 31)).toInt32)) (fun y9 =>
            some (y9 &&& 63))))))

set_option maxHeartbeats 4000000 in
set_option maxRecDepth 100000 in
theorem cz_J6_bitCount_0f7a4 (l : Launch) (D : va_G) (k : kt_T) (A : Nat → Nat) (ws : va_W)    (p1 : Int32) (out : Int32) (hf : pf_J6_bitCount_0f7a4 p1 = some out)   : Met l yJ6_bitCount_0f7a4 wsJ6_bitCount_0f7a4 { frames := 0, cells := 0, slots := 0, locals := 0 } (va_Pc [.int p1] (pw_P D k ws)) (qs_Q (some (.int out))) 0 0 (fun _ => False) := by
  refine Met.ofW (cc := cJ6_bitCount_0f7a4) (maxL := 1) (ret := (some .int)) (by decide) rfl ?_
  intro p e s m args below meth c s₁ B hml hv
  obtain ⟨rfl, hP, hK, hD⟩ := hv
  have C0 : cx_P p s m meth c [.int p1].toArray cJ6_bitCount_0f7a4 1 wsJ6_bitCount_0f7a4 RJ6 (some .int) := ⟨B.exec, B.bytes, hml, findClass_of_methodNamed B.named, atoms_spec (ws := wsJ6_bitCount_0f7a4) B.pre, B.returns, B.notSynchronized⟩
  obtain ⟨hx, hb, hml, hown, hts, hr, hlocks⟩ := id C0
  have hcf : CallFix p m c cJ6_bitCount_0f7a4 1 s [.int p1].toArray wsJ6_bitCount_0f7a4 RJ6 := ⟨hx, hb, hml, hown, hts⟩
  have w_0 := hts (.constant RJ6 265 (1431655765)) (List.mem_of_getElem? (i := 1) rfl)
  have w_1 := hts (.constant RJ6 266 (858993459)) (List.mem_of_getElem? (i := 2) rfl)
  have w_2 := hts (.constant RJ6 267 (252645135)) (List.mem_of_getElem? (i := 3) rfl)
  have hl := lv_entry ([.int p1]) (n := 1) (Nat.le_of_ble_eq_true rfl)
  rw [lg_entry_eq]
  generalize (lg_sl ([.int p1]) ++ List.replicate (1 - (lg_sl ([.int p1])).length) Slot.unset).toArray = ls at hl ⊢
  have hl : lv_has ls 1 [(0, .int p1)] := hl
  unfold pf_J6_bitCount_0f7a4 at hf
  refine lv_iload_n hx hb dJ6_bitCount_0f7a4_0 rfl (lv_at hl 0 rfl) ?_
  refine lv_iload_n hx hb dJ6_bitCount_0f7a4_1 rfl (lv_at hl 0 rfl) ?_
  refine lv_iconst (v := 1) hx hb dJ6_bitCount_0f7a4_2 (by decide) ?_
  refine lv_iushr hx hb dJ6_bitCount_0f7a4_3 rfl ?_
  refine lv_ldcw hx hb hown w_0 dJ6_bitCount_0f7a4_4 ?_
  refine lv_iand hx hb dJ6_bitCount_0f7a4_7 ?_
  refine lv_isub hx hb dJ6_bitCount_0f7a4_8 ?_
  refine lv_topi (fun y1 e2 => ?_)
  have hf := lt_s' e2 hf
  refine lv_istore_n (lv' := [(0, .int y1)]) hx hb dJ6_bitCount_0f7a4_9 rfl hl (by decide) rfl (fun ls hl => ?_)
  refine lv_iload_n hx hb dJ6_bitCount_0f7a4_10 rfl (lv_at hl 0 rfl) ?_
  refine lv_ldcw hx hb hown w_1 dJ6_bitCount_0f7a4_11 ?_
  refine lv_iand hx hb dJ6_bitCount_0f7a4_14 ?_
  refine lv_iload_n hx hb dJ6_bitCount_0f7a4_15 rfl (lv_at hl 0 rfl) ?_
  refine lv_iconst (v := 2) hx hb dJ6_bitCount_0f7a4_16 (by decide) ?_
  refine lv_iushr hx hb dJ6_bitCount_0f7a4_17 rfl ?_
  refine lv_ldcw hx hb hown w_1 dJ6_bitCount_0f7a4_18 ?_
  refine lv_iand hx hb dJ6_bitCount_0f7a4_21 ?_
  refine lv_iadd hx hb dJ6_bitCount_0f7a4_22 ?_
  refine lv_topi (fun y3 e4 => ?_)
  have hf := lt_s' e4 hf
  refine lv_istore_n (lv' := [(0, .int y3)]) hx hb dJ6_bitCount_0f7a4_23 rfl hl (by decide) rfl (fun ls hl => ?_)
  refine lv_iload_n hx hb dJ6_bitCount_0f7a4_24 rfl (lv_at hl 0 rfl) ?_
  refine lv_iload_n hx hb dJ6_bitCount_0f7a4_25 rfl (lv_at hl 0 rfl) ?_
  refine lv_iconst (v := 4) hx hb dJ6_bitCount_0f7a4_26 (by decide) ?_
  refine lv_iushr hx hb dJ6_bitCount_0f7a4_27 rfl ?_
  refine lv_iadd hx hb dJ6_bitCount_0f7a4_28 ?_
  refine lv_ldcw hx hb hown w_2 dJ6_bitCount_0f7a4_29 ?_
  refine lv_iand hx hb dJ6_bitCount_0f7a4_32 ?_
  refine lv_topi (fun y5 e6 => ?_)
  have hf := lt_s' e6 hf
  refine lv_istore_n (lv' := [(0, .int y5)]) hx hb dJ6_bitCount_0f7a4_33 rfl hl (by decide) rfl (fun ls hl => ?_)
  refine lv_iload_n hx hb dJ6_bitCount_0f7a4_34 rfl (lv_at hl 0 rfl) ?_
  refine lv_iload_n hx hb dJ6_bitCount_0f7a4_35 rfl (lv_at hl 0 rfl) ?_
  refine lv_bipush (v := 8) hx hb dJ6_bitCount_0f7a4_36 (by decide) ?_
  refine lv_iushr hx hb dJ6_bitCount_0f7a4_38 rfl ?_
  refine lv_iadd hx hb dJ6_bitCount_0f7a4_39 ?_
  refine lv_topi (fun y7 e8 => ?_)
  have hf := lt_s' e8 hf
  refine lv_istore_n (lv' := [(0, .int y7)]) hx hb dJ6_bitCount_0f7a4_40 rfl hl (by decide) rfl (fun ls hl => ?_)
  refine lv_iload_n hx hb dJ6_bitCount_0f7a4_41 rfl (lv_at hl 0 rfl) ?_
  refine lv_iload_n hx hb dJ6_bitCount_0f7a4_42 rfl (lv_at hl 0 rfl) ?_
  refine lv_bipush (v := 16) hx hb dJ6_bitCount_0f7a4_43 (by decide) ?_
  refine lv_iushr hx hb dJ6_bitCount_0f7a4_45 rfl ?_
  refine lv_iadd hx hb dJ6_bitCount_0f7a4_46 ?_
  refine lv_topi (fun y9 e10 => ?_)
  have hf := lt_s' e10 hf
  refine lv_istore_n (lv' := [(0, .int y9)]) hx hb dJ6_bitCount_0f7a4_47 rfl hl (by decide) rfl (fun ls hl => ?_)
  refine lv_iload_n hx hb dJ6_bitCount_0f7a4_48 rfl (lv_at hl 0 rfl) ?_
  refine lv_bipush (v := 63) hx hb dJ6_bitCount_0f7a4_49 (by decide) ?_
  refine lv_iand hx hb dJ6_bitCount_0f7a4_51 ?_
  obtain rfl := so_i hf
  exact W.iret (v := (y9 &&& 63)) hx hb hr (fun t ht _ => ⟨rfl, ht⟩) (fun _ h => absurd h List.not_mem_nil) dJ6_bitCount_0f7a4_52

def lp_J7_fill_d0a16_6 (n1 : Nat) (x1 : Int64) (x4 : Int32) : Nat → (Nat → Int64) → Int32 → Option ((Nat → Int64))
  | 0, _, _ => none
  | n + 1, f1, x3 =>
    if x4 ≤ x3 then
      some f1
    else
      ck_O (in_b x3 n1) (
        lp_J7_fill_d0a16_6 n1 x1 x4 n (vp_updL f1 (Int32.toNatClampNeg x3) x1) (x3 + 1))

def pf_J7_fill_d0a16 (f1 : Nat → Int64) (n1 : Nat) (p2 : Int64) : Option ((Nat → Int64)) :=
  lp_J7_fill_d0a16_6 n1 p2 (Int32.ofNat n1) fu_N f1 0

set_option maxHeartbeats 4000000 in
set_option maxRecDepth 100000 in
theorem wl_J7_fill_d0a16_6 {p : Program} {e : Env} {s : State} {m : MethodId} {args : Array Value} {below : List Frame} {meth : Method} {c : Code} (l : Launch) (D : va_G) (k : kt_T) (A : Nat → Nat) (ws : va_W) (q1 : Nat) (n1 : Nat) (out : (Nat → Int64)) (hK : kk_P D k s) (C0 : cx_P p s m meth c args cJ7_fill_d0a16 5 wsJ7_fill_d0a16 RJ7 none)   (x1 : Int64) (x4 : Int32)    : ∀ (n : Nat) (f1 : Nat → Int64) (x3 : Int32) (w : va_W) (H : Heap) (locs : List Loc) (ls : Array Slot), lp_J7_fill_d0a16_6 n1 x1 x4 n f1 x3 = some out → w[q1]? = some (A q1, .inl (k.2.1, n1, .inr (.inl f1))) → sm_W ws w q1 (q1 + 1) → va_P D vwCl w H → va_D (va_A ws s.heap.size) w → va_S (va_A ws s.heap.size) s.heap H locs → lv_has ls 5 [(0, .ref (A q1)), (1, .long x1), (3, .int x3), (4, .int x4)] → W p l e (headSpec wsJ7_fill_d0a16 { frames := 0, cells := 0, slots := 0, locals := 0 }).room s m args below meth c H locs 0 0 (MQ below (qw_Q D ws s.heap.size none (fun u => u[q1]? = some (A q1, .inl (k.2.1, n1, .inr (.inl out))) ∧ sm_W ws u q1 (q1 + 1))) args s 0 0 (va_A ws s.heap.size)) (F0 m 6 ls []) := by
  obtain ⟨hx, hb, hml, hown, hts, hr, hlocks⟩ := id C0
  have hcf : CallFix p m c cJ7_fill_d0a16 5 s args wsJ7_fill_d0a16 RJ7 := ⟨hx, hb, hml, hown, hts⟩
  have hA : ∀ q, s.heap.size ≤ q → va_A ws s.heap.size q := fun q h => Or.inr h
  intro n
  induction n with
  | zero =>
    intro f1 x3 w H locs ls hf h_f1 hsm hP hD hS hl
    exact (no_s hf).elim
  | succ n ih =>
    intro f1 x3 w H locs ls hf h_f1 hsm hP hD hS hl
    rw [lp_J7_fill_d0a16_6] at hf
    refine lv_iload_n hx hb dJ7_fill_d0a16_6 rfl (lv_at hl 2 rfl) ?_
    refine lv_iload hx hb dJ7_fill_d0a16_7 (lv_at hl 3 rfl) ?_
    refine lv_icmp_ge (tgt := 22) hx hb dJ7_fill_d0a16_9 (by decide) (fun c1 => ?_) (fun c1 => ?_)
    · have hf := it_p c1 hf
      obtain rfl := so_i hf
      exact W.vret hx hb hr (qw_end hS hP hD ⟨h_f1, hsm⟩) hS.2.2 dJ7_fill_d0a16_22
    · have hf := it_n c1 hf
      refine lv_aload_n hx hb dJ7_fill_d0a16_12 rfl (lv_at hl 0 rfl) ?_
      refine lv_iload_n hx hb dJ7_fill_d0a16_13 rfl (lv_at hl 2 rfl) ?_
      refine lv_lload_n hx hb dJ7_fill_d0a16_14 rfl (lv_at hl 1 rfl) ?_
      obtain ⟨z2, hf⟩ := ck_s hf
      refine va_last hx hb hK.1 hP hD hS (q1) 1 h_f1 rfl (in_s z2) dJ7_fill_d0a16_15 (fun _ _ hP hD hS => ?_)
      obtain ⟨u3, h4, m5, hP, hD⟩ := wd_put hP hD h_f1
      have hsm := sm_tr hsm m5 (by omega) (by omega)
      refine lv_iinc (v := (x3 + 1)) (lv' := [(3, .int (x3 + 1)), (0, .ref (A q1)), (1, .long x1), (4, .int x4)]) hx hb dJ7_fill_d0a16_16 hl (k := 2) rfl rfl (by decide) rfl (fun ls hl => ?_)
      refine lv_goto (tgt := 6) hx hb dJ7_fill_d0a16_19 (by decide) ?_
      exact ih (vp_updL f1 (Int32.toNatClampNeg x3) x1) (x3 + 1) _ _ _ _ hf h4 hsm hP hD hS (lv_sub hl [1, 2, 0, 3] rfl)

set_option maxHeartbeats 4000000 in
set_option maxRecDepth 100000 in
theorem cz_J7_fill_d0a16 (l : Launch) (D : va_G) (k : kt_T) (A : Nat → Nat) (ws : va_W) (q1 : Nat) (n1 : Nat) (f1 : Nat → Int64) (p2 : Int64) (out : (Nat → Int64)) (hf : pf_J7_fill_d0a16 f1 n1 p2 = some out) (h_f1 : ws[q1]? = some (A q1, .inl (k.2.1, n1, .inr (.inl f1))))  (sz0 : Nat) : Met l yJ7_fill_d0a16 wsJ7_fill_d0a16 { frames := 0, cells := 0, slots := 0, locals := 0 } (va_Pc [.ref (A q1), .long p2] (px_P D k ws sz0)) (qw_Q D ws sz0 none (fun u => u[q1]? = some (A q1, .inl (k.2.1, n1, .inr (.inl out))) ∧ sm_W ws u q1 (q1 + 1))) 0 0 (va_A ws sz0) := by
  refine Met.ofW (cc := cJ7_fill_d0a16) (maxL := 5) (ret := none) (by decide) rfl ?_
  intro p e s m args below meth c s₁ B hml hv
  obtain ⟨rfl, hsz, hP, hK, hD0⟩ := hv
  subst hsz
  have hD := hD0.self (sz := s.heap.size)
  have C0 : cx_P p s m meth c [.ref (A q1), .long p2].toArray cJ7_fill_d0a16 5 wsJ7_fill_d0a16 RJ7 none := ⟨B.exec, B.bytes, hml, findClass_of_methodNamed B.named, atoms_spec (ws := wsJ7_fill_d0a16) B.pre, B.returns, B.notSynchronized⟩
  obtain ⟨hx, hb, hml, hown, hts, hr, hlocks⟩ := id C0
  have hcf : CallFix p m c cJ7_fill_d0a16 5 s [.ref (A q1), .long p2].toArray wsJ7_fill_d0a16 RJ7 := ⟨hx, hb, hml, hown, hts⟩
  have hA : ∀ q, s.heap.size ≤ q → va_A ws s.heap.size q := fun q h => Or.inr h
  have hS : va_S (va_A ws s.heap.size) s.heap s.heap [] := va_S.rf
  have hsm : sm_W ws ws q1 (q1 + 1) := sm_rf
  have hl := lv_entry ([.ref (A q1), .long p2]) (n := 5) (Nat.le_of_ble_eq_true rfl)
  rw [lg_entry_eq]
  generalize (lg_sl ([.ref (A q1), .long p2]) ++ List.replicate (5 - (lg_sl ([.ref (A q1), .long p2])).length) Slot.unset).toArray = ls at hl ⊢
  have hl : lv_has ls 5 [(0, .ref (A q1)), (1, .long p2)] := hl
  unfold pf_J7_fill_d0a16 at hf
  refine lv_iconst (v := 0) hx hb dJ7_fill_d0a16_0 (by decide) ?_
  refine lv_istore_n (lv' := [(3, .int 0), (0, .ref (A q1)), (1, .long p2)]) hx hb dJ7_fill_d0a16_1 rfl hl (by decide) rfl (fun ls hl => ?_)
  refine lv_aload_n hx hb dJ7_fill_d0a16_2 rfl (lv_at hl 1 rfl) ?_
  refine va_alen (v := Int32.ofNat n1) hx hb hK.1 hP (q1) 1 h_f1 rfl rfl dJ7_fill_d0a16_3 ?_
  refine lv_istore (lv' := [(4, .int (Int32.ofNat n1)), (3, .int 0), (0, .ref (A q1)), (1, .long p2)]) hx hb dJ7_fill_d0a16_4 hl (by decide) rfl (fun ls hl => ?_)
  exact wl_J7_fill_d0a16_6 l D k A ws q1 n1 _ hK C0 p2 (Int32.ofNat n1) fu_N f1 0 _ _ _ _ hf h_f1 hsm hP hD hS (lv_sub hl [2, 3, 1, 0] rfl)

def pf_X6_isPrefix   (p1 : Int32) : Option (Int32) :=
  if p1 < 1 then
    some 0
  else
    if 512 ≤ p1 then
      some 0
    else
      some 1

set_option maxHeartbeats 4000000 in
set_option maxRecDepth 100000 in
theorem cz_X6_isPrefix (l : Launch) (D : va_G) (k : kt_T) (A : Nat → Nat) (ws : va_W)    (p1 : Int32) (out : Int32) (hf : pf_X6_isPrefix p1 = some out)   : Met l yX6_isPrefix wsX6_isPrefix { frames := 0, cells := 0, slots := 0, locals := 0 } (va_Pc [.int p1] (pw_P D k ws)) (qs_Q (some (.int out))) 0 0 (fun _ => False) := by
  refine Met.ofW (cc := cX6_isPrefix) (maxL := 1) (ret := (some .boolean)) (by decide) rfl ?_
  intro p e s m args below meth c s₁ B hml hv
  obtain ⟨rfl, hP, hK, hD⟩ := hv
  have C0 : cx_P p s m meth c [.int p1].toArray cX6_isPrefix 1 wsX6_isPrefix RX6 (some .boolean) := ⟨B.exec, B.bytes, hml, findClass_of_methodNamed B.named, atoms_spec (ws := wsX6_isPrefix) B.pre, B.returns, B.notSynchronized⟩
  obtain ⟨hx, hb, hml, hown, hts, hr, hlocks⟩ := id C0
  have hcf : CallFix p m c cX6_isPrefix 1 s [.int p1].toArray wsX6_isPrefix RX6 := ⟨hx, hb, hml, hown, hts⟩
  have hl := lv_entry ([.int p1]) (n := 1) (Nat.le_of_ble_eq_true rfl)
  rw [lg_entry_eq]
  generalize (lg_sl ([.int p1]) ++ List.replicate (1 - (lg_sl ([.int p1])).length) Slot.unset).toArray = ls at hl ⊢
  have hl : lv_has ls 1 [(0, .int p1)] := hl
  unfold pf_X6_isPrefix at hf
  refine lv_iload_n hx hb dX6_isPrefix_0 rfl (lv_at hl 0 rfl) ?_
  refine lv_iconst (v := 1) hx hb dX6_isPrefix_1 (by decide) ?_
  refine lv_icmp_lt (tgt := 16) hx hb dX6_isPrefix_2 (by decide) (fun c1 => ?_) (fun c1 => ?_)
  · have hf := it_p c1 hf
    refine lv_iconst (v := 0) hx hb dX6_isPrefix_16 (by decide) ?_
    obtain rfl := so_i hf
    exact W.zret (v := 0) (ty := .boolean) hx hb hr rfl (fun t ht _ => ⟨rfl, ht⟩) (fun _ h => absurd h List.not_mem_nil) dX6_isPrefix_17
  · have hf := it_n c1 hf
    refine lv_iload_n hx hb dX6_isPrefix_5 rfl (lv_at hl 0 rfl) ?_
    refine lv_sipush (v := 512) hx hb dX6_isPrefix_6 (by decide) ?_
    refine lv_icmp_ge (tgt := 16) hx hb dX6_isPrefix_9 (by decide) (fun c2 => ?_) (fun c2 => ?_)
    · have hf := it_p c2 hf
      refine lv_iconst (v := 0) hx hb dX6_isPrefix_16 (by decide) ?_
      obtain rfl := so_i hf
      exact W.zret (v := 0) (ty := .boolean) hx hb hr rfl (fun t ht _ => ⟨rfl, ht⟩) (fun _ h => absurd h List.not_mem_nil) dX6_isPrefix_17
    · have hf := it_n c2 hf
      refine lv_iconst (v := 1) hx hb dX6_isPrefix_12 (by decide) ?_
      refine lv_goto (tgt := 17) hx hb dX6_isPrefix_13 (by decide) ?_
      obtain rfl := so_i hf
      exact W.zret (v := 1) (ty := .boolean) hx hb hr rfl (fun t ht _ => ⟨rfl, ht⟩) (fun _ h => absurd h List.not_mem_nil) dX6_isPrefix_17

def pf_X6_isHop   (p1 : Int32) : Option (Int32) :=
  if p1 < 0 then
    some 0
  else
    if 8 ≤ p1 then
      some 0
    else
      some 1

set_option maxHeartbeats 4000000 in
set_option maxRecDepth 100000 in
theorem cz_X6_isHop (l : Launch) (D : va_G) (k : kt_T) (A : Nat → Nat) (ws : va_W)    (p1 : Int32) (out : Int32) (hf : pf_X6_isHop p1 = some out)   : Met l yX6_isHop wsX6_isHop { frames := 0, cells := 0, slots := 0, locals := 0 } (va_Pc [.int p1] (pw_P D k ws)) (qs_Q (some (.int out))) 0 0 (fun _ => False) := by
  refine Met.ofW (cc := cX6_isHop) (maxL := 1) (ret := (some .boolean)) (by decide) rfl ?_
  intro p e s m args below meth c s₁ B hml hv
  obtain ⟨rfl, hP, hK, hD⟩ := hv
  have C0 : cx_P p s m meth c [.int p1].toArray cX6_isHop 1 wsX6_isHop RX6 (some .boolean) := ⟨B.exec, B.bytes, hml, findClass_of_methodNamed B.named, atoms_spec (ws := wsX6_isHop) B.pre, B.returns, B.notSynchronized⟩
  obtain ⟨hx, hb, hml, hown, hts, hr, hlocks⟩ := id C0
  have hcf : CallFix p m c cX6_isHop 1 s [.int p1].toArray wsX6_isHop RX6 := ⟨hx, hb, hml, hown, hts⟩
  have hl := lv_entry ([.int p1]) (n := 1) (Nat.le_of_ble_eq_true rfl)
  rw [lg_entry_eq]
  generalize (lg_sl ([.int p1]) ++ List.replicate (1 - (lg_sl ([.int p1])).length) Slot.unset).toArray = ls at hl ⊢
  have hl : lv_has ls 1 [(0, .int p1)] := hl
  unfold pf_X6_isHop at hf
  refine lv_iload_n hx hb dX6_isHop_0 rfl (lv_at hl 0 rfl) ?_
  refine lv_if_lt (tgt := 14) hx hb dX6_isHop_1 (by decide) (fun c1 => ?_) (fun c1 => ?_)
  · have hf := it_p c1 hf
    refine lv_iconst (v := 0) hx hb dX6_isHop_14 (by decide) ?_
    obtain rfl := so_i hf
    exact W.zret (v := 0) (ty := .boolean) hx hb hr rfl (fun t ht _ => ⟨rfl, ht⟩) (fun _ h => absurd h List.not_mem_nil) dX6_isHop_15
  · have hf := it_n c1 hf
    refine lv_iload_n hx hb dX6_isHop_4 rfl (lv_at hl 0 rfl) ?_
    refine lv_bipush (v := 8) hx hb dX6_isHop_5 (by decide) ?_
    refine lv_icmp_ge (tgt := 14) hx hb dX6_isHop_7 (by decide) (fun c2 => ?_) (fun c2 => ?_)
    · have hf := it_p c2 hf
      refine lv_iconst (v := 0) hx hb dX6_isHop_14 (by decide) ?_
      obtain rfl := so_i hf
      exact W.zret (v := 0) (ty := .boolean) hx hb hr rfl (fun t ht _ => ⟨rfl, ht⟩) (fun _ h => absurd h List.not_mem_nil) dX6_isHop_15
    · have hf := it_n c2 hf
      refine lv_iconst (v := 1) hx hb dX6_isHop_10 (by decide) ?_
      refine lv_goto (tgt := 15) hx hb dX6_isHop_11 (by decide) ?_
      obtain rfl := so_i hf
      exact W.zret (v := 1) (ty := .boolean) hx hb hr rfl (fun t ht _ => ⟨rfl, ht⟩) (fun _ h => absurd h List.not_mem_nil) dX6_isHop_15

def pf_X6_isAddress   (p1 : Int32) : Option (Int32) :=
  if p1 < 0 then
    some 0
  else
    if 256 ≤ p1 then
      some 0
    else
      some 1

set_option maxHeartbeats 4000000 in
set_option maxRecDepth 100000 in
theorem cz_X6_isAddress (l : Launch) (D : va_G) (k : kt_T) (A : Nat → Nat) (ws : va_W)    (p1 : Int32) (out : Int32) (hf : pf_X6_isAddress p1 = some out)   : Met l yX6_isAddress wsX6_isAddress { frames := 0, cells := 0, slots := 0, locals := 0 } (va_Pc [.int p1] (pw_P D k ws)) (qs_Q (some (.int out))) 0 0 (fun _ => False) := by
  refine Met.ofW (cc := cX6_isAddress) (maxL := 1) (ret := (some .boolean)) (by decide) rfl ?_
  intro p e s m args below meth c s₁ B hml hv
  obtain ⟨rfl, hP, hK, hD⟩ := hv
  have C0 : cx_P p s m meth c [.int p1].toArray cX6_isAddress 1 wsX6_isAddress RX6 (some .boolean) := ⟨B.exec, B.bytes, hml, findClass_of_methodNamed B.named, atoms_spec (ws := wsX6_isAddress) B.pre, B.returns, B.notSynchronized⟩
  obtain ⟨hx, hb, hml, hown, hts, hr, hlocks⟩ := id C0
  have hcf : CallFix p m c cX6_isAddress 1 s [.int p1].toArray wsX6_isAddress RX6 := ⟨hx, hb, hml, hown, hts⟩
  have hl := lv_entry ([.int p1]) (n := 1) (Nat.le_of_ble_eq_true rfl)
  rw [lg_entry_eq]
  generalize (lg_sl ([.int p1]) ++ List.replicate (1 - (lg_sl ([.int p1])).length) Slot.unset).toArray = ls at hl ⊢
  have hl : lv_has ls 1 [(0, .int p1)] := hl
  unfold pf_X6_isAddress at hf
  refine lv_iload_n hx hb dX6_isAddress_0 rfl (lv_at hl 0 rfl) ?_
  refine lv_if_lt (tgt := 15) hx hb dX6_isAddress_1 (by decide) (fun c1 => ?_) (fun c1 => ?_)
  · have hf := it_p c1 hf
    refine lv_iconst (v := 0) hx hb dX6_isAddress_15 (by decide) ?_
    obtain rfl := so_i hf
    exact W.zret (v := 0) (ty := .boolean) hx hb hr rfl (fun t ht _ => ⟨rfl, ht⟩) (fun _ h => absurd h List.not_mem_nil) dX6_isAddress_16
  · have hf := it_n c1 hf
    refine lv_iload_n hx hb dX6_isAddress_4 rfl (lv_at hl 0 rfl) ?_
    refine lv_sipush (v := 256) hx hb dX6_isAddress_5 (by decide) ?_
    refine lv_icmp_ge (tgt := 15) hx hb dX6_isAddress_8 (by decide) (fun c2 => ?_) (fun c2 => ?_)
    · have hf := it_p c2 hf
      refine lv_iconst (v := 0) hx hb dX6_isAddress_15 (by decide) ?_
      obtain rfl := so_i hf
      exact W.zret (v := 0) (ty := .boolean) hx hb hr rfl (fun t ht _ => ⟨rfl, ht⟩) (fun _ h => absurd h List.not_mem_nil) dX6_isAddress_16
    · have hf := it_n c2 hf
      refine lv_iconst (v := 1) hx hb dX6_isAddress_11 (by decide) ?_
      refine lv_goto (tgt := 16) hx hb dX6_isAddress_12 (by decide) ?_
      obtain rfl := so_i hf
      exact W.zret (v := 1) (ty := .boolean) hx hb hr rfl (fun t ht _ => ⟨rfl, ht⟩) (fun _ h => absurd h List.not_mem_nil) dX6_isAddress_16

def pf_X6_isSheet   (p1 : Int32) : Option (Int32) :=
  if p1 < 0 then
    some 0
  else
    if 4 ≤ p1 then
      some 0
    else
      some 1

set_option maxHeartbeats 4000000 in
set_option maxRecDepth 100000 in
theorem cz_X6_isSheet (l : Launch) (D : va_G) (k : kt_T) (A : Nat → Nat) (ws : va_W)    (p1 : Int32) (out : Int32) (hf : pf_X6_isSheet p1 = some out)   : Met l yX6_isSheet wsX6_isSheet { frames := 0, cells := 0, slots := 0, locals := 0 } (va_Pc [.int p1] (pw_P D k ws)) (qs_Q (some (.int out))) 0 0 (fun _ => False) := by
  refine Met.ofW (cc := cX6_isSheet) (maxL := 1) (ret := (some .boolean)) (by decide) rfl ?_
  intro p e s m args below meth c s₁ B hml hv
  obtain ⟨rfl, hP, hK, hD⟩ := hv
  have C0 : cx_P p s m meth c [.int p1].toArray cX6_isSheet 1 wsX6_isSheet RX6 (some .boolean) := ⟨B.exec, B.bytes, hml, findClass_of_methodNamed B.named, atoms_spec (ws := wsX6_isSheet) B.pre, B.returns, B.notSynchronized⟩
  obtain ⟨hx, hb, hml, hown, hts, hr, hlocks⟩ := id C0
  have hcf : CallFix p m c cX6_isSheet 1 s [.int p1].toArray wsX6_isSheet RX6 := ⟨hx, hb, hml, hown, hts⟩
  have hl := lv_entry ([.int p1]) (n := 1) (Nat.le_of_ble_eq_true rfl)
  rw [lg_entry_eq]
  generalize (lg_sl ([.int p1]) ++ List.replicate (1 - (lg_sl ([.int p1])).length) Slot.unset).toArray = ls at hl ⊢
  have hl : lv_has ls 1 [(0, .int p1)] := hl
  unfold pf_X6_isSheet at hf
  refine lv_iload_n hx hb dX6_isSheet_0 rfl (lv_at hl 0 rfl) ?_
  refine lv_if_lt (tgt := 13) hx hb dX6_isSheet_1 (by decide) (fun c1 => ?_) (fun c1 => ?_)
  · have hf := it_p c1 hf
    refine lv_iconst (v := 0) hx hb dX6_isSheet_13 (by decide) ?_
    obtain rfl := so_i hf
    exact W.zret (v := 0) (ty := .boolean) hx hb hr rfl (fun t ht _ => ⟨rfl, ht⟩) (fun _ h => absurd h List.not_mem_nil) dX6_isSheet_14
  · have hf := it_n c1 hf
    refine lv_iload_n hx hb dX6_isSheet_4 rfl (lv_at hl 0 rfl) ?_
    refine lv_iconst (v := 4) hx hb dX6_isSheet_5 (by decide) ?_
    refine lv_icmp_ge (tgt := 13) hx hb dX6_isSheet_6 (by decide) (fun c2 => ?_) (fun c2 => ?_)
    · have hf := it_p c2 hf
      refine lv_iconst (v := 0) hx hb dX6_isSheet_13 (by decide) ?_
      obtain rfl := so_i hf
      exact W.zret (v := 0) (ty := .boolean) hx hb hr rfl (fun t ht _ => ⟨rfl, ht⟩) (fun _ h => absurd h List.not_mem_nil) dX6_isSheet_14
    · have hf := it_n c2 hf
      refine lv_iconst (v := 1) hx hb dX6_isSheet_9 (by decide) ?_
      refine lv_goto (tgt := 14) hx hb dX6_isSheet_10 (by decide) ?_
      obtain rfl := so_i hf
      exact W.zret (v := 1) (ty := .boolean) hx hb hr rfl (fun t ht _ => ⟨rfl, ht⟩) (fun _ h => absurd h List.not_mem_nil) dX6_isSheet_14

def pf_X6_isLane   (p1 : Int32) : Option (Int32) :=
  if p1 < 0 then
    some 0
  else
    if 4 ≤ p1 then
      some 0
    else
      some 1

set_option maxHeartbeats 4000000 in
set_option maxRecDepth 100000 in
theorem cz_X6_isLane (l : Launch) (D : va_G) (k : kt_T) (A : Nat → Nat) (ws : va_W)    (p1 : Int32) (out : Int32) (hf : pf_X6_isLane p1 = some out)   : Met l yX6_isLane wsX6_isLane { frames := 0, cells := 0, slots := 0, locals := 0 } (va_Pc [.int p1] (pw_P D k ws)) (qs_Q (some (.int out))) 0 0 (fun _ => False) := by
  refine Met.ofW (cc := cX6_isLane) (maxL := 1) (ret := (some .boolean)) (by decide) rfl ?_
  intro p e s m args below meth c s₁ B hml hv
  obtain ⟨rfl, hP, hK, hD⟩ := hv
  have C0 : cx_P p s m meth c [.int p1].toArray cX6_isLane 1 wsX6_isLane RX6 (some .boolean) := ⟨B.exec, B.bytes, hml, findClass_of_methodNamed B.named, atoms_spec (ws := wsX6_isLane) B.pre, B.returns, B.notSynchronized⟩
  obtain ⟨hx, hb, hml, hown, hts, hr, hlocks⟩ := id C0
  have hcf : CallFix p m c cX6_isLane 1 s [.int p1].toArray wsX6_isLane RX6 := ⟨hx, hb, hml, hown, hts⟩
  have hl := lv_entry ([.int p1]) (n := 1) (Nat.le_of_ble_eq_true rfl)
  rw [lg_entry_eq]
  generalize (lg_sl ([.int p1]) ++ List.replicate (1 - (lg_sl ([.int p1])).length) Slot.unset).toArray = ls at hl ⊢
  have hl : lv_has ls 1 [(0, .int p1)] := hl
  unfold pf_X6_isLane at hf
  refine lv_iload_n hx hb dX6_isLane_0 rfl (lv_at hl 0 rfl) ?_
  refine lv_if_lt (tgt := 13) hx hb dX6_isLane_1 (by decide) (fun c1 => ?_) (fun c1 => ?_)
  · have hf := it_p c1 hf
    refine lv_iconst (v := 0) hx hb dX6_isLane_13 (by decide) ?_
    obtain rfl := so_i hf
    exact W.zret (v := 0) (ty := .boolean) hx hb hr rfl (fun t ht _ => ⟨rfl, ht⟩) (fun _ h => absurd h List.not_mem_nil) dX6_isLane_14
  · have hf := it_n c1 hf
    refine lv_iload_n hx hb dX6_isLane_4 rfl (lv_at hl 0 rfl) ?_
    refine lv_iconst (v := 4) hx hb dX6_isLane_5 (by decide) ?_
    refine lv_icmp_ge (tgt := 13) hx hb dX6_isLane_6 (by decide) (fun c2 => ?_) (fun c2 => ?_)
    · have hf := it_p c2 hf
      refine lv_iconst (v := 0) hx hb dX6_isLane_13 (by decide) ?_
      obtain rfl := so_i hf
      exact W.zret (v := 0) (ty := .boolean) hx hb hr rfl (fun t ht _ => ⟨rfl, ht⟩) (fun _ h => absurd h List.not_mem_nil) dX6_isLane_14
    · have hf := it_n c2 hf
      refine lv_iconst (v := 1) hx hb dX6_isLane_9 (by decide) ?_
      refine lv_goto (tgt := 14) hx hb dX6_isLane_10 (by decide) ?_
      obtain rfl := so_i hf
      exact W.zret (v := 1) (ty := .boolean) hx hb hr rfl (fun t ht _ => ⟨rfl, ht⟩) (fun _ h => absurd h List.not_mem_nil) dX6_isLane_14

def pf_X6_lowestHop   (p1 : Int32) : Option (Int32) :=
  if p1 = 0 then
    some (-4)
  else
    (pf_J6_numberOfTrailingZeros_0f7a4 p1).bind (fun r2 =>
      some r2)

set_option maxHeartbeats 4000000 in
set_option maxRecDepth 100000 in
theorem cz_X6_lowestHop (l : Launch) (D : va_G) (k : kt_T) (A : Nat → Nat) (ws : va_W)    (p1 : Int32) (out : Int32) (hf : pf_X6_lowestHop p1 = some out)   : Met l yX6_lowestHop wsX6_lowestHop { frames := 1, cells := 0, slots := 0, locals := 21 } (va_Pc [.int p1] (pw_P D k ws)) (qs_Q (some (.int out))) 0 0 (fun _ => False) := by
  refine Met.ofW (cc := cX6_lowestHop) (maxL := 1) (ret := (some .int)) (by decide) rfl ?_
  intro p e s m args below meth c s₁ B hml hv
  obtain ⟨rfl, hP, hK, hD⟩ := hv
  have C0 : cx_P p s m meth c [.int p1].toArray cX6_lowestHop 1 wsX6_lowestHop RX6 (some .int) := ⟨B.exec, B.bytes, hml, findClass_of_methodNamed B.named, atoms_spec (ws := wsX6_lowestHop) B.pre, B.returns, B.notSynchronized⟩
  obtain ⟨hx, hb, hml, hown, hts, hr, hlocks⟩ := id C0
  have hcf : CallFix p m c cX6_lowestHop 1 s [.int p1].toArray wsX6_lowestHop RX6 := ⟨hx, hb, hml, hown, hts⟩
  have hl := lv_entry ([.int p1]) (n := 1) (Nat.le_of_ble_eq_true rfl)
  rw [lg_entry_eq]
  generalize (lg_sl ([.int p1]) ++ List.replicate (1 - (lg_sl ([.int p1])).length) Slot.unset).toArray = ls at hl ⊢
  have hl : lv_has ls 1 [(0, .int p1)] := hl
  unfold pf_X6_lowestHop at hf
  refine lv_iload_n hx hb dX6_lowestHop_0 rfl (lv_at hl 0 rfl) ?_
  refine lv_if_ne (tgt := 9) hx hb dX6_lowestHop_1 (by decide) (fun c1 => ?_) (fun c1 => ?_)
  · have hf := it_n c1 hf
    refine lv_iload_n hx hb dX6_lowestHop_9 rfl (lv_at hl 0 rfl) ?_
    obtain ⟨r2, h3, hf⟩ := bd_s hf
    refine ks_i (va_runS (As := [.int p1]) (rest := []) hcf (cz_J6_numberOfTrailingZeros_0f7a4 l D k A ws p1 r2 h3) (va_cwS 1 hts gX6_lowestHop_J6_numberOfTrailingZeros_0f7a4 rfl rfl rfl (by decide +kernel) ⟨Nat.le_of_ble_eq_true rfl, Nat.le_of_ble_eq_true rfl⟩) (pw_S hP hK hD) rfl rfl hl.1 rfl (lv_room (Nat.le_of_ble_eq_true rfl)) dX6_lowestHop_10 ⟨Nat.zero_le _, Nat.zero_le _⟩) ?_
    obtain rfl := so_i hf
    exact W.iret (v := r2) hx hb hr (fun t ht _ => ⟨rfl, ht⟩) (fun _ h => absurd h List.not_mem_nil) dX6_lowestHop_13
  · have hf := it_p c1 hf
    refine lv_bipush (v := (-4)) hx hb dX6_lowestHop_4 (by decide) ?_
    refine lv_goto (tgt := 13) hx hb dX6_lowestHop_6 (by decide) ?_
    obtain rfl := so_i hf
    exact W.iret (v := (-4)) hx hb hr (fun t ht _ => ⟨rfl, ht⟩) (fun _ h => absurd h List.not_mem_nil) dX6_lowestHop_13

def pf_X6_isOneHop   (p1 : Int32) : Option (Int32) :=
  (pf_J6_bitCount_0f7a4 p1).bind (fun r1 =>
    if r1 = 1 then
      some 1
    else
      some 0)

set_option maxHeartbeats 4000000 in
set_option maxRecDepth 100000 in
theorem cz_X6_isOneHop (l : Launch) (D : va_G) (k : kt_T) (A : Nat → Nat) (ws : va_W)    (p1 : Int32) (out : Int32) (hf : pf_X6_isOneHop p1 = some out)   : Met l yX6_isOneHop wsX6_isOneHop { frames := 1, cells := 0, slots := 0, locals := 20 } (va_Pc [.int p1] (pw_P D k ws)) (qs_Q (some (.int out))) 0 0 (fun _ => False) := by
  refine Met.ofW (cc := cX6_isOneHop) (maxL := 1) (ret := (some .boolean)) (by decide) rfl ?_
  intro p e s m args below meth c s₁ B hml hv
  obtain ⟨rfl, hP, hK, hD⟩ := hv
  have C0 : cx_P p s m meth c [.int p1].toArray cX6_isOneHop 1 wsX6_isOneHop RX6 (some .boolean) := ⟨B.exec, B.bytes, hml, findClass_of_methodNamed B.named, atoms_spec (ws := wsX6_isOneHop) B.pre, B.returns, B.notSynchronized⟩
  obtain ⟨hx, hb, hml, hown, hts, hr, hlocks⟩ := id C0
  have hcf : CallFix p m c cX6_isOneHop 1 s [.int p1].toArray wsX6_isOneHop RX6 := ⟨hx, hb, hml, hown, hts⟩
  have hl := lv_entry ([.int p1]) (n := 1) (Nat.le_of_ble_eq_true rfl)
  rw [lg_entry_eq]
  generalize (lg_sl ([.int p1]) ++ List.replicate (1 - (lg_sl ([.int p1])).length) Slot.unset).toArray = ls at hl ⊢
  have hl : lv_has ls 1 [(0, .int p1)] := hl
  unfold pf_X6_isOneHop at hf
  refine lv_iload_n hx hb dX6_isOneHop_0 rfl (lv_at hl 0 rfl) ?_
  obtain ⟨r1, h2, hf⟩ := bd_s hf
  refine ks_i (va_runS (As := [.int p1]) (rest := []) hcf (cz_J6_bitCount_0f7a4 l D k A ws p1 r1 h2) (va_cwS 1 hts gX6_isOneHop_J6_bitCount_0f7a4 rfl rfl rfl (by decide +kernel) ⟨Nat.le_of_ble_eq_true rfl, Nat.le_of_ble_eq_true rfl⟩) (pw_S hP hK hD) rfl rfl hl.1 rfl (lv_room (Nat.le_of_ble_eq_true rfl)) dX6_isOneHop_1 ⟨Nat.zero_le _, Nat.zero_le _⟩) ?_
  refine lv_iconst (v := 1) hx hb dX6_isOneHop_4 (by decide) ?_
  refine lv_icmp_ne (tgt := 12) hx hb dX6_isOneHop_5 (by decide) (fun c3 => ?_) (fun c3 => ?_)
  · have hf := it_n c3 hf
    refine lv_iconst (v := 0) hx hb dX6_isOneHop_12 (by decide) ?_
    obtain rfl := so_i hf
    exact W.zret (v := 0) (ty := .boolean) hx hb hr rfl (fun t ht _ => ⟨rfl, ht⟩) (fun _ h => absurd h List.not_mem_nil) dX6_isOneHop_13
  · have hf := it_p c3 hf
    refine lv_iconst (v := 1) hx hb dX6_isOneHop_8 (by decide) ?_
    refine lv_goto (tgt := 13) hx hb dX6_isOneHop_9 (by decide) ?_
    obtain rfl := so_i hf
    exact W.zret (v := 1) (ty := .boolean) hx hb hr rfl (fun t ht _ => ⟨rfl, ht⟩) (fun _ h => absurd h List.not_mem_nil) dX6_isOneHop_13

def pf_X6_bitsOf   (p1 : Int32) : Option (Int32) :=
  (pf_J6_numberOfLeadingZeros_0f7a4 p1).bind (fun r1 =>
    some (31 - r1))

set_option maxHeartbeats 4000000 in
set_option maxRecDepth 100000 in
theorem cz_X6_bitsOf (l : Launch) (D : va_G) (k : kt_T) (A : Nat → Nat) (ws : va_W)    (p1 : Int32) (out : Int32) (hf : pf_X6_bitsOf p1 = some out)   : Met l yX6_bitsOf wsX6_bitsOf { frames := 1, cells := 0, slots := 0, locals := 21 } (va_Pc [.int p1] (pw_P D k ws)) (qs_Q (some (.int out))) 0 0 (fun _ => False) := by
  refine Met.ofW (cc := cX6_bitsOf) (maxL := 1) (ret := (some .int)) (by decide) rfl ?_
  intro p e s m args below meth c s₁ B hml hv
  obtain ⟨rfl, hP, hK, hD⟩ := hv
  have C0 : cx_P p s m meth c [.int p1].toArray cX6_bitsOf 1 wsX6_bitsOf RX6 (some .int) := ⟨B.exec, B.bytes, hml, findClass_of_methodNamed B.named, atoms_spec (ws := wsX6_bitsOf) B.pre, B.returns, B.notSynchronized⟩
  obtain ⟨hx, hb, hml, hown, hts, hr, hlocks⟩ := id C0
  have hcf : CallFix p m c cX6_bitsOf 1 s [.int p1].toArray wsX6_bitsOf RX6 := ⟨hx, hb, hml, hown, hts⟩
  have hl := lv_entry ([.int p1]) (n := 1) (Nat.le_of_ble_eq_true rfl)
  rw [lg_entry_eq]
  generalize (lg_sl ([.int p1]) ++ List.replicate (1 - (lg_sl ([.int p1])).length) Slot.unset).toArray = ls at hl ⊢
  have hl : lv_has ls 1 [(0, .int p1)] := hl
  unfold pf_X6_bitsOf at hf
  refine lv_bipush (v := 31) hx hb dX6_bitsOf_0 (by decide) ?_
  refine lv_iload_n hx hb dX6_bitsOf_2 rfl (lv_at hl 0 rfl) ?_
  obtain ⟨r1, h2, hf⟩ := bd_s hf
  refine ks_i (va_runS (As := [.int p1]) (rest := [.int 31]) hcf (cz_J6_numberOfLeadingZeros_0f7a4 l D k A ws p1 r1 h2) (va_cwS 1 hts gX6_bitsOf_J6_numberOfLeadingZeros_0f7a4 rfl rfl rfl (by decide +kernel) ⟨Nat.le_of_ble_eq_true rfl, Nat.le_of_ble_eq_true rfl⟩) (pw_S hP hK hD) rfl rfl hl.1 rfl (lv_room (Nat.le_of_ble_eq_true rfl)) dX6_bitsOf_3 ⟨Nat.zero_le _, Nat.zero_le _⟩) ?_
  refine lv_isub hx hb dX6_bitsOf_6 ?_
  obtain rfl := so_i hf
  exact W.iret (v := (31 - r1)) hx hb hr (fun t ht _ => ⟨rfl, ht⟩) (fun _ h => absurd h List.not_mem_nil) dX6_bitsOf_7

def pf_X6_firstAddress   (p1 : Int32) : Option (Int32) :=
  (pf_X6_bitsOf p1).bind (fun r1 =>
    some ((p1 <<< ((8 - r1) &&& 31)) - 256))

set_option maxHeartbeats 4000000 in
set_option maxRecDepth 100000 in
theorem cz_X6_firstAddress (l : Launch) (D : va_G) (k : kt_T) (A : Nat → Nat) (ws : va_W)    (p1 : Int32) (out : Int32) (hf : pf_X6_firstAddress p1 = some out)   : Met l yX6_firstAddress wsX6_firstAddress { frames := 2, cells := 0, slots := 0, locals := 41 } (va_Pc [.int p1] (pw_P D k ws)) (qs_Q (some (.int out))) 0 0 (fun _ => False) := by
  refine Met.ofW (cc := cX6_firstAddress) (maxL := 1) (ret := (some .int)) (by decide) rfl ?_
  intro p e s m args below meth c s₁ B hml hv
  obtain ⟨rfl, hP, hK, hD⟩ := hv
  have C0 : cx_P p s m meth c [.int p1].toArray cX6_firstAddress 1 wsX6_firstAddress RX6 (some .int) := ⟨B.exec, B.bytes, hml, findClass_of_methodNamed B.named, atoms_spec (ws := wsX6_firstAddress) B.pre, B.returns, B.notSynchronized⟩
  obtain ⟨hx, hb, hml, hown, hts, hr, hlocks⟩ := id C0
  have hcf : CallFix p m c cX6_firstAddress 1 s [.int p1].toArray wsX6_firstAddress RX6 := ⟨hx, hb, hml, hown, hts⟩
  have hl := lv_entry ([.int p1]) (n := 1) (Nat.le_of_ble_eq_true rfl)
  rw [lg_entry_eq]
  generalize (lg_sl ([.int p1]) ++ List.replicate (1 - (lg_sl ([.int p1])).length) Slot.unset).toArray = ls at hl ⊢
  have hl : lv_has ls 1 [(0, .int p1)] := hl
  unfold pf_X6_firstAddress at hf
  refine lv_iload_n hx hb dX6_firstAddress_0 rfl (lv_at hl 0 rfl) ?_
  refine lv_bipush (v := 8) hx hb dX6_firstAddress_1 (by decide) ?_
  refine lv_iload_n hx hb dX6_firstAddress_3 rfl (lv_at hl 0 rfl) ?_
  obtain ⟨r1, h2, hf⟩ := bd_s hf
  refine ks_i (va_runS (As := [.int p1]) (rest := [.int 8, .int p1]) hcf (cz_X6_bitsOf l D k A ws p1 r1 h2) (va_cwS 1 hts gX6_firstAddress_X6_bitsOf rfl rfl rfl (by decide +kernel) ⟨Nat.le_of_ble_eq_true rfl, Nat.le_of_ble_eq_true rfl⟩) (pw_S hP hK hD) rfl rfl hl.1 rfl (lv_room (Nat.le_of_ble_eq_true rfl)) dX6_firstAddress_4 ⟨Nat.zero_le _, Nat.zero_le _⟩) ?_
  refine lv_isub hx hb dX6_firstAddress_7 ?_
  refine lv_ishl hx hb dX6_firstAddress_8 ?_
  refine lv_sipush (v := 256) hx hb dX6_firstAddress_9 (by decide) ?_
  refine lv_isub hx hb dX6_firstAddress_12 ?_
  obtain rfl := so_i hf
  exact W.iret (v := ((p1 <<< ((8 - r1) &&& 31)) - 256)) hx hb hr (fun t ht _ => ⟨rfl, ht⟩) (fun _ h => absurd h List.not_mem_nil) dX6_firstAddress_13

def pf_X6_howManyAddresses   (p1 : Int32) : Option (Int32) :=
  (pf_X6_bitsOf p1).bind (fun r1 =>
    some ((1 : Int32) <<< ((8 - r1) &&& 31)))

set_option maxHeartbeats 4000000 in
set_option maxRecDepth 100000 in
theorem cz_X6_howManyAddresses (l : Launch) (D : va_G) (k : kt_T) (A : Nat → Nat) (ws : va_W)    (p1 : Int32) (out : Int32) (hf : pf_X6_howManyAddresses p1 = some out)   : Met l yX6_howManyAddresses wsX6_howManyAddresses { frames := 2, cells := 0, slots := 0, locals := 41 } (va_Pc [.int p1] (pw_P D k ws)) (qs_Q (some (.int out))) 0 0 (fun _ => False) := by
  refine Met.ofW (cc := cX6_howManyAddresses) (maxL := 1) (ret := (some .int)) (by decide) rfl ?_
  intro p e s m args below meth c s₁ B hml hv
  obtain ⟨rfl, hP, hK, hD⟩ := hv
  have C0 : cx_P p s m meth c [.int p1].toArray cX6_howManyAddresses 1 wsX6_howManyAddresses RX6 (some .int) := ⟨B.exec, B.bytes, hml, findClass_of_methodNamed B.named, atoms_spec (ws := wsX6_howManyAddresses) B.pre, B.returns, B.notSynchronized⟩
  obtain ⟨hx, hb, hml, hown, hts, hr, hlocks⟩ := id C0
  have hcf : CallFix p m c cX6_howManyAddresses 1 s [.int p1].toArray wsX6_howManyAddresses RX6 := ⟨hx, hb, hml, hown, hts⟩
  have hl := lv_entry ([.int p1]) (n := 1) (Nat.le_of_ble_eq_true rfl)
  rw [lg_entry_eq]
  generalize (lg_sl ([.int p1]) ++ List.replicate (1 - (lg_sl ([.int p1])).length) Slot.unset).toArray = ls at hl ⊢
  have hl : lv_has ls 1 [(0, .int p1)] := hl
  unfold pf_X6_howManyAddresses at hf
  refine lv_iconst (v := 1) hx hb dX6_howManyAddresses_0 (by decide) ?_
  refine lv_bipush (v := 8) hx hb dX6_howManyAddresses_1 (by decide) ?_
  refine lv_iload_n hx hb dX6_howManyAddresses_3 rfl (lv_at hl 0 rfl) ?_
  obtain ⟨r1, h2, hf⟩ := bd_s hf
  refine ks_i (va_runS (As := [.int p1]) (rest := [.int 8, .int 1]) hcf (cz_X6_bitsOf l D k A ws p1 r1 h2) (va_cwS 1 hts gX6_howManyAddresses_X6_bitsOf rfl rfl rfl (by decide +kernel) ⟨Nat.le_of_ble_eq_true rfl, Nat.le_of_ble_eq_true rfl⟩) (pw_S hP hK hD) rfl rfl hl.1 rfl (lv_room (Nat.le_of_ble_eq_true rfl)) dX6_howManyAddresses_4 ⟨Nat.zero_le _, Nat.zero_le _⟩) ?_
  refine lv_isub hx hb dX6_howManyAddresses_7 ?_
  refine lv_ishl hx hb dX6_howManyAddresses_8 ?_
  obtain rfl := so_i hf
  exact W.iret (v := ((1 : Int32) <<< ((8 - r1) &&& 31))) hx hb hr (fun t ht _ => ⟨rfl, ht⟩) (fun _ h => absurd h List.not_mem_nil) dX6_howManyAddresses_9

def lp_X6_greatestDivisor_9   : Nat → Int64 → Int64 → Int32 → Option (Int64)
  | 0, _, _, _ => none
  | n + 1, x4, x6, x8 =>
    if 100 ≤ x8 then
      some x4
    else
      if (lg_cmp x6 0) = 0 then
        some x4
      else
        ck_O (nz_c x6) (
          lp_X6_greatestDivisor_9 n x6 (x4 - x4 / x6 * x6) (x8 + 1))

def pf_X6_greatestDivisor   (p1 : Int64) (p2 : Int64) : Option (Int64) :=
  lp_X6_greatestDivisor_9 fu_N p1 p2 0

set_option maxHeartbeats 4000000 in
set_option maxRecDepth 100000 in
theorem wl_X6_greatestDivisor_9 {p : Program} {e : Env} {s : State} {m : MethodId} {args : Array Value} {below : List Frame} {meth : Method} {c : Code} (l : Launch) (D : va_G) (k : kt_T) (A : Nat → Nat) (ws : va_W)   (out : Int64) (hK : kk_P D k s) (C0 : cx_P p s m meth c args cX6_greatestDivisor 11 wsX6_greatestDivisor RX6 (some .long))       (hP : va_P D vwCl ws s.heap) (hD : va_D (fun _ => True) ws) : ∀ (n : Nat) (x4 : Int64) (x6 : Int64) (x8 : Int32) (ls : Array Slot), lp_X6_greatestDivisor_9 n x4 x6 x8 = some out → lv_has ls 11 [(4, .long x4), (6, .long x6), (8, .int x8)] → W p l e (headSpec wsX6_greatestDivisor { frames := 0, cells := 0, slots := 0, locals := 0 }).room s m args below meth c s.heap [] 0 0 (MQ below (qs_Q (some (.long out))) args s 0 0 (fun _ => False)) (F0 m 9 ls []) := by
  obtain ⟨hx, hb, hml, hown, hts, hr, hlocks⟩ := id C0
  have hcf : CallFix p m c cX6_greatestDivisor 11 s args wsX6_greatestDivisor RX6 := ⟨hx, hb, hml, hown, hts⟩
  intro n
  induction n with
  | zero =>
    intro x4 x6 x8 ls hf hl
    exact (no_s hf).elim
  | succ n ih =>
    intro x4 x6 x8 ls hf hl
    rw [lp_X6_greatestDivisor_9] at hf
    refine lv_iload hx hb dX6_greatestDivisor_9 (lv_at hl 2 rfl) ?_
    refine lv_bipush (v := 100) hx hb dX6_greatestDivisor_11 (by decide) ?_
    refine lv_icmp_ge (tgt := 44) hx hb dX6_greatestDivisor_13 (by decide) (fun c1 => ?_) (fun c1 => ?_)
    · have hf := it_p c1 hf
      refine lv_lload hx hb dX6_greatestDivisor_44 (lv_at hl 0 rfl) ?_
      obtain rfl := so_i hf
      exact W.lret (v := x4) hx hb hr (fun t ht _ => ⟨rfl, ht⟩) (fun _ h => absurd h List.not_mem_nil) dX6_greatestDivisor_46
    · have hf := it_n c1 hf
      refine lv_lload hx hb dX6_greatestDivisor_16 (lv_at hl 1 rfl) ?_
      refine lv_lconst (v := 0) hx hb dX6_greatestDivisor_18 (by decide) ?_
      refine W.lcmp hx hb dX6_greatestDivisor_19 ?_
      refine lv_if_eq (tgt := 44) hx hb dX6_greatestDivisor_20 (by decide) (fun c2 => ?_) (fun c2 => ?_)
      · have hf := it_p c2 hf
        refine lv_lload hx hb dX6_greatestDivisor_44 (lv_at hl 0 rfl) ?_
        obtain rfl := so_i hf
        exact W.lret (v := x4) hx hb hr (fun t ht _ => ⟨rfl, ht⟩) (fun _ h => absurd h List.not_mem_nil) dX6_greatestDivisor_46
      · have hf := it_n c2 hf
        refine lv_lload hx hb dX6_greatestDivisor_23 (lv_at hl 0 rfl) ?_
        refine lv_lload hx hb dX6_greatestDivisor_25 (lv_at hl 1 rfl) ?_
        obtain ⟨z3, hf⟩ := ck_s hf
        refine lv_lrem hx hb dX6_greatestDivisor_27 (nz_t z3) ?_
        refine lv_lstore (lv' := [(9, .long (x4 - x4 / x6 * x6)), (4, .long x4), (6, .long x6), (8, .int x8)]) hx hb dX6_greatestDivisor_28 hl (by decide) rfl (fun ls hl => ?_)
        refine lv_lload hx hb dX6_greatestDivisor_30 (lv_at hl 2 rfl) ?_
        refine lv_lstore (lv' := [(4, .long x6), (9, .long (x4 - x4 / x6 * x6)), (6, .long x6), (8, .int x8)]) hx hb dX6_greatestDivisor_32 hl (by decide) rfl (fun ls hl => ?_)
        refine lv_lload hx hb dX6_greatestDivisor_34 (lv_at hl 1 rfl) ?_
        refine lv_lstore (lv' := [(6, .long (x4 - x4 / x6 * x6)), (4, .long x6), (9, .long (x4 - x4 / x6 * x6)), (8, .int x8)]) hx hb dX6_greatestDivisor_36 hl (by decide) rfl (fun ls hl => ?_)
        refine lv_iinc (v := (x8 + 1)) (lv' := [(8, .int (x8 + 1)), (6, .long (x4 - x4 / x6 * x6)), (4, .long x6), (9, .long (x4 - x4 / x6 * x6))]) hx hb dX6_greatestDivisor_38 hl (k := 3) rfl rfl (by decide) rfl (fun ls hl => ?_)
        refine lv_goto (tgt := 9) hx hb dX6_greatestDivisor_41 (by decide) ?_
        exact ih x6 (x4 - x4 / x6 * x6) (x8 + 1) _ hf (lv_sub hl [2, 1, 0] rfl)

set_option maxHeartbeats 4000000 in
set_option maxRecDepth 100000 in
theorem cz_X6_greatestDivisor (l : Launch) (D : va_G) (k : kt_T) (A : Nat → Nat) (ws : va_W)    (p1 : Int64) (p2 : Int64) (out : Int64) (hf : pf_X6_greatestDivisor p1 p2 = some out)   : Met l yX6_greatestDivisor wsX6_greatestDivisor { frames := 0, cells := 0, slots := 0, locals := 0 } (va_Pc [.long p1, .long p2] (pw_P D k ws)) (qs_Q (some (.long out))) 0 0 (fun _ => False) := by
  refine Met.ofW (cc := cX6_greatestDivisor) (maxL := 11) (ret := (some .long)) (by decide) rfl ?_
  intro p e s m args below meth c s₁ B hml hv
  obtain ⟨rfl, hP, hK, hD⟩ := hv
  have C0 : cx_P p s m meth c [.long p1, .long p2].toArray cX6_greatestDivisor 11 wsX6_greatestDivisor RX6 (some .long) := ⟨B.exec, B.bytes, hml, findClass_of_methodNamed B.named, atoms_spec (ws := wsX6_greatestDivisor) B.pre, B.returns, B.notSynchronized⟩
  obtain ⟨hx, hb, hml, hown, hts, hr, hlocks⟩ := id C0
  have hcf : CallFix p m c cX6_greatestDivisor 11 s [.long p1, .long p2].toArray wsX6_greatestDivisor RX6 := ⟨hx, hb, hml, hown, hts⟩
  have hl := lv_entry ([.long p1, .long p2]) (n := 11) (Nat.le_of_ble_eq_true rfl)
  rw [lg_entry_eq]
  generalize (lg_sl ([.long p1, .long p2]) ++ List.replicate (11 - (lg_sl ([.long p1, .long p2])).length) Slot.unset).toArray = ls at hl ⊢
  have hl : lv_has ls 11 [(0, .long p1), (2, .long p2)] := hl
  unfold pf_X6_greatestDivisor at hf
  refine lv_lload_n hx hb dX6_greatestDivisor_0 rfl (lv_at hl 0 rfl) ?_
  refine lv_lstore (lv' := [(4, .long p1), (0, .long p1), (2, .long p2)]) hx hb dX6_greatestDivisor_1 hl (by decide) rfl (fun ls hl => ?_)
  refine lv_lload_n hx hb dX6_greatestDivisor_3 rfl (lv_at hl 2 rfl) ?_
  refine lv_lstore (lv' := [(6, .long p2), (4, .long p1), (0, .long p1), (2, .long p2)]) hx hb dX6_greatestDivisor_4 hl (by decide) rfl (fun ls hl => ?_)
  refine lv_iconst (v := 0) hx hb dX6_greatestDivisor_6 (by decide) ?_
  refine lv_istore (lv' := [(8, .int 0), (6, .long p2), (4, .long p1), (0, .long p1), (2, .long p2)]) hx hb dX6_greatestDivisor_7 hl (by decide) rfl (fun ls hl => ?_)
  exact wl_X6_greatestDivisor_9 l D k A ws _ hK C0 hP hD fu_N p1 p2 0 _ hf (lv_sub hl [2, 1, 0] rfl)

