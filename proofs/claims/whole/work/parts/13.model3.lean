theorem in_X7_notes_X7 : ∀ w ∈ u_ws RX7 TX7 18, w ∈ wsX7_notes := fun w h => List.mem_cons_of_mem _ (List.mem_append_right _ h)
def lp_X7_notes_37  (st : Nat → Int32) (past : Nat → Int32) (acts : Int32) : Option ((Nat → Int32) × Int32) :=
  (pf_X7_bring st past 1025 6150 0 (1025 * acts) 1025).bind (fun r32 =>
    some (r32, (acts + 1)))

def pf_X7_notes (st : Nat → Int32) (past : Nat → Int32) (acts : Int32)   : Option ((Nat → Int32) × Int32) :=
  if acts = 6 then
    (pf_X7_bring_s past 6150 1025 0 5125).bind (fun r72 =>
      lp_X7_notes_37 st r72 (acts - 1))
  else
    lp_X7_notes_37 st past acts

set_option maxHeartbeats 4000000 in
set_option maxRecDepth 100000 in
theorem wl_X7_notes_37 {p : Program} {e : Env} {s : State} {m : MethodId} {args : Array Value} {below : List Frame} {meth : Method} {c : Code} (l : Launch) (D : va_G) (k : kt_T) (A : Nat → Nat) (ws : va_W) (q : Nat)  (out : (Nat → Int32) × Int32) (hK : kk_P D k s) (C0 : cx_P p s m meth c args cX7_notes 1 wsX7_notes RX7 none)  (st : Nat → Int32) (past : Nat → Int32) (image : Nat → Int32) (imagePast : Nat → Int32) (tape : Nat → Int32) (laneOf : Nat → Int32) (sizeOf : Nat → Int32) (items : Nat → Int64) (least : Nat → Int32) (costs : Nat → Int32) (hops : Nat → Int32) (comes : Nat → Int32) (chain : Nat → Int32) (told : Nat → Int32) (acts : Int32) (imageActs : Int32) (tapeMany : Int32) (readAt : Int32)     : ∀ (w : va_W) (H : Heap) (locs : List Loc) (ls : Array Slot), lp_X7_notes_37 st past acts = some out → is_Y k A w q st past image imagePast tape laneOf sizeOf items least costs hops comes chain told acts imageActs tapeMany readAt → sm_W ws w q (q + 15) → va_P D vwCl w H → va_D (va_A ws s.heap.size) w → va_S (va_A ws s.heap.size) s.heap H locs → lv_has ls 1 [(0, .ref (A q))] → W p l e (headSpec wsX7_notes { frames := 1, cells := 0, slots := 0, locals := 25 }).room s m args below meth c H locs 0 0 (MQ below (qw_Q D ws s.heap.size none (fun u => is_Y k A u q st out.1 image imagePast tape laneOf sizeOf items least costs hops comes chain told out.2 imageActs tapeMany readAt ∧ sm_W ws u q (q + 15))) args s 0 0 (va_A ws s.heap.size)) (F0 m 37 ls []) := by
  obtain ⟨hx, hb, hml, hown, hts, hr, hlocks⟩ := id C0
  have hcf : CallFix p m c cX7_notes 1 s args wsX7_notes RX7 := ⟨hx, hb, hml, hown, hts⟩
  have hA : ∀ q, s.heap.size ≤ q → va_A ws s.heap.size q := fun q h => Or.inr h
  have w_0 := hts (.fieldLink RX7 152 "LeastRoutesModel" "acts" "I") (List.mem_of_getElem? (i := 1) rfl)
  have w_1 := hts (.fieldLink RX7 13 "LeastRoutesModel" "past" "[I") (List.mem_of_getElem? (i := 2) rfl)
  have w_2 := hts (.fieldLink RX7 7 "LeastRoutesModel" "st" "[I") (List.mem_of_getElem? (i := 3) rfl)
  intro w H locs ls hf h_this hsm hP hD hS hl
  unfold lp_X7_notes_37 at hf
  refine lv_aload_n hx hb dX7_notes_37 rfl (lv_at hl 0 rfl) ?_
  obtain ⟨h17, h18, h19, h20, h21, h22, h23, h24, h25, h26, h27, h28, h29, h30, h31⟩ := h_this
  refine va_get (D := D) (ci := 7) (v := .ref (A (q + 1))) (C := RX7) (T := TX7) (N := 18) hx hb hts in_X7_notes_X7 hown hK.1 hP (q) h17 rfl 0 (by decide) w_2 (fun _ h9 => h9) rfl dX7_notes_38 ?_
  refine lv_iconst (v := 0) hx hb dX7_notes_41 (by decide) ?_
  refine lv_aload_n hx hb dX7_notes_42 rfl (lv_at hl 0 rfl) ?_
  refine va_get (D := D) (ci := 7) (v := .ref (A (q + 2))) (C := RX7) (T := TX7) (N := 18) hx hb hts in_X7_notes_X7 hown hK.1 hP (q) h17 rfl 1 (by decide) w_1 (fun _ h9 => h9) rfl dX7_notes_43 ?_
  refine lv_sipush (v := 1025) hx hb dX7_notes_46 (by decide) ?_
  refine lv_aload_n hx hb dX7_notes_49 rfl (lv_at hl 0 rfl) ?_
  refine va_get (D := D) (ci := 7) (v := .int acts) (C := RX7) (T := TX7) (N := 18) hx hb hts in_X7_notes_X7 hown hK.1 hP (q) h17 rfl 2 (by decide) w_0 (fun _ h9 => h9) rfl dX7_notes_50 ?_
  refine lv_imul hx hb dX7_notes_53 ?_
  refine lv_sipush (v := 1025) hx hb dX7_notes_54 (by decide) ?_
  obtain ⟨r32, h33, hf⟩ := bd_s hf
  refine kw_v (va_runS (As := [.ref (A (q + 1)), .int 0, .ref (A (q + 2)), .int (1025 * acts), .int 1025]) (rest := []) hcf (cz_X7_bring l D k A w (q + 1) (q + 2) 1025 6150 st past 0 (1025 * acts) 1025 r32 h33 h18 h19 (by omega) _) (va_cwS 5 hts gX7_notes_X7_bring rfl rfl rfl (by decide +kernel) ⟨Nat.le_of_ble_eq_true rfl, Nat.le_of_ble_eq_true rfl⟩) (px_S hP hK hD) rfl rfl hl.1 rfl (lv_room (Nat.le_of_ble_eq_true rfl)) dX7_notes_57 ⟨Nat.zero_le _, Nat.zero_le _⟩) hD hS hA (fun u34 _ _ h35 hP hD hS => ?_)
  obtain ⟨h37, m36⟩ := h35
  have hsm := sm_tr hsm m36 (by omega) (by omega)
  refine lv_aload_n hx hb dX7_notes_60 rfl (lv_at hl 0 rfl) ?_
  refine lv_dup hx hb dX7_notes_61 rfl ?_
  have h38 := sm_at m36 (by omega) h17
  refine va_get (D := D) (ci := 7) (v := .int acts) (C := RX7) (T := TX7) (N := 18) hx hb hts in_X7_notes_X7 hown hK.1 hP (q) h38 rfl 2 (by decide) w_0 (fun _ h9 => h9) rfl dX7_notes_62 ?_
  refine lv_iconst (v := 1) hx hb dX7_notes_65 (by decide) ?_
  refine lv_iadd hx hb dX7_notes_66 ?_
  refine va_put (D := D) (ci := 7) (v := .int (acts + 1)) (ty := .int) (C := RX7) (T := TX7) (N := 18) hx hb hts in_X7_notes_X7 tyX7 tyX7_ok nmX7 hown hK.1 hP hD hS (q) h38 rfl 2 (by decide) w_0 (fun _ h9 => h9) rfl (by decide +kernel) rfl rfl (Nat.le_of_ble_eq_true rfl) dX7_notes_67 (fun _ _ hP hD hS => ?_)
  obtain ⟨u39, h40, m41, hP, hD⟩ := wd_put hP hD h38
  have hsm := sm_tr hsm m41 (by omega) (by omega)
  have h42 : u39[q]? = some (A (q), .inr (7, [.ref (A (q + 1)), .ref (A (q + 2)), .int (acts + 1), .ref (A (q + 3)), .ref (A (q + 4)), .int imageActs, .ref (A (q + 5)), .int tapeMany, .ref (A (q + 6)), .ref (A (q + 7)), .ref (A (q + 8)), .ref (A (q + 9)), .ref (A (q + 10)), .ref (A (q + 11)), .ref (A (q + 12)), .ref (A (q + 13)), .ref (A (q + 14)), .int readAt])) := h40
  obtain rfl := so_i hf
  have h43 := sm_at m36 (by omega) h18
  have h44 := sm_at m41 (by omega) h43
  have h45 := sm_at m41 (by omega) h37
  have h46 := sm_at m36 (by omega) h20
  have h47 := sm_at m41 (by omega) h46
  have h48 := sm_at m36 (by omega) h21
  have h49 := sm_at m41 (by omega) h48
  have h50 := sm_at m36 (by omega) h22
  have h51 := sm_at m41 (by omega) h50
  have h52 := sm_at m36 (by omega) h23
  have h53 := sm_at m41 (by omega) h52
  have h54 := sm_at m36 (by omega) h24
  have h55 := sm_at m41 (by omega) h54
  have h56 := sm_at m36 (by omega) h25
  have h57 := sm_at m41 (by omega) h56
  have h58 := sm_at m36 (by omega) h26
  have h59 := sm_at m41 (by omega) h58
  have h60 := sm_at m36 (by omega) h27
  have h61 := sm_at m41 (by omega) h60
  have h62 := sm_at m36 (by omega) h28
  have h63 := sm_at m41 (by omega) h62
  have h64 := sm_at m36 (by omega) h29
  have h65 := sm_at m41 (by omega) h64
  have h66 := sm_at m36 (by omega) h30
  have h67 := sm_at m41 (by omega) h66
  have h68 := sm_at m36 (by omega) h31
  have h69 := sm_at m41 (by omega) h68
  have h70 : is_Y k A u39 (q) st r32 image imagePast tape laneOf sizeOf items least costs hops comes chain told (acts + 1) imageActs tapeMany readAt := ⟨h42, h44, h45, h47, h49, h51, h53, h55, h57, h59, h61, h63, h65, h67, h69⟩
  exact W.vret hx hb hr (qw_end hS hP hD ⟨h70, hsm⟩) hS.2.2 dX7_notes_70

set_option maxHeartbeats 4000000 in
set_option maxRecDepth 100000 in
theorem cz_X7_notes (l : Launch) (D : va_G) (k : kt_T) (A : Nat → Nat) (ws : va_W) (q : Nat)  (st : Nat → Int32) (past : Nat → Int32) (image : Nat → Int32) (imagePast : Nat → Int32) (tape : Nat → Int32) (laneOf : Nat → Int32) (sizeOf : Nat → Int32) (items : Nat → Int64) (least : Nat → Int32) (costs : Nat → Int32) (hops : Nat → Int32) (comes : Nat → Int32) (chain : Nat → Int32) (told : Nat → Int32) (acts : Int32) (imageActs : Int32) (tapeMany : Int32) (readAt : Int32)  (out : (Nat → Int32) × Int32) (hf : pf_X7_notes st past acts = some out) (h_this : is_Y k A ws q st past image imagePast tape laneOf sizeOf items least costs hops comes chain told acts imageActs tapeMany readAt)  (sz0 : Nat) : Met l yX7_notes wsX7_notes { frames := 1, cells := 0, slots := 0, locals := 25 } (va_Pc [.ref (A q)] (px_P D k ws sz0)) (qw_Q D ws sz0 none (fun u => is_Y k A u q st out.1 image imagePast tape laneOf sizeOf items least costs hops comes chain told out.2 imageActs tapeMany readAt ∧ sm_W ws u q (q + 15))) 0 0 (va_A ws sz0) := by
  refine Met.ofW (cc := cX7_notes) (maxL := 1) (ret := none) (by decide) rfl ?_
  intro p e s m args below meth c s₁ B hml hv
  obtain ⟨rfl, hsz, hP, hK, hD0⟩ := hv
  subst hsz
  have hD := hD0.self (sz := s.heap.size)
  have C0 : cx_P p s m meth c [.ref (A q)].toArray cX7_notes 1 wsX7_notes RX7 none := ⟨B.exec, B.bytes, hml, findClass_of_methodNamed B.named, atoms_spec (ws := wsX7_notes) B.pre, B.returns, B.notSynchronized⟩
  obtain ⟨hx, hb, hml, hown, hts, hr, hlocks⟩ := id C0
  have hcf : CallFix p m c cX7_notes 1 s [.ref (A q)].toArray wsX7_notes RX7 := ⟨hx, hb, hml, hown, hts⟩
  have hA : ∀ q, s.heap.size ≤ q → va_A ws s.heap.size q := fun q h => Or.inr h
  have hS : va_S (va_A ws s.heap.size) s.heap s.heap [] := va_S.rf
  have hsm : sm_W ws ws q (q + 15) := sm_rf
  have w_0 := hts (.fieldLink RX7 152 "LeastRoutesModel" "acts" "I") (List.mem_of_getElem? (i := 1) rfl)
  have w_1 := hts (.fieldLink RX7 13 "LeastRoutesModel" "past" "[I") (List.mem_of_getElem? (i := 2) rfl)
  have hl := lv_entry ([.ref (A q)]) (n := 1) (Nat.le_of_ble_eq_true rfl)
  rw [lg_entry_eq]
  generalize (lg_sl ([.ref (A q)]) ++ List.replicate (1 - (lg_sl ([.ref (A q)])).length) Slot.unset).toArray = ls at hl ⊢
  have hl : lv_has ls 1 [(0, .ref (A q))] := hl
  unfold pf_X7_notes at hf
  refine lv_aload_n hx hb dX7_notes_0 rfl (lv_at hl 0 rfl) ?_
  obtain ⟨h1, h2, h3, h4, h5, h6, h7, h8, h9, h10, h11, h12, h13, h14, h15⟩ := h_this
  refine va_get (D := D) (ci := 7) (v := .int acts) (C := RX7) (T := TX7) (N := 18) hx hb hts in_X7_notes_X7 hown hK.1 hP (q) h1 rfl 2 (by decide) w_0 (fun _ h9 => h9) rfl dX7_notes_1 ?_
  refine lv_bipush (v := 6) hx hb dX7_notes_4 (by decide) ?_
  refine lv_icmp_ne (tgt := 37) hx hb dX7_notes_6 (by decide) (fun c16 => ?_) (fun c16 => ?_)
  · have hf := it_n c16 hf
    have h71 : is_Y k A ws (q) st past image imagePast tape laneOf sizeOf items least costs hops comes chain told acts imageActs tapeMany readAt := ⟨h1, h2, h3, h4, h5, h6, h7, h8, h9, h10, h11, h12, h13, h14, h15⟩
    exact wl_X7_notes_37 l D k A ws q _ hK C0 st past image imagePast tape laneOf sizeOf items least costs hops comes chain told acts imageActs tapeMany readAt _ _ _ _ hf h71 hsm hP hD hS (lv_sub hl [0] rfl)
  · have hf := it_p c16 hf
    refine lv_aload_n hx hb dX7_notes_9 rfl (lv_at hl 0 rfl) ?_
    refine va_get (D := D) (ci := 7) (v := .ref (A (q + 2))) (C := RX7) (T := TX7) (N := 18) hx hb hts in_X7_notes_X7 hown hK.1 hP (q) h1 rfl 1 (by decide) w_1 (fun _ h9 => h9) rfl dX7_notes_10 ?_
    refine lv_sipush (v := 1025) hx hb dX7_notes_13 (by decide) ?_
    refine lv_aload_n hx hb dX7_notes_16 rfl (lv_at hl 0 rfl) ?_
    refine va_get (D := D) (ci := 7) (v := .ref (A (q + 2))) (C := RX7) (T := TX7) (N := 18) hx hb hts in_X7_notes_X7 hown hK.1 hP (q) h1 rfl 1 (by decide) w_1 (fun _ h9 => h9) rfl dX7_notes_17 ?_
    refine lv_iconst (v := 0) hx hb dX7_notes_20 (by decide) ?_
    refine lv_sipush (v := 5125) hx hb dX7_notes_21 (by decide) ?_
    obtain ⟨r72, h73, hf⟩ := bd_s hf
    refine kw_v (va_runS (As := [.ref (A (q + 2)), .int 1025, .ref (A (q + 2)), .int 0, .int 5125]) (rest := []) hcf (cz_X7_bring_s l D k A ws (q + 2) 6150 past 1025 0 5125 r72 h73 h3 _) (va_cwS 5 hts gX7_notes_X7_bring rfl rfl rfl (by decide +kernel) ⟨Nat.le_of_ble_eq_true rfl, Nat.le_of_ble_eq_true rfl⟩) (px_S hP hK hD) rfl rfl hl.1 rfl (lv_room (Nat.le_of_ble_eq_true rfl)) dX7_notes_24 ⟨Nat.zero_le _, Nat.zero_le _⟩) hD hS hA (fun u74 _ _ h75 hP hD hS => ?_)
    obtain ⟨h77, m76⟩ := h75
    have hsm := sm_tr hsm m76 (by omega) (by omega)
    refine lv_aload_n hx hb dX7_notes_27 rfl (lv_at hl 0 rfl) ?_
    refine lv_dup hx hb dX7_notes_28 rfl ?_
    have h78 := sm_at m76 (by omega) h1
    refine va_get (D := D) (ci := 7) (v := .int acts) (C := RX7) (T := TX7) (N := 18) hx hb hts in_X7_notes_X7 hown hK.1 hP (q) h78 rfl 2 (by decide) w_0 (fun _ h9 => h9) rfl dX7_notes_29 ?_
    refine lv_iconst (v := 1) hx hb dX7_notes_32 (by decide) ?_
    refine lv_isub hx hb dX7_notes_33 ?_
    refine va_put (D := D) (ci := 7) (v := .int (acts - 1)) (ty := .int) (C := RX7) (T := TX7) (N := 18) hx hb hts in_X7_notes_X7 tyX7 tyX7_ok nmX7 hown hK.1 hP hD hS (q) h78 rfl 2 (by decide) w_0 (fun _ h9 => h9) rfl (by decide +kernel) rfl rfl (Nat.le_of_ble_eq_true rfl) dX7_notes_34 (fun _ _ hP hD hS => ?_)
    obtain ⟨u79, h80, m81, hP, hD⟩ := wd_put hP hD h78
    have hsm := sm_tr hsm m81 (by omega) (by omega)
    have h82 : u79[q]? = some (A (q), .inr (7, [.ref (A (q + 1)), .ref (A (q + 2)), .int (acts - 1), .ref (A (q + 3)), .ref (A (q + 4)), .int imageActs, .ref (A (q + 5)), .int tapeMany, .ref (A (q + 6)), .ref (A (q + 7)), .ref (A (q + 8)), .ref (A (q + 9)), .ref (A (q + 10)), .ref (A (q + 11)), .ref (A (q + 12)), .ref (A (q + 13)), .ref (A (q + 14)), .int readAt])) := h80
    have h83 := sm_at m76 (by omega) h2
    have h84 := sm_at m81 (by omega) h83
    have h85 := sm_at m81 (by omega) h77
    have h86 := sm_at m76 (by omega) h4
    have h87 := sm_at m81 (by omega) h86
    have h88 := sm_at m76 (by omega) h5
    have h89 := sm_at m81 (by omega) h88
    have h90 := sm_at m76 (by omega) h6
    have h91 := sm_at m81 (by omega) h90
    have h92 := sm_at m76 (by omega) h7
    have h93 := sm_at m81 (by omega) h92
    have h94 := sm_at m76 (by omega) h8
    have h95 := sm_at m81 (by omega) h94
    have h96 := sm_at m76 (by omega) h9
    have h97 := sm_at m81 (by omega) h96
    have h98 := sm_at m76 (by omega) h10
    have h99 := sm_at m81 (by omega) h98
    have h100 := sm_at m76 (by omega) h11
    have h101 := sm_at m81 (by omega) h100
    have h102 := sm_at m76 (by omega) h12
    have h103 := sm_at m81 (by omega) h102
    have h104 := sm_at m76 (by omega) h13
    have h105 := sm_at m81 (by omega) h104
    have h106 := sm_at m76 (by omega) h14
    have h107 := sm_at m81 (by omega) h106
    have h108 := sm_at m76 (by omega) h15
    have h109 := sm_at m81 (by omega) h108
    have h110 : is_Y k A u79 (q) st r72 image imagePast tape laneOf sizeOf items least costs hops comes chain told (acts - 1) imageActs tapeMany readAt := ⟨h82, h84, h85, h87, h89, h91, h93, h95, h97, h99, h101, h103, h105, h107, h109⟩
    exact wl_X7_notes_37 l D k A ws q _ hK C0 st r72 image imagePast tape laneOf sizeOf items least costs hops comes chain told (acts - 1) imageActs tapeMany readAt _ _ _ _ hf h110 hsm hP hD hS (lv_sub hl [0] rfl)

theorem in_X7_tell_X7 : ∀ w ∈ u_ws RX7 TX7 18, w ∈ wsX7_tell := fun w h => List.mem_cons_of_mem _ (List.mem_append_right _ h)
def pf_X7_tell (st : Nat → Int32) (past : Nat → Int32) (acts : Int32)  (p1 : Int32) (p2 : Int32) : Option (Int32 × (Nat → Int32) × (Nat → Int32) × Int32) :=
  (pf_X7_isPrefix p1).bind (fun r1 =>
    if r1 = 0 then
      some ((-1), st, past, acts)
    else
      (pf_X7_in (Int32.toInt64 p2) 0 7).bind (fun r4 =>
        if r4 = 0 then
          some ((-1), st, past, acts)
        else
          ck_O (in_b (0 + p1) 1025) (
            lt_O (st (Int32.toNatClampNeg (0 + p1))) (fun y23 =>
              if y23 = p2 then
                some ((-2), st, past, acts)
              else
                if y23 = 8 then
                  (pf_X7_many st 1025 0).bind (fun r68 =>
                    if r68 = 40 then
                      some ((-3), st, past, acts)
                    else
                      (pf_X7_notes st past acts).bind (fun r72 =>
                        ck_O (in_b (0 + p1) 1025) (
                          some (y23, (upd st (Int32.toNatClampNeg (0 + p1)) p2), r72.1, r72.2))))
                else
                  (pf_X7_notes st past acts).bind (fun r28 =>
                    ck_O (in_b (0 + p1) 1025) (
                      some (y23, (upd st (Int32.toNatClampNeg (0 + p1)) p2), r28.1, r28.2)))))))

set_option maxHeartbeats 4000000 in
set_option maxRecDepth 100000 in
theorem cz_X7_tell (l : Launch) (D : va_G) (k : kt_T) (A : Nat → Nat) (ws : va_W) (q : Nat)  (st : Nat → Int32) (past : Nat → Int32) (image : Nat → Int32) (imagePast : Nat → Int32) (tape : Nat → Int32) (laneOf : Nat → Int32) (sizeOf : Nat → Int32) (items : Nat → Int64) (least : Nat → Int32) (costs : Nat → Int32) (hops : Nat → Int32) (comes : Nat → Int32) (chain : Nat → Int32) (told : Nat → Int32) (acts : Int32) (imageActs : Int32) (tapeMany : Int32) (readAt : Int32) (p1 : Int32) (p2 : Int32) (out : Int32 × (Nat → Int32) × (Nat → Int32) × Int32) (hf : pf_X7_tell st past acts p1 p2 = some out) (h_this : is_Y k A ws q st past image imagePast tape laneOf sizeOf items least costs hops comes chain told acts imageActs tapeMany readAt)  (sz0 : Nat) : Met l yX7_tell wsX7_tell { frames := 2, cells := 0, slots := 0, locals := 45 } (va_Pc [.ref (A q), .int p1, .int p2] (px_P D k ws sz0)) (qw_Q D ws sz0 (some (.int out.1)) (fun u => is_Y k A u q out.2.1 out.2.2.1 image imagePast tape laneOf sizeOf items least costs hops comes chain told out.2.2.2 imageActs tapeMany readAt ∧ sm_W ws u q (q + 15))) 0 0 (va_A ws sz0) := by
  refine Met.ofW (cc := cX7_tell) (maxL := 4) (ret := (some .int)) (by decide) rfl ?_
  intro p e s m args below meth c s₁ B hml hv
  obtain ⟨rfl, hsz, hP, hK, hD0⟩ := hv
  subst hsz
  have hD := hD0.self (sz := s.heap.size)
  have C0 : cx_P p s m meth c [.ref (A q), .int p1, .int p2].toArray cX7_tell 4 wsX7_tell RX7 (some .int) := ⟨B.exec, B.bytes, hml, findClass_of_methodNamed B.named, atoms_spec (ws := wsX7_tell) B.pre, B.returns, B.notSynchronized⟩
  obtain ⟨hx, hb, hml, hown, hts, hr, hlocks⟩ := id C0
  have hcf : CallFix p m c cX7_tell 4 s [.ref (A q), .int p1, .int p2].toArray wsX7_tell RX7 := ⟨hx, hb, hml, hown, hts⟩
  have hA : ∀ q, s.heap.size ≤ q → va_A ws s.heap.size q := fun q h => Or.inr h
  have hS : va_S (va_A ws s.heap.size) s.heap s.heap [] := va_S.rf
  have hsm : sm_W ws ws q (q + 15) := sm_rf
  have w_0 := hts (.constantLong RX7 116 (7)) (List.mem_of_getElem? (i := 1) rfl)
  have w_1 := hts (.fieldLink RX7 7 "LeastRoutesModel" "st" "[I") (List.mem_of_getElem? (i := 2) rfl)
  have hl := lv_entry ([.ref (A q), .int p1, .int p2]) (n := 4) (Nat.le_of_ble_eq_true rfl)
  rw [lg_entry_eq]
  generalize (lg_sl ([.ref (A q), .int p1, .int p2]) ++ List.replicate (4 - (lg_sl ([.ref (A q), .int p1, .int p2])).length) Slot.unset).toArray = ls at hl ⊢
  have hl : lv_has ls 4 [(0, .ref (A q)), (1, .int p1), (2, .int p2)] := hl
  unfold pf_X7_tell at hf
  refine lv_iload_n hx hb dX7_tell_0 rfl (lv_at hl 1 rfl) ?_
  obtain ⟨r1, h2, hf⟩ := bd_s hf
  refine ks_i (va_runS (As := [.int p1]) (rest := []) hcf (cz_X7_isPrefix l D k A ws p1 r1 h2) (va_cwS 1 hts gX7_tell_X7_isPrefix rfl rfl rfl (by decide +kernel) ⟨Nat.le_of_ble_eq_true rfl, Nat.le_of_ble_eq_true rfl⟩) (pw_S hP hK hD) rfl rfl hl.1 rfl (lv_room (Nat.le_of_ble_eq_true rfl)) dX7_tell_1 ⟨Nat.zero_le _, Nat.zero_le _⟩) ?_
  refine lv_if_eq (tgt := 19) hx hb dX7_tell_4 (by decide) (fun c3 => ?_) (fun c3 => ?_)
  · have hf := it_p c3 hf
    refine lv_iconst (v := (-1)) hx hb dX7_tell_19 (by decide) ?_
    obtain rfl := so_i hf
    exact W.iret (v := (-1)) hx hb hr (qw_end hS hP hD ⟨h_this, hsm⟩) hS.2.2 dX7_tell_20
  · have hf := it_n c3 hf
    refine lv_iload_n hx hb dX7_tell_7 rfl (lv_at hl 2 rfl) ?_
    refine lv_i2l hx hb dX7_tell_8 rfl ?_
    refine lv_lconst (v := 0) hx hb dX7_tell_9 (by decide) ?_
    refine lv_ldc2 hx hb hown w_0 dX7_tell_10 ?_
    obtain ⟨r4, h5, hf⟩ := bd_s hf
    refine ks_i (va_runS (As := [.long (Int32.toInt64 p2), .long 0, .long 7]) (rest := []) hcf (cz_X7_in l D k A ws (Int32.toInt64 p2) 0 7 r4 h5) (va_cwS 3 hts gX7_tell_X7_in rfl rfl rfl (by decide +kernel) ⟨Nat.le_of_ble_eq_true rfl, Nat.le_of_ble_eq_true rfl⟩) (pw_S hP hK hD) rfl rfl hl.1 rfl (lv_room (Nat.le_of_ble_eq_true rfl)) dX7_tell_13 ⟨Nat.zero_le _, Nat.zero_le _⟩) ?_
    refine lv_if_ne (tgt := 21) hx hb dX7_tell_16 (by decide) (fun c6 => ?_) (fun c6 => ?_)
    · have hf := it_n c6 hf
      refine lv_aload_n hx hb dX7_tell_21 rfl (lv_at hl 0 rfl) ?_
      obtain ⟨h7, h8, h9, h10, h11, h12, h13, h14, h15, h16, h17, h18, h19, h20, h21⟩ := h_this
      refine va_get (D := D) (ci := 7) (v := .ref (A (q + 1))) (C := RX7) (T := TX7) (N := 18) hx hb hts in_X7_tell_X7 hown hK.1 hP (q) h7 rfl 0 (by decide) w_1 (fun _ h9 => h9) rfl dX7_tell_22 ?_
      refine lv_iconst (v := 0) hx hb dX7_tell_25 (by decide) ?_
      refine lv_iload_n hx hb dX7_tell_26 rfl (lv_at hl 1 rfl) ?_
      refine lv_iadd hx hb dX7_tell_27 ?_
      obtain ⟨z22, hf⟩ := ck_s hf
      refine va_iald hx hb hK.1 hP (q + 1) 0 h8 rfl (in_s z22) dX7_tell_28 ?_
      refine lv_topi (fun y23 e24 => ?_)
      have hf := lt_s' e24 hf
      refine lv_istore_n (lv' := [(3, .int y23), (0, .ref (A q)), (1, .int p1), (2, .int p2)]) hx hb dX7_tell_29 rfl hl (by decide) rfl (fun ls hl => ?_)
      refine lv_iload_n hx hb dX7_tell_30 rfl (lv_at hl 0 rfl) ?_
      refine lv_iload_n hx hb dX7_tell_31 rfl (lv_at hl 3 rfl) ?_
      refine lv_icmp_ne (tgt := 38) hx hb dX7_tell_32 (by decide) (fun c25 => ?_) (fun c25 => ?_)
      · have hf := it_n c25 hf
        refine lv_iload_n hx hb dX7_tell_38 rfl (lv_at hl 0 rfl) ?_
        refine lv_bipush (v := 8) hx hb dX7_tell_39 (by decide) ?_
        refine lv_icmp_ne (tgt := 60) hx hb dX7_tell_41 (by decide) (fun c26 => ?_) (fun c26 => ?_)
        · have hf := it_n c26 hf
          refine lv_aload_n hx hb dX7_tell_60 rfl (lv_at hl 1 rfl) ?_
          have h27 : is_Y k A ws (q) st past image imagePast tape laneOf sizeOf items least costs hops comes chain told acts imageActs tapeMany readAt := ⟨h7, h8, h9, h10, h11, h12, h13, h14, h15, h16, h17, h18, h19, h20, h21⟩
          obtain ⟨r28, h29, hf⟩ := bd_s hf
          refine kw_v (va_runV (As := []) (rest := []) hcf (cz_X7_notes l D k A ws (q) st past image imagePast tape laneOf sizeOf items least costs hops comes chain told acts imageActs tapeMany readAt r28 h29 h27 _) (cwV 0 hts gX7_tell_X7_notes rfl rfl rfl (by decide +kernel) ⟨Nat.le_of_ble_eq_true rfl, Nat.le_of_ble_eq_true rfl⟩) (px_V hP hK hD (ci := 7) h27.1 rfl) rfl rfl hl.1 rfl (lv_room (Nat.le_of_ble_eq_true rfl)) dX7_tell_61 ⟨Nat.zero_le _, Nat.zero_le _⟩) hD hS hA (fun u30 _ _ h31 hP hD hS => ?_)
          obtain ⟨h33, m32⟩ := h31
          have hsm := sm_tr hsm m32 (by omega) (by omega)
          refine lv_aload_n hx hb dX7_tell_64 rfl (lv_at hl 1 rfl) ?_
          obtain ⟨h34, h35, h36, h37, h38, h39, h40, h41, h42, h43, h44, h45, h46, h47, h48⟩ := h33
          refine va_get (D := D) (ci := 7) (v := .ref (A (q + 1))) (C := RX7) (T := TX7) (N := 18) hx hb hts in_X7_tell_X7 hown hK.1 hP (q) h34 rfl 0 (by decide) w_1 (fun _ h9 => h9) rfl dX7_tell_65 ?_
          refine lv_iconst (v := 0) hx hb dX7_tell_68 (by decide) ?_
          refine lv_iload_n hx hb dX7_tell_69 rfl (lv_at hl 2 rfl) ?_
          refine lv_iadd hx hb dX7_tell_70 ?_
          refine lv_iload_n hx hb dX7_tell_71 rfl (lv_at hl 3 rfl) ?_
          obtain ⟨z49, hf⟩ := ck_s hf
          refine va_iast hx hb hK.1 hP hD hS (q + 1) 0 h35 rfl (in_s z49) dX7_tell_72 (fun _ _ hP hD hS => ?_)
          obtain ⟨u50, h51, m52, hP, hD⟩ := wd_put hP hD h35
          have hsm := sm_tr hsm m52 (by omega) (by omega)
          refine lv_iload_n hx hb dX7_tell_73 rfl (lv_at hl 0 rfl) ?_
          obtain rfl := so_i hf
          have h53 := sm_at m52 (by omega) h34
          have h54 := sm_at m52 (by omega) h36
          have h55 := sm_at m52 (by omega) h37
          have h56 := sm_at m52 (by omega) h38
          have h57 := sm_at m52 (by omega) h39
          have h58 := sm_at m52 (by omega) h40
          have h59 := sm_at m52 (by omega) h41
          have h60 := sm_at m52 (by omega) h42
          have h61 := sm_at m52 (by omega) h43
          have h62 := sm_at m52 (by omega) h44
          have h63 := sm_at m52 (by omega) h45
          have h64 := sm_at m52 (by omega) h46
          have h65 := sm_at m52 (by omega) h47
          have h66 := sm_at m52 (by omega) h48
          have h67 : is_Y k A u50 (q) (upd st (Int32.toNatClampNeg (0 + p1)) p2) r28.1 image imagePast tape laneOf sizeOf items least costs hops comes chain told r28.2 imageActs tapeMany readAt := ⟨h53, h51, h54, h55, h56, h57, h58, h59, h60, h61, h62, h63, h64, h65, h66⟩
          exact W.iret (v := y23) hx hb hr (qw_end hS hP hD ⟨h67, hsm⟩) hS.2.2 dX7_tell_74
        · have hf := it_p c26 hf
          refine lv_aload_n hx hb dX7_tell_44 rfl (lv_at hl 1 rfl) ?_
          refine va_get (D := D) (ci := 7) (v := .ref (A (q + 1))) (C := RX7) (T := TX7) (N := 18) hx hb hts in_X7_tell_X7 hown hK.1 hP (q) h7 rfl 0 (by decide) w_1 (fun _ h9 => h9) rfl dX7_tell_45 ?_
          refine lv_iconst (v := 0) hx hb dX7_tell_48 (by decide) ?_
          obtain ⟨r68, h69, hf⟩ := bd_s hf
          refine ks_i (va_runS (As := [.ref (A (q + 1)), .int 0]) (rest := []) hcf (cz_X7_many l D k A ws (q + 1) 1025 st 0 r68 h69 h8) (va_cwS 2 hts gX7_tell_X7_many rfl rfl rfl (by decide +kernel) ⟨Nat.le_of_ble_eq_true rfl, Nat.le_of_ble_eq_true rfl⟩) (pw_S hP hK hD) rfl rfl hl.1 rfl (lv_room (Nat.le_of_ble_eq_true rfl)) dX7_tell_49 ⟨Nat.zero_le _, Nat.zero_le _⟩) ?_
          refine lv_bipush (v := 40) hx hb dX7_tell_52 (by decide) ?_
          refine lv_icmp_ne (tgt := 60) hx hb dX7_tell_54 (by decide) (fun c70 => ?_) (fun c70 => ?_)
          · have hf := it_n c70 hf
            refine lv_aload_n hx hb dX7_tell_60 rfl (lv_at hl 1 rfl) ?_
            have h71 : is_Y k A ws (q) st past image imagePast tape laneOf sizeOf items least costs hops comes chain told acts imageActs tapeMany readAt := ⟨h7, h8, h9, h10, h11, h12, h13, h14, h15, h16, h17, h18, h19, h20, h21⟩
            obtain ⟨r72, h73, hf⟩ := bd_s hf
            refine kw_v (va_runV (As := []) (rest := []) hcf (cz_X7_notes l D k A ws (q) st past image imagePast tape laneOf sizeOf items least costs hops comes chain told acts imageActs tapeMany readAt r72 h73 h71 _) (cwV 0 hts gX7_tell_X7_notes rfl rfl rfl (by decide +kernel) ⟨Nat.le_of_ble_eq_true rfl, Nat.le_of_ble_eq_true rfl⟩) (px_V hP hK hD (ci := 7) h71.1 rfl) rfl rfl hl.1 rfl (lv_room (Nat.le_of_ble_eq_true rfl)) dX7_tell_61 ⟨Nat.zero_le _, Nat.zero_le _⟩) hD hS hA (fun u74 _ _ h75 hP hD hS => ?_)
            obtain ⟨h77, m76⟩ := h75
            have hsm := sm_tr hsm m76 (by omega) (by omega)
            refine lv_aload_n hx hb dX7_tell_64 rfl (lv_at hl 1 rfl) ?_
            obtain ⟨h78, h79, h80, h81, h82, h83, h84, h85, h86, h87, h88, h89, h90, h91, h92⟩ := h77
            refine va_get (D := D) (ci := 7) (v := .ref (A (q + 1))) (C := RX7) (T := TX7) (N := 18) hx hb hts in_X7_tell_X7 hown hK.1 hP (q) h78 rfl 0 (by decide) w_1 (fun _ h9 => h9) rfl dX7_tell_65 ?_
            refine lv_iconst (v := 0) hx hb dX7_tell_68 (by decide) ?_
            refine lv_iload_n hx hb dX7_tell_69 rfl (lv_at hl 2 rfl) ?_
            refine lv_iadd hx hb dX7_tell_70 ?_
            refine lv_iload_n hx hb dX7_tell_71 rfl (lv_at hl 3 rfl) ?_
            obtain ⟨z93, hf⟩ := ck_s hf
            refine va_iast hx hb hK.1 hP hD hS (q + 1) 0 h79 rfl (in_s z93) dX7_tell_72 (fun _ _ hP hD hS => ?_)
            obtain ⟨u94, h95, m96, hP, hD⟩ := wd_put hP hD h79
            have hsm := sm_tr hsm m96 (by omega) (by omega)
            refine lv_iload_n hx hb dX7_tell_73 rfl (lv_at hl 0 rfl) ?_
            obtain rfl := so_i hf
            have h97 := sm_at m96 (by omega) h78
            have h98 := sm_at m96 (by omega) h80
            have h99 := sm_at m96 (by omega) h81
            have h100 := sm_at m96 (by omega) h82
            have h101 := sm_at m96 (by omega) h83
            have h102 := sm_at m96 (by omega) h84
            have h103 := sm_at m96 (by omega) h85
            have h104 := sm_at m96 (by omega) h86
            have h105 := sm_at m96 (by omega) h87
            have h106 := sm_at m96 (by omega) h88
            have h107 := sm_at m96 (by omega) h89
            have h108 := sm_at m96 (by omega) h90
            have h109 := sm_at m96 (by omega) h91
            have h110 := sm_at m96 (by omega) h92
            have h111 : is_Y k A u94 (q) (upd st (Int32.toNatClampNeg (0 + p1)) p2) r72.1 image imagePast tape laneOf sizeOf items least costs hops comes chain told r72.2 imageActs tapeMany readAt := ⟨h97, h95, h98, h99, h100, h101, h102, h103, h104, h105, h106, h107, h108, h109, h110⟩
            exact W.iret (v := y23) hx hb hr (qw_end hS hP hD ⟨h111, hsm⟩) hS.2.2 dX7_tell_74
          · have hf := it_p c70 hf
            refine lv_bipush (v := (-3)) hx hb dX7_tell_57 (by decide) ?_
            obtain rfl := so_i hf
            have h112 : is_Y k A ws (q) st past image imagePast tape laneOf sizeOf items least costs hops comes chain told acts imageActs tapeMany readAt := ⟨h7, h8, h9, h10, h11, h12, h13, h14, h15, h16, h17, h18, h19, h20, h21⟩
            exact W.iret (v := (-3)) hx hb hr (qw_end hS hP hD ⟨h112, hsm⟩) hS.2.2 dX7_tell_59
      · have hf := it_p c25 hf
        refine lv_bipush (v := (-2)) hx hb dX7_tell_35 (by decide) ?_
        obtain rfl := so_i hf
        have h113 : is_Y k A ws (q) st past image imagePast tape laneOf sizeOf items least costs hops comes chain told acts imageActs tapeMany readAt := ⟨h7, h8, h9, h10, h11, h12, h13, h14, h15, h16, h17, h18, h19, h20, h21⟩
        exact W.iret (v := (-2)) hx hb hr (qw_end hS hP hD ⟨h113, hsm⟩) hS.2.2 dX7_tell_37
    · have hf := it_p c6 hf
      refine lv_iconst (v := (-1)) hx hb dX7_tell_19 (by decide) ?_
      obtain rfl := so_i hf
      exact W.iret (v := (-1)) hx hb hr (qw_end hS hP hD ⟨h_this, hsm⟩) hS.2.2 dX7_tell_20

theorem in_X7_out_X7 : ∀ w ∈ u_ws RX7 TX7 18, w ∈ wsX7_out := fun w h => List.mem_cons_of_mem _ (List.mem_append_right _ h)
def pf_X7_out (st : Nat → Int32) (past : Nat → Int32) (acts : Int32)  (p1 : Int32) : Option (Int32 × (Nat → Int32) × (Nat → Int32) × Int32) :=
  (pf_X7_isPrefix p1).bind (fun r1 =>
    if r1 = 0 then
      some ((-1), st, past, acts)
    else
      ck_O (in_b (0 + p1) 1025) (
        lt_O (st (Int32.toNatClampNeg (0 + p1))) (fun y20 =>
          if y20 = 8 then
            some ((-4), st, past, acts)
          else
            (pf_X7_notes st past acts).bind (fun r24 =>
              ck_O (in_b (0 + p1) 1025) (
                some (y20, (upd st (Int32.toNatClampNeg (0 + p1)) 8), r24.1, r24.2))))))

set_option maxHeartbeats 4000000 in
set_option maxRecDepth 100000 in
theorem cz_X7_out (l : Launch) (D : va_G) (k : kt_T) (A : Nat → Nat) (ws : va_W) (q : Nat)  (st : Nat → Int32) (past : Nat → Int32) (image : Nat → Int32) (imagePast : Nat → Int32) (tape : Nat → Int32) (laneOf : Nat → Int32) (sizeOf : Nat → Int32) (items : Nat → Int64) (least : Nat → Int32) (costs : Nat → Int32) (hops : Nat → Int32) (comes : Nat → Int32) (chain : Nat → Int32) (told : Nat → Int32) (acts : Int32) (imageActs : Int32) (tapeMany : Int32) (readAt : Int32) (p1 : Int32) (out : Int32 × (Nat → Int32) × (Nat → Int32) × Int32) (hf : pf_X7_out st past acts p1 = some out) (h_this : is_Y k A ws q st past image imagePast tape laneOf sizeOf items least costs hops comes chain told acts imageActs tapeMany readAt)  (sz0 : Nat) : Met l yX7_out wsX7_out { frames := 2, cells := 0, slots := 0, locals := 45 } (va_Pc [.ref (A q), .int p1] (px_P D k ws sz0)) (qw_Q D ws sz0 (some (.int out.1)) (fun u => is_Y k A u q out.2.1 out.2.2.1 image imagePast tape laneOf sizeOf items least costs hops comes chain told out.2.2.2 imageActs tapeMany readAt ∧ sm_W ws u q (q + 15))) 0 0 (va_A ws sz0) := by
  refine Met.ofW (cc := cX7_out) (maxL := 3) (ret := (some .int)) (by decide) rfl ?_
  intro p e s m args below meth c s₁ B hml hv
  obtain ⟨rfl, hsz, hP, hK, hD0⟩ := hv
  subst hsz
  have hD := hD0.self (sz := s.heap.size)
  have C0 : cx_P p s m meth c [.ref (A q), .int p1].toArray cX7_out 3 wsX7_out RX7 (some .int) := ⟨B.exec, B.bytes, hml, findClass_of_methodNamed B.named, atoms_spec (ws := wsX7_out) B.pre, B.returns, B.notSynchronized⟩
  obtain ⟨hx, hb, hml, hown, hts, hr, hlocks⟩ := id C0
  have hcf : CallFix p m c cX7_out 3 s [.ref (A q), .int p1].toArray wsX7_out RX7 := ⟨hx, hb, hml, hown, hts⟩
  have hA : ∀ q, s.heap.size ≤ q → va_A ws s.heap.size q := fun q h => Or.inr h
  have hS : va_S (va_A ws s.heap.size) s.heap s.heap [] := va_S.rf
  have hsm : sm_W ws ws q (q + 15) := sm_rf
  have w_0 := hts (.fieldLink RX7 7 "LeastRoutesModel" "st" "[I") (List.mem_of_getElem? (i := 1) rfl)
  have hl := lv_entry ([.ref (A q), .int p1]) (n := 3) (Nat.le_of_ble_eq_true rfl)
  rw [lg_entry_eq]
  generalize (lg_sl ([.ref (A q), .int p1]) ++ List.replicate (3 - (lg_sl ([.ref (A q), .int p1])).length) Slot.unset).toArray = ls at hl ⊢
  have hl : lv_has ls 3 [(0, .ref (A q)), (1, .int p1)] := hl
  unfold pf_X7_out at hf
  refine lv_iload_n hx hb dX7_out_0 rfl (lv_at hl 1 rfl) ?_
  obtain ⟨r1, h2, hf⟩ := bd_s hf
  refine ks_i (va_runS (As := [.int p1]) (rest := []) hcf (cz_X7_isPrefix l D k A ws p1 r1 h2) (va_cwS 1 hts gX7_out_X7_isPrefix rfl rfl rfl (by decide +kernel) ⟨Nat.le_of_ble_eq_true rfl, Nat.le_of_ble_eq_true rfl⟩) (pw_S hP hK hD) rfl rfl hl.1 rfl (lv_room (Nat.le_of_ble_eq_true rfl)) dX7_out_1 ⟨Nat.zero_le _, Nat.zero_le _⟩) ?_
  refine lv_if_ne (tgt := 9) hx hb dX7_out_4 (by decide) (fun c3 => ?_) (fun c3 => ?_)
  · have hf := it_n c3 hf
    refine lv_aload_n hx hb dX7_out_9 rfl (lv_at hl 0 rfl) ?_
    obtain ⟨h4, h5, h6, h7, h8, h9, h10, h11, h12, h13, h14, h15, h16, h17, h18⟩ := h_this
    refine va_get (D := D) (ci := 7) (v := .ref (A (q + 1))) (C := RX7) (T := TX7) (N := 18) hx hb hts in_X7_out_X7 hown hK.1 hP (q) h4 rfl 0 (by decide) w_0 (fun _ h9 => h9) rfl dX7_out_10 ?_
    refine lv_iconst (v := 0) hx hb dX7_out_13 (by decide) ?_
    refine lv_iload_n hx hb dX7_out_14 rfl (lv_at hl 1 rfl) ?_
    refine lv_iadd hx hb dX7_out_15 ?_
    obtain ⟨z19, hf⟩ := ck_s hf
    refine va_iald hx hb hK.1 hP (q + 1) 0 h5 rfl (in_s z19) dX7_out_16 ?_
    refine lv_topi (fun y20 e21 => ?_)
    have hf := lt_s' e21 hf
    refine lv_istore_n (lv' := [(2, .int y20), (0, .ref (A q)), (1, .int p1)]) hx hb dX7_out_17 rfl hl (by decide) rfl (fun ls hl => ?_)
    refine lv_iload_n hx hb dX7_out_18 rfl (lv_at hl 0 rfl) ?_
    refine lv_bipush (v := 8) hx hb dX7_out_19 (by decide) ?_
    refine lv_icmp_ne (tgt := 27) hx hb dX7_out_21 (by decide) (fun c22 => ?_) (fun c22 => ?_)
    · have hf := it_n c22 hf
      refine lv_aload_n hx hb dX7_out_27 rfl (lv_at hl 1 rfl) ?_
      have h23 : is_Y k A ws (q) st past image imagePast tape laneOf sizeOf items least costs hops comes chain told acts imageActs tapeMany readAt := ⟨h4, h5, h6, h7, h8, h9, h10, h11, h12, h13, h14, h15, h16, h17, h18⟩
      obtain ⟨r24, h25, hf⟩ := bd_s hf
      refine kw_v (va_runV (As := []) (rest := []) hcf (cz_X7_notes l D k A ws (q) st past image imagePast tape laneOf sizeOf items least costs hops comes chain told acts imageActs tapeMany readAt r24 h25 h23 _) (cwV 0 hts gX7_out_X7_notes rfl rfl rfl (by decide +kernel) ⟨Nat.le_of_ble_eq_true rfl, Nat.le_of_ble_eq_true rfl⟩) (px_V hP hK hD (ci := 7) h23.1 rfl) rfl rfl hl.1 rfl (lv_room (Nat.le_of_ble_eq_true rfl)) dX7_out_28 ⟨Nat.zero_le _, Nat.zero_le _⟩) hD hS hA (fun u26 _ _ h27 hP hD hS => ?_)
      obtain ⟨h29, m28⟩ := h27
      have hsm := sm_tr hsm m28 (by omega) (by omega)
      refine lv_aload_n hx hb dX7_out_31 rfl (lv_at hl 1 rfl) ?_
      obtain ⟨h30, h31, h32, h33, h34, h35, h36, h37, h38, h39, h40, h41, h42, h43, h44⟩ := h29
      refine va_get (D := D) (ci := 7) (v := .ref (A (q + 1))) (C := RX7) (T := TX7) (N := 18) hx hb hts in_X7_out_X7 hown hK.1 hP (q) h30 rfl 0 (by decide) w_0 (fun _ h9 => h9) rfl dX7_out_32 ?_
      refine lv_iconst (v := 0) hx hb dX7_out_35 (by decide) ?_
      refine lv_iload_n hx hb dX7_out_36 rfl (lv_at hl 2 rfl) ?_
      refine lv_iadd hx hb dX7_out_37 ?_
      refine lv_bipush (v := 8) hx hb dX7_out_38 (by decide) ?_
      obtain ⟨z45, hf⟩ := ck_s hf
      refine va_iast hx hb hK.1 hP hD hS (q + 1) 0 h31 rfl (in_s z45) dX7_out_40 (fun _ _ hP hD hS => ?_)
      obtain ⟨u46, h47, m48, hP, hD⟩ := wd_put hP hD h31
      have hsm := sm_tr hsm m48 (by omega) (by omega)
      refine lv_iload_n hx hb dX7_out_41 rfl (lv_at hl 0 rfl) ?_
      obtain rfl := so_i hf
      have h49 := sm_at m48 (by omega) h30
      have h50 := sm_at m48 (by omega) h32
      have h51 := sm_at m48 (by omega) h33
      have h52 := sm_at m48 (by omega) h34
      have h53 := sm_at m48 (by omega) h35
      have h54 := sm_at m48 (by omega) h36
      have h55 := sm_at m48 (by omega) h37
      have h56 := sm_at m48 (by omega) h38
      have h57 := sm_at m48 (by omega) h39
      have h58 := sm_at m48 (by omega) h40
      have h59 := sm_at m48 (by omega) h41
      have h60 := sm_at m48 (by omega) h42
      have h61 := sm_at m48 (by omega) h43
      have h62 := sm_at m48 (by omega) h44
      have h63 : is_Y k A u46 (q) (upd st (Int32.toNatClampNeg (0 + p1)) 8) r24.1 image imagePast tape laneOf sizeOf items least costs hops comes chain told r24.2 imageActs tapeMany readAt := ⟨h49, h47, h50, h51, h52, h53, h54, h55, h56, h57, h58, h59, h60, h61, h62⟩
      exact W.iret (v := y20) hx hb hr (qw_end hS hP hD ⟨h63, hsm⟩) hS.2.2 dX7_out_42
    · have hf := it_p c22 hf
      refine lv_bipush (v := (-4)) hx hb dX7_out_24 (by decide) ?_
      obtain rfl := so_i hf
      have h64 : is_Y k A ws (q) st past image imagePast tape laneOf sizeOf items least costs hops comes chain told acts imageActs tapeMany readAt := ⟨h4, h5, h6, h7, h8, h9, h10, h11, h12, h13, h14, h15, h16, h17, h18⟩
      exact W.iret (v := (-4)) hx hb hr (qw_end hS hP hD ⟨h64, hsm⟩) hS.2.2 dX7_out_26
  · have hf := it_p c3 hf
    refine lv_iconst (v := (-1)) hx hb dX7_out_7 (by decide) ?_
    obtain rfl := so_i hf
    exact W.iret (v := (-1)) hx hb hr (qw_end hS hP hD ⟨h_this, hsm⟩) hS.2.2 dX7_out_8

theorem in_X7_rename_X7 : ∀ w ∈ u_ws RX7 TX7 18, w ∈ wsX7_rename := fun w h => List.mem_cons_of_mem _ (List.mem_append_right _ h)
def lp_X7_rename_88  (past : Nat → Int32) (acts : Int32) (x1 : Int32) (x2 : Int32) (x3 : Int32) : Nat → (Nat → Int32) → Int32 → Option (Int32 × (Nat → Int32) × (Nat → Int32) × Int32)
  | 0, _, _ => none
  | n + 1, st, x4 =>
    if 512 ≤ x4 then
      some (x3, st, past, acts)
    else
      ck_O (in_b (0 + x4) 1025) (
        if (st (Int32.toNatClampNeg (0 + x4))) = x1 then
          ck_O (in_b (0 + x4) 1025) (
            lp_X7_rename_88 past acts x1 x2 x3 n (upd st (Int32.toNatClampNeg (0 + x4)) x2) (x4 + 1))
        else
          ck_O (in_b (0 + x4) 1025) (
            ck_O (in_b (0 + x4) 1025) (
              lp_X7_rename_88 past acts x1 x2 x3 n (upd st (Int32.toNatClampNeg (0 + x4)) (st (Int32.toNatClampNeg (0 + x4)))) (x4 + 1))))

def lp_X7_rename_39  (st : Nat → Int32) (past : Nat → Int32) (acts : Int32) (x1 : Int32) (x2 : Int32) : Nat → Int32 → Int32 → Option (Int32 × (Nat → Int32) × (Nat → Int32) × Int32)
  | 0, _, _ => none
  | n + 1, x3, x4 =>
    if 512 ≤ x4 then
      if x3 = 0 then
        some ((-4), st, past, acts)
      else
        (pf_X7_notes st past acts).bind (fun r10 =>
          lp_X7_rename_88 r10.1 r10.2 x1 x2 x3 fu_N st 1)
    else
      ck_O (in_b (0 + x4) 1025) (
        if (st (Int32.toNatClampNeg (0 + x4))) = x1 then
          lp_X7_rename_39 st past acts x1 x2 n (x3 + 1) (x4 + 1)
        else
          lp_X7_rename_39 st past acts x1 x2 n (x3 + 0) (x4 + 1))

def pf_X7_rename (st : Nat → Int32) (past : Nat → Int32) (acts : Int32)  (p1 : Int32) (p2 : Int32) : Option (Int32 × (Nat → Int32) × (Nat → Int32) × Int32) :=
  (pf_X7_in (Int32.toInt64 p1) 0 7).bind (fun r1 =>
    if r1 = 0 then
      some ((-1), st, past, acts)
    else
      (pf_X7_in (Int32.toInt64 p2) 0 7).bind (fun r4 =>
        if r4 = 0 then
          some ((-1), st, past, acts)
        else
          if p1 = p2 then
            some ((-2), st, past, acts)
          else
            lp_X7_rename_39 st past acts p1 p2 fu_N 0 1))

set_option maxHeartbeats 4000000 in
set_option maxRecDepth 100000 in
theorem wl_X7_rename_88 {p : Program} {e : Env} {s : State} {m : MethodId} {args : Array Value} {below : List Frame} {meth : Method} {c : Code} (l : Launch) (D : va_G) (k : kt_T) (A : Nat → Nat) (ws : va_W) (q : Nat)  (out : Int32 × (Nat → Int32) × (Nat → Int32) × Int32) (hK : kk_P D k s) (C0 : cx_P p s m meth c args cX7_rename 5 wsX7_rename RX7 (some .int))  (past : Nat → Int32) (image : Nat → Int32) (imagePast : Nat → Int32) (tape : Nat → Int32) (laneOf : Nat → Int32) (sizeOf : Nat → Int32) (items : Nat → Int64) (least : Nat → Int32) (costs : Nat → Int32) (hops : Nat → Int32) (comes : Nat → Int32) (chain : Nat → Int32) (told : Nat → Int32) (acts : Int32) (imageActs : Int32) (tapeMany : Int32) (readAt : Int32) (x1 : Int32) (x2 : Int32) (x3 : Int32)    : ∀ (n : Nat) (st : Nat → Int32) (x4 : Int32) (w : va_W) (H : Heap) (locs : List Loc) (ls : Array Slot), lp_X7_rename_88 past acts x1 x2 x3 n st x4 = some out → is_Y k A w q st past image imagePast tape laneOf sizeOf items least costs hops comes chain told acts imageActs tapeMany readAt → sm_W ws w q (q + 15) → va_P D vwCl w H → va_D (va_A ws s.heap.size) w → va_S (va_A ws s.heap.size) s.heap H locs → lv_has ls 5 [(0, .ref (A q)), (1, .int x1), (2, .int x2), (3, .int x3), (4, .int x4)] → W p l e (headSpec wsX7_rename { frames := 2, cells := 0, slots := 0, locals := 45 }).room s m args below meth c H locs 0 0 (MQ below (qw_Q D ws s.heap.size (some (.int out.1)) (fun u => is_Y k A u q out.2.1 out.2.2.1 image imagePast tape laneOf sizeOf items least costs hops comes chain told out.2.2.2 imageActs tapeMany readAt ∧ sm_W ws u q (q + 15))) args s 0 0 (va_A ws s.heap.size)) (F0 m 88 ls []) := by
  obtain ⟨hx, hb, hml, hown, hts, hr, hlocks⟩ := id C0
  have hcf : CallFix p m c cX7_rename 5 s args wsX7_rename RX7 := ⟨hx, hb, hml, hown, hts⟩
  have hA : ∀ q, s.heap.size ≤ q → va_A ws s.heap.size q := fun q h => Or.inr h
  have w_1 := hts (.fieldLink RX7 7 "LeastRoutesModel" "st" "[I") (List.mem_of_getElem? (i := 2) rfl)
  intro n
  induction n with
  | zero =>
    intro st x4 w H locs ls hf h_this hsm hP hD hS hl
    exact (no_s hf).elim
  | succ n ih =>
    intro st x4 w H locs ls hf h_this hsm hP hD hS hl
    rw [lp_X7_rename_88] at hf
    refine lv_iload hx hb dX7_rename_88 (lv_at hl 4 rfl) ?_
    refine lv_sipush (v := 512) hx hb dX7_rename_90 (by decide) ?_
    refine lv_icmp_ge (tgt := 137) hx hb dX7_rename_93 (by decide) (fun c16 => ?_) (fun c16 => ?_)
    · have hf := it_p c16 hf
      refine lv_iload_n hx hb dX7_rename_137 rfl (lv_at hl 3 rfl) ?_
      obtain rfl := so_i hf
      exact W.iret (v := x3) hx hb hr (qw_end hS hP hD ⟨h_this, hsm⟩) hS.2.2 dX7_rename_138
    · have hf := it_n c16 hf
      refine lv_aload_n hx hb dX7_rename_96 rfl (lv_at hl 0 rfl) ?_
      obtain ⟨h17, h18, h19, h20, h21, h22, h23, h24, h25, h26, h27, h28, h29, h30, h31⟩ := h_this
      refine va_get (D := D) (ci := 7) (v := .ref (A (q + 1))) (C := RX7) (T := TX7) (N := 18) hx hb hts in_X7_rename_X7 hown hK.1 hP (q) h17 rfl 0 (by decide) w_1 (fun _ h9 => h9) rfl dX7_rename_97 ?_
      refine lv_iconst (v := 0) hx hb dX7_rename_100 (by decide) ?_
      refine lv_iload hx hb dX7_rename_101 (lv_at hl 4 rfl) ?_
      refine lv_iadd hx hb dX7_rename_103 ?_
      refine lv_aload_n hx hb dX7_rename_104 rfl (lv_at hl 0 rfl) ?_
      refine va_get (D := D) (ci := 7) (v := .ref (A (q + 1))) (C := RX7) (T := TX7) (N := 18) hx hb hts in_X7_rename_X7 hown hK.1 hP (q) h17 rfl 0 (by decide) w_1 (fun _ h9 => h9) rfl dX7_rename_105 ?_
      refine lv_iconst (v := 0) hx hb dX7_rename_108 (by decide) ?_
      refine lv_iload hx hb dX7_rename_109 (lv_at hl 4 rfl) ?_
      refine lv_iadd hx hb dX7_rename_111 ?_
      obtain ⟨z32, hf⟩ := ck_s hf
      refine va_iald hx hb hK.1 hP (q + 1) 0 h18 rfl (in_s z32) dX7_rename_112 ?_
      refine lv_iload_n hx hb dX7_rename_113 rfl (lv_at hl 1 rfl) ?_
      refine lv_icmp_ne (tgt := 121) hx hb dX7_rename_114 (by decide) (fun c33 => ?_) (fun c33 => ?_)
      · have hf := it_n c33 hf
        refine lv_aload_n hx hb dX7_rename_121 rfl (lv_at hl 0 rfl) ?_
        refine va_get (D := D) (ci := 7) (v := .ref (A (q + 1))) (C := RX7) (T := TX7) (N := 18) hx hb hts in_X7_rename_X7 hown hK.1 hP (q) h17 rfl 0 (by decide) w_1 (fun _ h9 => h9) rfl dX7_rename_122 ?_
        refine lv_iconst (v := 0) hx hb dX7_rename_125 (by decide) ?_
        refine lv_iload hx hb dX7_rename_126 (lv_at hl 4 rfl) ?_
        refine lv_iadd hx hb dX7_rename_128 ?_
        obtain ⟨z34, hf⟩ := ck_s hf
        refine va_iald hx hb hK.1 hP (q + 1) 0 h18 rfl (in_s z34) dX7_rename_129 ?_
        obtain ⟨z35, hf⟩ := ck_s hf
        refine va_iast hx hb hK.1 hP hD hS (q + 1) 0 h18 rfl (in_s z35) dX7_rename_130 (fun _ _ hP hD hS => ?_)
        obtain ⟨u36, h37, m38, hP, hD⟩ := wd_put hP hD h18
        have hsm := sm_tr hsm m38 (by omega) (by omega)
        refine lv_iinc (v := (x4 + 1)) (lv' := [(4, .int (x4 + 1)), (0, .ref (A q)), (1, .int x1), (2, .int x2), (3, .int x3)]) hx hb dX7_rename_131 hl (k := 4) rfl rfl (by decide) rfl (fun ls hl => ?_)
        refine lv_goto (tgt := 88) hx hb dX7_rename_134 (by decide) ?_
        have h39 := sm_at m38 (by omega) h17
        have h40 := sm_at m38 (by omega) h19
        have h41 := sm_at m38 (by omega) h20
        have h42 := sm_at m38 (by omega) h21
        have h43 := sm_at m38 (by omega) h22
        have h44 := sm_at m38 (by omega) h23
        have h45 := sm_at m38 (by omega) h24
        have h46 := sm_at m38 (by omega) h25
        have h47 := sm_at m38 (by omega) h26
        have h48 := sm_at m38 (by omega) h27
        have h49 := sm_at m38 (by omega) h28
        have h50 := sm_at m38 (by omega) h29
        have h51 := sm_at m38 (by omega) h30
        have h52 := sm_at m38 (by omega) h31
        have h53 : is_Y k A u36 (q) (upd st (Int32.toNatClampNeg (0 + x4)) (st (Int32.toNatClampNeg (0 + x4)))) past image imagePast tape laneOf sizeOf items least costs hops comes chain told acts imageActs tapeMany readAt := ⟨h39, h37, h40, h41, h42, h43, h44, h45, h46, h47, h48, h49, h50, h51, h52⟩
        exact ih (upd st (Int32.toNatClampNeg (0 + x4)) (st (Int32.toNatClampNeg (0 + x4)))) (x4 + 1) _ _ _ _ hf h53 hsm hP hD hS (lv_sub hl [1, 2, 3, 4, 0] rfl)
      · have hf := it_p c33 hf
        refine lv_iload_n hx hb dX7_rename_117 rfl (lv_at hl 2 rfl) ?_
        refine lv_goto (tgt := 130) hx hb dX7_rename_118 (by decide) ?_
        obtain ⟨z54, hf⟩ := ck_s hf
        refine va_iast hx hb hK.1 hP hD hS (q + 1) 0 h18 rfl (in_s z54) dX7_rename_130 (fun _ _ hP hD hS => ?_)
        obtain ⟨u55, h56, m57, hP, hD⟩ := wd_put hP hD h18
        have hsm := sm_tr hsm m57 (by omega) (by omega)
        refine lv_iinc (v := (x4 + 1)) (lv' := [(4, .int (x4 + 1)), (0, .ref (A q)), (1, .int x1), (2, .int x2), (3, .int x3)]) hx hb dX7_rename_131 hl (k := 4) rfl rfl (by decide) rfl (fun ls hl => ?_)
        refine lv_goto (tgt := 88) hx hb dX7_rename_134 (by decide) ?_
        have h58 := sm_at m57 (by omega) h17
        have h59 := sm_at m57 (by omega) h19
        have h60 := sm_at m57 (by omega) h20
        have h61 := sm_at m57 (by omega) h21
        have h62 := sm_at m57 (by omega) h22
        have h63 := sm_at m57 (by omega) h23
        have h64 := sm_at m57 (by omega) h24
        have h65 := sm_at m57 (by omega) h25
        have h66 := sm_at m57 (by omega) h26
        have h67 := sm_at m57 (by omega) h27
        have h68 := sm_at m57 (by omega) h28
        have h69 := sm_at m57 (by omega) h29
        have h70 := sm_at m57 (by omega) h30
        have h71 := sm_at m57 (by omega) h31
        have h72 : is_Y k A u55 (q) (upd st (Int32.toNatClampNeg (0 + x4)) x2) past image imagePast tape laneOf sizeOf items least costs hops comes chain told acts imageActs tapeMany readAt := ⟨h58, h56, h59, h60, h61, h62, h63, h64, h65, h66, h67, h68, h69, h70, h71⟩
        exact ih (upd st (Int32.toNatClampNeg (0 + x4)) x2) (x4 + 1) _ _ _ _ hf h72 hsm hP hD hS (lv_sub hl [1, 2, 3, 4, 0] rfl)

set_option maxHeartbeats 4000000 in
set_option maxRecDepth 100000 in
theorem wl_X7_rename_39 {p : Program} {e : Env} {s : State} {m : MethodId} {args : Array Value} {below : List Frame} {meth : Method} {c : Code} (l : Launch) (D : va_G) (k : kt_T) (A : Nat → Nat) (ws : va_W) (q : Nat)  (out : Int32 × (Nat → Int32) × (Nat → Int32) × Int32) (hK : kk_P D k s) (C0 : cx_P p s m meth c args cX7_rename 5 wsX7_rename RX7 (some .int))  (st : Nat → Int32) (past : Nat → Int32) (image : Nat → Int32) (imagePast : Nat → Int32) (tape : Nat → Int32) (laneOf : Nat → Int32) (sizeOf : Nat → Int32) (items : Nat → Int64) (least : Nat → Int32) (costs : Nat → Int32) (hops : Nat → Int32) (comes : Nat → Int32) (chain : Nat → Int32) (told : Nat → Int32) (acts : Int32) (imageActs : Int32) (tapeMany : Int32) (readAt : Int32) (x1 : Int32) (x2 : Int32)    : ∀ (n : Nat) (x3 : Int32) (x4 : Int32) (w : va_W) (H : Heap) (locs : List Loc) (ls : Array Slot), lp_X7_rename_39 st past acts x1 x2 n x3 x4 = some out → is_Y k A w q st past image imagePast tape laneOf sizeOf items least costs hops comes chain told acts imageActs tapeMany readAt → sm_W ws w q (q + 15) → va_P D vwCl w H → va_D (va_A ws s.heap.size) w → va_S (va_A ws s.heap.size) s.heap H locs → lv_has ls 5 [(0, .ref (A q)), (1, .int x1), (2, .int x2), (3, .int x3), (4, .int x4)] → W p l e (headSpec wsX7_rename { frames := 2, cells := 0, slots := 0, locals := 45 }).room s m args below meth c H locs 0 0 (MQ below (qw_Q D ws s.heap.size (some (.int out.1)) (fun u => is_Y k A u q out.2.1 out.2.2.1 image imagePast tape laneOf sizeOf items least costs hops comes chain told out.2.2.2 imageActs tapeMany readAt ∧ sm_W ws u q (q + 15))) args s 0 0 (va_A ws s.heap.size)) (F0 m 39 ls []) := by
  obtain ⟨hx, hb, hml, hown, hts, hr, hlocks⟩ := id C0
  have hcf : CallFix p m c cX7_rename 5 s args wsX7_rename RX7 := ⟨hx, hb, hml, hown, hts⟩
  have hA : ∀ q, s.heap.size ≤ q → va_A ws s.heap.size q := fun q h => Or.inr h
  have w_1 := hts (.fieldLink RX7 7 "LeastRoutesModel" "st" "[I") (List.mem_of_getElem? (i := 2) rfl)
  intro n
  induction n with
  | zero =>
    intro x3 x4 w H locs ls hf h_this hsm hP hD hS hl
    exact (no_s hf).elim
  | succ n ih =>
    intro x3 x4 w H locs ls hf h_this hsm hP hD hS hl
    rw [lp_X7_rename_39] at hf
    refine lv_iload hx hb dX7_rename_39 (lv_at hl 4 rfl) ?_
    refine lv_sipush (v := 512) hx hb dX7_rename_41 (by decide) ?_
    refine lv_icmp_ge (tgt := 74) hx hb dX7_rename_44 (by decide) (fun c8 => ?_) (fun c8 => ?_)
    · have hf := it_p c8 hf
      refine lv_iload_n hx hb dX7_rename_74 rfl (lv_at hl 3 rfl) ?_
      refine lv_if_ne (tgt := 81) hx hb dX7_rename_75 (by decide) (fun c9 => ?_) (fun c9 => ?_)
      · have hf := it_n c9 hf
        refine lv_aload_n hx hb dX7_rename_81 rfl (lv_at hl 0 rfl) ?_
        obtain ⟨r10, h11, hf⟩ := bd_s hf
        refine kw_v (va_runV (As := []) (rest := []) hcf (cz_X7_notes l D k A w (q) st past image imagePast tape laneOf sizeOf items least costs hops comes chain told acts imageActs tapeMany readAt r10 h11 h_this _) (cwV 0 hts gX7_rename_X7_notes rfl rfl rfl (by decide +kernel) ⟨Nat.le_of_ble_eq_true rfl, Nat.le_of_ble_eq_true rfl⟩) (px_V hP hK hD (ci := 7) h_this.1 rfl) rfl rfl hl.1 rfl (lv_room (Nat.le_of_ble_eq_true rfl)) dX7_rename_82 ⟨Nat.zero_le _, Nat.zero_le _⟩) hD hS hA (fun u12 _ _ h13 hP hD hS => ?_)
        obtain ⟨h15, m14⟩ := h13
        have hsm := sm_tr hsm m14 (by omega) (by omega)
        refine lv_iconst (v := 1) hx hb dX7_rename_85 (by decide) ?_
        refine lv_istore (lv' := [(4, .int 1), (0, .ref (A q)), (1, .int x1), (2, .int x2), (3, .int x3)]) hx hb dX7_rename_86 hl (by decide) rfl (fun ls hl => ?_)
        exact wl_X7_rename_88 l D k A ws q _ hK C0 r10.1 image imagePast tape laneOf sizeOf items least costs hops comes chain told r10.2 imageActs tapeMany readAt x1 x2 x3 fu_N st 1 _ _ _ _ hf h15 hsm hP hD hS (lv_sub hl [1, 2, 3, 4, 0] rfl)
      · have hf := it_p c9 hf
        refine lv_bipush (v := (-4)) hx hb dX7_rename_78 (by decide) ?_
        obtain rfl := so_i hf
        exact W.iret (v := (-4)) hx hb hr (qw_end hS hP hD ⟨h_this, hsm⟩) hS.2.2 dX7_rename_80
    · have hf := it_n c8 hf
      refine lv_iload_n hx hb dX7_rename_47 rfl (lv_at hl 3 rfl) ?_
      refine lv_aload_n hx hb dX7_rename_48 rfl (lv_at hl 0 rfl) ?_
      obtain ⟨h73, h74, h75, h76, h77, h78, h79, h80, h81, h82, h83, h84, h85, h86, h87⟩ := h_this
      refine va_get (D := D) (ci := 7) (v := .ref (A (q + 1))) (C := RX7) (T := TX7) (N := 18) hx hb hts in_X7_rename_X7 hown hK.1 hP (q) h73 rfl 0 (by decide) w_1 (fun _ h9 => h9) rfl dX7_rename_49 ?_
      refine lv_iconst (v := 0) hx hb dX7_rename_52 (by decide) ?_
      refine lv_iload hx hb dX7_rename_53 (lv_at hl 4 rfl) ?_
      refine lv_iadd hx hb dX7_rename_55 ?_
      obtain ⟨z88, hf⟩ := ck_s hf
      refine va_iald hx hb hK.1 hP (q + 1) 0 h74 rfl (in_s z88) dX7_rename_56 ?_
      refine lv_iload_n hx hb dX7_rename_57 rfl (lv_at hl 1 rfl) ?_
      refine lv_icmp_ne (tgt := 65) hx hb dX7_rename_58 (by decide) (fun c89 => ?_) (fun c89 => ?_)
      · have hf := it_n c89 hf
        refine lv_iconst (v := 0) hx hb dX7_rename_65 (by decide) ?_
        refine lv_iadd hx hb dX7_rename_66 ?_
        refine lv_istore_n (lv' := [(3, .int (x3 + 0)), (0, .ref (A q)), (1, .int x1), (2, .int x2), (4, .int x4)]) hx hb dX7_rename_67 rfl hl (by decide) rfl (fun ls hl => ?_)
        refine lv_iinc (v := (x4 + 1)) (lv' := [(4, .int (x4 + 1)), (3, .int (x3 + 0)), (0, .ref (A q)), (1, .int x1), (2, .int x2)]) hx hb dX7_rename_68 hl (k := 4) rfl rfl (by decide) rfl (fun ls hl => ?_)
        refine lv_goto (tgt := 39) hx hb dX7_rename_71 (by decide) ?_
        have h90 : is_Y k A w (q) st past image imagePast tape laneOf sizeOf items least costs hops comes chain told acts imageActs tapeMany readAt := ⟨h73, h74, h75, h76, h77, h78, h79, h80, h81, h82, h83, h84, h85, h86, h87⟩
        exact ih (x3 + 0) (x4 + 1) _ _ _ _ hf h90 hsm hP hD hS (lv_sub hl [2, 3, 4, 1, 0] rfl)
      · have hf := it_p c89 hf
        refine lv_iconst (v := 1) hx hb dX7_rename_61 (by decide) ?_
        refine lv_goto (tgt := 66) hx hb dX7_rename_62 (by decide) ?_
        refine lv_iadd hx hb dX7_rename_66 ?_
        refine lv_istore_n (lv' := [(3, .int (x3 + 1)), (0, .ref (A q)), (1, .int x1), (2, .int x2), (4, .int x4)]) hx hb dX7_rename_67 rfl hl (by decide) rfl (fun ls hl => ?_)
        refine lv_iinc (v := (x4 + 1)) (lv' := [(4, .int (x4 + 1)), (3, .int (x3 + 1)), (0, .ref (A q)), (1, .int x1), (2, .int x2)]) hx hb dX7_rename_68 hl (k := 4) rfl rfl (by decide) rfl (fun ls hl => ?_)
        refine lv_goto (tgt := 39) hx hb dX7_rename_71 (by decide) ?_
        have h91 : is_Y k A w (q) st past image imagePast tape laneOf sizeOf items least costs hops comes chain told acts imageActs tapeMany readAt := ⟨h73, h74, h75, h76, h77, h78, h79, h80, h81, h82, h83, h84, h85, h86, h87⟩
        exact ih (x3 + 1) (x4 + 1) _ _ _ _ hf h91 hsm hP hD hS (lv_sub hl [2, 3, 4, 1, 0] rfl)

set_option maxHeartbeats 4000000 in
set_option maxRecDepth 100000 in
theorem cz_X7_rename (l : Launch) (D : va_G) (k : kt_T) (A : Nat → Nat) (ws : va_W) (q : Nat)  (st : Nat → Int32) (past : Nat → Int32) (image : Nat → Int32) (imagePast : Nat → Int32) (tape : Nat → Int32) (laneOf : Nat → Int32) (sizeOf : Nat → Int32) (items : Nat → Int64) (least : Nat → Int32) (costs : Nat → Int32) (hops : Nat → Int32) (comes : Nat → Int32) (chain : Nat → Int32) (told : Nat → Int32) (acts : Int32) (imageActs : Int32) (tapeMany : Int32) (readAt : Int32) (p1 : Int32) (p2 : Int32) (out : Int32 × (Nat → Int32) × (Nat → Int32) × Int32) (hf : pf_X7_rename st past acts p1 p2 = some out) (h_this : is_Y k A ws q st past image imagePast tape laneOf sizeOf items least costs hops comes chain told acts imageActs tapeMany readAt)  (sz0 : Nat) : Met l yX7_rename wsX7_rename { frames := 2, cells := 0, slots := 0, locals := 45 } (va_Pc [.ref (A q), .int p1, .int p2] (px_P D k ws sz0)) (qw_Q D ws sz0 (some (.int out.1)) (fun u => is_Y k A u q out.2.1 out.2.2.1 image imagePast tape laneOf sizeOf items least costs hops comes chain told out.2.2.2 imageActs tapeMany readAt ∧ sm_W ws u q (q + 15))) 0 0 (va_A ws sz0) := by
  refine Met.ofW (cc := cX7_rename) (maxL := 5) (ret := (some .int)) (by decide) rfl ?_
  intro p e s m args below meth c s₁ B hml hv
  obtain ⟨rfl, hsz, hP, hK, hD0⟩ := hv
  subst hsz
  have hD := hD0.self (sz := s.heap.size)
  have C0 : cx_P p s m meth c [.ref (A q), .int p1, .int p2].toArray cX7_rename 5 wsX7_rename RX7 (some .int) := ⟨B.exec, B.bytes, hml, findClass_of_methodNamed B.named, atoms_spec (ws := wsX7_rename) B.pre, B.returns, B.notSynchronized⟩
  obtain ⟨hx, hb, hml, hown, hts, hr, hlocks⟩ := id C0
  have hcf : CallFix p m c cX7_rename 5 s [.ref (A q), .int p1, .int p2].toArray wsX7_rename RX7 := ⟨hx, hb, hml, hown, hts⟩
  have hA : ∀ q, s.heap.size ≤ q → va_A ws s.heap.size q := fun q h => Or.inr h
  have hS : va_S (va_A ws s.heap.size) s.heap s.heap [] := va_S.rf
  have hsm : sm_W ws ws q (q + 15) := sm_rf
  have w_0 := hts (.constantLong RX7 116 (7)) (List.mem_of_getElem? (i := 1) rfl)
  have hl := lv_entry ([.ref (A q), .int p1, .int p2]) (n := 5) (Nat.le_of_ble_eq_true rfl)
  rw [lg_entry_eq]
  generalize (lg_sl ([.ref (A q), .int p1, .int p2]) ++ List.replicate (5 - (lg_sl ([.ref (A q), .int p1, .int p2])).length) Slot.unset).toArray = ls at hl ⊢
  have hl : lv_has ls 5 [(0, .ref (A q)), (1, .int p1), (2, .int p2)] := hl
  unfold pf_X7_rename at hf
  refine lv_iload_n hx hb dX7_rename_0 rfl (lv_at hl 1 rfl) ?_
  refine lv_i2l hx hb dX7_rename_1 rfl ?_
  refine lv_lconst (v := 0) hx hb dX7_rename_2 (by decide) ?_
  refine lv_ldc2 hx hb hown w_0 dX7_rename_3 ?_
  obtain ⟨r1, h2, hf⟩ := bd_s hf
  refine ks_i (va_runS (As := [.long (Int32.toInt64 p1), .long 0, .long 7]) (rest := []) hcf (cz_X7_in l D k A ws (Int32.toInt64 p1) 0 7 r1 h2) (va_cwS 3 hts gX7_rename_X7_in rfl rfl rfl (by decide +kernel) ⟨Nat.le_of_ble_eq_true rfl, Nat.le_of_ble_eq_true rfl⟩) (pw_S hP hK hD) rfl rfl hl.1 rfl (lv_room (Nat.le_of_ble_eq_true rfl)) dX7_rename_6 ⟨Nat.zero_le _, Nat.zero_le _⟩) ?_
  refine lv_if_eq (tgt := 24) hx hb dX7_rename_9 (by decide) (fun c3 => ?_) (fun c3 => ?_)
  · have hf := it_p c3 hf
    refine lv_iconst (v := (-1)) hx hb dX7_rename_24 (by decide) ?_
    obtain rfl := so_i hf
    exact W.iret (v := (-1)) hx hb hr (qw_end hS hP hD ⟨h_this, hsm⟩) hS.2.2 dX7_rename_25
  · have hf := it_n c3 hf
    refine lv_iload_n hx hb dX7_rename_12 rfl (lv_at hl 2 rfl) ?_
    refine lv_i2l hx hb dX7_rename_13 rfl ?_
    refine lv_lconst (v := 0) hx hb dX7_rename_14 (by decide) ?_
    refine lv_ldc2 hx hb hown w_0 dX7_rename_15 ?_
    obtain ⟨r4, h5, hf⟩ := bd_s hf
    refine ks_i (va_runS (As := [.long (Int32.toInt64 p2), .long 0, .long 7]) (rest := []) hcf (cz_X7_in l D k A ws (Int32.toInt64 p2) 0 7 r4 h5) (va_cwS 3 hts gX7_rename_X7_in rfl rfl rfl (by decide +kernel) ⟨Nat.le_of_ble_eq_true rfl, Nat.le_of_ble_eq_true rfl⟩) (pw_S hP hK hD) rfl rfl hl.1 rfl (lv_room (Nat.le_of_ble_eq_true rfl)) dX7_rename_18 ⟨Nat.zero_le _, Nat.zero_le _⟩) ?_
    refine lv_if_ne (tgt := 26) hx hb dX7_rename_21 (by decide) (fun c6 => ?_) (fun c6 => ?_)
    · have hf := it_n c6 hf
      refine lv_iload_n hx hb dX7_rename_26 rfl (lv_at hl 1 rfl) ?_
      refine lv_iload_n hx hb dX7_rename_27 rfl (lv_at hl 2 rfl) ?_
      refine lv_icmp_ne (tgt := 34) hx hb dX7_rename_28 (by decide) (fun c7 => ?_) (fun c7 => ?_)
      · have hf := it_n c7 hf
        refine lv_iconst (v := 0) hx hb dX7_rename_34 (by decide) ?_
        refine lv_istore_n (lv' := [(3, .int 0), (0, .ref (A q)), (1, .int p1), (2, .int p2)]) hx hb dX7_rename_35 rfl hl (by decide) rfl (fun ls hl => ?_)
        refine lv_iconst (v := 1) hx hb dX7_rename_36 (by decide) ?_
        refine lv_istore (lv' := [(4, .int 1), (3, .int 0), (0, .ref (A q)), (1, .int p1), (2, .int p2)]) hx hb dX7_rename_37 hl (by decide) rfl (fun ls hl => ?_)
        exact wl_X7_rename_39 l D k A ws q _ hK C0 st past image imagePast tape laneOf sizeOf items least costs hops comes chain told acts imageActs tapeMany readAt p1 p2 fu_N 0 1 _ _ _ _ hf h_this hsm hP hD hS (lv_sub hl [2, 3, 4, 1, 0] rfl)
      · have hf := it_p c7 hf
        refine lv_bipush (v := (-2)) hx hb dX7_rename_31 (by decide) ?_
        obtain rfl := so_i hf
        exact W.iret (v := (-2)) hx hb hr (qw_end hS hP hD ⟨h_this, hsm⟩) hS.2.2 dX7_rename_33
    · have hf := it_p c6 hf
      refine lv_iconst (v := (-1)) hx hb dX7_rename_24 (by decide) ?_
      obtain rfl := so_i hf
      exact W.iret (v := (-1)) hx hb hr (qw_end hS hP hD ⟨h_this, hsm⟩) hS.2.2 dX7_rename_25

theorem in_X7_install_X7 : ∀ w ∈ u_ws RX7 TX7 18, w ∈ wsX7_install := fun w h => List.mem_cons_of_mem _ (List.mem_append_right _ h)
def pf_X7_install (st : Nat → Int32) (past : Nat → Int32) (least : Nat → Int32) (costs : Nat → Int32) (hops : Nat → Int32) (comes : Nat → Int32) (acts : Int32)   : Option (Int32 × (Nat → Int32) × (Nat → Int32) × (Nat → Int32) × (Nat → Int32) × (Nat → Int32) × (Nat → Int32) × Int32) :=
  (pf_X7_lays st least costs hops comes).bind (fun r1 =>
    (pf_X7_changes st r1.1).bind (fun r7 =>
      if r7 = 0 then
        some ((-2), st, past, r1.1, r1.2.1, r1.2.2.1, r1.2.2.2, acts)
      else
        (pf_X7_notes st past acts).bind (fun r10 =>
          (pf_X7_bring r1.1 st 512 1025 1 513 511).bind (fun r31 =>
            some (r7, r31, r10.1, r1.1, r1.2.1, r1.2.2.1, r1.2.2.2, r10.2)))))

set_option maxHeartbeats 4000000 in
set_option maxRecDepth 100000 in
theorem cz_X7_install (l : Launch) (D : va_G) (k : kt_T) (A : Nat → Nat) (ws : va_W) (q : Nat)  (st : Nat → Int32) (past : Nat → Int32) (image : Nat → Int32) (imagePast : Nat → Int32) (tape : Nat → Int32) (laneOf : Nat → Int32) (sizeOf : Nat → Int32) (items : Nat → Int64) (least : Nat → Int32) (costs : Nat → Int32) (hops : Nat → Int32) (comes : Nat → Int32) (chain : Nat → Int32) (told : Nat → Int32) (acts : Int32) (imageActs : Int32) (tapeMany : Int32) (readAt : Int32)  (out : Int32 × (Nat → Int32) × (Nat → Int32) × (Nat → Int32) × (Nat → Int32) × (Nat → Int32) × (Nat → Int32) × Int32) (hf : pf_X7_install st past least costs hops comes acts = some out) (h_this : is_Y k A ws q st past image imagePast tape laneOf sizeOf items least costs hops comes chain told acts imageActs tapeMany readAt)  (sz0 : Nat) : Met l yX7_install wsX7_install { frames := 5, cells := 0, slots := 0, locals := 110 } (va_Pc [.ref (A q)] (px_P D k ws sz0)) (qw_Q D ws sz0 (some (.int out.1)) (fun u => is_Y k A u q out.2.1 out.2.2.1 image imagePast tape laneOf sizeOf items out.2.2.2.1 out.2.2.2.2.1 out.2.2.2.2.2.1 out.2.2.2.2.2.2.1 chain told out.2.2.2.2.2.2.2 imageActs tapeMany readAt ∧ sm_W ws u q (q + 15))) 0 0 (va_A ws sz0) := by
  refine Met.ofW (cc := cX7_install) (maxL := 2) (ret := (some .int)) (by decide) rfl ?_
  intro p e s m args below meth c s₁ B hml hv
  obtain ⟨rfl, hsz, hP, hK, hD0⟩ := hv
  subst hsz
  have hD := hD0.self (sz := s.heap.size)
  have C0 : cx_P p s m meth c [.ref (A q)].toArray cX7_install 2 wsX7_install RX7 (some .int) := ⟨B.exec, B.bytes, hml, findClass_of_methodNamed B.named, atoms_spec (ws := wsX7_install) B.pre, B.returns, B.notSynchronized⟩
  obtain ⟨hx, hb, hml, hown, hts, hr, hlocks⟩ := id C0
  have hcf : CallFix p m c cX7_install 2 s [.ref (A q)].toArray wsX7_install RX7 := ⟨hx, hb, hml, hown, hts⟩
  have hA : ∀ q, s.heap.size ≤ q → va_A ws s.heap.size q := fun q h => Or.inr h
  have hS : va_S (va_A ws s.heap.size) s.heap s.heap [] := va_S.rf
  have hsm : sm_W ws ws q (q + 15) := sm_rf
  have w_0 := hts (.fieldLink RX7 39 "LeastRoutesModel" "least" "[I") (List.mem_of_getElem? (i := 1) rfl)
  have w_1 := hts (.fieldLink RX7 7 "LeastRoutesModel" "st" "[I") (List.mem_of_getElem? (i := 2) rfl)
  have hl := lv_entry ([.ref (A q)]) (n := 2) (Nat.le_of_ble_eq_true rfl)
  rw [lg_entry_eq]
  generalize (lg_sl ([.ref (A q)]) ++ List.replicate (2 - (lg_sl ([.ref (A q)])).length) Slot.unset).toArray = ls at hl ⊢
  have hl : lv_has ls 2 [(0, .ref (A q))] := hl
  unfold pf_X7_install at hf
  refine lv_aload_n hx hb dX7_install_0 rfl (lv_at hl 0 rfl) ?_
  obtain ⟨r1, h2, hf⟩ := bd_s hf
  refine kw_v (va_runV (As := []) (rest := []) hcf (cz_X7_lays l D k A ws (q) st past image imagePast tape laneOf sizeOf items least costs hops comes chain told acts imageActs tapeMany readAt r1 h2 h_this _) (cwV 0 hts gX7_install_X7_lays rfl rfl rfl (by decide +kernel) ⟨Nat.le_of_ble_eq_true rfl, Nat.le_of_ble_eq_true rfl⟩) (px_V hP hK hD (ci := 7) h_this.1 rfl) rfl rfl hl.1 rfl (lv_room (Nat.le_of_ble_eq_true rfl)) dX7_install_1 ⟨Nat.zero_le _, Nat.zero_le _⟩) hD hS hA (fun u3 _ _ h4 hP hD hS => ?_)
  obtain ⟨h6, m5⟩ := h4
  have hsm := sm_tr hsm m5 (by omega) (by omega)
  refine lv_aload_n hx hb dX7_install_4 rfl (lv_at hl 0 rfl) ?_
  obtain ⟨r7, h8, hf⟩ := bd_s hf
  refine ks_i (va_runV (As := []) (rest := []) hcf (cz_X7_changes l D k A u3 (q) st past image imagePast tape laneOf sizeOf items r1.1 r1.2.1 r1.2.2.1 r1.2.2.2 chain told acts imageActs tapeMany readAt r7 h8 h6) (cwV 0 hts gX7_install_X7_changes rfl rfl rfl (by decide +kernel) ⟨Nat.le_of_ble_eq_true rfl, Nat.le_of_ble_eq_true rfl⟩) (pw_V hP hK hD (ci := 7) h6.1 rfl) rfl rfl hl.1 rfl (lv_room (Nat.le_of_ble_eq_true rfl)) dX7_install_5 ⟨Nat.zero_le _, Nat.zero_le _⟩) ?_
  refine lv_istore_n (lv' := [(1, .int r7), (0, .ref (A q))]) hx hb dX7_install_8 rfl hl (by decide) rfl (fun ls hl => ?_)
  refine lv_iload_n hx hb dX7_install_9 rfl (lv_at hl 0 rfl) ?_
  refine lv_if_ne (tgt := 16) hx hb dX7_install_10 (by decide) (fun c9 => ?_) (fun c9 => ?_)
  · have hf := it_n c9 hf
    refine lv_aload_n hx hb dX7_install_16 rfl (lv_at hl 1 rfl) ?_
    obtain ⟨r10, h11, hf⟩ := bd_s hf
    refine kw_v (va_runV (As := []) (rest := []) hcf (cz_X7_notes l D k A u3 (q) st past image imagePast tape laneOf sizeOf items r1.1 r1.2.1 r1.2.2.1 r1.2.2.2 chain told acts imageActs tapeMany readAt r10 h11 h6 _) (cwV 0 hts gX7_install_X7_notes rfl rfl rfl (by decide +kernel) ⟨Nat.le_of_ble_eq_true rfl, Nat.le_of_ble_eq_true rfl⟩) (px_V hP hK hD (ci := 7) h6.1 rfl) rfl rfl hl.1 rfl (lv_room (Nat.le_of_ble_eq_true rfl)) dX7_install_17 ⟨Nat.zero_le _, Nat.zero_le _⟩) hD hS hA (fun u12 _ _ h13 hP hD hS => ?_)
    obtain ⟨h15, m14⟩ := h13
    have hsm := sm_tr hsm m14 (by omega) (by omega)
    refine lv_aload_n hx hb dX7_install_20 rfl (lv_at hl 1 rfl) ?_
    obtain ⟨h16, h17, h18, h19, h20, h21, h22, h23, h24, h25, h26, h27, h28, h29, h30⟩ := h15
    refine va_get (D := D) (ci := 7) (v := .ref (A (q + 9))) (C := RX7) (T := TX7) (N := 18) hx hb hts in_X7_install_X7 hown hK.1 hP (q) h16 rfl 11 (by decide) w_0 (fun _ h9 => h9) rfl dX7_install_21 ?_
    refine lv_iconst (v := 1) hx hb dX7_install_24 (by decide) ?_
    refine lv_aload_n hx hb dX7_install_25 rfl (lv_at hl 1 rfl) ?_
    refine va_get (D := D) (ci := 7) (v := .ref (A (q + 1))) (C := RX7) (T := TX7) (N := 18) hx hb hts in_X7_install_X7 hown hK.1 hP (q) h16 rfl 0 (by decide) w_1 (fun _ h9 => h9) rfl dX7_install_26 ?_
    refine lv_sipush (v := 513) hx hb dX7_install_29 (by decide) ?_
    refine lv_sipush (v := 511) hx hb dX7_install_32 (by decide) ?_
    obtain ⟨r31, h32, hf⟩ := bd_s hf
    refine kw_v (va_runS (As := [.ref (A (q + 9)), .int 1, .ref (A (q + 1)), .int 513, .int 511]) (rest := []) hcf (cz_X7_bring l D k A u12 (q + 9) (q + 1) 512 1025 r1.1 st 1 513 511 r31 h32 h25 h17 (by omega) _) (va_cwS 5 hts gX7_install_X7_bring rfl rfl rfl (by decide +kernel) ⟨Nat.le_of_ble_eq_true rfl, Nat.le_of_ble_eq_true rfl⟩) (px_S hP hK hD) rfl rfl hl.1 rfl (lv_room (Nat.le_of_ble_eq_true rfl)) dX7_install_35 ⟨Nat.zero_le _, Nat.zero_le _⟩) hD hS hA (fun u33 _ _ h34 hP hD hS => ?_)
    obtain ⟨h36, m35⟩ := h34
    have hsm := sm_tr hsm m35 (by omega) (by omega)
    refine lv_iload_n hx hb dX7_install_38 rfl (lv_at hl 0 rfl) ?_
    obtain rfl := so_i hf
    have h37 := sm_at m35 (by omega) h16
    have h38 := sm_at m35 (by omega) h18
    have h39 := sm_at m35 (by omega) h19
    have h40 := sm_at m35 (by omega) h20
    have h41 := sm_at m35 (by omega) h21
    have h42 := sm_at m35 (by omega) h22
    have h43 := sm_at m35 (by omega) h23
    have h44 := sm_at m35 (by omega) h24
    have h45 := sm_at m35 (by omega) h25
    have h46 := sm_at m35 (by omega) h26
    have h47 := sm_at m35 (by omega) h27
    have h48 := sm_at m35 (by omega) h28
    have h49 := sm_at m35 (by omega) h29
    have h50 := sm_at m35 (by omega) h30
    have h51 : is_Y k A u33 (q) r31 r10.1 image imagePast tape laneOf sizeOf items r1.1 r1.2.1 r1.2.2.1 r1.2.2.2 chain told r10.2 imageActs tapeMany readAt := ⟨h37, h36, h38, h39, h40, h41, h42, h43, h44, h45, h46, h47, h48, h49, h50⟩
    exact W.iret (v := r7) hx hb hr (qw_end hS hP hD ⟨h51, hsm⟩) hS.2.2 dX7_install_39
  · have hf := it_p c9 hf
    refine lv_bipush (v := (-2)) hx hb dX7_install_13 (by decide) ?_
    obtain rfl := so_i hf
    exact W.iret (v := (-2)) hx hb hr (qw_end hS hP hD ⟨h6, hsm⟩) hS.2.2 dX7_install_15

theorem in_X7_type_X7 : ∀ w ∈ u_ws RX7 TX7 18, w ∈ wsX7_type := fun w h => List.mem_cons_of_mem _ (List.mem_append_right _ h)
def pf_X7_type (tape : Nat → Int32) (tapeMany : Int32)  (p1 : Int32) : Option (Int32 × (Nat → Int32) × Int32) :=
  (pf_X7_in (Int32.toInt64 p1) 32 126).bind (fun r1 =>
    if r1 = 0 then
      some ((-1), tape, tapeMany)
    else
      if tapeMany = 100 then
        some ((-3), tape, tapeMany)
      else
        ck_O (in_b tapeMany 100) (
          some ((tapeMany + 1), (upd tape (Int32.toNatClampNeg tapeMany) p1), (tapeMany + 1))))

set_option maxHeartbeats 4000000 in
set_option maxRecDepth 100000 in
theorem cz_X7_type (l : Launch) (D : va_G) (k : kt_T) (A : Nat → Nat) (ws : va_W) (q : Nat)  (st : Nat → Int32) (past : Nat → Int32) (image : Nat → Int32) (imagePast : Nat → Int32) (tape : Nat → Int32) (laneOf : Nat → Int32) (sizeOf : Nat → Int32) (items : Nat → Int64) (least : Nat → Int32) (costs : Nat → Int32) (hops : Nat → Int32) (comes : Nat → Int32) (chain : Nat → Int32) (told : Nat → Int32) (acts : Int32) (imageActs : Int32) (tapeMany : Int32) (readAt : Int32) (p1 : Int32) (out : Int32 × (Nat → Int32) × Int32) (hf : pf_X7_type tape tapeMany p1 = some out) (h_this : is_Y k A ws q st past image imagePast tape laneOf sizeOf items least costs hops comes chain told acts imageActs tapeMany readAt)  (sz0 : Nat) : Met l yX7_type wsX7_type { frames := 1, cells := 0, slots := 0, locals := 25 } (va_Pc [.ref (A q), .int p1] (px_P D k ws sz0)) (qw_Q D ws sz0 (some (.int out.1)) (fun u => is_Y k A u q st past image imagePast out.2.1 laneOf sizeOf items least costs hops comes chain told acts imageActs out.2.2 readAt ∧ sm_W ws u q (q + 15))) 0 0 (va_A ws sz0) := by
  refine Met.ofW (cc := cX7_type) (maxL := 2) (ret := (some .int)) (by decide) rfl ?_
  intro p e s m args below meth c s₁ B hml hv
  obtain ⟨rfl, hsz, hP, hK, hD0⟩ := hv
  subst hsz
  have hD := hD0.self (sz := s.heap.size)
  have C0 : cx_P p s m meth c [.ref (A q), .int p1].toArray cX7_type 2 wsX7_type RX7 (some .int) := ⟨B.exec, B.bytes, hml, findClass_of_methodNamed B.named, atoms_spec (ws := wsX7_type) B.pre, B.returns, B.notSynchronized⟩
  obtain ⟨hx, hb, hml, hown, hts, hr, hlocks⟩ := id C0
  have hcf : CallFix p m c cX7_type 2 s [.ref (A q), .int p1].toArray wsX7_type RX7 := ⟨hx, hb, hml, hown, hts⟩
  have hA : ∀ q, s.heap.size ≤ q → va_A ws s.heap.size q := fun q h => Or.inr h
  have hS : va_S (va_A ws s.heap.size) s.heap s.heap [] := va_S.rf
  have hsm : sm_W ws ws q (q + 15) := sm_rf
  have w_0 := hts (.constantLong RX7 168 (32)) (List.mem_of_getElem? (i := 1) rfl)
  have w_1 := hts (.constantLong RX7 170 (126)) (List.mem_of_getElem? (i := 2) rfl)
  have w_2 := hts (.fieldLink RX7 172 "LeastRoutesModel" "tapeMany" "I") (List.mem_of_getElem? (i := 3) rfl)
  have w_3 := hts (.fieldLink RX7 26 "LeastRoutesModel" "tape" "[I") (List.mem_of_getElem? (i := 4) rfl)
  have hl := lv_entry ([.ref (A q), .int p1]) (n := 2) (Nat.le_of_ble_eq_true rfl)
  rw [lg_entry_eq]
  generalize (lg_sl ([.ref (A q), .int p1]) ++ List.replicate (2 - (lg_sl ([.ref (A q), .int p1])).length) Slot.unset).toArray = ls at hl ⊢
  have hl : lv_has ls 2 [(0, .ref (A q)), (1, .int p1)] := hl
  unfold pf_X7_type at hf
  refine lv_iload_n hx hb dX7_type_0 rfl (lv_at hl 1 rfl) ?_
  refine lv_i2l hx hb dX7_type_1 rfl ?_
  refine lv_ldc2 hx hb hown w_0 dX7_type_2 ?_
  refine lv_ldc2 hx hb hown w_1 dX7_type_5 ?_
  obtain ⟨r1, h2, hf⟩ := bd_s hf
  refine ks_i (va_runS (As := [.long (Int32.toInt64 p1), .long 32, .long 126]) (rest := []) hcf (cz_X7_in l D k A ws (Int32.toInt64 p1) 32 126 r1 h2) (va_cwS 3 hts gX7_type_X7_in rfl rfl rfl (by decide +kernel) ⟨Nat.le_of_ble_eq_true rfl, Nat.le_of_ble_eq_true rfl⟩) (pw_S hP hK hD) rfl rfl hl.1 rfl (lv_room (Nat.le_of_ble_eq_true rfl)) dX7_type_8 ⟨Nat.zero_le _, Nat.zero_le _⟩) ?_
  refine lv_if_ne (tgt := 16) hx hb dX7_type_11 (by decide) (fun c3 => ?_) (fun c3 => ?_)
  · have hf := it_n c3 hf
    refine lv_aload_n hx hb dX7_type_16 rfl (lv_at hl 0 rfl) ?_
    obtain ⟨h4, h5, h6, h7, h8, h9, h10, h11, h12, h13, h14, h15, h16, h17, h18⟩ := h_this
    refine va_get (D := D) (ci := 7) (v := .int tapeMany) (C := RX7) (T := TX7) (N := 18) hx hb hts in_X7_type_X7 hown hK.1 hP (q) h4 rfl 7 (by decide) w_2 (fun _ h9 => h9) rfl dX7_type_17 ?_
    refine lv_bipush (v := 100) hx hb dX7_type_20 (by decide) ?_
    refine lv_icmp_ne (tgt := 28) hx hb dX7_type_22 (by decide) (fun c19 => ?_) (fun c19 => ?_)
    · have hf := it_n c19 hf
      refine lv_aload_n hx hb dX7_type_28 rfl (lv_at hl 0 rfl) ?_
      refine va_get (D := D) (ci := 7) (v := .ref (A (q + 5))) (C := RX7) (T := TX7) (N := 18) hx hb hts in_X7_type_X7 hown hK.1 hP (q) h4 rfl 6 (by decide) w_3 (fun _ h9 => h9) rfl dX7_type_29 ?_
      refine lv_aload_n hx hb dX7_type_32 rfl (lv_at hl 0 rfl) ?_
      refine va_get (D := D) (ci := 7) (v := .int tapeMany) (C := RX7) (T := TX7) (N := 18) hx hb hts in_X7_type_X7 hown hK.1 hP (q) h4 rfl 7 (by decide) w_2 (fun _ h9 => h9) rfl dX7_type_33 ?_
      refine lv_iload_n hx hb dX7_type_36 rfl (lv_at hl 1 rfl) ?_
      obtain ⟨z20, hf⟩ := ck_s hf
      refine va_iast hx hb hK.1 hP hD hS (q + 5) 0 h9 rfl (in_s z20) dX7_type_37 (fun _ _ hP hD hS => ?_)
      obtain ⟨u21, h22, m23, hP, hD⟩ := wd_put hP hD h9
      have hsm := sm_tr hsm m23 (by omega) (by omega)
      refine lv_aload_n hx hb dX7_type_38 rfl (lv_at hl 0 rfl) ?_
      refine lv_dup hx hb dX7_type_39 rfl ?_
      have h24 := sm_at m23 (by omega) h4
      refine va_get (D := D) (ci := 7) (v := .int tapeMany) (C := RX7) (T := TX7) (N := 18) hx hb hts in_X7_type_X7 hown hK.1 hP (q) h24 rfl 7 (by decide) w_2 (fun _ h9 => h9) rfl dX7_type_40 ?_
      refine lv_iconst (v := 1) hx hb dX7_type_43 (by decide) ?_
      refine lv_iadd hx hb dX7_type_44 ?_
      refine va_put (D := D) (ci := 7) (v := .int (tapeMany + 1)) (ty := .int) (C := RX7) (T := TX7) (N := 18) hx hb hts in_X7_type_X7 tyX7 tyX7_ok nmX7 hown hK.1 hP hD hS (q) h24 rfl 7 (by decide) w_2 (fun _ h9 => h9) rfl (by decide +kernel) rfl rfl (Nat.le_of_ble_eq_true rfl) dX7_type_45 (fun _ _ hP hD hS => ?_)
      obtain ⟨u25, h26, m27, hP, hD⟩ := wd_put hP hD h24
      have hsm := sm_tr hsm m27 (by omega) (by omega)
      have h28 : u25[q]? = some (A (q), .inr (7, [.ref (A (q + 1)), .ref (A (q + 2)), .int acts, .ref (A (q + 3)), .ref (A (q + 4)), .int imageActs, .ref (A (q + 5)), .int (tapeMany + 1), .ref (A (q + 6)), .ref (A (q + 7)), .ref (A (q + 8)), .ref (A (q + 9)), .ref (A (q + 10)), .ref (A (q + 11)), .ref (A (q + 12)), .ref (A (q + 13)), .ref (A (q + 14)), .int readAt])) := h26
      refine lv_aload_n hx hb dX7_type_48 rfl (lv_at hl 0 rfl) ?_
      refine va_get (D := D) (ci := 7) (v := .int (tapeMany + 1)) (C := RX7) (T := TX7) (N := 18) hx hb hts in_X7_type_X7 hown hK.1 hP (q) h28 rfl 7 (by decide) w_2 (fun _ h9 => h9) rfl dX7_type_49 ?_
      obtain rfl := so_i hf
      have h29 := sm_at m23 (by omega) h5
      have h30 := sm_at m27 (by omega) h29
      have h31 := sm_at m23 (by omega) h6
      have h32 := sm_at m27 (by omega) h31
      have h33 := sm_at m23 (by omega) h7
      have h34 := sm_at m27 (by omega) h33
      have h35 := sm_at m23 (by omega) h8
      have h36 := sm_at m27 (by omega) h35
      have h37 := sm_at m27 (by omega) h22
      have h38 := sm_at m23 (by omega) h10
      have h39 := sm_at m27 (by omega) h38
      have h40 := sm_at m23 (by omega) h11
      have h41 := sm_at m27 (by omega) h40
      have h42 := sm_at m23 (by omega) h12
      have h43 := sm_at m27 (by omega) h42
      have h44 := sm_at m23 (by omega) h13
      have h45 := sm_at m27 (by omega) h44
      have h46 := sm_at m23 (by omega) h14
      have h47 := sm_at m27 (by omega) h46
      have h48 := sm_at m23 (by omega) h15
      have h49 := sm_at m27 (by omega) h48
      have h50 := sm_at m23 (by omega) h16
      have h51 := sm_at m27 (by omega) h50
      have h52 := sm_at m23 (by omega) h17
      have h53 := sm_at m27 (by omega) h52
      have h54 := sm_at m23 (by omega) h18
      have h55 := sm_at m27 (by omega) h54
      have h56 : is_Y k A u25 (q) st past image imagePast (upd tape (Int32.toNatClampNeg tapeMany) p1) laneOf sizeOf items least costs hops comes chain told acts imageActs (tapeMany + 1) readAt := ⟨h28, h30, h32, h34, h36, h37, h39, h41, h43, h45, h47, h49, h51, h53, h55⟩
      exact W.iret (v := (tapeMany + 1)) hx hb hr (qw_end hS hP hD ⟨h56, hsm⟩) hS.2.2 dX7_type_52
    · have hf := it_p c19 hf
      refine lv_bipush (v := (-3)) hx hb dX7_type_25 (by decide) ?_
      obtain rfl := so_i hf
      have h57 : is_Y k A ws (q) st past image imagePast tape laneOf sizeOf items least costs hops comes chain told acts imageActs tapeMany readAt := ⟨h4, h5, h6, h7, h8, h9, h10, h11, h12, h13, h14, h15, h16, h17, h18⟩
      exact W.iret (v := (-3)) hx hb hr (qw_end hS hP hD ⟨h57, hsm⟩) hS.2.2 dX7_type_27
  · have hf := it_p c3 hf
    refine lv_iconst (v := (-1)) hx hb dX7_type_14 (by decide) ?_
    obtain rfl := so_i hf
    exact W.iret (v := (-1)) hx hb hr (qw_end hS hP hD ⟨h_this, hsm⟩) hS.2.2 dX7_type_15

theorem in_X7_looks_X7 : ∀ w ∈ u_ws RX7 TX7 18, w ∈ wsX7_looks := fun w h => List.mem_cons_of_mem _ (List.mem_append_right _ h)
def lp_X7_looks_0  (tape : Nat → Int32) (tapeMany : Int32) : Nat → Int32 → Option (Int32 × Int32)
  | 0, _ => none
  | n + 1, readAt =>
    if tapeMany ≤ readAt then
      if tapeMany ≤ readAt then
        some (0, readAt)
      else
        ck_O (in_b readAt 100) (
          some ((tape (Int32.toNatClampNeg readAt)), readAt))
    else
      ck_O (in_b readAt 100) (
        if (tape (Int32.toNatClampNeg readAt)) = 32 then
          lp_X7_looks_0 tape tapeMany n (readAt + 1)
        else
          if tapeMany ≤ readAt then
            some (0, readAt)
          else
            ck_O (in_b readAt 100) (
              some ((tape (Int32.toNatClampNeg readAt)), readAt)))

def pf_X7_looks (tape : Nat → Int32) (tapeMany : Int32) (readAt : Int32)   : Option (Int32 × Int32) :=
  lp_X7_looks_0 tape tapeMany fu_N readAt

set_option maxHeartbeats 4000000 in
set_option maxRecDepth 100000 in
theorem wl_X7_looks_0 {p : Program} {e : Env} {s : State} {m : MethodId} {args : Array Value} {below : List Frame} {meth : Method} {c : Code} (l : Launch) (D : va_G) (k : kt_T) (A : Nat → Nat) (ws : va_W) (q : Nat)  (out : Int32 × Int32) (hK : kk_P D k s) (C0 : cx_P p s m meth c args cX7_looks 1 wsX7_looks RX7 (some .int))  (st : Nat → Int32) (past : Nat → Int32) (image : Nat → Int32) (imagePast : Nat → Int32) (tape : Nat → Int32) (laneOf : Nat → Int32) (sizeOf : Nat → Int32) (items : Nat → Int64) (least : Nat → Int32) (costs : Nat → Int32) (hops : Nat → Int32) (comes : Nat → Int32) (chain : Nat → Int32) (told : Nat → Int32) (acts : Int32) (imageActs : Int32) (tapeMany : Int32)     : ∀ (n : Nat) (readAt : Int32) (w : va_W) (H : Heap) (locs : List Loc) (ls : Array Slot), lp_X7_looks_0 tape tapeMany n readAt = some out → is_Y k A w q st past image imagePast tape laneOf sizeOf items least costs hops comes chain told acts imageActs tapeMany readAt → sm_W ws w q (q + 15) → va_P D vwCl w H → va_D (va_A ws s.heap.size) w → va_S (va_A ws s.heap.size) s.heap H locs → lv_has ls 1 [(0, .ref (A q))] → W p l e (headSpec wsX7_looks { frames := 0, cells := 0, slots := 0, locals := 0 }).room s m args below meth c H locs 0 0 (MQ below (qw_Q D ws s.heap.size (some (.int out.1)) (fun u => is_Y k A u q st past image imagePast tape laneOf sizeOf items least costs hops comes chain told acts imageActs tapeMany out.2 ∧ sm_W ws u q (q + 15))) args s 0 0 (va_A ws s.heap.size)) (F0 m 0 ls []) := by
  obtain ⟨hx, hb, hml, hown, hts, hr, hlocks⟩ := id C0
  have hcf : CallFix p m c cX7_looks 1 s args wsX7_looks RX7 := ⟨hx, hb, hml, hown, hts⟩
  have hA : ∀ q, s.heap.size ≤ q → va_A ws s.heap.size q := fun q h => Or.inr h
  have w_0 := hts (.fieldLink RX7 175 "LeastRoutesModel" "readAt" "I") (List.mem_of_getElem? (i := 1) rfl)
  have w_1 := hts (.fieldLink RX7 172 "LeastRoutesModel" "tapeMany" "I") (List.mem_of_getElem? (i := 2) rfl)
  have w_2 := hts (.fieldLink RX7 26 "LeastRoutesModel" "tape" "[I") (List.mem_of_getElem? (i := 3) rfl)
  intro n
  induction n with
  | zero =>
    intro readAt w H locs ls hf h_this hsm hP hD hS hl
    exact (no_s hf).elim
  | succ n ih =>
    intro readAt w H locs ls hf h_this hsm hP hD hS hl
    rw [lp_X7_looks_0] at hf
    refine lv_aload_n hx hb dX7_looks_0 rfl (lv_at hl 0 rfl) ?_
    obtain ⟨h1, h2, h3, h4, h5, h6, h7, h8, h9, h10, h11, h12, h13, h14, h15⟩ := h_this
    refine va_get (D := D) (ci := 7) (v := .int readAt) (C := RX7) (T := TX7) (N := 18) hx hb hts in_X7_looks_X7 hown hK.1 hP (q) h1 rfl 17 (by decide) w_0 (fun _ h9 => h9) rfl dX7_looks_1 ?_
    refine lv_aload_n hx hb dX7_looks_4 rfl (lv_at hl 0 rfl) ?_
    refine va_get (D := D) (ci := 7) (v := .int tapeMany) (C := RX7) (T := TX7) (N := 18) hx hb hts in_X7_looks_X7 hown hK.1 hP (q) h1 rfl 7 (by decide) w_1 (fun _ h9 => h9) rfl dX7_looks_5 ?_
    refine lv_icmp_ge (tgt := 38) hx hb dX7_looks_8 (by decide) (fun c16 => ?_) (fun c16 => ?_)
    · have hf := it_p c16 hf
      refine lv_aload_n hx hb dX7_looks_38 rfl (lv_at hl 0 rfl) ?_
      refine va_get (D := D) (ci := 7) (v := .int readAt) (C := RX7) (T := TX7) (N := 18) hx hb hts in_X7_looks_X7 hown hK.1 hP (q) h1 rfl 17 (by decide) w_0 (fun _ h9 => h9) rfl dX7_looks_39 ?_
      refine lv_aload_n hx hb dX7_looks_42 rfl (lv_at hl 0 rfl) ?_
      refine va_get (D := D) (ci := 7) (v := .int tapeMany) (C := RX7) (T := TX7) (N := 18) hx hb hts in_X7_looks_X7 hown hK.1 hP (q) h1 rfl 7 (by decide) w_1 (fun _ h9 => h9) rfl dX7_looks_43 ?_
      refine lv_icmp_ge (tgt := 61) hx hb dX7_looks_46 (by decide) (fun c17 => ?_) (fun c17 => ?_)
      · have hf := it_p c17 hf
        refine lv_iconst (v := 0) hx hb dX7_looks_61 (by decide) ?_
        obtain rfl := so_i hf
        have h18 : is_Y k A w (q) st past image imagePast tape laneOf sizeOf items least costs hops comes chain told acts imageActs tapeMany readAt := ⟨h1, h2, h3, h4, h5, h6, h7, h8, h9, h10, h11, h12, h13, h14, h15⟩
        exact W.iret (v := 0) hx hb hr (qw_end hS hP hD ⟨h18, hsm⟩) hS.2.2 dX7_looks_62
      · have hf := it_n c17 hf
        refine lv_aload_n hx hb dX7_looks_49 rfl (lv_at hl 0 rfl) ?_
        refine va_get (D := D) (ci := 7) (v := .ref (A (q + 5))) (C := RX7) (T := TX7) (N := 18) hx hb hts in_X7_looks_X7 hown hK.1 hP (q) h1 rfl 6 (by decide) w_2 (fun _ h9 => h9) rfl dX7_looks_50 ?_
        refine lv_aload_n hx hb dX7_looks_53 rfl (lv_at hl 0 rfl) ?_
        refine va_get (D := D) (ci := 7) (v := .int readAt) (C := RX7) (T := TX7) (N := 18) hx hb hts in_X7_looks_X7 hown hK.1 hP (q) h1 rfl 17 (by decide) w_0 (fun _ h9 => h9) rfl dX7_looks_54 ?_
        obtain ⟨z19, hf⟩ := ck_s hf
        refine va_iald hx hb hK.1 hP (q + 5) 0 h6 rfl (in_s z19) dX7_looks_57 ?_
        refine lv_goto (tgt := 62) hx hb dX7_looks_58 (by decide) ?_
        obtain rfl := so_i hf
        have h20 : is_Y k A w (q) st past image imagePast tape laneOf sizeOf items least costs hops comes chain told acts imageActs tapeMany readAt := ⟨h1, h2, h3, h4, h5, h6, h7, h8, h9, h10, h11, h12, h13, h14, h15⟩
        exact W.iret (v := (tape (Int32.toNatClampNeg readAt))) hx hb hr (qw_end hS hP hD ⟨h20, hsm⟩) hS.2.2 dX7_looks_62
    · have hf := it_n c16 hf
      refine lv_aload_n hx hb dX7_looks_11 rfl (lv_at hl 0 rfl) ?_
      refine va_get (D := D) (ci := 7) (v := .ref (A (q + 5))) (C := RX7) (T := TX7) (N := 18) hx hb hts in_X7_looks_X7 hown hK.1 hP (q) h1 rfl 6 (by decide) w_2 (fun _ h9 => h9) rfl dX7_looks_12 ?_
      refine lv_aload_n hx hb dX7_looks_15 rfl (lv_at hl 0 rfl) ?_
      refine va_get (D := D) (ci := 7) (v := .int readAt) (C := RX7) (T := TX7) (N := 18) hx hb hts in_X7_looks_X7 hown hK.1 hP (q) h1 rfl 17 (by decide) w_0 (fun _ h9 => h9) rfl dX7_looks_16 ?_
      obtain ⟨z21, hf⟩ := ck_s hf
      refine va_iald hx hb hK.1 hP (q + 5) 0 h6 rfl (in_s z21) dX7_looks_19 ?_
      refine lv_bipush (v := 32) hx hb dX7_looks_20 (by decide) ?_
      refine lv_icmp_ne (tgt := 38) hx hb dX7_looks_22 (by decide) (fun c22 => ?_) (fun c22 => ?_)
      · have hf := it_n c22 hf
        refine lv_aload_n hx hb dX7_looks_38 rfl (lv_at hl 0 rfl) ?_
        refine va_get (D := D) (ci := 7) (v := .int readAt) (C := RX7) (T := TX7) (N := 18) hx hb hts in_X7_looks_X7 hown hK.1 hP (q) h1 rfl 17 (by decide) w_0 (fun _ h9 => h9) rfl dX7_looks_39 ?_
        refine lv_aload_n hx hb dX7_looks_42 rfl (lv_at hl 0 rfl) ?_
        refine va_get (D := D) (ci := 7) (v := .int tapeMany) (C := RX7) (T := TX7) (N := 18) hx hb hts in_X7_looks_X7 hown hK.1 hP (q) h1 rfl 7 (by decide) w_1 (fun _ h9 => h9) rfl dX7_looks_43 ?_
        refine lv_icmp_ge (tgt := 61) hx hb dX7_looks_46 (by decide) (fun c23 => ?_) (fun c23 => ?_)
        · have hf := it_p c23 hf
          refine lv_iconst (v := 0) hx hb dX7_looks_61 (by decide) ?_
          obtain rfl := so_i hf
          have h24 : is_Y k A w (q) st past image imagePast tape laneOf sizeOf items least costs hops comes chain told acts imageActs tapeMany readAt := ⟨h1, h2, h3, h4, h5, h6, h7, h8, h9, h10, h11, h12, h13, h14, h15⟩
          exact W.iret (v := 0) hx hb hr (qw_end hS hP hD ⟨h24, hsm⟩) hS.2.2 dX7_looks_62
        · have hf := it_n c23 hf
          refine lv_aload_n hx hb dX7_looks_49 rfl (lv_at hl 0 rfl) ?_
          refine va_get (D := D) (ci := 7) (v := .ref (A (q + 5))) (C := RX7) (T := TX7) (N := 18) hx hb hts in_X7_looks_X7 hown hK.1 hP (q) h1 rfl 6 (by decide) w_2 (fun _ h9 => h9) rfl dX7_looks_50 ?_
          refine lv_aload_n hx hb dX7_looks_53 rfl (lv_at hl 0 rfl) ?_
          refine va_get (D := D) (ci := 7) (v := .int readAt) (C := RX7) (T := TX7) (N := 18) hx hb hts in_X7_looks_X7 hown hK.1 hP (q) h1 rfl 17 (by decide) w_0 (fun _ h9 => h9) rfl dX7_looks_54 ?_
          obtain ⟨z25, hf⟩ := ck_s hf
          refine va_iald hx hb hK.1 hP (q + 5) 0 h6 rfl (in_s z25) dX7_looks_57 ?_
          refine lv_goto (tgt := 62) hx hb dX7_looks_58 (by decide) ?_
          obtain rfl := so_i hf
          have h26 : is_Y k A w (q) st past image imagePast tape laneOf sizeOf items least costs hops comes chain told acts imageActs tapeMany readAt := ⟨h1, h2, h3, h4, h5, h6, h7, h8, h9, h10, h11, h12, h13, h14, h15⟩
          exact W.iret (v := (tape (Int32.toNatClampNeg readAt))) hx hb hr (qw_end hS hP hD ⟨h26, hsm⟩) hS.2.2 dX7_looks_62
      · have hf := it_p c22 hf
        refine lv_aload_n hx hb dX7_looks_25 rfl (lv_at hl 0 rfl) ?_
        refine lv_dup hx hb dX7_looks_26 rfl ?_
        refine va_get (D := D) (ci := 7) (v := .int readAt) (C := RX7) (T := TX7) (N := 18) hx hb hts in_X7_looks_X7 hown hK.1 hP (q) h1 rfl 17 (by decide) w_0 (fun _ h9 => h9) rfl dX7_looks_27 ?_
        refine lv_iconst (v := 1) hx hb dX7_looks_30 (by decide) ?_
        refine lv_iadd hx hb dX7_looks_31 ?_
        refine va_put (D := D) (ci := 7) (v := .int (readAt + 1)) (ty := .int) (C := RX7) (T := TX7) (N := 18) hx hb hts in_X7_looks_X7 tyX7 tyX7_ok nmX7 hown hK.1 hP hD hS (q) h1 rfl 17 (by decide) w_0 (fun _ h9 => h9) rfl (by decide +kernel) rfl rfl (Nat.le_of_ble_eq_true rfl) dX7_looks_32 (fun _ _ hP hD hS => ?_)
        obtain ⟨u27, h28, m29, hP, hD⟩ := wd_put hP hD h1
        have hsm := sm_tr hsm m29 (by omega) (by omega)
        have h30 : u27[q]? = some (A (q), .inr (7, [.ref (A (q + 1)), .ref (A (q + 2)), .int acts, .ref (A (q + 3)), .ref (A (q + 4)), .int imageActs, .ref (A (q + 5)), .int tapeMany, .ref (A (q + 6)), .ref (A (q + 7)), .ref (A (q + 8)), .ref (A (q + 9)), .ref (A (q + 10)), .ref (A (q + 11)), .ref (A (q + 12)), .ref (A (q + 13)), .ref (A (q + 14)), .int (readAt + 1)])) := h28
        refine lv_goto (tgt := 0) hx hb dX7_looks_35 (by decide) ?_
        have h31 := sm_at m29 (by omega) h2
        have h32 := sm_at m29 (by omega) h3
        have h33 := sm_at m29 (by omega) h4
        have h34 := sm_at m29 (by omega) h5
        have h35 := sm_at m29 (by omega) h6
        have h36 := sm_at m29 (by omega) h7
        have h37 := sm_at m29 (by omega) h8
        have h38 := sm_at m29 (by omega) h9
        have h39 := sm_at m29 (by omega) h10
        have h40 := sm_at m29 (by omega) h11
        have h41 := sm_at m29 (by omega) h12
        have h42 := sm_at m29 (by omega) h13
        have h43 := sm_at m29 (by omega) h14
        have h44 := sm_at m29 (by omega) h15
        have h45 : is_Y k A u27 (q) st past image imagePast tape laneOf sizeOf items least costs hops comes chain told acts imageActs tapeMany (readAt + 1) := ⟨h30, h31, h32, h33, h34, h35, h36, h37, h38, h39, h40, h41, h42, h43, h44⟩
        exact ih (readAt + 1) _ _ _ _ hf h45 hsm hP hD hS (lv_sub hl [0] rfl)

set_option maxHeartbeats 4000000 in
set_option maxRecDepth 100000 in
theorem cz_X7_looks (l : Launch) (D : va_G) (k : kt_T) (A : Nat → Nat) (ws : va_W) (q : Nat)  (st : Nat → Int32) (past : Nat → Int32) (image : Nat → Int32) (imagePast : Nat → Int32) (tape : Nat → Int32) (laneOf : Nat → Int32) (sizeOf : Nat → Int32) (items : Nat → Int64) (least : Nat → Int32) (costs : Nat → Int32) (hops : Nat → Int32) (comes : Nat → Int32) (chain : Nat → Int32) (told : Nat → Int32) (acts : Int32) (imageActs : Int32) (tapeMany : Int32) (readAt : Int32)  (out : Int32 × Int32) (hf : pf_X7_looks tape tapeMany readAt = some out) (h_this : is_Y k A ws q st past image imagePast tape laneOf sizeOf items least costs hops comes chain told acts imageActs tapeMany readAt)  (sz0 : Nat) : Met l yX7_looks wsX7_looks { frames := 0, cells := 0, slots := 0, locals := 0 } (va_Pc [.ref (A q)] (px_P D k ws sz0)) (qw_Q D ws sz0 (some (.int out.1)) (fun u => is_Y k A u q st past image imagePast tape laneOf sizeOf items least costs hops comes chain told acts imageActs tapeMany out.2 ∧ sm_W ws u q (q + 15))) 0 0 (va_A ws sz0) := by
  refine Met.ofW (cc := cX7_looks) (maxL := 1) (ret := (some .int)) (by decide) rfl ?_
  intro p e s m args below meth c s₁ B hml hv
  obtain ⟨rfl, hsz, hP, hK, hD0⟩ := hv
  subst hsz
  have hD := hD0.self (sz := s.heap.size)
  have C0 : cx_P p s m meth c [.ref (A q)].toArray cX7_looks 1 wsX7_looks RX7 (some .int) := ⟨B.exec, B.bytes, hml, findClass_of_methodNamed B.named, atoms_spec (ws := wsX7_looks) B.pre, B.returns, B.notSynchronized⟩
  obtain ⟨hx, hb, hml, hown, hts, hr, hlocks⟩ := id C0
  have hcf : CallFix p m c cX7_looks 1 s [.ref (A q)].toArray wsX7_looks RX7 := ⟨hx, hb, hml, hown, hts⟩
  have hA : ∀ q, s.heap.size ≤ q → va_A ws s.heap.size q := fun q h => Or.inr h
  have hS : va_S (va_A ws s.heap.size) s.heap s.heap [] := va_S.rf
  have hsm : sm_W ws ws q (q + 15) := sm_rf
  have hl := lv_entry ([.ref (A q)]) (n := 1) (Nat.le_of_ble_eq_true rfl)
  rw [lg_entry_eq]
  generalize (lg_sl ([.ref (A q)]) ++ List.replicate (1 - (lg_sl ([.ref (A q)])).length) Slot.unset).toArray = ls at hl ⊢
  have hl : lv_has ls 1 [(0, .ref (A q))] := hl
  unfold pf_X7_looks at hf
  exact wl_X7_looks_0 l D k A ws q _ hK C0 st past image imagePast tape laneOf sizeOf items least costs hops comes chain told acts imageActs tapeMany fu_N readAt _ _ _ _ hf h_this hsm hP hD hS (lv_sub hl [0] rfl)

theorem in_X7_readsEntry_X7 : ∀ w ∈ u_ws RX7 TX7 18, w ∈ wsX7_readsEntry := fun w h => List.mem_cons_of_mem _ (List.mem_append_right _ h)
def lp_X7_readsEntry_90  (tape : Nat → Int32) (told : Nat → Int32) (tapeMany : Int32) (readAt : Int32) (x1 : Int32) (x2 : Int32) : Option (Int32 × (Nat → Int32) × Int32) :=
  (pf_X7_looks tape tapeMany readAt).bind (fun r24 =>
    if r24.1 = 58 then
      ck_O (in_b x2 512) (
        if (told (Int32.toNatClampNeg x2)) = 8 then
          (pf_X7_looks tape tapeMany (r24.2 + 1)).bind (fun r67 =>
            (pf_X7_in (Int32.toInt64 r67.1) 48 55).bind (fun r73 =>
              if r73 = 0 then
                some (0, told, r67.2)
              else
                (pf_X7_looks tape tapeMany r67.2).bind (fun r92 =>
                  ck_O (in_b x2 512) (
                    some (1, (upd told (Int32.toNatClampNeg x2) (r92.1 - 48)), (r92.2 + 1))))))
        else
          some (0, told, x1))
    else
      some (0, told, r24.2))

def lp_X7_readsEntry_62  (tape : Nat → Int32) (told : Nat → Int32) (tapeMany : Int32) (readAt : Int32) (x1 : Int32) (x2 : Int32) : Option (Int32 × (Nat → Int32) × Int32) :=
  if 256 ≤ x2 then
    lp_X7_readsEntry_90 tape told tapeMany readAt x1 x2
  else
    (pf_X7_looks tape tapeMany readAt).bind (fun r169 =>
      if r169.1 = 42 then
        lp_X7_readsEntry_90 tape told tapeMany (r169.2 + 1) x1 x2
      else
        some (0, told, r169.2))

def lp_X7_readsEntry_37  (tape : Nat → Int32) (tapeMany : Int32) (readAt : Int32) (x1 : Int32) (x2 : Int32) (g_12 : Int32 → Int32 → Option (Int32 × (Nat → Int32) × Int32)) : Option (Int32 × (Nat → Int32) × Int32) :=
  (pf_X7_looks tape tapeMany readAt).bind (fun r217 =>
    lt_O (((2 * x2) + r217.1) - 48) (fun y223 =>
      g_12 (r217.2 + 1) y223))

def lp_X7_readsEntry_12  (tape : Nat → Int32) (told : Nat → Int32) (tapeMany : Int32) (x1 : Int32) : Nat → Int32 → Int32 → Option (Int32 × (Nat → Int32) × Int32)
  | 0, _, _ => none
  | n + 1, readAt, x2 =>
    if 256 ≤ x2 then
      lp_X7_readsEntry_62 tape told tapeMany readAt x1 x2
    else
      (pf_X7_looks tape tapeMany readAt).bind (fun r210 =>
        if r210.1 = 48 then
          lp_X7_readsEntry_37 tape tapeMany r210.2 x1 x2 (lp_X7_readsEntry_12 tape told tapeMany x1 n)
        else
          (pf_X7_looks tape tapeMany r210.2).bind (fun r259 =>
            if r259.1 = 49 then
              lp_X7_readsEntry_37 tape tapeMany r259.2 x1 x2 (lp_X7_readsEntry_12 tape told tapeMany x1 n)
            else
              lp_X7_readsEntry_62 tape told tapeMany r259.2 x1 x2))

def pf_X7_readsEntry (tape : Nat → Int32) (told : Nat → Int32) (tapeMany : Int32) (readAt : Int32)   : Option (Int32 × (Nat → Int32) × Int32) :=
  (pf_X7_looks tape tapeMany readAt).bind (fun r1 =>
    lp_X7_readsEntry_12 tape told tapeMany r1.2 fu_N r1.2 1)

set_option maxHeartbeats 4000000 in
set_option maxRecDepth 100000 in
theorem wl_X7_readsEntry_90 {p : Program} {e : Env} {s : State} {m : MethodId} {args : Array Value} {below : List Frame} {meth : Method} {c : Code} (l : Launch) (D : va_G) (k : kt_T) (A : Nat → Nat) (ws : va_W) (q : Nat)  (out : Int32 × (Nat → Int32) × Int32) (hK : kk_P D k s) (C0 : cx_P p s m meth c args cX7_readsEntry 3 wsX7_readsEntry RX7 (some .boolean))  (st : Nat → Int32) (past : Nat → Int32) (image : Nat → Int32) (imagePast : Nat → Int32) (tape : Nat → Int32) (laneOf : Nat → Int32) (sizeOf : Nat → Int32) (items : Nat → Int64) (least : Nat → Int32) (costs : Nat → Int32) (hops : Nat → Int32) (comes : Nat → Int32) (chain : Nat → Int32) (told : Nat → Int32) (acts : Int32) (imageActs : Int32) (tapeMany : Int32) (readAt : Int32) (x1 : Int32) (x2 : Int32)    : ∀ (w : va_W) (H : Heap) (locs : List Loc) (ls : Array Slot), lp_X7_readsEntry_90 tape told tapeMany readAt x1 x2 = some out → is_Y k A w q st past image imagePast tape laneOf sizeOf items least costs hops comes chain told acts imageActs tapeMany readAt → sm_W ws w q (q + 15) → va_P D vwCl w H → va_D (va_A ws s.heap.size) w → va_S (va_A ws s.heap.size) s.heap H locs → lv_has ls 3 [(0, .ref (A q)), (1, .int x1), (2, .int x2)] → W p l e (headSpec wsX7_readsEntry { frames := 1, cells := 0, slots := 0, locals := 25 }).room s m args below meth c H locs 0 0 (MQ below (qw_Q D ws s.heap.size (some (.int out.1)) (fun u => is_Y k A u q st past image imagePast tape laneOf sizeOf items least costs hops comes chain out.2.1 acts imageActs tapeMany out.2.2 ∧ sm_W ws u q (q + 15))) args s 0 0 (va_A ws s.heap.size)) (F0 m 90 ls []) := by
  obtain ⟨hx, hb, hml, hown, hts, hr, hlocks⟩ := id C0
  have hcf : CallFix p m c cX7_readsEntry 3 s args wsX7_readsEntry RX7 := ⟨hx, hb, hml, hown, hts⟩
  have hA : ∀ q, s.heap.size ≤ q → va_A ws s.heap.size q := fun q h => Or.inr h
  have w_0 := hts (.fieldLink RX7 175 "LeastRoutesModel" "readAt" "I") (List.mem_of_getElem? (i := 1) rfl)
  have w_1 := hts (.fieldLink RX7 54 "LeastRoutesModel" "told" "[I") (List.mem_of_getElem? (i := 2) rfl)
  have w_2 := hts (.constantLong RX7 181 (48)) (List.mem_of_getElem? (i := 3) rfl)
  have w_3 := hts (.constantLong RX7 183 (55)) (List.mem_of_getElem? (i := 4) rfl)
  intro w H locs ls hf h_this hsm hP hD hS hl
  unfold lp_X7_readsEntry_90 at hf
  refine lv_aload_n hx hb dX7_readsEntry_90 rfl (lv_at hl 0 rfl) ?_
  obtain ⟨r24, h25, hf⟩ := bd_s hf
  refine kw_i (va_runV (As := []) (rest := []) hcf (cz_X7_looks l D k A w (q) st past image imagePast tape laneOf sizeOf items least costs hops comes chain told acts imageActs tapeMany readAt r24 h25 h_this _) (cwV 0 hts gX7_readsEntry_X7_looks rfl rfl rfl (by decide +kernel) ⟨Nat.le_of_ble_eq_true rfl, Nat.le_of_ble_eq_true rfl⟩) (px_V hP hK hD (ci := 7) h_this.1 rfl) rfl rfl hl.1 rfl (lv_room (Nat.le_of_ble_eq_true rfl)) dX7_readsEntry_91 ⟨Nat.zero_le _, Nat.zero_le _⟩) hD hS hA (fun u26 _ _ h27 hP hD hS => ?_)
  obtain ⟨h29, m28⟩ := h27
  have hsm := sm_tr hsm m28 (by omega) (by omega)
  refine lv_bipush (v := 58) hx hb dX7_readsEntry_94 (by decide) ?_
  refine lv_icmp_eq (tgt := 101) hx hb dX7_readsEntry_96 (by decide) (fun c30 => ?_) (fun c30 => ?_)
  · have hf := it_p c30 hf
    refine lv_aload_n hx hb dX7_readsEntry_101 rfl (lv_at hl 0 rfl) ?_
    obtain ⟨h31, h32, h33, h34, h35, h36, h37, h38, h39, h40, h41, h42, h43, h44, h45⟩ := h29
    refine va_get (D := D) (ci := 7) (v := .ref (A (q + 14))) (C := RX7) (T := TX7) (N := 18) hx hb hts in_X7_readsEntry_X7 hown hK.1 hP (q) h31 rfl 16 (by decide) w_1 (fun _ h9 => h9) rfl dX7_readsEntry_102 ?_
    refine lv_iload_n hx hb dX7_readsEntry_105 rfl (lv_at hl 2 rfl) ?_
    obtain ⟨z46, hf⟩ := ck_s hf
    refine va_iald hx hb hK.1 hP (q + 14) 0 h45 rfl (in_s z46) dX7_readsEntry_106 ?_
    refine lv_bipush (v := 8) hx hb dX7_readsEntry_107 (by decide) ?_
    refine lv_icmp_eq (tgt := 119) hx hb dX7_readsEntry_109 (by decide) (fun c47 => ?_) (fun c47 => ?_)
    · have hf := it_p c47 hf
      refine lv_aload_n hx hb dX7_readsEntry_119 rfl (lv_at hl 0 rfl) ?_
      refine lv_dup hx hb dX7_readsEntry_120 rfl ?_
      refine va_get (D := D) (ci := 7) (v := .int r24.2) (C := RX7) (T := TX7) (N := 18) hx hb hts in_X7_readsEntry_X7 hown hK.1 hP (q) h31 rfl 17 (by decide) w_0 (fun _ h9 => h9) rfl dX7_readsEntry_121 ?_
      refine lv_iconst (v := 1) hx hb dX7_readsEntry_124 (by decide) ?_
      refine lv_iadd hx hb dX7_readsEntry_125 ?_
      refine va_put (D := D) (ci := 7) (v := .int (r24.2 + 1)) (ty := .int) (C := RX7) (T := TX7) (N := 18) hx hb hts in_X7_readsEntry_X7 tyX7 tyX7_ok nmX7 hown hK.1 hP hD hS (q) h31 rfl 17 (by decide) w_0 (fun _ h9 => h9) rfl (by decide +kernel) rfl rfl (Nat.le_of_ble_eq_true rfl) dX7_readsEntry_126 (fun _ _ hP hD hS => ?_)
      obtain ⟨u48, h49, m50, hP, hD⟩ := wd_put hP hD h31
      have hsm := sm_tr hsm m50 (by omega) (by omega)
      have h51 : u48[q]? = some (A (q), .inr (7, [.ref (A (q + 1)), .ref (A (q + 2)), .int acts, .ref (A (q + 3)), .ref (A (q + 4)), .int imageActs, .ref (A (q + 5)), .int tapeMany, .ref (A (q + 6)), .ref (A (q + 7)), .ref (A (q + 8)), .ref (A (q + 9)), .ref (A (q + 10)), .ref (A (q + 11)), .ref (A (q + 12)), .ref (A (q + 13)), .ref (A (q + 14)), .int (r24.2 + 1)])) := h49
      refine lv_aload_n hx hb dX7_readsEntry_129 rfl (lv_at hl 0 rfl) ?_
      have h52 := sm_at m50 (by omega) h32
      have h53 := sm_at m50 (by omega) h33
      have h54 := sm_at m50 (by omega) h34
      have h55 := sm_at m50 (by omega) h35
      have h56 := sm_at m50 (by omega) h36
      have h57 := sm_at m50 (by omega) h37
      have h58 := sm_at m50 (by omega) h38
      have h59 := sm_at m50 (by omega) h39
      have h60 := sm_at m50 (by omega) h40
      have h61 := sm_at m50 (by omega) h41
      have h62 := sm_at m50 (by omega) h42
      have h63 := sm_at m50 (by omega) h43
      have h64 := sm_at m50 (by omega) h44
      have h65 := sm_at m50 (by omega) h45
      have h66 : is_Y k A u48 (q) st past image imagePast tape laneOf sizeOf items least costs hops comes chain told acts imageActs tapeMany (r24.2 + 1) := ⟨h51, h52, h53, h54, h55, h56, h57, h58, h59, h60, h61, h62, h63, h64, h65⟩
      obtain ⟨r67, h68, hf⟩ := bd_s hf
      refine kw_i (va_runV (As := []) (rest := []) hcf (cz_X7_looks l D k A u48 (q) st past image imagePast tape laneOf sizeOf items least costs hops comes chain told acts imageActs tapeMany (r24.2 + 1) r67 h68 h66 _) (cwV 0 hts gX7_readsEntry_X7_looks rfl rfl rfl (by decide +kernel) ⟨Nat.le_of_ble_eq_true rfl, Nat.le_of_ble_eq_true rfl⟩) (px_V hP hK hD (ci := 7) h66.1 rfl) rfl rfl hl.1 rfl (lv_room (Nat.le_of_ble_eq_true rfl)) dX7_readsEntry_130 ⟨Nat.zero_le _, Nat.zero_le _⟩) hD hS hA (fun u69 _ _ h70 hP hD hS => ?_)
      obtain ⟨h72, m71⟩ := h70
      have hsm := sm_tr hsm m71 (by omega) (by omega)
      refine lv_i2l hx hb dX7_readsEntry_133 rfl ?_
      refine lv_ldc2 hx hb hown w_2 dX7_readsEntry_134 ?_
      refine lv_ldc2 hx hb hown w_3 dX7_readsEntry_137 ?_
      obtain ⟨r73, h74, hf⟩ := bd_s hf
      refine ks_i (va_runS (As := [.long (Int32.toInt64 r67.1), .long 48, .long 55]) (rest := []) hcf (cz_X7_in l D k A u69 (Int32.toInt64 r67.1) 48 55 r73 h74) (va_cwS 3 hts gX7_readsEntry_X7_in rfl rfl rfl (by decide +kernel) ⟨Nat.le_of_ble_eq_true rfl, Nat.le_of_ble_eq_true rfl⟩) (pw_S hP hK hD) rfl rfl hl.1 rfl (lv_room (Nat.le_of_ble_eq_true rfl)) dX7_readsEntry_140 ⟨Nat.zero_le _, Nat.zero_le _⟩) ?_
      refine lv_if_ne (tgt := 148) hx hb dX7_readsEntry_143 (by decide) (fun c75 => ?_) (fun c75 => ?_)
      · have hf := it_n c75 hf
        refine lv_aload_n hx hb dX7_readsEntry_148 rfl (lv_at hl 0 rfl) ?_
        obtain ⟨h76, h77, h78, h79, h80, h81, h82, h83, h84, h85, h86, h87, h88, h89, h90⟩ := h72
        refine va_get (D := D) (ci := 7) (v := .ref (A (q + 14))) (C := RX7) (T := TX7) (N := 18) hx hb hts in_X7_readsEntry_X7 hown hK.1 hP (q) h76 rfl 16 (by decide) w_1 (fun _ h9 => h9) rfl dX7_readsEntry_149 ?_
        refine lv_iload_n hx hb dX7_readsEntry_152 rfl (lv_at hl 2 rfl) ?_
        refine lv_aload_n hx hb dX7_readsEntry_153 rfl (lv_at hl 0 rfl) ?_
        have h91 : is_Y k A u69 (q) st past image imagePast tape laneOf sizeOf items least costs hops comes chain told acts imageActs tapeMany r67.2 := ⟨h76, h77, h78, h79, h80, h81, h82, h83, h84, h85, h86, h87, h88, h89, h90⟩
        obtain ⟨r92, h93, hf⟩ := bd_s hf
        refine kw_i (va_runV (As := []) (rest := [.int x2, .ref (A (q + 14))]) hcf (cz_X7_looks l D k A u69 (q) st past image imagePast tape laneOf sizeOf items least costs hops comes chain told acts imageActs tapeMany r67.2 r92 h93 h91 _) (cwV 0 hts gX7_readsEntry_X7_looks rfl rfl rfl (by decide +kernel) ⟨Nat.le_of_ble_eq_true rfl, Nat.le_of_ble_eq_true rfl⟩) (px_V hP hK hD (ci := 7) h91.1 rfl) rfl rfl hl.1 rfl (lv_room (Nat.le_of_ble_eq_true rfl)) dX7_readsEntry_154 ⟨Nat.zero_le _, Nat.zero_le _⟩) hD hS hA (fun u94 _ _ h95 hP hD hS => ?_)
        obtain ⟨h97, m96⟩ := h95
        have hsm := sm_tr hsm m96 (by omega) (by omega)
        refine lv_bipush (v := 48) hx hb dX7_readsEntry_157 (by decide) ?_
        refine lv_isub hx hb dX7_readsEntry_159 ?_
        obtain ⟨h98, h99, h100, h101, h102, h103, h104, h105, h106, h107, h108, h109, h110, h111, h112⟩ := h97
        obtain ⟨z113, hf⟩ := ck_s hf
        refine va_iast hx hb hK.1 hP hD hS (q + 14) 0 h112 rfl (in_s z113) dX7_readsEntry_160 (fun _ _ hP hD hS => ?_)
        obtain ⟨u114, h115, m116, hP, hD⟩ := wd_put hP hD h112
        have hsm := sm_tr hsm m116 (by omega) (by omega)
        refine lv_aload_n hx hb dX7_readsEntry_161 rfl (lv_at hl 0 rfl) ?_
        refine lv_dup hx hb dX7_readsEntry_162 rfl ?_
        have h117 := sm_at m116 (by omega) h98
        refine va_get (D := D) (ci := 7) (v := .int r92.2) (C := RX7) (T := TX7) (N := 18) hx hb hts in_X7_readsEntry_X7 hown hK.1 hP (q) h117 rfl 17 (by decide) w_0 (fun _ h9 => h9) rfl dX7_readsEntry_163 ?_
        refine lv_iconst (v := 1) hx hb dX7_readsEntry_166 (by decide) ?_
        refine lv_iadd hx hb dX7_readsEntry_167 ?_
        refine va_put (D := D) (ci := 7) (v := .int (r92.2 + 1)) (ty := .int) (C := RX7) (T := TX7) (N := 18) hx hb hts in_X7_readsEntry_X7 tyX7 tyX7_ok nmX7 hown hK.1 hP hD hS (q) h117 rfl 17 (by decide) w_0 (fun _ h9 => h9) rfl (by decide +kernel) rfl rfl (Nat.le_of_ble_eq_true rfl) dX7_readsEntry_168 (fun _ _ hP hD hS => ?_)
        obtain ⟨u118, h119, m120, hP, hD⟩ := wd_put hP hD h117
        have hsm := sm_tr hsm m120 (by omega) (by omega)
        have h121 : u118[q]? = some (A (q), .inr (7, [.ref (A (q + 1)), .ref (A (q + 2)), .int acts, .ref (A (q + 3)), .ref (A (q + 4)), .int imageActs, .ref (A (q + 5)), .int tapeMany, .ref (A (q + 6)), .ref (A (q + 7)), .ref (A (q + 8)), .ref (A (q + 9)), .ref (A (q + 10)), .ref (A (q + 11)), .ref (A (q + 12)), .ref (A (q + 13)), .ref (A (q + 14)), .int (r92.2 + 1)])) := h119
        refine lv_iconst (v := 1) hx hb dX7_readsEntry_171 (by decide) ?_
        obtain rfl := so_i hf
        have h122 := sm_at m116 (by omega) h99
        have h123 := sm_at m120 (by omega) h122
        have h124 := sm_at m116 (by omega) h100
        have h125 := sm_at m120 (by omega) h124
        have h126 := sm_at m116 (by omega) h101
        have h127 := sm_at m120 (by omega) h126
        have h128 := sm_at m116 (by omega) h102
        have h129 := sm_at m120 (by omega) h128
        have h130 := sm_at m116 (by omega) h103
        have h131 := sm_at m120 (by omega) h130
        have h132 := sm_at m116 (by omega) h104
        have h133 := sm_at m120 (by omega) h132
        have h134 := sm_at m116 (by omega) h105
        have h135 := sm_at m120 (by omega) h134
        have h136 := sm_at m116 (by omega) h106
        have h137 := sm_at m120 (by omega) h136
        have h138 := sm_at m116 (by omega) h107
        have h139 := sm_at m120 (by omega) h138
        have h140 := sm_at m116 (by omega) h108
        have h141 := sm_at m120 (by omega) h140
        have h142 := sm_at m116 (by omega) h109
        have h143 := sm_at m120 (by omega) h142
        have h144 := sm_at m116 (by omega) h110
        have h145 := sm_at m120 (by omega) h144
        have h146 := sm_at m116 (by omega) h111
        have h147 := sm_at m120 (by omega) h146
        have h148 := sm_at m120 (by omega) h115
        have h149 : is_Y k A u118 (q) st past image imagePast tape laneOf sizeOf items least costs hops comes chain (upd told (Int32.toNatClampNeg x2) (r92.1 - 48)) acts imageActs tapeMany (r92.2 + 1) := ⟨h121, h123, h125, h127, h129, h131, h133, h135, h137, h139, h141, h143, h145, h147, h148⟩
        exact W.zret (v := 1) (ty := .boolean) hx hb hr rfl (qw_end hS hP hD ⟨h149, hsm⟩) hS.2.2 dX7_readsEntry_172
      · have hf := it_p c75 hf
        refine lv_iconst (v := 0) hx hb dX7_readsEntry_146 (by decide) ?_
        obtain rfl := so_i hf
        exact W.zret (v := 0) (ty := .boolean) hx hb hr rfl (qw_end hS hP hD ⟨h72, hsm⟩) hS.2.2 dX7_readsEntry_147
    · have hf := it_n c47 hf
      refine lv_aload_n hx hb dX7_readsEntry_112 rfl (lv_at hl 0 rfl) ?_
      refine lv_iload_n hx hb dX7_readsEntry_113 rfl (lv_at hl 1 rfl) ?_
      refine va_put (D := D) (ci := 7) (v := .int x1) (ty := .int) (C := RX7) (T := TX7) (N := 18) hx hb hts in_X7_readsEntry_X7 tyX7 tyX7_ok nmX7 hown hK.1 hP hD hS (q) h31 rfl 17 (by decide) w_0 (fun _ h9 => h9) rfl (by decide +kernel) rfl rfl (Nat.le_of_ble_eq_true rfl) dX7_readsEntry_114 (fun _ _ hP hD hS => ?_)
      obtain ⟨u150, h151, m152, hP, hD⟩ := wd_put hP hD h31
      have hsm := sm_tr hsm m152 (by omega) (by omega)
      have h153 : u150[q]? = some (A (q), .inr (7, [.ref (A (q + 1)), .ref (A (q + 2)), .int acts, .ref (A (q + 3)), .ref (A (q + 4)), .int imageActs, .ref (A (q + 5)), .int tapeMany, .ref (A (q + 6)), .ref (A (q + 7)), .ref (A (q + 8)), .ref (A (q + 9)), .ref (A (q + 10)), .ref (A (q + 11)), .ref (A (q + 12)), .ref (A (q + 13)), .ref (A (q + 14)), .int x1])) := h151
      refine lv_iconst (v := 0) hx hb dX7_readsEntry_117 (by decide) ?_
      obtain rfl := so_i hf
      have h154 := sm_at m152 (by omega) h32
      have h155 := sm_at m152 (by omega) h33
      have h156 := sm_at m152 (by omega) h34
      have h157 := sm_at m152 (by omega) h35
      have h158 := sm_at m152 (by omega) h36
      have h159 := sm_at m152 (by omega) h37
      have h160 := sm_at m152 (by omega) h38
      have h161 := sm_at m152 (by omega) h39
      have h162 := sm_at m152 (by omega) h40
      have h163 := sm_at m152 (by omega) h41
      have h164 := sm_at m152 (by omega) h42
      have h165 := sm_at m152 (by omega) h43
      have h166 := sm_at m152 (by omega) h44
      have h167 := sm_at m152 (by omega) h45
      have h168 : is_Y k A u150 (q) st past image imagePast tape laneOf sizeOf items least costs hops comes chain told acts imageActs tapeMany x1 := ⟨h153, h154, h155, h156, h157, h158, h159, h160, h161, h162, h163, h164, h165, h166, h167⟩
      exact W.zret (v := 0) (ty := .boolean) hx hb hr rfl (qw_end hS hP hD ⟨h168, hsm⟩) hS.2.2 dX7_readsEntry_118
  · have hf := it_n c30 hf
    refine lv_iconst (v := 0) hx hb dX7_readsEntry_99 (by decide) ?_
    obtain rfl := so_i hf
    exact W.zret (v := 0) (ty := .boolean) hx hb hr rfl (qw_end hS hP hD ⟨h29, hsm⟩) hS.2.2 dX7_readsEntry_100

set_option maxHeartbeats 4000000 in
set_option maxRecDepth 100000 in
theorem wl_X7_readsEntry_62 {p : Program} {e : Env} {s : State} {m : MethodId} {args : Array Value} {below : List Frame} {meth : Method} {c : Code} (l : Launch) (D : va_G) (k : kt_T) (A : Nat → Nat) (ws : va_W) (q : Nat)  (out : Int32 × (Nat → Int32) × Int32) (hK : kk_P D k s) (C0 : cx_P p s m meth c args cX7_readsEntry 3 wsX7_readsEntry RX7 (some .boolean))  (st : Nat → Int32) (past : Nat → Int32) (image : Nat → Int32) (imagePast : Nat → Int32) (tape : Nat → Int32) (laneOf : Nat → Int32) (sizeOf : Nat → Int32) (items : Nat → Int64) (least : Nat → Int32) (costs : Nat → Int32) (hops : Nat → Int32) (comes : Nat → Int32) (chain : Nat → Int32) (told : Nat → Int32) (acts : Int32) (imageActs : Int32) (tapeMany : Int32) (readAt : Int32) (x1 : Int32) (x2 : Int32)    : ∀ (w : va_W) (H : Heap) (locs : List Loc) (ls : Array Slot), lp_X7_readsEntry_62 tape told tapeMany readAt x1 x2 = some out → is_Y k A w q st past image imagePast tape laneOf sizeOf items least costs hops comes chain told acts imageActs tapeMany readAt → sm_W ws w q (q + 15) → va_P D vwCl w H → va_D (va_A ws s.heap.size) w → va_S (va_A ws s.heap.size) s.heap H locs → lv_has ls 3 [(0, .ref (A q)), (1, .int x1), (2, .int x2)] → W p l e (headSpec wsX7_readsEntry { frames := 1, cells := 0, slots := 0, locals := 25 }).room s m args below meth c H locs 0 0 (MQ below (qw_Q D ws s.heap.size (some (.int out.1)) (fun u => is_Y k A u q st past image imagePast tape laneOf sizeOf items least costs hops comes chain out.2.1 acts imageActs tapeMany out.2.2 ∧ sm_W ws u q (q + 15))) args s 0 0 (va_A ws s.heap.size)) (F0 m 62 ls []) := by
  obtain ⟨hx, hb, hml, hown, hts, hr, hlocks⟩ := id C0
  have hcf : CallFix p m c cX7_readsEntry 3 s args wsX7_readsEntry RX7 := ⟨hx, hb, hml, hown, hts⟩
  have hA : ∀ q, s.heap.size ≤ q → va_A ws s.heap.size q := fun q h => Or.inr h
  have w_0 := hts (.fieldLink RX7 175 "LeastRoutesModel" "readAt" "I") (List.mem_of_getElem? (i := 1) rfl)
  intro w H locs ls hf h_this hsm hP hD hS hl
  unfold lp_X7_readsEntry_62 at hf
  refine lv_iload_n hx hb dX7_readsEntry_62 rfl (lv_at hl 2 rfl) ?_
  refine lv_sipush (v := 256) hx hb dX7_readsEntry_63 (by decide) ?_
  refine lv_icmp_ge (tgt := 90) hx hb dX7_readsEntry_66 (by decide) (fun c23 => ?_) (fun c23 => ?_)
  · have hf := it_p c23 hf
    exact wl_X7_readsEntry_90 l D k A ws q _ hK C0 st past image imagePast tape laneOf sizeOf items least costs hops comes chain told acts imageActs tapeMany readAt x1 x2 _ _ _ _ hf h_this hsm hP hD hS (lv_sub hl [0, 1, 2] rfl)
  · have hf := it_n c23 hf
    refine lv_aload_n hx hb dX7_readsEntry_69 rfl (lv_at hl 0 rfl) ?_
    obtain ⟨r169, h170, hf⟩ := bd_s hf
    refine kw_i (va_runV (As := []) (rest := []) hcf (cz_X7_looks l D k A w (q) st past image imagePast tape laneOf sizeOf items least costs hops comes chain told acts imageActs tapeMany readAt r169 h170 h_this _) (cwV 0 hts gX7_readsEntry_X7_looks rfl rfl rfl (by decide +kernel) ⟨Nat.le_of_ble_eq_true rfl, Nat.le_of_ble_eq_true rfl⟩) (px_V hP hK hD (ci := 7) h_this.1 rfl) rfl rfl hl.1 rfl (lv_room (Nat.le_of_ble_eq_true rfl)) dX7_readsEntry_70 ⟨Nat.zero_le _, Nat.zero_le _⟩) hD hS hA (fun u171 _ _ h172 hP hD hS => ?_)
    obtain ⟨h174, m173⟩ := h172
    have hsm := sm_tr hsm m173 (by omega) (by omega)
    refine lv_bipush (v := 42) hx hb dX7_readsEntry_73 (by decide) ?_
    refine lv_icmp_eq (tgt := 80) hx hb dX7_readsEntry_75 (by decide) (fun c175 => ?_) (fun c175 => ?_)
    · have hf := it_p c175 hf
      refine lv_aload_n hx hb dX7_readsEntry_80 rfl (lv_at hl 0 rfl) ?_
      refine lv_dup hx hb dX7_readsEntry_81 rfl ?_
      obtain ⟨h176, h177, h178, h179, h180, h181, h182, h183, h184, h185, h186, h187, h188, h189, h190⟩ := h174
      refine va_get (D := D) (ci := 7) (v := .int r169.2) (C := RX7) (T := TX7) (N := 18) hx hb hts in_X7_readsEntry_X7 hown hK.1 hP (q) h176 rfl 17 (by decide) w_0 (fun _ h9 => h9) rfl dX7_readsEntry_82 ?_
      refine lv_iconst (v := 1) hx hb dX7_readsEntry_85 (by decide) ?_
      refine lv_iadd hx hb dX7_readsEntry_86 ?_
      refine va_put (D := D) (ci := 7) (v := .int (r169.2 + 1)) (ty := .int) (C := RX7) (T := TX7) (N := 18) hx hb hts in_X7_readsEntry_X7 tyX7 tyX7_ok nmX7 hown hK.1 hP hD hS (q) h176 rfl 17 (by decide) w_0 (fun _ h9 => h9) rfl (by decide +kernel) rfl rfl (Nat.le_of_ble_eq_true rfl) dX7_readsEntry_87 (fun _ _ hP hD hS => ?_)
      obtain ⟨u191, h192, m193, hP, hD⟩ := wd_put hP hD h176
      have hsm := sm_tr hsm m193 (by omega) (by omega)
      have h194 : u191[q]? = some (A (q), .inr (7, [.ref (A (q + 1)), .ref (A (q + 2)), .int acts, .ref (A (q + 3)), .ref (A (q + 4)), .int imageActs, .ref (A (q + 5)), .int tapeMany, .ref (A (q + 6)), .ref (A (q + 7)), .ref (A (q + 8)), .ref (A (q + 9)), .ref (A (q + 10)), .ref (A (q + 11)), .ref (A (q + 12)), .ref (A (q + 13)), .ref (A (q + 14)), .int (r169.2 + 1)])) := h192
      have h195 := sm_at m193 (by omega) h177
      have h196 := sm_at m193 (by omega) h178
      have h197 := sm_at m193 (by omega) h179
      have h198 := sm_at m193 (by omega) h180
      have h199 := sm_at m193 (by omega) h181
      have h200 := sm_at m193 (by omega) h182
      have h201 := sm_at m193 (by omega) h183
      have h202 := sm_at m193 (by omega) h184
      have h203 := sm_at m193 (by omega) h185
      have h204 := sm_at m193 (by omega) h186
      have h205 := sm_at m193 (by omega) h187
      have h206 := sm_at m193 (by omega) h188
      have h207 := sm_at m193 (by omega) h189
      have h208 := sm_at m193 (by omega) h190
      have h209 : is_Y k A u191 (q) st past image imagePast tape laneOf sizeOf items least costs hops comes chain told acts imageActs tapeMany (r169.2 + 1) := ⟨h194, h195, h196, h197, h198, h199, h200, h201, h202, h203, h204, h205, h206, h207, h208⟩
      exact wl_X7_readsEntry_90 l D k A ws q _ hK C0 st past image imagePast tape laneOf sizeOf items least costs hops comes chain told acts imageActs tapeMany (r169.2 + 1) x1 x2 _ _ _ _ hf h209 hsm hP hD hS (lv_sub hl [0, 1, 2] rfl)
    · have hf := it_n c175 hf
      refine lv_iconst (v := 0) hx hb dX7_readsEntry_78 (by decide) ?_
      obtain rfl := so_i hf
      exact W.zret (v := 0) (ty := .boolean) hx hb hr rfl (qw_end hS hP hD ⟨h174, hsm⟩) hS.2.2 dX7_readsEntry_79

set_option maxHeartbeats 4000000 in
set_option maxRecDepth 100000 in
theorem wl_X7_readsEntry_37 {p : Program} {e : Env} {s : State} {m : MethodId} {args : Array Value} {below : List Frame} {meth : Method} {c : Code} (l : Launch) (D : va_G) (k : kt_T) (A : Nat → Nat) (ws : va_W) (q : Nat)  (out : Int32 × (Nat → Int32) × Int32) (hK : kk_P D k s) (C0 : cx_P p s m meth c args cX7_readsEntry 3 wsX7_readsEntry RX7 (some .boolean))  (st : Nat → Int32) (past : Nat → Int32) (image : Nat → Int32) (imagePast : Nat → Int32) (tape : Nat → Int32) (laneOf : Nat → Int32) (sizeOf : Nat → Int32) (items : Nat → Int64) (least : Nat → Int32) (costs : Nat → Int32) (hops : Nat → Int32) (comes : Nat → Int32) (chain : Nat → Int32) (told : Nat → Int32) (acts : Int32) (imageActs : Int32) (tapeMany : Int32) (readAt : Int32) (x1 : Int32) (x2 : Int32)  (g_12 : Int32 → Int32 → Option (Int32 × (Nat → Int32) × Int32)) (hg_12 : ∀ (readAt : Int32) (x2 : Int32) (w : va_W) (H : Heap) (locs : List Loc) (ls : Array Slot), g_12 readAt x2 = some out → is_Y k A w q st past image imagePast tape laneOf sizeOf items least costs hops comes chain told acts imageActs tapeMany readAt → sm_W ws w q (q + 15) → va_P D vwCl w H → va_D (va_A ws s.heap.size) w → va_S (va_A ws s.heap.size) s.heap H locs → lv_has ls 3 [(0, .ref (A q)), (1, .int x1), (2, .int x2)] → W p l e (headSpec wsX7_readsEntry { frames := 1, cells := 0, slots := 0, locals := 25 }).room s m args below meth c H locs 0 0 (MQ below (qw_Q D ws s.heap.size (some (.int out.1)) (fun u => is_Y k A u q st past image imagePast tape laneOf sizeOf items least costs hops comes chain out.2.1 acts imageActs tapeMany out.2.2 ∧ sm_W ws u q (q + 15))) args s 0 0 (va_A ws s.heap.size)) (F0 m 12 ls []))  : ∀ (w : va_W) (H : Heap) (locs : List Loc) (ls : Array Slot), lp_X7_readsEntry_37 tape tapeMany readAt x1 x2 g_12 = some out → is_Y k A w q st past image imagePast tape laneOf sizeOf items least costs hops comes chain told acts imageActs tapeMany readAt → sm_W ws w q (q + 15) → va_P D vwCl w H → va_D (va_A ws s.heap.size) w → va_S (va_A ws s.heap.size) s.heap H locs → lv_has ls 3 [(0, .ref (A q)), (1, .int x1), (2, .int x2)] → W p l e (headSpec wsX7_readsEntry { frames := 1, cells := 0, slots := 0, locals := 25 }).room s m args below meth c H locs 0 0 (MQ below (qw_Q D ws s.heap.size (some (.int out.1)) (fun u => is_Y k A u q st past image imagePast tape laneOf sizeOf items least costs hops comes chain out.2.1 acts imageActs tapeMany out.2.2 ∧ sm_W ws u q (q + 15))) args s 0 0 (va_A ws s.heap.size)) (F0 m 37 ls []) := by
  obtain ⟨hx, hb, hml, hown, hts, hr, hlocks⟩ := id C0
  have hcf : CallFix p m c cX7_readsEntry 3 s args wsX7_readsEntry RX7 := ⟨hx, hb, hml, hown, hts⟩
  have hA : ∀ q, s.heap.size ≤ q → va_A ws s.heap.size q := fun q h => Or.inr h
  have w_0 := hts (.fieldLink RX7 175 "LeastRoutesModel" "readAt" "I") (List.mem_of_getElem? (i := 1) rfl)
  intro w H locs ls hf h_this hsm hP hD hS hl
  unfold lp_X7_readsEntry_37 at hf
  refine lv_iconst (v := 2) hx hb dX7_readsEntry_37 (by decide) ?_
  refine lv_iload_n hx hb dX7_readsEntry_38 rfl (lv_at hl 2 rfl) ?_
  refine lv_imul hx hb dX7_readsEntry_39 ?_
  refine lv_aload_n hx hb dX7_readsEntry_40 rfl (lv_at hl 0 rfl) ?_
  obtain ⟨r217, h218, hf⟩ := bd_s hf
  refine kw_i (va_runV (As := []) (rest := [.int (2 * x2)]) hcf (cz_X7_looks l D k A w (q) st past image imagePast tape laneOf sizeOf items least costs hops comes chain told acts imageActs tapeMany readAt r217 h218 h_this _) (cwV 0 hts gX7_readsEntry_X7_looks rfl rfl rfl (by decide +kernel) ⟨Nat.le_of_ble_eq_true rfl, Nat.le_of_ble_eq_true rfl⟩) (px_V hP hK hD (ci := 7) h_this.1 rfl) rfl rfl hl.1 rfl (lv_room (Nat.le_of_ble_eq_true rfl)) dX7_readsEntry_41 ⟨Nat.zero_le _, Nat.zero_le _⟩) hD hS hA (fun u219 _ _ h220 hP hD hS => ?_)
  obtain ⟨h222, m221⟩ := h220
  have hsm := sm_tr hsm m221 (by omega) (by omega)
  refine lv_iadd hx hb dX7_readsEntry_44 ?_
  refine lv_bipush (v := 48) hx hb dX7_readsEntry_45 (by decide) ?_
  refine lv_isub hx hb dX7_readsEntry_47 ?_
  refine lv_topi (fun y223 e224 => ?_)
  have hf := lt_s' e224 hf
  refine lv_istore_n (lv' := [(2, .int y223), (0, .ref (A q)), (1, .int x1)]) hx hb dX7_readsEntry_48 rfl hl (by decide) rfl (fun ls hl => ?_)
  refine lv_aload_n hx hb dX7_readsEntry_49 rfl (lv_at hl 1 rfl) ?_
  refine lv_dup hx hb dX7_readsEntry_50 rfl ?_
  obtain ⟨h225, h226, h227, h228, h229, h230, h231, h232, h233, h234, h235, h236, h237, h238, h239⟩ := h222
  refine va_get (D := D) (ci := 7) (v := .int r217.2) (C := RX7) (T := TX7) (N := 18) hx hb hts in_X7_readsEntry_X7 hown hK.1 hP (q) h225 rfl 17 (by decide) w_0 (fun _ h9 => h9) rfl dX7_readsEntry_51 ?_
  refine lv_iconst (v := 1) hx hb dX7_readsEntry_54 (by decide) ?_
  refine lv_iadd hx hb dX7_readsEntry_55 ?_
  refine va_put (D := D) (ci := 7) (v := .int (r217.2 + 1)) (ty := .int) (C := RX7) (T := TX7) (N := 18) hx hb hts in_X7_readsEntry_X7 tyX7 tyX7_ok nmX7 hown hK.1 hP hD hS (q) h225 rfl 17 (by decide) w_0 (fun _ h9 => h9) rfl (by decide +kernel) rfl rfl (Nat.le_of_ble_eq_true rfl) dX7_readsEntry_56 (fun _ _ hP hD hS => ?_)
  obtain ⟨u240, h241, m242, hP, hD⟩ := wd_put hP hD h225
  have hsm := sm_tr hsm m242 (by omega) (by omega)
  have h243 : u240[q]? = some (A (q), .inr (7, [.ref (A (q + 1)), .ref (A (q + 2)), .int acts, .ref (A (q + 3)), .ref (A (q + 4)), .int imageActs, .ref (A (q + 5)), .int tapeMany, .ref (A (q + 6)), .ref (A (q + 7)), .ref (A (q + 8)), .ref (A (q + 9)), .ref (A (q + 10)), .ref (A (q + 11)), .ref (A (q + 12)), .ref (A (q + 13)), .ref (A (q + 14)), .int (r217.2 + 1)])) := h241
  refine lv_goto (tgt := 12) hx hb dX7_readsEntry_59 (by decide) ?_
  have h244 := sm_at m242 (by omega) h226
  have h245 := sm_at m242 (by omega) h227
  have h246 := sm_at m242 (by omega) h228
  have h247 := sm_at m242 (by omega) h229
  have h248 := sm_at m242 (by omega) h230
  have h249 := sm_at m242 (by omega) h231
  have h250 := sm_at m242 (by omega) h232
  have h251 := sm_at m242 (by omega) h233
  have h252 := sm_at m242 (by omega) h234
  have h253 := sm_at m242 (by omega) h235
  have h254 := sm_at m242 (by omega) h236
  have h255 := sm_at m242 (by omega) h237
  have h256 := sm_at m242 (by omega) h238
  have h257 := sm_at m242 (by omega) h239
  have h258 : is_Y k A u240 (q) st past image imagePast tape laneOf sizeOf items least costs hops comes chain told acts imageActs tapeMany (r217.2 + 1) := ⟨h243, h244, h245, h246, h247, h248, h249, h250, h251, h252, h253, h254, h255, h256, h257⟩
  exact hg_12 (r217.2 + 1) y223 _ _ _ _ hf h258 hsm hP hD hS (lv_sub hl [1, 2, 0] rfl)

set_option maxHeartbeats 4000000 in
set_option maxRecDepth 100000 in
theorem wl_X7_readsEntry_12 {p : Program} {e : Env} {s : State} {m : MethodId} {args : Array Value} {below : List Frame} {meth : Method} {c : Code} (l : Launch) (D : va_G) (k : kt_T) (A : Nat → Nat) (ws : va_W) (q : Nat)  (out : Int32 × (Nat → Int32) × Int32) (hK : kk_P D k s) (C0 : cx_P p s m meth c args cX7_readsEntry 3 wsX7_readsEntry RX7 (some .boolean))  (st : Nat → Int32) (past : Nat → Int32) (image : Nat → Int32) (imagePast : Nat → Int32) (tape : Nat → Int32) (laneOf : Nat → Int32) (sizeOf : Nat → Int32) (items : Nat → Int64) (least : Nat → Int32) (costs : Nat → Int32) (hops : Nat → Int32) (comes : Nat → Int32) (chain : Nat → Int32) (told : Nat → Int32) (acts : Int32) (imageActs : Int32) (tapeMany : Int32) (x1 : Int32)    : ∀ (n : Nat) (readAt : Int32) (x2 : Int32) (w : va_W) (H : Heap) (locs : List Loc) (ls : Array Slot), lp_X7_readsEntry_12 tape told tapeMany x1 n readAt x2 = some out → is_Y k A w q st past image imagePast tape laneOf sizeOf items least costs hops comes chain told acts imageActs tapeMany readAt → sm_W ws w q (q + 15) → va_P D vwCl w H → va_D (va_A ws s.heap.size) w → va_S (va_A ws s.heap.size) s.heap H locs → lv_has ls 3 [(0, .ref (A q)), (1, .int x1), (2, .int x2)] → W p l e (headSpec wsX7_readsEntry { frames := 1, cells := 0, slots := 0, locals := 25 }).room s m args below meth c H locs 0 0 (MQ below (qw_Q D ws s.heap.size (some (.int out.1)) (fun u => is_Y k A u q st past image imagePast tape laneOf sizeOf items least costs hops comes chain out.2.1 acts imageActs tapeMany out.2.2 ∧ sm_W ws u q (q + 15))) args s 0 0 (va_A ws s.heap.size)) (F0 m 12 ls []) := by
  obtain ⟨hx, hb, hml, hown, hts, hr, hlocks⟩ := id C0
  have hcf : CallFix p m c cX7_readsEntry 3 s args wsX7_readsEntry RX7 := ⟨hx, hb, hml, hown, hts⟩
  have hA : ∀ q, s.heap.size ≤ q → va_A ws s.heap.size q := fun q h => Or.inr h
  intro n
  induction n with
  | zero =>
    intro readAt x2 w H locs ls hf h_this hsm hP hD hS hl
    exact (no_s hf).elim
  | succ n ih =>
    intro readAt x2 w H locs ls hf h_this hsm hP hD hS hl
    rw [lp_X7_readsEntry_12] at hf
    refine lv_iload_n hx hb dX7_readsEntry_12 rfl (lv_at hl 2 rfl) ?_
    refine lv_sipush (v := 256) hx hb dX7_readsEntry_13 (by decide) ?_
    refine lv_icmp_ge (tgt := 62) hx hb dX7_readsEntry_16 (by decide) (fun c22 => ?_) (fun c22 => ?_)
    · have hf := it_p c22 hf
      exact wl_X7_readsEntry_62 l D k A ws q _ hK C0 st past image imagePast tape laneOf sizeOf items least costs hops comes chain told acts imageActs tapeMany readAt x1 x2 _ _ _ _ hf h_this hsm hP hD hS (lv_sub hl [0, 1, 2] rfl)
    · have hf := it_n c22 hf
      refine lv_aload_n hx hb dX7_readsEntry_19 rfl (lv_at hl 0 rfl) ?_
      obtain ⟨r210, h211, hf⟩ := bd_s hf
      refine kw_i (va_runV (As := []) (rest := []) hcf (cz_X7_looks l D k A w (q) st past image imagePast tape laneOf sizeOf items least costs hops comes chain told acts imageActs tapeMany readAt r210 h211 h_this _) (cwV 0 hts gX7_readsEntry_X7_looks rfl rfl rfl (by decide +kernel) ⟨Nat.le_of_ble_eq_true rfl, Nat.le_of_ble_eq_true rfl⟩) (px_V hP hK hD (ci := 7) h_this.1 rfl) rfl rfl hl.1 rfl (lv_room (Nat.le_of_ble_eq_true rfl)) dX7_readsEntry_20 ⟨Nat.zero_le _, Nat.zero_le _⟩) hD hS hA (fun u212 _ _ h213 hP hD hS => ?_)
      obtain ⟨h215, m214⟩ := h213
      have hsm := sm_tr hsm m214 (by omega) (by omega)
      refine lv_bipush (v := 48) hx hb dX7_readsEntry_23 (by decide) ?_
      refine lv_icmp_eq (tgt := 37) hx hb dX7_readsEntry_25 (by decide) (fun c216 => ?_) (fun c216 => ?_)
      · have hf := it_p c216 hf
        exact wl_X7_readsEntry_37 l D k A ws q _ hK C0 st past image imagePast tape laneOf sizeOf items least costs hops comes chain told acts imageActs tapeMany r210.2 x1 x2 _ ih _ _ _ _ hf h215 hsm hP hD hS (lv_sub hl [0, 1, 2] rfl)
      · have hf := it_n c216 hf
        refine lv_aload_n hx hb dX7_readsEntry_28 rfl (lv_at hl 0 rfl) ?_
        obtain ⟨r259, h260, hf⟩ := bd_s hf
        refine kw_i (va_runV (As := []) (rest := []) hcf (cz_X7_looks l D k A u212 (q) st past image imagePast tape laneOf sizeOf items least costs hops comes chain told acts imageActs tapeMany r210.2 r259 h260 h215 _) (cwV 0 hts gX7_readsEntry_X7_looks rfl rfl rfl (by decide +kernel) ⟨Nat.le_of_ble_eq_true rfl, Nat.le_of_ble_eq_true rfl⟩) (px_V hP hK hD (ci := 7) h215.1 rfl) rfl rfl hl.1 rfl (lv_room (Nat.le_of_ble_eq_true rfl)) dX7_readsEntry_29 ⟨Nat.zero_le _, Nat.zero_le _⟩) hD hS hA (fun u261 _ _ h262 hP hD hS => ?_)
        obtain ⟨h264, m263⟩ := h262
        have hsm := sm_tr hsm m263 (by omega) (by omega)
        refine lv_bipush (v := 49) hx hb dX7_readsEntry_32 (by decide) ?_
        refine lv_icmp_ne (tgt := 62) hx hb dX7_readsEntry_34 (by decide) (fun c265 => ?_) (fun c265 => ?_)
        · have hf := it_n c265 hf
          exact wl_X7_readsEntry_62 l D k A ws q _ hK C0 st past image imagePast tape laneOf sizeOf items least costs hops comes chain told acts imageActs tapeMany r259.2 x1 x2 _ _ _ _ hf h264 hsm hP hD hS (lv_sub hl [0, 1, 2] rfl)
        · have hf := it_p c265 hf
          exact wl_X7_readsEntry_37 l D k A ws q _ hK C0 st past image imagePast tape laneOf sizeOf items least costs hops comes chain told acts imageActs tapeMany r259.2 x1 x2 _ ih _ _ _ _ hf h264 hsm hP hD hS (lv_sub hl [0, 1, 2] rfl)

set_option maxHeartbeats 4000000 in
set_option maxRecDepth 100000 in
theorem cz_X7_readsEntry (l : Launch) (D : va_G) (k : kt_T) (A : Nat → Nat) (ws : va_W) (q : Nat)  (st : Nat → Int32) (past : Nat → Int32) (image : Nat → Int32) (imagePast : Nat → Int32) (tape : Nat → Int32) (laneOf : Nat → Int32) (sizeOf : Nat → Int32) (items : Nat → Int64) (least : Nat → Int32) (costs : Nat → Int32) (hops : Nat → Int32) (comes : Nat → Int32) (chain : Nat → Int32) (told : Nat → Int32) (acts : Int32) (imageActs : Int32) (tapeMany : Int32) (readAt : Int32)  (out : Int32 × (Nat → Int32) × Int32) (hf : pf_X7_readsEntry tape told tapeMany readAt = some out) (h_this : is_Y k A ws q st past image imagePast tape laneOf sizeOf items least costs hops comes chain told acts imageActs tapeMany readAt)  (sz0 : Nat) : Met l yX7_readsEntry wsX7_readsEntry { frames := 1, cells := 0, slots := 0, locals := 25 } (va_Pc [.ref (A q)] (px_P D k ws sz0)) (qw_Q D ws sz0 (some (.int out.1)) (fun u => is_Y k A u q st past image imagePast tape laneOf sizeOf items least costs hops comes chain out.2.1 acts imageActs tapeMany out.2.2 ∧ sm_W ws u q (q + 15))) 0 0 (va_A ws sz0) := by
  refine Met.ofW (cc := cX7_readsEntry) (maxL := 3) (ret := (some .boolean)) (by decide) rfl ?_
  intro p e s m args below meth c s₁ B hml hv
  obtain ⟨rfl, hsz, hP, hK, hD0⟩ := hv
  subst hsz
  have hD := hD0.self (sz := s.heap.size)
  have C0 : cx_P p s m meth c [.ref (A q)].toArray cX7_readsEntry 3 wsX7_readsEntry RX7 (some .boolean) := ⟨B.exec, B.bytes, hml, findClass_of_methodNamed B.named, atoms_spec (ws := wsX7_readsEntry) B.pre, B.returns, B.notSynchronized⟩
  obtain ⟨hx, hb, hml, hown, hts, hr, hlocks⟩ := id C0
  have hcf : CallFix p m c cX7_readsEntry 3 s [.ref (A q)].toArray wsX7_readsEntry RX7 := ⟨hx, hb, hml, hown, hts⟩
  have hA : ∀ q, s.heap.size ≤ q → va_A ws s.heap.size q := fun q h => Or.inr h
  have hS : va_S (va_A ws s.heap.size) s.heap s.heap [] := va_S.rf
  have hsm : sm_W ws ws q (q + 15) := sm_rf
  have w_0 := hts (.fieldLink RX7 175 "LeastRoutesModel" "readAt" "I") (List.mem_of_getElem? (i := 1) rfl)
  have hl := lv_entry ([.ref (A q)]) (n := 3) (Nat.le_of_ble_eq_true rfl)
  rw [lg_entry_eq]
  generalize (lg_sl ([.ref (A q)]) ++ List.replicate (3 - (lg_sl ([.ref (A q)])).length) Slot.unset).toArray = ls at hl ⊢
  have hl : lv_has ls 3 [(0, .ref (A q))] := hl
  unfold pf_X7_readsEntry at hf
  refine lv_aload_n hx hb dX7_readsEntry_0 rfl (lv_at hl 0 rfl) ?_
  obtain ⟨r1, h2, hf⟩ := bd_s hf
  refine kw_i (va_runV (As := []) (rest := []) hcf (cz_X7_looks l D k A ws (q) st past image imagePast tape laneOf sizeOf items least costs hops comes chain told acts imageActs tapeMany readAt r1 h2 h_this _) (cwV 0 hts gX7_readsEntry_X7_looks rfl rfl rfl (by decide +kernel) ⟨Nat.le_of_ble_eq_true rfl, Nat.le_of_ble_eq_true rfl⟩) (px_V hP hK hD (ci := 7) h_this.1 rfl) rfl rfl hl.1 rfl (lv_room (Nat.le_of_ble_eq_true rfl)) dX7_readsEntry_1 ⟨Nat.zero_le _, Nat.zero_le _⟩) hD hS hA (fun u3 _ _ h4 hP hD hS => ?_)
  obtain ⟨h6, m5⟩ := h4
  have hsm := sm_tr hsm m5 (by omega) (by omega)
  refine lv_pop hx hb dX7_readsEntry_4 rfl ?_
  refine lv_aload_n hx hb dX7_readsEntry_5 rfl (lv_at hl 0 rfl) ?_
  obtain ⟨h7, h8, h9, h10, h11, h12, h13, h14, h15, h16, h17, h18, h19, h20, h21⟩ := h6
  refine va_get (D := D) (ci := 7) (v := .int r1.2) (C := RX7) (T := TX7) (N := 18) hx hb hts in_X7_readsEntry_X7 hown hK.1 hP (q) h7 rfl 17 (by decide) w_0 (fun _ h9 => h9) rfl dX7_readsEntry_6 ?_
  refine lv_istore_n (lv' := [(1, .int r1.2), (0, .ref (A q))]) hx hb dX7_readsEntry_9 rfl hl (by decide) rfl (fun ls hl => ?_)
  refine lv_iconst (v := 1) hx hb dX7_readsEntry_10 (by decide) ?_
  refine lv_istore_n (lv' := [(2, .int 1), (1, .int r1.2), (0, .ref (A q))]) hx hb dX7_readsEntry_11 rfl hl (by decide) rfl (fun ls hl => ?_)
  have h266 : is_Y k A u3 (q) st past image imagePast tape laneOf sizeOf items least costs hops comes chain told acts imageActs tapeMany r1.2 := ⟨h7, h8, h9, h10, h11, h12, h13, h14, h15, h16, h17, h18, h19, h20, h21⟩
  exact wl_X7_readsEntry_12 l D k A ws q _ hK C0 st past image imagePast tape laneOf sizeOf items least costs hops comes chain told acts imageActs tapeMany r1.2 fu_N r1.2 1 _ _ _ _ hf h266 hsm hP hD hS (lv_sub hl [2, 1, 0] rfl)

theorem in_X7_readsAll_X7 : ∀ w ∈ u_ws RX7 TX7 18, w ∈ wsX7_readsAll := fun w h => List.mem_cons_of_mem _ (List.mem_append_right _ h)
def lp_X7_readsAll_33  (tape : Nat → Int32) (tapeMany : Int32) : Nat → (Nat → Int32) → Int32 → Int32 → Option (Int32 × (Nat → Int32) × Int32)
  | 0, _, _, _ => none
  | n + 1, told, readAt, x1 =>
    if x1 = 0 then
      if x1 = 0 then
        some (0, told, readAt)
      else
        (pf_X7_looks tape tapeMany readAt).bind (fun r29 =>
          if r29.1 = 0 then
            some (1, told, r29.2)
          else
            some (0, told, r29.2))
    else
      (pf_X7_looks tape tapeMany readAt).bind (fun r36 =>
        if r36.1 = 59 then
          (pf_X7_readsEntry tape told tapeMany (r36.2 + 1)).bind (fun r85 =>
            lp_X7_readsAll_33 tape tapeMany n r85.2.1 r85.2.2 r85.1)
        else
          if x1 = 0 then
            some (0, told, r36.2)
          else
            (pf_X7_looks tape tapeMany r36.2).bind (fun r44 =>
              if r44.1 = 0 then
                some (1, told, r44.2)
              else
                some (0, told, r44.2)))

def lp_X7_readsAll_7  (tape : Nat → Int32) (tapeMany : Int32) (readAt : Int32) : Nat → (Nat → Int32) → Int32 → Option (Int32 × (Nat → Int32) × Int32)
  | 0, _, _ => none
  | n + 1, told, x1 =>
    if 512 ≤ x1 then
      (pf_X7_readsEntry tape told tapeMany readAt).bind (fun r21 =>
        lp_X7_readsAll_33 tape tapeMany fu_N r21.2.1 r21.2.2 r21.1)
    else
      ck_O (in_b x1 512) (
        lp_X7_readsAll_7 tape tapeMany readAt n (upd told (Int32.toNatClampNeg x1) 8) (x1 + 1))

def pf_X7_readsAll (tape : Nat → Int32) (told : Nat → Int32) (tapeMany : Int32) (readAt : Int32)   : Option (Int32 × (Nat → Int32) × Int32) :=
  lp_X7_readsAll_7 tape tapeMany 0 fu_N told 0

set_option maxHeartbeats 4000000 in
set_option maxRecDepth 100000 in
theorem wl_X7_readsAll_33 {p : Program} {e : Env} {s : State} {m : MethodId} {args : Array Value} {below : List Frame} {meth : Method} {c : Code} (l : Launch) (D : va_G) (k : kt_T) (A : Nat → Nat) (ws : va_W) (q : Nat)  (out : Int32 × (Nat → Int32) × Int32) (hK : kk_P D k s) (C0 : cx_P p s m meth c args cX7_readsAll 2 wsX7_readsAll RX7 (some .boolean))  (st : Nat → Int32) (past : Nat → Int32) (image : Nat → Int32) (imagePast : Nat → Int32) (tape : Nat → Int32) (laneOf : Nat → Int32) (sizeOf : Nat → Int32) (items : Nat → Int64) (least : Nat → Int32) (costs : Nat → Int32) (hops : Nat → Int32) (comes : Nat → Int32) (chain : Nat → Int32) (acts : Int32) (imageActs : Int32) (tapeMany : Int32)     : ∀ (n : Nat) (told : Nat → Int32) (readAt : Int32) (x1 : Int32) (w : va_W) (H : Heap) (locs : List Loc) (ls : Array Slot), lp_X7_readsAll_33 tape tapeMany n told readAt x1 = some out → is_Y k A w q st past image imagePast tape laneOf sizeOf items least costs hops comes chain told acts imageActs tapeMany readAt → sm_W ws w q (q + 15) → va_P D vwCl w H → va_D (va_A ws s.heap.size) w → va_S (va_A ws s.heap.size) s.heap H locs → lv_has ls 2 [(0, .ref (A q)), (1, .int x1)] → W p l e (headSpec wsX7_readsAll { frames := 2, cells := 0, slots := 0, locals := 47 }).room s m args below meth c H locs 0 0 (MQ below (qw_Q D ws s.heap.size (some (.int out.1)) (fun u => is_Y k A u q st past image imagePast tape laneOf sizeOf items least costs hops comes chain out.2.1 acts imageActs tapeMany out.2.2 ∧ sm_W ws u q (q + 15))) args s 0 0 (va_A ws s.heap.size)) (F0 m 33 ls []) := by
  obtain ⟨hx, hb, hml, hown, hts, hr, hlocks⟩ := id C0
  have hcf : CallFix p m c cX7_readsAll 2 s args wsX7_readsAll RX7 := ⟨hx, hb, hml, hown, hts⟩
  have hA : ∀ q, s.heap.size ≤ q → va_A ws s.heap.size q := fun q h => Or.inr h
  have w_0 := hts (.fieldLink RX7 175 "LeastRoutesModel" "readAt" "I") (List.mem_of_getElem? (i := 1) rfl)
  intro n
  induction n with
  | zero =>
    intro told readAt x1 w H locs ls hf h_this hsm hP hD hS hl
    exact (no_s hf).elim
  | succ n ih =>
    intro told readAt x1 w H locs ls hf h_this hsm hP hD hS hl
    rw [lp_X7_readsAll_33] at hf
    refine lv_iload_n hx hb dX7_readsAll_33 rfl (lv_at hl 1 rfl) ?_
    refine lv_if_eq (tgt := 64) hx hb dX7_readsAll_34 (by decide) (fun c27 => ?_) (fun c27 => ?_)
    · have hf := it_p c27 hf
      refine lv_iload_n hx hb dX7_readsAll_64 rfl (lv_at hl 1 rfl) ?_
      refine lv_if_eq (tgt := 79) hx hb dX7_readsAll_65 (by decide) (fun c28 => ?_) (fun c28 => ?_)
      · have hf := it_p c28 hf
        refine lv_iconst (v := 0) hx hb dX7_readsAll_79 (by decide) ?_
        obtain rfl := so_i hf
        exact W.zret (v := 0) (ty := .boolean) hx hb hr rfl (qw_end hS hP hD ⟨h_this, hsm⟩) hS.2.2 dX7_readsAll_80
      · have hf := it_n c28 hf
        refine lv_aload_n hx hb dX7_readsAll_68 rfl (lv_at hl 0 rfl) ?_
        obtain ⟨r29, h30, hf⟩ := bd_s hf
        refine kw_i (va_runV (As := []) (rest := []) hcf (cz_X7_looks l D k A w (q) st past image imagePast tape laneOf sizeOf items least costs hops comes chain told acts imageActs tapeMany readAt r29 h30 h_this _) (cwV 0 hts gX7_readsAll_X7_looks rfl rfl rfl (by decide +kernel) ⟨Nat.le_of_ble_eq_true rfl, Nat.le_of_ble_eq_true rfl⟩) (px_V hP hK hD (ci := 7) h_this.1 rfl) rfl rfl hl.1 rfl (lv_room (Nat.le_of_ble_eq_true rfl)) dX7_readsAll_69 ⟨Nat.zero_le _, Nat.zero_le _⟩) hD hS hA (fun u31 _ _ h32 hP hD hS => ?_)
        obtain ⟨h34, m33⟩ := h32
        have hsm := sm_tr hsm m33 (by omega) (by omega)
        refine lv_if_ne (tgt := 79) hx hb dX7_readsAll_72 (by decide) (fun c35 => ?_) (fun c35 => ?_)
        · have hf := it_n c35 hf
          refine lv_iconst (v := 0) hx hb dX7_readsAll_79 (by decide) ?_
          obtain rfl := so_i hf
          exact W.zret (v := 0) (ty := .boolean) hx hb hr rfl (qw_end hS hP hD ⟨h34, hsm⟩) hS.2.2 dX7_readsAll_80
        · have hf := it_p c35 hf
          refine lv_iconst (v := 1) hx hb dX7_readsAll_75 (by decide) ?_
          refine lv_goto (tgt := 80) hx hb dX7_readsAll_76 (by decide) ?_
          obtain rfl := so_i hf
          exact W.zret (v := 1) (ty := .boolean) hx hb hr rfl (qw_end hS hP hD ⟨h34, hsm⟩) hS.2.2 dX7_readsAll_80
    · have hf := it_n c27 hf
      refine lv_aload_n hx hb dX7_readsAll_37 rfl (lv_at hl 0 rfl) ?_
      obtain ⟨r36, h37, hf⟩ := bd_s hf
      refine kw_i (va_runV (As := []) (rest := []) hcf (cz_X7_looks l D k A w (q) st past image imagePast tape laneOf sizeOf items least costs hops comes chain told acts imageActs tapeMany readAt r36 h37 h_this _) (cwV 0 hts gX7_readsAll_X7_looks rfl rfl rfl (by decide +kernel) ⟨Nat.le_of_ble_eq_true rfl, Nat.le_of_ble_eq_true rfl⟩) (px_V hP hK hD (ci := 7) h_this.1 rfl) rfl rfl hl.1 rfl (lv_room (Nat.le_of_ble_eq_true rfl)) dX7_readsAll_38 ⟨Nat.zero_le _, Nat.zero_le _⟩) hD hS hA (fun u38 _ _ h39 hP hD hS => ?_)
      obtain ⟨h41, m40⟩ := h39
      have hsm := sm_tr hsm m40 (by omega) (by omega)
      refine lv_bipush (v := 59) hx hb dX7_readsAll_41 (by decide) ?_
      refine lv_icmp_ne (tgt := 64) hx hb dX7_readsAll_43 (by decide) (fun c42 => ?_) (fun c42 => ?_)
      · have hf := it_n c42 hf
        refine lv_iload_n hx hb dX7_readsAll_64 rfl (lv_at hl 1 rfl) ?_
        refine lv_if_eq (tgt := 79) hx hb dX7_readsAll_65 (by decide) (fun c43 => ?_) (fun c43 => ?_)
        · have hf := it_p c43 hf
          refine lv_iconst (v := 0) hx hb dX7_readsAll_79 (by decide) ?_
          obtain rfl := so_i hf
          exact W.zret (v := 0) (ty := .boolean) hx hb hr rfl (qw_end hS hP hD ⟨h41, hsm⟩) hS.2.2 dX7_readsAll_80
        · have hf := it_n c43 hf
          refine lv_aload_n hx hb dX7_readsAll_68 rfl (lv_at hl 0 rfl) ?_
          obtain ⟨r44, h45, hf⟩ := bd_s hf
          refine kw_i (va_runV (As := []) (rest := []) hcf (cz_X7_looks l D k A u38 (q) st past image imagePast tape laneOf sizeOf items least costs hops comes chain told acts imageActs tapeMany r36.2 r44 h45 h41 _) (cwV 0 hts gX7_readsAll_X7_looks rfl rfl rfl (by decide +kernel) ⟨Nat.le_of_ble_eq_true rfl, Nat.le_of_ble_eq_true rfl⟩) (px_V hP hK hD (ci := 7) h41.1 rfl) rfl rfl hl.1 rfl (lv_room (Nat.le_of_ble_eq_true rfl)) dX7_readsAll_69 ⟨Nat.zero_le _, Nat.zero_le _⟩) hD hS hA (fun u46 _ _ h47 hP hD hS => ?_)
          obtain ⟨h49, m48⟩ := h47
          have hsm := sm_tr hsm m48 (by omega) (by omega)
          refine lv_if_ne (tgt := 79) hx hb dX7_readsAll_72 (by decide) (fun c50 => ?_) (fun c50 => ?_)
          · have hf := it_n c50 hf
            refine lv_iconst (v := 0) hx hb dX7_readsAll_79 (by decide) ?_
            obtain rfl := so_i hf
            exact W.zret (v := 0) (ty := .boolean) hx hb hr rfl (qw_end hS hP hD ⟨h49, hsm⟩) hS.2.2 dX7_readsAll_80
          · have hf := it_p c50 hf
            refine lv_iconst (v := 1) hx hb dX7_readsAll_75 (by decide) ?_
            refine lv_goto (tgt := 80) hx hb dX7_readsAll_76 (by decide) ?_
            obtain rfl := so_i hf
            exact W.zret (v := 1) (ty := .boolean) hx hb hr rfl (qw_end hS hP hD ⟨h49, hsm⟩) hS.2.2 dX7_readsAll_80
      · have hf := it_p c42 hf
        refine lv_aload_n hx hb dX7_readsAll_46 rfl (lv_at hl 0 rfl) ?_
        refine lv_dup hx hb dX7_readsAll_47 rfl ?_
        obtain ⟨h51, h52, h53, h54, h55, h56, h57, h58, h59, h60, h61, h62, h63, h64, h65⟩ := h41
        refine va_get (D := D) (ci := 7) (v := .int r36.2) (C := RX7) (T := TX7) (N := 18) hx hb hts in_X7_readsAll_X7 hown hK.1 hP (q) h51 rfl 17 (by decide) w_0 (fun _ h9 => h9) rfl dX7_readsAll_48 ?_
        refine lv_iconst (v := 1) hx hb dX7_readsAll_51 (by decide) ?_
        refine lv_iadd hx hb dX7_readsAll_52 ?_
        refine va_put (D := D) (ci := 7) (v := .int (r36.2 + 1)) (ty := .int) (C := RX7) (T := TX7) (N := 18) hx hb hts in_X7_readsAll_X7 tyX7 tyX7_ok nmX7 hown hK.1 hP hD hS (q) h51 rfl 17 (by decide) w_0 (fun _ h9 => h9) rfl (by decide +kernel) rfl rfl (Nat.le_of_ble_eq_true rfl) dX7_readsAll_53 (fun _ _ hP hD hS => ?_)
        obtain ⟨u66, h67, m68, hP, hD⟩ := wd_put hP hD h51
        have hsm := sm_tr hsm m68 (by omega) (by omega)
        have h69 : u66[q]? = some (A (q), .inr (7, [.ref (A (q + 1)), .ref (A (q + 2)), .int acts, .ref (A (q + 3)), .ref (A (q + 4)), .int imageActs, .ref (A (q + 5)), .int tapeMany, .ref (A (q + 6)), .ref (A (q + 7)), .ref (A (q + 8)), .ref (A (q + 9)), .ref (A (q + 10)), .ref (A (q + 11)), .ref (A (q + 12)), .ref (A (q + 13)), .ref (A (q + 14)), .int (r36.2 + 1)])) := h67
        refine lv_aload_n hx hb dX7_readsAll_56 rfl (lv_at hl 0 rfl) ?_
        have h70 := sm_at m68 (by omega) h52
        have h71 := sm_at m68 (by omega) h53
        have h72 := sm_at m68 (by omega) h54
        have h73 := sm_at m68 (by omega) h55
        have h74 := sm_at m68 (by omega) h56
        have h75 := sm_at m68 (by omega) h57
        have h76 := sm_at m68 (by omega) h58
        have h77 := sm_at m68 (by omega) h59
        have h78 := sm_at m68 (by omega) h60
        have h79 := sm_at m68 (by omega) h61
        have h80 := sm_at m68 (by omega) h62
        have h81 := sm_at m68 (by omega) h63
        have h82 := sm_at m68 (by omega) h64
        have h83 := sm_at m68 (by omega) h65
        have h84 : is_Y k A u66 (q) st past image imagePast tape laneOf sizeOf items least costs hops comes chain told acts imageActs tapeMany (r36.2 + 1) := ⟨h69, h70, h71, h72, h73, h74, h75, h76, h77, h78, h79, h80, h81, h82, h83⟩
        obtain ⟨r85, h86, hf⟩ := bd_s hf
        refine kw_i (va_runV (As := []) (rest := []) hcf (cz_X7_readsEntry l D k A u66 (q) st past image imagePast tape laneOf sizeOf items least costs hops comes chain told acts imageActs tapeMany (r36.2 + 1) r85 h86 h84 _) (cwV 0 hts gX7_readsAll_X7_readsEntry rfl rfl rfl (by decide +kernel) ⟨Nat.le_of_ble_eq_true rfl, Nat.le_of_ble_eq_true rfl⟩) (px_V hP hK hD (ci := 7) h84.1 rfl) rfl rfl hl.1 rfl (lv_room (Nat.le_of_ble_eq_true rfl)) dX7_readsAll_57 ⟨Nat.zero_le _, Nat.zero_le _⟩) hD hS hA (fun u87 _ _ h88 hP hD hS => ?_)
        obtain ⟨h90, m89⟩ := h88
        have hsm := sm_tr hsm m89 (by omega) (by omega)
        refine lv_istore_n (lv' := [(1, .int r85.1), (0, .ref (A q))]) hx hb dX7_readsAll_60 rfl hl (by decide) rfl (fun ls hl => ?_)
        refine lv_goto (tgt := 33) hx hb dX7_readsAll_61 (by decide) ?_
        exact ih r85.2.1 r85.2.2 r85.1 _ _ _ _ hf h90 hsm hP hD hS (lv_sub hl [1, 0] rfl)

set_option maxHeartbeats 4000000 in
set_option maxRecDepth 100000 in
theorem wl_X7_readsAll_7 {p : Program} {e : Env} {s : State} {m : MethodId} {args : Array Value} {below : List Frame} {meth : Method} {c : Code} (l : Launch) (D : va_G) (k : kt_T) (A : Nat → Nat) (ws : va_W) (q : Nat)  (out : Int32 × (Nat → Int32) × Int32) (hK : kk_P D k s) (C0 : cx_P p s m meth c args cX7_readsAll 2 wsX7_readsAll RX7 (some .boolean))  (st : Nat → Int32) (past : Nat → Int32) (image : Nat → Int32) (imagePast : Nat → Int32) (tape : Nat → Int32) (laneOf : Nat → Int32) (sizeOf : Nat → Int32) (items : Nat → Int64) (least : Nat → Int32) (costs : Nat → Int32) (hops : Nat → Int32) (comes : Nat → Int32) (chain : Nat → Int32) (acts : Int32) (imageActs : Int32) (tapeMany : Int32) (readAt : Int32)     : ∀ (n : Nat) (told : Nat → Int32) (x1 : Int32) (w : va_W) (H : Heap) (locs : List Loc) (ls : Array Slot), lp_X7_readsAll_7 tape tapeMany readAt n told x1 = some out → is_Y k A w q st past image imagePast tape laneOf sizeOf items least costs hops comes chain told acts imageActs tapeMany readAt → sm_W ws w q (q + 15) → va_P D vwCl w H → va_D (va_A ws s.heap.size) w → va_S (va_A ws s.heap.size) s.heap H locs → lv_has ls 2 [(0, .ref (A q)), (1, .int x1)] → W p l e (headSpec wsX7_readsAll { frames := 2, cells := 0, slots := 0, locals := 47 }).room s m args below meth c H locs 0 0 (MQ below (qw_Q D ws s.heap.size (some (.int out.1)) (fun u => is_Y k A u q st past image imagePast tape laneOf sizeOf items least costs hops comes chain out.2.1 acts imageActs tapeMany out.2.2 ∧ sm_W ws u q (q + 15))) args s 0 0 (va_A ws s.heap.size)) (F0 m 7 ls []) := by
  obtain ⟨hx, hb, hml, hown, hts, hr, hlocks⟩ := id C0
  have hcf : CallFix p m c cX7_readsAll 2 s args wsX7_readsAll RX7 := ⟨hx, hb, hml, hown, hts⟩
  have hA : ∀ q, s.heap.size ≤ q → va_A ws s.heap.size q := fun q h => Or.inr h
  have w_1 := hts (.fieldLink RX7 54 "LeastRoutesModel" "told" "[I") (List.mem_of_getElem? (i := 2) rfl)
  intro n
  induction n with
  | zero =>
    intro told x1 w H locs ls hf h_this hsm hP hD hS hl
    exact (no_s hf).elim
  | succ n ih =>
    intro told x1 w H locs ls hf h_this hsm hP hD hS hl
    rw [lp_X7_readsAll_7] at hf
    refine lv_iload_n hx hb dX7_readsAll_7 rfl (lv_at hl 1 rfl) ?_
    refine lv_sipush (v := 512) hx hb dX7_readsAll_8 (by decide) ?_
    refine lv_icmp_ge (tgt := 28) hx hb dX7_readsAll_11 (by decide) (fun c20 => ?_) (fun c20 => ?_)
    · have hf := it_p c20 hf
      refine lv_aload_n hx hb dX7_readsAll_28 rfl (lv_at hl 0 rfl) ?_
      obtain ⟨r21, h22, hf⟩ := bd_s hf
      refine kw_i (va_runV (As := []) (rest := []) hcf (cz_X7_readsEntry l D k A w (q) st past image imagePast tape laneOf sizeOf items least costs hops comes chain told acts imageActs tapeMany readAt r21 h22 h_this _) (cwV 0 hts gX7_readsAll_X7_readsEntry rfl rfl rfl (by decide +kernel) ⟨Nat.le_of_ble_eq_true rfl, Nat.le_of_ble_eq_true rfl⟩) (px_V hP hK hD (ci := 7) h_this.1 rfl) rfl rfl hl.1 rfl (lv_room (Nat.le_of_ble_eq_true rfl)) dX7_readsAll_29 ⟨Nat.zero_le _, Nat.zero_le _⟩) hD hS hA (fun u23 _ _ h24 hP hD hS => ?_)
      obtain ⟨h26, m25⟩ := h24
      have hsm := sm_tr hsm m25 (by omega) (by omega)
      refine lv_istore_n (lv' := [(1, .int r21.1), (0, .ref (A q))]) hx hb dX7_readsAll_32 rfl hl (by decide) rfl (fun ls hl => ?_)
      exact wl_X7_readsAll_33 l D k A ws q _ hK C0 st past image imagePast tape laneOf sizeOf items least costs hops comes chain acts imageActs tapeMany fu_N r21.2.1 r21.2.2 r21.1 _ _ _ _ hf h26 hsm hP hD hS (lv_sub hl [1, 0] rfl)
    · have hf := it_n c20 hf
      refine lv_aload_n hx hb dX7_readsAll_14 rfl (lv_at hl 0 rfl) ?_
      obtain ⟨h91, h92, h93, h94, h95, h96, h97, h98, h99, h100, h101, h102, h103, h104, h105⟩ := h_this
      refine va_get (D := D) (ci := 7) (v := .ref (A (q + 14))) (C := RX7) (T := TX7) (N := 18) hx hb hts in_X7_readsAll_X7 hown hK.1 hP (q) h91 rfl 16 (by decide) w_1 (fun _ h9 => h9) rfl dX7_readsAll_15 ?_
      refine lv_iload_n hx hb dX7_readsAll_18 rfl (lv_at hl 1 rfl) ?_
      refine lv_bipush (v := 8) hx hb dX7_readsAll_19 (by decide) ?_
      obtain ⟨z106, hf⟩ := ck_s hf
      refine va_iast hx hb hK.1 hP hD hS (q + 14) 0 h105 rfl (in_s z106) dX7_readsAll_21 (fun _ _ hP hD hS => ?_)
      obtain ⟨u107, h108, m109, hP, hD⟩ := wd_put hP hD h105
      have hsm := sm_tr hsm m109 (by omega) (by omega)
      refine lv_iinc (v := (x1 + 1)) (lv' := [(1, .int (x1 + 1)), (0, .ref (A q))]) hx hb dX7_readsAll_22 hl (k := 1) rfl rfl (by decide) rfl (fun ls hl => ?_)
      refine lv_goto (tgt := 7) hx hb dX7_readsAll_25 (by decide) ?_
      have h110 := sm_at m109 (by omega) h91
      have h111 := sm_at m109 (by omega) h92
      have h112 := sm_at m109 (by omega) h93
      have h113 := sm_at m109 (by omega) h94
      have h114 := sm_at m109 (by omega) h95
      have h115 := sm_at m109 (by omega) h96
      have h116 := sm_at m109 (by omega) h97
      have h117 := sm_at m109 (by omega) h98
      have h118 := sm_at m109 (by omega) h99
      have h119 := sm_at m109 (by omega) h100
      have h120 := sm_at m109 (by omega) h101
      have h121 := sm_at m109 (by omega) h102
      have h122 := sm_at m109 (by omega) h103
      have h123 := sm_at m109 (by omega) h104
      have h124 : is_Y k A u107 (q) st past image imagePast tape laneOf sizeOf items least costs hops comes chain (upd told (Int32.toNatClampNeg x1) 8) acts imageActs tapeMany readAt := ⟨h110, h111, h112, h113, h114, h115, h116, h117, h118, h119, h120, h121, h122, h123, h108⟩
      exact ih (upd told (Int32.toNatClampNeg x1) 8) (x1 + 1) _ _ _ _ hf h124 hsm hP hD hS (lv_sub hl [1, 0] rfl)

set_option maxHeartbeats 4000000 in
set_option maxRecDepth 100000 in
theorem cz_X7_readsAll (l : Launch) (D : va_G) (k : kt_T) (A : Nat → Nat) (ws : va_W) (q : Nat)  (st : Nat → Int32) (past : Nat → Int32) (image : Nat → Int32) (imagePast : Nat → Int32) (tape : Nat → Int32) (laneOf : Nat → Int32) (sizeOf : Nat → Int32) (items : Nat → Int64) (least : Nat → Int32) (costs : Nat → Int32) (hops : Nat → Int32) (comes : Nat → Int32) (chain : Nat → Int32) (told : Nat → Int32) (acts : Int32) (imageActs : Int32) (tapeMany : Int32) (readAt : Int32)  (out : Int32 × (Nat → Int32) × Int32) (hf : pf_X7_readsAll tape told tapeMany readAt = some out) (h_this : is_Y k A ws q st past image imagePast tape laneOf sizeOf items least costs hops comes chain told acts imageActs tapeMany readAt)  (sz0 : Nat) : Met l yX7_readsAll wsX7_readsAll { frames := 2, cells := 0, slots := 0, locals := 47 } (va_Pc [.ref (A q)] (px_P D k ws sz0)) (qw_Q D ws sz0 (some (.int out.1)) (fun u => is_Y k A u q st past image imagePast tape laneOf sizeOf items least costs hops comes chain out.2.1 acts imageActs tapeMany out.2.2 ∧ sm_W ws u q (q + 15))) 0 0 (va_A ws sz0) := by
  refine Met.ofW (cc := cX7_readsAll) (maxL := 2) (ret := (some .boolean)) (by decide) rfl ?_
  intro p e s m args below meth c s₁ B hml hv
  obtain ⟨rfl, hsz, hP, hK, hD0⟩ := hv
  subst hsz
  have hD := hD0.self (sz := s.heap.size)
  have C0 : cx_P p s m meth c [.ref (A q)].toArray cX7_readsAll 2 wsX7_readsAll RX7 (some .boolean) := ⟨B.exec, B.bytes, hml, findClass_of_methodNamed B.named, atoms_spec (ws := wsX7_readsAll) B.pre, B.returns, B.notSynchronized⟩
  obtain ⟨hx, hb, hml, hown, hts, hr, hlocks⟩ := id C0
  have hcf : CallFix p m c cX7_readsAll 2 s [.ref (A q)].toArray wsX7_readsAll RX7 := ⟨hx, hb, hml, hown, hts⟩
  have hA : ∀ q, s.heap.size ≤ q → va_A ws s.heap.size q := fun q h => Or.inr h
  have hS : va_S (va_A ws s.heap.size) s.heap s.heap [] := va_S.rf
  have hsm : sm_W ws ws q (q + 15) := sm_rf
  have w_0 := hts (.fieldLink RX7 175 "LeastRoutesModel" "readAt" "I") (List.mem_of_getElem? (i := 1) rfl)
  have hl := lv_entry ([.ref (A q)]) (n := 2) (Nat.le_of_ble_eq_true rfl)
  rw [lg_entry_eq]
  generalize (lg_sl ([.ref (A q)]) ++ List.replicate (2 - (lg_sl ([.ref (A q)])).length) Slot.unset).toArray = ls at hl ⊢
  have hl : lv_has ls 2 [(0, .ref (A q))] := hl
  unfold pf_X7_readsAll at hf
  refine lv_aload_n hx hb dX7_readsAll_0 rfl (lv_at hl 0 rfl) ?_
  refine lv_iconst (v := 0) hx hb dX7_readsAll_1 (by decide) ?_
  obtain ⟨h1, h2, h3, h4, h5, h6, h7, h8, h9, h10, h11, h12, h13, h14, h15⟩ := h_this
  refine va_put (D := D) (ci := 7) (v := .int 0) (ty := .int) (C := RX7) (T := TX7) (N := 18) hx hb hts in_X7_readsAll_X7 tyX7 tyX7_ok nmX7 hown hK.1 hP hD hS (q) h1 rfl 17 (by decide) w_0 (fun _ h9 => h9) rfl (by decide +kernel) rfl rfl (Nat.le_of_ble_eq_true rfl) dX7_readsAll_2 (fun _ _ hP hD hS => ?_)
  obtain ⟨u16, h17, m18, hP, hD⟩ := wd_put hP hD h1
  have hsm := sm_tr hsm m18 (by omega) (by omega)
  have h19 : u16[q]? = some (A (q), .inr (7, [.ref (A (q + 1)), .ref (A (q + 2)), .int acts, .ref (A (q + 3)), .ref (A (q + 4)), .int imageActs, .ref (A (q + 5)), .int tapeMany, .ref (A (q + 6)), .ref (A (q + 7)), .ref (A (q + 8)), .ref (A (q + 9)), .ref (A (q + 10)), .ref (A (q + 11)), .ref (A (q + 12)), .ref (A (q + 13)), .ref (A (q + 14)), .int 0])) := h17
  refine lv_iconst (v := 0) hx hb dX7_readsAll_5 (by decide) ?_
  refine lv_istore_n (lv' := [(1, .int 0), (0, .ref (A q))]) hx hb dX7_readsAll_6 rfl hl (by decide) rfl (fun ls hl => ?_)
  have h125 := sm_at m18 (by omega) h2
  have h126 := sm_at m18 (by omega) h3
  have h127 := sm_at m18 (by omega) h4
  have h128 := sm_at m18 (by omega) h5
  have h129 := sm_at m18 (by omega) h6
  have h130 := sm_at m18 (by omega) h7
  have h131 := sm_at m18 (by omega) h8
  have h132 := sm_at m18 (by omega) h9
  have h133 := sm_at m18 (by omega) h10
  have h134 := sm_at m18 (by omega) h11
  have h135 := sm_at m18 (by omega) h12
  have h136 := sm_at m18 (by omega) h13
  have h137 := sm_at m18 (by omega) h14
  have h138 := sm_at m18 (by omega) h15
  have h139 : is_Y k A u16 (q) st past image imagePast tape laneOf sizeOf items least costs hops comes chain told acts imageActs tapeMany 0 := ⟨h19, h125, h126, h127, h128, h129, h130, h131, h132, h133, h134, h135, h136, h137, h138⟩
  exact wl_X7_readsAll_7 l D k A ws q _ hK C0 st past image imagePast tape laneOf sizeOf items least costs hops comes chain acts imageActs tapeMany 0 fu_N told 0 _ _ _ _ hf h139 hsm hP hD hS (lv_sub hl [1, 0] rfl)

theorem in_X7_read_X7 : ∀ w ∈ u_ws RX7 TX7 18, w ∈ wsX7_read := fun w h => List.mem_cons_of_mem _ (List.mem_append_right _ h)
def pf_X7_read (st : Nat → Int32) (past : Nat → Int32) (tape : Nat → Int32) (told : Nat → Int32) (acts : Int32) (tapeMany : Int32) (readAt : Int32)   : Option (Int32 × (Nat → Int32) × (Nat → Int32) × (Nat → Int32) × Int32 × Int32 × Int32) :=
  (pf_X7_readsAll tape told tapeMany readAt).bind (fun r1 =>
    if r1.1 = 0 then
      some (((-20) - r1.2.2), st, past, r1.2.1, acts, 0, r1.2.2)
    else
      (pf_X7_notes st past acts).bind (fun r42 =>
        (pf_X7_bring r1.2.1 st 512 1025 1 1 511).bind (fun r63 =>
          (pf_X7_many r63 1025 0).bind (fun r70 =>
            some (r70, r63, r42.1, r1.2.1, r42.2, 0, r1.2.2)))))

set_option maxHeartbeats 4000000 in
set_option maxRecDepth 100000 in
theorem cz_X7_read (l : Launch) (D : va_G) (k : kt_T) (A : Nat → Nat) (ws : va_W) (q : Nat)  (st : Nat → Int32) (past : Nat → Int32) (image : Nat → Int32) (imagePast : Nat → Int32) (tape : Nat → Int32) (laneOf : Nat → Int32) (sizeOf : Nat → Int32) (items : Nat → Int64) (least : Nat → Int32) (costs : Nat → Int32) (hops : Nat → Int32) (comes : Nat → Int32) (chain : Nat → Int32) (told : Nat → Int32) (acts : Int32) (imageActs : Int32) (tapeMany : Int32) (readAt : Int32)  (out : Int32 × (Nat → Int32) × (Nat → Int32) × (Nat → Int32) × Int32 × Int32 × Int32) (hf : pf_X7_read st past tape told acts tapeMany readAt = some out) (h_this : is_Y k A ws q st past image imagePast tape laneOf sizeOf items least costs hops comes chain told acts imageActs tapeMany readAt)  (sz0 : Nat) : Met l yX7_read wsX7_read { frames := 3, cells := 0, slots := 0, locals := 68 } (va_Pc [.ref (A q)] (px_P D k ws sz0)) (qw_Q D ws sz0 (some (.int out.1)) (fun u => is_Y k A u q out.2.1 out.2.2.1 image imagePast tape laneOf sizeOf items least costs hops comes chain out.2.2.2.1 out.2.2.2.2.1 imageActs out.2.2.2.2.2.1 out.2.2.2.2.2.2 ∧ sm_W ws u q (q + 15))) 0 0 (va_A ws sz0) := by
  refine Met.ofW (cc := cX7_read) (maxL := 2) (ret := (some .int)) (by decide) rfl ?_
  intro p e s m args below meth c s₁ B hml hv
  obtain ⟨rfl, hsz, hP, hK, hD0⟩ := hv
  subst hsz
  have hD := hD0.self (sz := s.heap.size)
  have C0 : cx_P p s m meth c [.ref (A q)].toArray cX7_read 2 wsX7_read RX7 (some .int) := ⟨B.exec, B.bytes, hml, findClass_of_methodNamed B.named, atoms_spec (ws := wsX7_read) B.pre, B.returns, B.notSynchronized⟩
  obtain ⟨hx, hb, hml, hown, hts, hr, hlocks⟩ := id C0
  have hcf : CallFix p m c cX7_read 2 s [.ref (A q)].toArray wsX7_read RX7 := ⟨hx, hb, hml, hown, hts⟩
  have hA : ∀ q, s.heap.size ≤ q → va_A ws s.heap.size q := fun q h => Or.inr h
  have hS : va_S (va_A ws s.heap.size) s.heap s.heap [] := va_S.rf
  have hsm : sm_W ws ws q (q + 15) := sm_rf
  have w_0 := hts (.fieldLink RX7 172 "LeastRoutesModel" "tapeMany" "I") (List.mem_of_getElem? (i := 1) rfl)
  have w_1 := hts (.fieldLink RX7 175 "LeastRoutesModel" "readAt" "I") (List.mem_of_getElem? (i := 2) rfl)
  have w_2 := hts (.fieldLink RX7 54 "LeastRoutesModel" "told" "[I") (List.mem_of_getElem? (i := 3) rfl)
  have w_3 := hts (.fieldLink RX7 7 "LeastRoutesModel" "st" "[I") (List.mem_of_getElem? (i := 4) rfl)
  have hl := lv_entry ([.ref (A q)]) (n := 2) (Nat.le_of_ble_eq_true rfl)
  rw [lg_entry_eq]
  generalize (lg_sl ([.ref (A q)]) ++ List.replicate (2 - (lg_sl ([.ref (A q)])).length) Slot.unset).toArray = ls at hl ⊢
  have hl : lv_has ls 2 [(0, .ref (A q))] := hl
  unfold pf_X7_read at hf
  refine lv_aload_n hx hb dX7_read_0 rfl (lv_at hl 0 rfl) ?_
  obtain ⟨r1, h2, hf⟩ := bd_s hf
  refine kw_i (va_runV (As := []) (rest := []) hcf (cz_X7_readsAll l D k A ws (q) st past image imagePast tape laneOf sizeOf items least costs hops comes chain told acts imageActs tapeMany readAt r1 h2 h_this _) (cwV 0 hts gX7_read_X7_readsAll rfl rfl rfl (by decide +kernel) ⟨Nat.le_of_ble_eq_true rfl, Nat.le_of_ble_eq_true rfl⟩) (px_V hP hK hD (ci := 7) h_this.1 rfl) rfl rfl hl.1 rfl (lv_room (Nat.le_of_ble_eq_true rfl)) dX7_read_1 ⟨Nat.zero_le _, Nat.zero_le _⟩) hD hS hA (fun u3 _ _ h4 hP hD hS => ?_)
  obtain ⟨h6, m5⟩ := h4
  have hsm := sm_tr hsm m5 (by omega) (by omega)
  refine lv_istore_n (lv' := [(1, .int r1.1), (0, .ref (A q))]) hx hb dX7_read_4 rfl hl (by decide) rfl (fun ls hl => ?_)
  refine lv_aload_n hx hb dX7_read_5 rfl (lv_at hl 1 rfl) ?_
  refine lv_iconst (v := 0) hx hb dX7_read_6 (by decide) ?_
  obtain ⟨h7, h8, h9, h10, h11, h12, h13, h14, h15, h16, h17, h18, h19, h20, h21⟩ := h6
  refine va_put (D := D) (ci := 7) (v := .int 0) (ty := .int) (C := RX7) (T := TX7) (N := 18) hx hb hts in_X7_read_X7 tyX7 tyX7_ok nmX7 hown hK.1 hP hD hS (q) h7 rfl 7 (by decide) w_0 (fun _ h9 => h9) rfl (by decide +kernel) rfl rfl (Nat.le_of_ble_eq_true rfl) dX7_read_7 (fun _ _ hP hD hS => ?_)
  obtain ⟨u22, h23, m24, hP, hD⟩ := wd_put hP hD h7
  have hsm := sm_tr hsm m24 (by omega) (by omega)
  have h25 : u22[q]? = some (A (q), .inr (7, [.ref (A (q + 1)), .ref (A (q + 2)), .int acts, .ref (A (q + 3)), .ref (A (q + 4)), .int imageActs, .ref (A (q + 5)), .int 0, .ref (A (q + 6)), .ref (A (q + 7)), .ref (A (q + 8)), .ref (A (q + 9)), .ref (A (q + 10)), .ref (A (q + 11)), .ref (A (q + 12)), .ref (A (q + 13)), .ref (A (q + 14)), .int r1.2.2])) := h23
  refine lv_iload_n hx hb dX7_read_10 rfl (lv_at hl 0 rfl) ?_
  refine lv_if_ne (tgt := 22) hx hb dX7_read_11 (by decide) (fun c26 => ?_) (fun c26 => ?_)
  · have hf := it_n c26 hf
    refine lv_aload_n hx hb dX7_read_22 rfl (lv_at hl 1 rfl) ?_
    have h27 := sm_at m24 (by omega) h8
    have h28 := sm_at m24 (by omega) h9
    have h29 := sm_at m24 (by omega) h10
    have h30 := sm_at m24 (by omega) h11
    have h31 := sm_at m24 (by omega) h12
    have h32 := sm_at m24 (by omega) h13
    have h33 := sm_at m24 (by omega) h14
    have h34 := sm_at m24 (by omega) h15
    have h35 := sm_at m24 (by omega) h16
    have h36 := sm_at m24 (by omega) h17
    have h37 := sm_at m24 (by omega) h18
    have h38 := sm_at m24 (by omega) h19
    have h39 := sm_at m24 (by omega) h20
    have h40 := sm_at m24 (by omega) h21
    have h41 : is_Y k A u22 (q) st past image imagePast tape laneOf sizeOf items least costs hops comes chain r1.2.1 acts imageActs 0 r1.2.2 := ⟨h25, h27, h28, h29, h30, h31, h32, h33, h34, h35, h36, h37, h38, h39, h40⟩
    obtain ⟨r42, h43, hf⟩ := bd_s hf
    refine kw_v (va_runV (As := []) (rest := []) hcf (cz_X7_notes l D k A u22 (q) st past image imagePast tape laneOf sizeOf items least costs hops comes chain r1.2.1 acts imageActs 0 r1.2.2 r42 h43 h41 _) (cwV 0 hts gX7_read_X7_notes rfl rfl rfl (by decide +kernel) ⟨Nat.le_of_ble_eq_true rfl, Nat.le_of_ble_eq_true rfl⟩) (px_V hP hK hD (ci := 7) h41.1 rfl) rfl rfl hl.1 rfl (lv_room (Nat.le_of_ble_eq_true rfl)) dX7_read_23 ⟨Nat.zero_le _, Nat.zero_le _⟩) hD hS hA (fun u44 _ _ h45 hP hD hS => ?_)
    obtain ⟨h47, m46⟩ := h45
    have hsm := sm_tr hsm m46 (by omega) (by omega)
    refine lv_aload_n hx hb dX7_read_26 rfl (lv_at hl 1 rfl) ?_
    obtain ⟨h48, h49, h50, h51, h52, h53, h54, h55, h56, h57, h58, h59, h60, h61, h62⟩ := h47
    refine va_get (D := D) (ci := 7) (v := .ref (A (q + 14))) (C := RX7) (T := TX7) (N := 18) hx hb hts in_X7_read_X7 hown hK.1 hP (q) h48 rfl 16 (by decide) w_2 (fun _ h9 => h9) rfl dX7_read_27 ?_
    refine lv_iconst (v := 1) hx hb dX7_read_30 (by decide) ?_
    refine lv_aload_n hx hb dX7_read_31 rfl (lv_at hl 1 rfl) ?_
    refine va_get (D := D) (ci := 7) (v := .ref (A (q + 1))) (C := RX7) (T := TX7) (N := 18) hx hb hts in_X7_read_X7 hown hK.1 hP (q) h48 rfl 0 (by decide) w_3 (fun _ h9 => h9) rfl dX7_read_32 ?_
    refine lv_iconst (v := 1) hx hb dX7_read_35 (by decide) ?_
    refine lv_sipush (v := 511) hx hb dX7_read_36 (by decide) ?_
    obtain ⟨r63, h64, hf⟩ := bd_s hf
    refine kw_v (va_runS (As := [.ref (A (q + 14)), .int 1, .ref (A (q + 1)), .int 1, .int 511]) (rest := []) hcf (cz_X7_bring l D k A u44 (q + 14) (q + 1) 512 1025 r1.2.1 st 1 1 511 r63 h64 h62 h49 (by omega) _) (va_cwS 5 hts gX7_read_X7_bring rfl rfl rfl (by decide +kernel) ⟨Nat.le_of_ble_eq_true rfl, Nat.le_of_ble_eq_true rfl⟩) (px_S hP hK hD) rfl rfl hl.1 rfl (lv_room (Nat.le_of_ble_eq_true rfl)) dX7_read_39 ⟨Nat.zero_le _, Nat.zero_le _⟩) hD hS hA (fun u65 _ _ h66 hP hD hS => ?_)
    obtain ⟨h68, m67⟩ := h66
    have hsm := sm_tr hsm m67 (by omega) (by omega)
    refine lv_aload_n hx hb dX7_read_42 rfl (lv_at hl 1 rfl) ?_
    have h69 := sm_at m67 (by omega) h48
    refine va_get (D := D) (ci := 7) (v := .ref (A (q + 1))) (C := RX7) (T := TX7) (N := 18) hx hb hts in_X7_read_X7 hown hK.1 hP (q) h69 rfl 0 (by decide) w_3 (fun _ h9 => h9) rfl dX7_read_43 ?_
    refine lv_iconst (v := 0) hx hb dX7_read_46 (by decide) ?_
    obtain ⟨r70, h71, hf⟩ := bd_s hf
    refine ks_i (va_runS (As := [.ref (A (q + 1)), .int 0]) (rest := []) hcf (cz_X7_many l D k A u65 (q + 1) 1025 r63 0 r70 h71 h68) (va_cwS 2 hts gX7_read_X7_many rfl rfl rfl (by decide +kernel) ⟨Nat.le_of_ble_eq_true rfl, Nat.le_of_ble_eq_true rfl⟩) (pw_S hP hK hD) rfl rfl hl.1 rfl (lv_room (Nat.le_of_ble_eq_true rfl)) dX7_read_47 ⟨Nat.zero_le _, Nat.zero_le _⟩) ?_
    obtain rfl := so_i hf
    have h72 := sm_at m67 (by omega) h50
    have h73 := sm_at m67 (by omega) h51
    have h74 := sm_at m67 (by omega) h52
    have h75 := sm_at m67 (by omega) h53
    have h76 := sm_at m67 (by omega) h54
    have h77 := sm_at m67 (by omega) h55
    have h78 := sm_at m67 (by omega) h56
    have h79 := sm_at m67 (by omega) h57
    have h80 := sm_at m67 (by omega) h58
    have h81 := sm_at m67 (by omega) h59
    have h82 := sm_at m67 (by omega) h60
    have h83 := sm_at m67 (by omega) h61
    have h84 := sm_at m67 (by omega) h62
    have h85 : is_Y k A u65 (q) r63 r42.1 image imagePast tape laneOf sizeOf items least costs hops comes chain r1.2.1 r42.2 imageActs 0 r1.2.2 := ⟨h69, h68, h72, h73, h74, h75, h76, h77, h78, h79, h80, h81, h82, h83, h84⟩
    exact W.iret (v := r70) hx hb hr (qw_end hS hP hD ⟨h85, hsm⟩) hS.2.2 dX7_read_50
  · have hf := it_p c26 hf
    refine lv_bipush (v := (-20)) hx hb dX7_read_14 (by decide) ?_
    refine lv_aload_n hx hb dX7_read_16 rfl (lv_at hl 1 rfl) ?_
    refine va_get (D := D) (ci := 7) (v := .int r1.2.2) (C := RX7) (T := TX7) (N := 18) hx hb hts in_X7_read_X7 hown hK.1 hP (q) h25 rfl 17 (by decide) w_1 (fun _ h9 => h9) rfl dX7_read_17 ?_
    refine lv_isub hx hb dX7_read_20 ?_
    obtain rfl := so_i hf
    have h86 := sm_at m24 (by omega) h8
    have h87 := sm_at m24 (by omega) h9
    have h88 := sm_at m24 (by omega) h10
    have h89 := sm_at m24 (by omega) h11
    have h90 := sm_at m24 (by omega) h12
    have h91 := sm_at m24 (by omega) h13
    have h92 := sm_at m24 (by omega) h14
    have h93 := sm_at m24 (by omega) h15
    have h94 := sm_at m24 (by omega) h16
    have h95 := sm_at m24 (by omega) h17
    have h96 := sm_at m24 (by omega) h18
    have h97 := sm_at m24 (by omega) h19
    have h98 := sm_at m24 (by omega) h20
    have h99 := sm_at m24 (by omega) h21
    have h100 : is_Y k A u22 (q) st past image imagePast tape laneOf sizeOf items least costs hops comes chain r1.2.1 acts imageActs 0 r1.2.2 := ⟨h25, h86, h87, h88, h89, h90, h91, h92, h93, h94, h95, h96, h97, h98, h99⟩
    exact W.iret (v := ((-20) - r1.2.2)) hx hb hr (qw_end hS hP hD ⟨h100, hsm⟩) hS.2.2 dX7_read_21

theorem in_X7_turnsOnce_X7 : ∀ w ∈ u_ws RX7 TX7 18, w ∈ wsX7_turnsOnce := fun w h => List.mem_cons_of_mem _ (List.mem_append_right _ h)
def lp_X7_turnsOnce_54  (st : Nat → Int32) (past : Nat → Int32) (acts : Int32) (x3 : Int32) : Nat → Int32 → Int32 → Option ((Nat → Int32) × (Nat → Int32) × Int32)
  | 0, _, _ => none
  | n + 1, x4, x5 =>
    if (x3 - x3 / 9 * 9) ≤ x5 then
      ck_O (nz_b x4) (
        lt_O (x4 + ((x3 / 16) - (x3 / 16) / x4 * x4)) (fun y32 =>
          ck_O (in_b (0 + y32) 1025) (
            if (st (Int32.toNatClampNeg (0 + y32))) = (x3 / 4096) then
              ck_O (in_b (0 + y32) 1025) (
                some ((upd st (Int32.toNatClampNeg (0 + y32)) 8), past, acts))
            else
              ck_O (in_b (0 + y32) 1025) (
                if (st (Int32.toNatClampNeg (0 + y32))) = 8 then
                  (pf_X7_many st 1025 0).bind (fun r72 =>
                    if 40 ≤ r72 then
                      some (st, past, acts)
                    else
                      ck_O (in_b (0 + y32) 1025) (
                        some ((upd st (Int32.toNatClampNeg (0 + y32)) (x3 / 4096)), past, acts)))
                else
                  ck_O (in_b (0 + y32) 1025) (
                    some ((upd st (Int32.toNatClampNeg (0 + y32)) (x3 / 4096)), past, acts))))))
    else
      lp_X7_turnsOnce_54 st past acts x3 n (x4 * 2) (x5 + 1)

def pf_X7_turnsOnce (st : Nat → Int32) (past : Nat → Int32) (acts : Int32)   : Option ((Nat → Int32) × (Nat → Int32) × Int32) :=
  (pf_X7_notes st past acts).bind (fun r1 =>
    lt_O (((Int32.toInt64 (st (Int32.toNatClampNeg 1024))) * 1103515245) + 12345) (fun y22 =>
      lt_O (((upd st (Int32.toNatClampNeg 1024) (Int64.toInt32 (y22 - y22 / 2147483648 * 2147483648))) (Int32.toNatClampNeg 1024)) / 65536) (fun y28 =>
        lp_X7_turnsOnce_54 (upd st (Int32.toNatClampNeg 1024) (Int64.toInt32 (y22 - y22 / 2147483648 * 2147483648))) r1.1 r1.2 y28 fu_N 1 0)))

set_option maxHeartbeats 4000000 in
set_option maxRecDepth 100000 in
theorem wl_X7_turnsOnce_54 {p : Program} {e : Env} {s : State} {m : MethodId} {args : Array Value} {below : List Frame} {meth : Method} {c : Code} (l : Launch) (D : va_G) (k : kt_T) (A : Nat → Nat) (ws : va_W) (q : Nat)  (out : (Nat → Int32) × (Nat → Int32) × Int32) (hK : kk_P D k s) (C0 : cx_P p s m meth c args cX7_turnsOnce 6 wsX7_turnsOnce RX7 none)  (st : Nat → Int32) (past : Nat → Int32) (image : Nat → Int32) (imagePast : Nat → Int32) (tape : Nat → Int32) (laneOf : Nat → Int32) (sizeOf : Nat → Int32) (items : Nat → Int64) (least : Nat → Int32) (costs : Nat → Int32) (hops : Nat → Int32) (comes : Nat → Int32) (chain : Nat → Int32) (told : Nat → Int32) (acts : Int32) (imageActs : Int32) (tapeMany : Int32) (readAt : Int32) (x3 : Int32)    : ∀ (n : Nat) (x4 : Int32) (x5 : Int32) (w : va_W) (H : Heap) (locs : List Loc) (ls : Array Slot), lp_X7_turnsOnce_54 st past acts x3 n x4 x5 = some out → is_Y k A w q st past image imagePast tape laneOf sizeOf items least costs hops comes chain told acts imageActs tapeMany readAt → sm_W ws w q (q + 15) → va_P D vwCl w H → va_D (va_A ws s.heap.size) w → va_S (va_A ws s.heap.size) s.heap H locs → lv_has ls 6 [(0, .ref (A q)), (3, .int x3), (4, .int x4), (5, .int x5)] → W p l e (headSpec wsX7_turnsOnce { frames := 2, cells := 0, slots := 0, locals := 45 }).room s m args below meth c H locs 0 0 (MQ below (qw_Q D ws s.heap.size none (fun u => is_Y k A u q out.1 out.2.1 image imagePast tape laneOf sizeOf items least costs hops comes chain told out.2.2 imageActs tapeMany readAt ∧ sm_W ws u q (q + 15))) args s 0 0 (va_A ws s.heap.size)) (F0 m 54 ls []) := by
  obtain ⟨hx, hb, hml, hown, hts, hr, hlocks⟩ := id C0
  have hcf : CallFix p m c cX7_turnsOnce 6 s args wsX7_turnsOnce RX7 := ⟨hx, hb, hml, hown, hts⟩
  have hA : ∀ q, s.heap.size ≤ q → va_A ws s.heap.size q := fun q h => Or.inr h
  have w_0 := hts (.fieldLink RX7 7 "LeastRoutesModel" "st" "[I") (List.mem_of_getElem? (i := 1) rfl)
  intro n
  induction n with
  | zero =>
    intro x4 x5 w H locs ls hf h_this hsm hP hD hS hl
    exact (no_s hf).elim
  | succ n ih =>
    intro x4 x5 w H locs ls hf h_this hsm hP hD hS hl
    rw [lp_X7_turnsOnce_54] at hf
    refine lv_iload hx hb dX7_turnsOnce_54 (lv_at hl 3 rfl) ?_
    refine lv_iload_n hx hb dX7_turnsOnce_56 rfl (lv_at hl 1 rfl) ?_
    refine lv_bipush (v := 9) hx hb dX7_turnsOnce_57 (by decide) ?_
    refine lv_irem hx hb dX7_turnsOnce_59 (by decide) ?_
    refine lv_icmp_ge (tgt := 75) hx hb dX7_turnsOnce_60 (by decide) (fun c30 => ?_) (fun c30 => ?_)
    · have hf := it_p c30 hf
      refine lv_iload hx hb dX7_turnsOnce_75 (lv_at hl 2 rfl) ?_
      refine lv_iload_n hx hb dX7_turnsOnce_77 rfl (lv_at hl 1 rfl) ?_
      refine lv_bipush (v := 16) hx hb dX7_turnsOnce_78 (by decide) ?_
      refine lv_idiv hx hb dX7_turnsOnce_80 (by decide) ?_
      refine lv_iload hx hb dX7_turnsOnce_81 (lv_at hl 2 rfl) ?_
      obtain ⟨z31, hf⟩ := ck_s hf
      refine lv_irem hx hb dX7_turnsOnce_83 (nz_s z31) ?_
      refine lv_iadd hx hb dX7_turnsOnce_84 ?_
      refine lv_topi (fun y32 e33 => ?_)
      have hf := lt_s' e33 hf
      refine lv_istore (lv' := [(4, .int y32), (0, .ref (A q)), (3, .int x3), (5, .int x5)]) hx hb dX7_turnsOnce_85 hl (by decide) rfl (fun ls hl => ?_)
      refine lv_iload_n hx hb dX7_turnsOnce_87 rfl (lv_at hl 2 rfl) ?_
      refine lv_sipush (v := 4096) hx hb dX7_turnsOnce_88 (by decide) ?_
      refine lv_idiv hx hb dX7_turnsOnce_91 (by decide) ?_
      refine lv_istore (lv' := [(5, .int (x3 / 4096)), (4, .int y32), (0, .ref (A q)), (3, .int x3)]) hx hb dX7_turnsOnce_92 hl (by decide) rfl (fun ls hl => ?_)
      refine lv_aload_n hx hb dX7_turnsOnce_94 rfl (lv_at hl 2 rfl) ?_
      obtain ⟨h34, h35, h36, h37, h38, h39, h40, h41, h42, h43, h44, h45, h46, h47, h48⟩ := h_this
      refine va_get (D := D) (ci := 7) (v := .ref (A (q + 1))) (C := RX7) (T := TX7) (N := 18) hx hb hts in_X7_turnsOnce_X7 hown hK.1 hP (q) h34 rfl 0 (by decide) w_0 (fun _ h9 => h9) rfl dX7_turnsOnce_95 ?_
      refine lv_iconst (v := 0) hx hb dX7_turnsOnce_98 (by decide) ?_
      refine lv_iload hx hb dX7_turnsOnce_99 (lv_at hl 1 rfl) ?_
      refine lv_iadd hx hb dX7_turnsOnce_101 ?_
      obtain ⟨z49, hf⟩ := ck_s hf
      refine va_iald hx hb hK.1 hP (q + 1) 0 h35 rfl (in_s z49) dX7_turnsOnce_102 ?_
      refine lv_iload hx hb dX7_turnsOnce_103 (lv_at hl 0 rfl) ?_
      refine lv_icmp_ne (tgt := 122) hx hb dX7_turnsOnce_105 (by decide) (fun c50 => ?_) (fun c50 => ?_)
      · have hf := it_n c50 hf
        refine lv_aload_n hx hb dX7_turnsOnce_122 rfl (lv_at hl 2 rfl) ?_
        refine va_get (D := D) (ci := 7) (v := .ref (A (q + 1))) (C := RX7) (T := TX7) (N := 18) hx hb hts in_X7_turnsOnce_X7 hown hK.1 hP (q) h34 rfl 0 (by decide) w_0 (fun _ h9 => h9) rfl dX7_turnsOnce_123 ?_
        refine lv_iconst (v := 0) hx hb dX7_turnsOnce_126 (by decide) ?_
        refine lv_iload hx hb dX7_turnsOnce_127 (lv_at hl 1 rfl) ?_
        refine lv_iadd hx hb dX7_turnsOnce_129 ?_
        obtain ⟨z51, hf⟩ := ck_s hf
        refine va_iald hx hb hK.1 hP (q + 1) 0 h35 rfl (in_s z51) dX7_turnsOnce_130 ?_
        refine lv_bipush (v := 8) hx hb dX7_turnsOnce_131 (by decide) ?_
        refine lv_icmp_ne (tgt := 149) hx hb dX7_turnsOnce_133 (by decide) (fun c52 => ?_) (fun c52 => ?_)
        · have hf := it_n c52 hf
          refine lv_aload_n hx hb dX7_turnsOnce_149 rfl (lv_at hl 2 rfl) ?_
          refine va_get (D := D) (ci := 7) (v := .ref (A (q + 1))) (C := RX7) (T := TX7) (N := 18) hx hb hts in_X7_turnsOnce_X7 hown hK.1 hP (q) h34 rfl 0 (by decide) w_0 (fun _ h9 => h9) rfl dX7_turnsOnce_150 ?_
          refine lv_iconst (v := 0) hx hb dX7_turnsOnce_153 (by decide) ?_
          refine lv_iload hx hb dX7_turnsOnce_154 (lv_at hl 1 rfl) ?_
          refine lv_iadd hx hb dX7_turnsOnce_156 ?_
          refine lv_iload hx hb dX7_turnsOnce_157 (lv_at hl 0 rfl) ?_
          obtain ⟨z53, hf⟩ := ck_s hf
          refine va_iast hx hb hK.1 hP hD hS (q + 1) 0 h35 rfl (in_s z53) dX7_turnsOnce_159 (fun _ _ hP hD hS => ?_)
          obtain ⟨u54, h55, m56, hP, hD⟩ := wd_put hP hD h35
          have hsm := sm_tr hsm m56 (by omega) (by omega)
          obtain rfl := so_i hf
          have h57 := sm_at m56 (by omega) h34
          have h58 := sm_at m56 (by omega) h36
          have h59 := sm_at m56 (by omega) h37
          have h60 := sm_at m56 (by omega) h38
          have h61 := sm_at m56 (by omega) h39
          have h62 := sm_at m56 (by omega) h40
          have h63 := sm_at m56 (by omega) h41
          have h64 := sm_at m56 (by omega) h42
          have h65 := sm_at m56 (by omega) h43
          have h66 := sm_at m56 (by omega) h44
          have h67 := sm_at m56 (by omega) h45
          have h68 := sm_at m56 (by omega) h46
          have h69 := sm_at m56 (by omega) h47
          have h70 := sm_at m56 (by omega) h48
          have h71 : is_Y k A u54 (q) (upd st (Int32.toNatClampNeg (0 + y32)) (x3 / 4096)) past image imagePast tape laneOf sizeOf items least costs hops comes chain told acts imageActs tapeMany readAt := ⟨h57, h55, h58, h59, h60, h61, h62, h63, h64, h65, h66, h67, h68, h69, h70⟩
          exact W.vret hx hb hr (qw_end hS hP hD ⟨h71, hsm⟩) hS.2.2 dX7_turnsOnce_160
        · have hf := it_p c52 hf
          refine lv_aload_n hx hb dX7_turnsOnce_136 rfl (lv_at hl 2 rfl) ?_
          refine va_get (D := D) (ci := 7) (v := .ref (A (q + 1))) (C := RX7) (T := TX7) (N := 18) hx hb hts in_X7_turnsOnce_X7 hown hK.1 hP (q) h34 rfl 0 (by decide) w_0 (fun _ h9 => h9) rfl dX7_turnsOnce_137 ?_
          refine lv_iconst (v := 0) hx hb dX7_turnsOnce_140 (by decide) ?_
          obtain ⟨r72, h73, hf⟩ := bd_s hf
          refine ks_i (va_runS (As := [.ref (A (q + 1)), .int 0]) (rest := []) hcf (cz_X7_many l D k A w (q + 1) 1025 st 0 r72 h73 h35) (va_cwS 2 hts gX7_turnsOnce_X7_many rfl rfl rfl (by decide +kernel) ⟨Nat.le_of_ble_eq_true rfl, Nat.le_of_ble_eq_true rfl⟩) (pw_S hP hK hD) rfl rfl hl.1 rfl (lv_room (Nat.le_of_ble_eq_true rfl)) dX7_turnsOnce_141 ⟨Nat.zero_le _, Nat.zero_le _⟩) ?_
          refine lv_bipush (v := 40) hx hb dX7_turnsOnce_144 (by decide) ?_
          refine lv_icmp_ge (tgt := 160) hx hb dX7_turnsOnce_146 (by decide) (fun c74 => ?_) (fun c74 => ?_)
          · have hf := it_p c74 hf
            obtain rfl := so_i hf
            have h75 : is_Y k A w (q) st past image imagePast tape laneOf sizeOf items least costs hops comes chain told acts imageActs tapeMany readAt := ⟨h34, h35, h36, h37, h38, h39, h40, h41, h42, h43, h44, h45, h46, h47, h48⟩
            exact W.vret hx hb hr (qw_end hS hP hD ⟨h75, hsm⟩) hS.2.2 dX7_turnsOnce_160
          · have hf := it_n c74 hf
            refine lv_aload_n hx hb dX7_turnsOnce_149 rfl (lv_at hl 2 rfl) ?_
            refine va_get (D := D) (ci := 7) (v := .ref (A (q + 1))) (C := RX7) (T := TX7) (N := 18) hx hb hts in_X7_turnsOnce_X7 hown hK.1 hP (q) h34 rfl 0 (by decide) w_0 (fun _ h9 => h9) rfl dX7_turnsOnce_150 ?_
            refine lv_iconst (v := 0) hx hb dX7_turnsOnce_153 (by decide) ?_
            refine lv_iload hx hb dX7_turnsOnce_154 (lv_at hl 1 rfl) ?_
            refine lv_iadd hx hb dX7_turnsOnce_156 ?_
            refine lv_iload hx hb dX7_turnsOnce_157 (lv_at hl 0 rfl) ?_
            obtain ⟨z76, hf⟩ := ck_s hf
            refine va_iast hx hb hK.1 hP hD hS (q + 1) 0 h35 rfl (in_s z76) dX7_turnsOnce_159 (fun _ _ hP hD hS => ?_)
            obtain ⟨u77, h78, m79, hP, hD⟩ := wd_put hP hD h35
            have hsm := sm_tr hsm m79 (by omega) (by omega)
            obtain rfl := so_i hf
            have h80 := sm_at m79 (by omega) h34
            have h81 := sm_at m79 (by omega) h36
            have h82 := sm_at m79 (by omega) h37
            have h83 := sm_at m79 (by omega) h38
            have h84 := sm_at m79 (by omega) h39
            have h85 := sm_at m79 (by omega) h40
            have h86 := sm_at m79 (by omega) h41
            have h87 := sm_at m79 (by omega) h42
            have h88 := sm_at m79 (by omega) h43
            have h89 := sm_at m79 (by omega) h44
            have h90 := sm_at m79 (by omega) h45
            have h91 := sm_at m79 (by omega) h46
            have h92 := sm_at m79 (by omega) h47
            have h93 := sm_at m79 (by omega) h48
            have h94 : is_Y k A u77 (q) (upd st (Int32.toNatClampNeg (0 + y32)) (x3 / 4096)) past image imagePast tape laneOf sizeOf items least costs hops comes chain told acts imageActs tapeMany readAt := ⟨h80, h78, h81, h82, h83, h84, h85, h86, h87, h88, h89, h90, h91, h92, h93⟩
            exact W.vret hx hb hr (qw_end hS hP hD ⟨h94, hsm⟩) hS.2.2 dX7_turnsOnce_160
      · have hf := it_p c50 hf
        refine lv_aload_n hx hb dX7_turnsOnce_108 rfl (lv_at hl 2 rfl) ?_
        refine va_get (D := D) (ci := 7) (v := .ref (A (q + 1))) (C := RX7) (T := TX7) (N := 18) hx hb hts in_X7_turnsOnce_X7 hown hK.1 hP (q) h34 rfl 0 (by decide) w_0 (fun _ h9 => h9) rfl dX7_turnsOnce_109 ?_
        refine lv_iconst (v := 0) hx hb dX7_turnsOnce_112 (by decide) ?_
        refine lv_iload hx hb dX7_turnsOnce_113 (lv_at hl 1 rfl) ?_
        refine lv_iadd hx hb dX7_turnsOnce_115 ?_
        refine lv_bipush (v := 8) hx hb dX7_turnsOnce_116 (by decide) ?_
        obtain ⟨z95, hf⟩ := ck_s hf
        refine va_iast hx hb hK.1 hP hD hS (q + 1) 0 h35 rfl (in_s z95) dX7_turnsOnce_118 (fun _ _ hP hD hS => ?_)
        obtain ⟨u96, h97, m98, hP, hD⟩ := wd_put hP hD h35
        have hsm := sm_tr hsm m98 (by omega) (by omega)
        refine lv_goto (tgt := 160) hx hb dX7_turnsOnce_119 (by decide) ?_
        obtain rfl := so_i hf
        have h99 := sm_at m98 (by omega) h34
        have h100 := sm_at m98 (by omega) h36
        have h101 := sm_at m98 (by omega) h37
        have h102 := sm_at m98 (by omega) h38
        have h103 := sm_at m98 (by omega) h39
        have h104 := sm_at m98 (by omega) h40
        have h105 := sm_at m98 (by omega) h41
        have h106 := sm_at m98 (by omega) h42
        have h107 := sm_at m98 (by omega) h43
        have h108 := sm_at m98 (by omega) h44
        have h109 := sm_at m98 (by omega) h45
        have h110 := sm_at m98 (by omega) h46
        have h111 := sm_at m98 (by omega) h47
        have h112 := sm_at m98 (by omega) h48
        have h113 : is_Y k A u96 (q) (upd st (Int32.toNatClampNeg (0 + y32)) 8) past image imagePast tape laneOf sizeOf items least costs hops comes chain told acts imageActs tapeMany readAt := ⟨h99, h97, h100, h101, h102, h103, h104, h105, h106, h107, h108, h109, h110, h111, h112⟩
        exact W.vret hx hb hr (qw_end hS hP hD ⟨h113, hsm⟩) hS.2.2 dX7_turnsOnce_160
    · have hf := it_n c30 hf
      refine lv_iload hx hb dX7_turnsOnce_63 (lv_at hl 2 rfl) ?_
      refine lv_iconst (v := 2) hx hb dX7_turnsOnce_65 (by decide) ?_
      refine lv_imul hx hb dX7_turnsOnce_66 ?_
      refine lv_istore (lv' := [(4, .int (x4 * 2)), (0, .ref (A q)), (3, .int x3), (5, .int x5)]) hx hb dX7_turnsOnce_67 hl (by decide) rfl (fun ls hl => ?_)
      refine lv_iinc (v := (x5 + 1)) (lv' := [(5, .int (x5 + 1)), (4, .int (x4 * 2)), (0, .ref (A q)), (3, .int x3)]) hx hb dX7_turnsOnce_69 hl (k := 3) rfl rfl (by decide) rfl (fun ls hl => ?_)
      refine lv_goto (tgt := 54) hx hb dX7_turnsOnce_72 (by decide) ?_
      exact ih (x4 * 2) (x5 + 1) _ _ _ _ hf h_this hsm hP hD hS (lv_sub hl [2, 3, 1, 0] rfl)

set_option maxHeartbeats 4000000 in
set_option maxRecDepth 100000 in
theorem cz_X7_turnsOnce (l : Launch) (D : va_G) (k : kt_T) (A : Nat → Nat) (ws : va_W) (q : Nat)  (st : Nat → Int32) (past : Nat → Int32) (image : Nat → Int32) (imagePast : Nat → Int32) (tape : Nat → Int32) (laneOf : Nat → Int32) (sizeOf : Nat → Int32) (items : Nat → Int64) (least : Nat → Int32) (costs : Nat → Int32) (hops : Nat → Int32) (comes : Nat → Int32) (chain : Nat → Int32) (told : Nat → Int32) (acts : Int32) (imageActs : Int32) (tapeMany : Int32) (readAt : Int32)  (out : (Nat → Int32) × (Nat → Int32) × Int32) (hf : pf_X7_turnsOnce st past acts = some out) (h_this : is_Y k A ws q st past image imagePast tape laneOf sizeOf items least costs hops comes chain told acts imageActs tapeMany readAt)  (sz0 : Nat) : Met l yX7_turnsOnce wsX7_turnsOnce { frames := 2, cells := 0, slots := 0, locals := 45 } (va_Pc [.ref (A q)] (px_P D k ws sz0)) (qw_Q D ws sz0 none (fun u => is_Y k A u q out.1 out.2.1 image imagePast tape laneOf sizeOf items least costs hops comes chain told out.2.2 imageActs tapeMany readAt ∧ sm_W ws u q (q + 15))) 0 0 (va_A ws sz0) := by
  refine Met.ofW (cc := cX7_turnsOnce) (maxL := 6) (ret := none) (by decide) rfl ?_
  intro p e s m args below meth c s₁ B hml hv
  obtain ⟨rfl, hsz, hP, hK, hD0⟩ := hv
  subst hsz
  have hD := hD0.self (sz := s.heap.size)
  have C0 : cx_P p s m meth c [.ref (A q)].toArray cX7_turnsOnce 6 wsX7_turnsOnce RX7 none := ⟨B.exec, B.bytes, hml, findClass_of_methodNamed B.named, atoms_spec (ws := wsX7_turnsOnce) B.pre, B.returns, B.notSynchronized⟩
  obtain ⟨hx, hb, hml, hown, hts, hr, hlocks⟩ := id C0
  have hcf : CallFix p m c cX7_turnsOnce 6 s [.ref (A q)].toArray wsX7_turnsOnce RX7 := ⟨hx, hb, hml, hown, hts⟩
  have hA : ∀ q, s.heap.size ≤ q → va_A ws s.heap.size q := fun q h => Or.inr h
  have hS : va_S (va_A ws s.heap.size) s.heap s.heap [] := va_S.rf
  have hsm : sm_W ws ws q (q + 15) := sm_rf
  have w_0 := hts (.fieldLink RX7 7 "LeastRoutesModel" "st" "[I") (List.mem_of_getElem? (i := 1) rfl)
  have w_1 := hts (.constantLong RX7 192 (1103515245)) (List.mem_of_getElem? (i := 2) rfl)
  have w_2 := hts (.constantLong RX7 194 (12345)) (List.mem_of_getElem? (i := 3) rfl)
  have w_3 := hts (.constantLong RX7 196 (2147483648)) (List.mem_of_getElem? (i := 4) rfl)
  have w_4 := hts (.constant RX7 198 (65536)) (List.mem_of_getElem? (i := 5) rfl)
  have hl := lv_entry ([.ref (A q)]) (n := 6) (Nat.le_of_ble_eq_true rfl)
  rw [lg_entry_eq]
  generalize (lg_sl ([.ref (A q)]) ++ List.replicate (6 - (lg_sl ([.ref (A q)])).length) Slot.unset).toArray = ls at hl ⊢
  have hl : lv_has ls 6 [(0, .ref (A q))] := hl
  unfold pf_X7_turnsOnce at hf
  refine lv_aload_n hx hb dX7_turnsOnce_0 rfl (lv_at hl 0 rfl) ?_
  obtain ⟨r1, h2, hf⟩ := bd_s hf
  refine kw_v (va_runV (As := []) (rest := []) hcf (cz_X7_notes l D k A ws (q) st past image imagePast tape laneOf sizeOf items least costs hops comes chain told acts imageActs tapeMany readAt r1 h2 h_this _) (cwV 0 hts gX7_turnsOnce_X7_notes rfl rfl rfl (by decide +kernel) ⟨Nat.le_of_ble_eq_true rfl, Nat.le_of_ble_eq_true rfl⟩) (px_V hP hK hD (ci := 7) h_this.1 rfl) rfl rfl hl.1 rfl (lv_room (Nat.le_of_ble_eq_true rfl)) dX7_turnsOnce_1 ⟨Nat.zero_le _, Nat.zero_le _⟩) hD hS hA (fun u3 _ _ h4 hP hD hS => ?_)
  obtain ⟨h6, m5⟩ := h4
  have hsm := sm_tr hsm m5 (by omega) (by omega)
  refine lv_aload_n hx hb dX7_turnsOnce_4 rfl (lv_at hl 0 rfl) ?_
  obtain ⟨h7, h8, h9, h10, h11, h12, h13, h14, h15, h16, h17, h18, h19, h20, h21⟩ := h6
  refine va_get (D := D) (ci := 7) (v := .ref (A (q + 1))) (C := RX7) (T := TX7) (N := 18) hx hb hts in_X7_turnsOnce_X7 hown hK.1 hP (q) h7 rfl 0 (by decide) w_0 (fun _ h9 => h9) rfl dX7_turnsOnce_5 ?_
  refine lv_sipush (v := 1024) hx hb dX7_turnsOnce_8 (by decide) ?_
  refine va_iald hx hb hK.1 hP (q + 1) 0 h8 rfl (in_s (by decide)) dX7_turnsOnce_11 ?_
  refine lv_i2l hx hb dX7_turnsOnce_12 rfl ?_
  refine lv_ldc2 hx hb hown w_1 dX7_turnsOnce_13 ?_
  refine lv_lmul hx hb dX7_turnsOnce_16 ?_
  refine lv_ldc2 hx hb hown w_2 dX7_turnsOnce_17 ?_
  refine lv_ladd hx hb dX7_turnsOnce_20 ?_
  refine lv_topl (fun y22 e23 => ?_)
  have hf := lt_s' e23 hf
  refine lv_lstore_n (lv' := [(1, .long y22), (0, .ref (A q))]) hx hb dX7_turnsOnce_21 rfl hl (by decide) rfl (fun ls hl => ?_)
  refine lv_aload_n hx hb dX7_turnsOnce_22 rfl (lv_at hl 1 rfl) ?_
  refine va_get (D := D) (ci := 7) (v := .ref (A (q + 1))) (C := RX7) (T := TX7) (N := 18) hx hb hts in_X7_turnsOnce_X7 hown hK.1 hP (q) h7 rfl 0 (by decide) w_0 (fun _ h9 => h9) rfl dX7_turnsOnce_23 ?_
  refine lv_sipush (v := 1024) hx hb dX7_turnsOnce_26 (by decide) ?_
  refine lv_lload_n hx hb dX7_turnsOnce_29 rfl (lv_at hl 0 rfl) ?_
  refine lv_ldc2 hx hb hown w_3 dX7_turnsOnce_30 ?_
  refine lv_lrem hx hb dX7_turnsOnce_33 (by decide) ?_
  refine lv_l2i hx hb dX7_turnsOnce_34 rfl ?_
  refine va_iast hx hb hK.1 hP hD hS (q + 1) 0 h8 rfl (in_s (by decide)) dX7_turnsOnce_35 (fun _ _ hP hD hS => ?_)
  obtain ⟨u24, h25, m26, hP, hD⟩ := wd_put hP hD h8
  have hsm := sm_tr hsm m26 (by omega) (by omega)
  refine lv_aload_n hx hb dX7_turnsOnce_36 rfl (lv_at hl 1 rfl) ?_
  have h27 := sm_at m26 (by omega) h7
  refine va_get (D := D) (ci := 7) (v := .ref (A (q + 1))) (C := RX7) (T := TX7) (N := 18) hx hb hts in_X7_turnsOnce_X7 hown hK.1 hP (q) h27 rfl 0 (by decide) w_0 (fun _ h9 => h9) rfl dX7_turnsOnce_37 ?_
  refine lv_sipush (v := 1024) hx hb dX7_turnsOnce_40 (by decide) ?_
  refine va_iald hx hb hK.1 hP (q + 1) 0 h25 rfl (in_s (by decide)) dX7_turnsOnce_43 ?_
  refine lv_ldc hx hb hown w_4 dX7_turnsOnce_44 ?_
  refine lv_idiv hx hb dX7_turnsOnce_46 (by decide) ?_
  refine lv_topi (fun y28 e29 => ?_)
  have hf := lt_s' e29 hf
  refine lv_istore_n (lv' := [(3, .int y28), (1, .long y22), (0, .ref (A q))]) hx hb dX7_turnsOnce_47 rfl hl (by decide) rfl (fun ls hl => ?_)
  refine lv_iconst (v := 1) hx hb dX7_turnsOnce_48 (by decide) ?_
  refine lv_istore (lv' := [(4, .int 1), (3, .int y28), (1, .long y22), (0, .ref (A q))]) hx hb dX7_turnsOnce_49 hl (by decide) rfl (fun ls hl => ?_)
  refine lv_iconst (v := 0) hx hb dX7_turnsOnce_51 (by decide) ?_
  refine lv_istore (lv' := [(5, .int 0), (4, .int 1), (3, .int y28), (1, .long y22), (0, .ref (A q))]) hx hb dX7_turnsOnce_52 hl (by decide) rfl (fun ls hl => ?_)
  have h114 := sm_at m26 (by omega) h9
  have h115 := sm_at m26 (by omega) h10
  have h116 := sm_at m26 (by omega) h11
  have h117 := sm_at m26 (by omega) h12
  have h118 := sm_at m26 (by omega) h13
  have h119 := sm_at m26 (by omega) h14
  have h120 := sm_at m26 (by omega) h15
  have h121 := sm_at m26 (by omega) h16
  have h122 := sm_at m26 (by omega) h17
  have h123 := sm_at m26 (by omega) h18
  have h124 := sm_at m26 (by omega) h19
  have h125 := sm_at m26 (by omega) h20
  have h126 := sm_at m26 (by omega) h21
  have h127 : is_Y k A u24 (q) (upd st (Int32.toNatClampNeg 1024) (Int64.toInt32 (y22 - y22 / 2147483648 * 2147483648))) r1.1 image imagePast tape laneOf sizeOf items least costs hops comes chain told r1.2 imageActs tapeMany readAt := ⟨h27, h25, h114, h115, h116, h117, h118, h119, h120, h121, h122, h123, h124, h125, h126⟩
  exact wl_X7_turnsOnce_54 l D k A ws q _ hK C0 (upd st (Int32.toNatClampNeg 1024) (Int64.toInt32 (y22 - y22 / 2147483648 * 2147483648))) r1.1 image imagePast tape laneOf sizeOf items least costs hops comes chain told r1.2 imageActs tapeMany readAt y28 fu_N 1 0 _ _ _ _ hf h127 hsm hP hD hS (lv_sub hl [4, 2, 1, 0] rfl)

theorem in_X7_drift_X7 : ∀ w ∈ u_ws RX7 TX7 18, w ∈ wsX7_drift := fun w h => List.mem_cons_of_mem _ (List.mem_append_right _ h)
def lp_X7_drift_16  (x1 : Int32) : Nat → (Nat → Int32) → (Nat → Int32) → Int32 → Int32 → Option (Int32 × (Nat → Int32) × (Nat → Int32) × Int32)
  | 0, _, _, _, _ => none
  | n + 1, st, past, acts, x2 =>
    if x1 ≤ x2 then
      (pf_X7_many st 1025 0).bind (fun r20 =>
        some (r20, st, past, acts))
    else
      (pf_X7_turnsOnce st past acts).bind (fun r23 =>
        lp_X7_drift_16 x1 n r23.1 r23.2.1 r23.2.2 (x2 + 1))

def pf_X7_drift (st : Nat → Int32) (past : Nat → Int32) (acts : Int32)  (p1 : Int32) : Option (Int32 × (Nat → Int32) × (Nat → Int32) × Int32) :=
  (pf_X7_in (Int32.toInt64 p1) 1 40).bind (fun r1 =>
    if r1 = 0 then
      some ((-1), st, past, acts)
    else
      lp_X7_drift_16 p1 fu_N st past acts 0)

set_option maxHeartbeats 4000000 in
set_option maxRecDepth 100000 in
theorem wl_X7_drift_16 {p : Program} {e : Env} {s : State} {m : MethodId} {args : Array Value} {below : List Frame} {meth : Method} {c : Code} (l : Launch) (D : va_G) (k : kt_T) (A : Nat → Nat) (ws : va_W) (q : Nat)  (out : Int32 × (Nat → Int32) × (Nat → Int32) × Int32) (hK : kk_P D k s) (C0 : cx_P p s m meth c args cX7_drift 3 wsX7_drift RX7 (some .int))  (image : Nat → Int32) (imagePast : Nat → Int32) (tape : Nat → Int32) (laneOf : Nat → Int32) (sizeOf : Nat → Int32) (items : Nat → Int64) (least : Nat → Int32) (costs : Nat → Int32) (hops : Nat → Int32) (comes : Nat → Int32) (chain : Nat → Int32) (told : Nat → Int32) (imageActs : Int32) (tapeMany : Int32) (readAt : Int32) (x1 : Int32)    : ∀ (n : Nat) (st : Nat → Int32) (past : Nat → Int32) (acts : Int32) (x2 : Int32) (w : va_W) (H : Heap) (locs : List Loc) (ls : Array Slot), lp_X7_drift_16 x1 n st past acts x2 = some out → is_Y k A w q st past image imagePast tape laneOf sizeOf items least costs hops comes chain told acts imageActs tapeMany readAt → sm_W ws w q (q + 15) → va_P D vwCl w H → va_D (va_A ws s.heap.size) w → va_S (va_A ws s.heap.size) s.heap H locs → lv_has ls 3 [(0, .ref (A q)), (1, .int x1), (2, .int x2)] → W p l e (headSpec wsX7_drift { frames := 3, cells := 0, slots := 0, locals := 70 }).room s m args below meth c H locs 0 0 (MQ below (qw_Q D ws s.heap.size (some (.int out.1)) (fun u => is_Y k A u q out.2.1 out.2.2.1 image imagePast tape laneOf sizeOf items least costs hops comes chain told out.2.2.2 imageActs tapeMany readAt ∧ sm_W ws u q (q + 15))) args s 0 0 (va_A ws s.heap.size)) (F0 m 16 ls []) := by
  obtain ⟨hx, hb, hml, hown, hts, hr, hlocks⟩ := id C0
  have hcf : CallFix p m c cX7_drift 3 s args wsX7_drift RX7 := ⟨hx, hb, hml, hown, hts⟩
  have hA : ∀ q, s.heap.size ≤ q → va_A ws s.heap.size q := fun q h => Or.inr h
  have w_1 := hts (.fieldLink RX7 7 "LeastRoutesModel" "st" "[I") (List.mem_of_getElem? (i := 2) rfl)
  intro n
  induction n with
  | zero =>
    intro st past acts x2 w H locs ls hf h_this hsm hP hD hS hl
    exact (no_s hf).elim
  | succ n ih =>
    intro st past acts x2 w H locs ls hf h_this hsm hP hD hS hl
    rw [lp_X7_drift_16] at hf
    refine lv_iload_n hx hb dX7_drift_16 rfl (lv_at hl 2 rfl) ?_
    refine lv_iload_n hx hb dX7_drift_17 rfl (lv_at hl 1 rfl) ?_
    refine lv_icmp_ge (tgt := 31) hx hb dX7_drift_18 (by decide) (fun c4 => ?_) (fun c4 => ?_)
    · have hf := it_p c4 hf
      refine lv_aload_n hx hb dX7_drift_31 rfl (lv_at hl 0 rfl) ?_
      obtain ⟨h5, h6, h7, h8, h9, h10, h11, h12, h13, h14, h15, h16, h17, h18, h19⟩ := h_this
      refine va_get (D := D) (ci := 7) (v := .ref (A (q + 1))) (C := RX7) (T := TX7) (N := 18) hx hb hts in_X7_drift_X7 hown hK.1 hP (q) h5 rfl 0 (by decide) w_1 (fun _ h9 => h9) rfl dX7_drift_32 ?_
      refine lv_iconst (v := 0) hx hb dX7_drift_35 (by decide) ?_
      obtain ⟨r20, h21, hf⟩ := bd_s hf
      refine ks_i (va_runS (As := [.ref (A (q + 1)), .int 0]) (rest := []) hcf (cz_X7_many l D k A w (q + 1) 1025 st 0 r20 h21 h6) (va_cwS 2 hts gX7_drift_X7_many rfl rfl rfl (by decide +kernel) ⟨Nat.le_of_ble_eq_true rfl, Nat.le_of_ble_eq_true rfl⟩) (pw_S hP hK hD) rfl rfl hl.1 rfl (lv_room (Nat.le_of_ble_eq_true rfl)) dX7_drift_36 ⟨Nat.zero_le _, Nat.zero_le _⟩) ?_
      obtain rfl := so_i hf
      have h22 : is_Y k A w (q) st past image imagePast tape laneOf sizeOf items least costs hops comes chain told acts imageActs tapeMany readAt := ⟨h5, h6, h7, h8, h9, h10, h11, h12, h13, h14, h15, h16, h17, h18, h19⟩
      exact W.iret (v := r20) hx hb hr (qw_end hS hP hD ⟨h22, hsm⟩) hS.2.2 dX7_drift_39
    · have hf := it_n c4 hf
      refine lv_aload_n hx hb dX7_drift_21 rfl (lv_at hl 0 rfl) ?_
      obtain ⟨r23, h24, hf⟩ := bd_s hf
      refine kw_v (va_runV (As := []) (rest := []) hcf (cz_X7_turnsOnce l D k A w (q) st past image imagePast tape laneOf sizeOf items least costs hops comes chain told acts imageActs tapeMany readAt r23 h24 h_this _) (cwV 0 hts gX7_drift_X7_turnsOnce rfl rfl rfl (by decide +kernel) ⟨Nat.le_of_ble_eq_true rfl, Nat.le_of_ble_eq_true rfl⟩) (px_V hP hK hD (ci := 7) h_this.1 rfl) rfl rfl hl.1 rfl (lv_room (Nat.le_of_ble_eq_true rfl)) dX7_drift_22 ⟨Nat.zero_le _, Nat.zero_le _⟩) hD hS hA (fun u25 _ _ h26 hP hD hS => ?_)
      obtain ⟨h28, m27⟩ := h26
      have hsm := sm_tr hsm m27 (by omega) (by omega)
      refine lv_iinc (v := (x2 + 1)) (lv' := [(2, .int (x2 + 1)), (0, .ref (A q)), (1, .int x1)]) hx hb dX7_drift_25 hl (k := 2) rfl rfl (by decide) rfl (fun ls hl => ?_)
      refine lv_goto (tgt := 16) hx hb dX7_drift_28 (by decide) ?_
      exact ih r23.1 r23.2.1 r23.2.2 (x2 + 1) _ _ _ _ hf h28 hsm hP hD hS (lv_sub hl [1, 2, 0] rfl)

set_option maxHeartbeats 4000000 in
set_option maxRecDepth 100000 in
theorem cz_X7_drift (l : Launch) (D : va_G) (k : kt_T) (A : Nat → Nat) (ws : va_W) (q : Nat)  (st : Nat → Int32) (past : Nat → Int32) (image : Nat → Int32) (imagePast : Nat → Int32) (tape : Nat → Int32) (laneOf : Nat → Int32) (sizeOf : Nat → Int32) (items : Nat → Int64) (least : Nat → Int32) (costs : Nat → Int32) (hops : Nat → Int32) (comes : Nat → Int32) (chain : Nat → Int32) (told : Nat → Int32) (acts : Int32) (imageActs : Int32) (tapeMany : Int32) (readAt : Int32) (p1 : Int32) (out : Int32 × (Nat → Int32) × (Nat → Int32) × Int32) (hf : pf_X7_drift st past acts p1 = some out) (h_this : is_Y k A ws q st past image imagePast tape laneOf sizeOf items least costs hops comes chain told acts imageActs tapeMany readAt)  (sz0 : Nat) : Met l yX7_drift wsX7_drift { frames := 3, cells := 0, slots := 0, locals := 70 } (va_Pc [.ref (A q), .int p1] (px_P D k ws sz0)) (qw_Q D ws sz0 (some (.int out.1)) (fun u => is_Y k A u q out.2.1 out.2.2.1 image imagePast tape laneOf sizeOf items least costs hops comes chain told out.2.2.2 imageActs tapeMany readAt ∧ sm_W ws u q (q + 15))) 0 0 (va_A ws sz0) := by
  refine Met.ofW (cc := cX7_drift) (maxL := 3) (ret := (some .int)) (by decide) rfl ?_
  intro p e s m args below meth c s₁ B hml hv
  obtain ⟨rfl, hsz, hP, hK, hD0⟩ := hv
  subst hsz
  have hD := hD0.self (sz := s.heap.size)
  have C0 : cx_P p s m meth c [.ref (A q), .int p1].toArray cX7_drift 3 wsX7_drift RX7 (some .int) := ⟨B.exec, B.bytes, hml, findClass_of_methodNamed B.named, atoms_spec (ws := wsX7_drift) B.pre, B.returns, B.notSynchronized⟩
  obtain ⟨hx, hb, hml, hown, hts, hr, hlocks⟩ := id C0
  have hcf : CallFix p m c cX7_drift 3 s [.ref (A q), .int p1].toArray wsX7_drift RX7 := ⟨hx, hb, hml, hown, hts⟩
  have hA : ∀ q, s.heap.size ≤ q → va_A ws s.heap.size q := fun q h => Or.inr h
  have hS : va_S (va_A ws s.heap.size) s.heap s.heap [] := va_S.rf
  have hsm : sm_W ws ws q (q + 15) := sm_rf
  have w_0 := hts (.constantLong RX7 199 (40)) (List.mem_of_getElem? (i := 1) rfl)
  have hl := lv_entry ([.ref (A q), .int p1]) (n := 3) (Nat.le_of_ble_eq_true rfl)
  rw [lg_entry_eq]
  generalize (lg_sl ([.ref (A q), .int p1]) ++ List.replicate (3 - (lg_sl ([.ref (A q), .int p1])).length) Slot.unset).toArray = ls at hl ⊢
  have hl : lv_has ls 3 [(0, .ref (A q)), (1, .int p1)] := hl
  unfold pf_X7_drift at hf
  refine lv_iload_n hx hb dX7_drift_0 rfl (lv_at hl 1 rfl) ?_
  refine lv_i2l hx hb dX7_drift_1 rfl ?_
  refine lv_lconst (v := 1) hx hb dX7_drift_2 (by decide) ?_
  refine lv_ldc2 hx hb hown w_0 dX7_drift_3 ?_
  obtain ⟨r1, h2, hf⟩ := bd_s hf
  refine ks_i (va_runS (As := [.long (Int32.toInt64 p1), .long 1, .long 40]) (rest := []) hcf (cz_X7_in l D k A ws (Int32.toInt64 p1) 1 40 r1 h2) (va_cwS 3 hts gX7_drift_X7_in rfl rfl rfl (by decide +kernel) ⟨Nat.le_of_ble_eq_true rfl, Nat.le_of_ble_eq_true rfl⟩) (pw_S hP hK hD) rfl rfl hl.1 rfl (lv_room (Nat.le_of_ble_eq_true rfl)) dX7_drift_6 ⟨Nat.zero_le _, Nat.zero_le _⟩) ?_
  refine lv_if_ne (tgt := 14) hx hb dX7_drift_9 (by decide) (fun c3 => ?_) (fun c3 => ?_)
  · have hf := it_n c3 hf
    refine lv_iconst (v := 0) hx hb dX7_drift_14 (by decide) ?_
    refine lv_istore_n (lv' := [(2, .int 0), (0, .ref (A q)), (1, .int p1)]) hx hb dX7_drift_15 rfl hl (by decide) rfl (fun ls hl => ?_)
    exact wl_X7_drift_16 l D k A ws q _ hK C0 image imagePast tape laneOf sizeOf items least costs hops comes chain told imageActs tapeMany readAt p1 fu_N st past acts 0 _ _ _ _ hf h_this hsm hP hD hS (lv_sub hl [1, 2, 0] rfl)
  · have hf := it_p c3 hf
    refine lv_iconst (v := (-1)) hx hb dX7_drift_12 (by decide) ?_
    obtain rfl := so_i hf
    exact W.iret (v := (-1)) hx hb hr (qw_end hS hP hD ⟨h_this, hsm⟩) hS.2.2 dX7_drift_13

theorem in_X7_undo_X7 : ∀ w ∈ u_ws RX7 TX7 18, w ∈ wsX7_undo := fun w h => List.mem_cons_of_mem _ (List.mem_append_right _ h)
def pf_X7_undo (st : Nat → Int32) (past : Nat → Int32) (acts : Int32)   : Option (Int32 × (Nat → Int32) × Int32) :=
  if acts = 0 then
    some ((-4), st, acts)
  else
    (pf_X7_bring past st 6150 1025 (1025 * (acts - 1)) 0 1025).bind (fun r23 =>
      some ((acts - 1), r23, (acts - 1)))

set_option maxHeartbeats 4000000 in
set_option maxRecDepth 100000 in
theorem cz_X7_undo (l : Launch) (D : va_G) (k : kt_T) (A : Nat → Nat) (ws : va_W) (q : Nat)  (st : Nat → Int32) (past : Nat → Int32) (image : Nat → Int32) (imagePast : Nat → Int32) (tape : Nat → Int32) (laneOf : Nat → Int32) (sizeOf : Nat → Int32) (items : Nat → Int64) (least : Nat → Int32) (costs : Nat → Int32) (hops : Nat → Int32) (comes : Nat → Int32) (chain : Nat → Int32) (told : Nat → Int32) (acts : Int32) (imageActs : Int32) (tapeMany : Int32) (readAt : Int32)  (out : Int32 × (Nat → Int32) × Int32) (hf : pf_X7_undo st past acts = some out) (h_this : is_Y k A ws q st past image imagePast tape laneOf sizeOf items least costs hops comes chain told acts imageActs tapeMany readAt)  (sz0 : Nat) : Met l yX7_undo wsX7_undo { frames := 1, cells := 0, slots := 0, locals := 25 } (va_Pc [.ref (A q)] (px_P D k ws sz0)) (qw_Q D ws sz0 (some (.int out.1)) (fun u => is_Y k A u q out.2.1 past image imagePast tape laneOf sizeOf items least costs hops comes chain told out.2.2 imageActs tapeMany readAt ∧ sm_W ws u q (q + 15))) 0 0 (va_A ws sz0) := by
  refine Met.ofW (cc := cX7_undo) (maxL := 1) (ret := (some .int)) (by decide) rfl ?_
  intro p e s m args below meth c s₁ B hml hv
  obtain ⟨rfl, hsz, hP, hK, hD0⟩ := hv
  subst hsz
  have hD := hD0.self (sz := s.heap.size)
  have C0 : cx_P p s m meth c [.ref (A q)].toArray cX7_undo 1 wsX7_undo RX7 (some .int) := ⟨B.exec, B.bytes, hml, findClass_of_methodNamed B.named, atoms_spec (ws := wsX7_undo) B.pre, B.returns, B.notSynchronized⟩
  obtain ⟨hx, hb, hml, hown, hts, hr, hlocks⟩ := id C0
  have hcf : CallFix p m c cX7_undo 1 s [.ref (A q)].toArray wsX7_undo RX7 := ⟨hx, hb, hml, hown, hts⟩
  have hA : ∀ q, s.heap.size ≤ q → va_A ws s.heap.size q := fun q h => Or.inr h
  have hS : va_S (va_A ws s.heap.size) s.heap s.heap [] := va_S.rf
  have hsm : sm_W ws ws q (q + 15) := sm_rf
  have w_0 := hts (.fieldLink RX7 152 "LeastRoutesModel" "acts" "I") (List.mem_of_getElem? (i := 1) rfl)
  have w_1 := hts (.fieldLink RX7 13 "LeastRoutesModel" "past" "[I") (List.mem_of_getElem? (i := 2) rfl)
  have w_2 := hts (.fieldLink RX7 7 "LeastRoutesModel" "st" "[I") (List.mem_of_getElem? (i := 3) rfl)
  have hl := lv_entry ([.ref (A q)]) (n := 1) (Nat.le_of_ble_eq_true rfl)
  rw [lg_entry_eq]
  generalize (lg_sl ([.ref (A q)]) ++ List.replicate (1 - (lg_sl ([.ref (A q)])).length) Slot.unset).toArray = ls at hl ⊢
  have hl : lv_has ls 1 [(0, .ref (A q))] := hl
  unfold pf_X7_undo at hf
  refine lv_aload_n hx hb dX7_undo_0 rfl (lv_at hl 0 rfl) ?_
  obtain ⟨h1, h2, h3, h4, h5, h6, h7, h8, h9, h10, h11, h12, h13, h14, h15⟩ := h_this
  refine va_get (D := D) (ci := 7) (v := .int acts) (C := RX7) (T := TX7) (N := 18) hx hb hts in_X7_undo_X7 hown hK.1 hP (q) h1 rfl 2 (by decide) w_0 (fun _ h9 => h9) rfl dX7_undo_1 ?_
  refine lv_if_ne (tgt := 10) hx hb dX7_undo_4 (by decide) (fun c16 => ?_) (fun c16 => ?_)
  · have hf := it_n c16 hf
    refine lv_aload_n hx hb dX7_undo_10 rfl (lv_at hl 0 rfl) ?_
    refine lv_dup hx hb dX7_undo_11 rfl ?_
    refine va_get (D := D) (ci := 7) (v := .int acts) (C := RX7) (T := TX7) (N := 18) hx hb hts in_X7_undo_X7 hown hK.1 hP (q) h1 rfl 2 (by decide) w_0 (fun _ h9 => h9) rfl dX7_undo_12 ?_
    refine lv_iconst (v := 1) hx hb dX7_undo_15 (by decide) ?_
    refine lv_isub hx hb dX7_undo_16 ?_
    refine va_put (D := D) (ci := 7) (v := .int (acts - 1)) (ty := .int) (C := RX7) (T := TX7) (N := 18) hx hb hts in_X7_undo_X7 tyX7 tyX7_ok nmX7 hown hK.1 hP hD hS (q) h1 rfl 2 (by decide) w_0 (fun _ h9 => h9) rfl (by decide +kernel) rfl rfl (Nat.le_of_ble_eq_true rfl) dX7_undo_17 (fun _ _ hP hD hS => ?_)
    obtain ⟨u17, h18, m19, hP, hD⟩ := wd_put hP hD h1
    have hsm := sm_tr hsm m19 (by omega) (by omega)
    have h20 : u17[q]? = some (A (q), .inr (7, [.ref (A (q + 1)), .ref (A (q + 2)), .int (acts - 1), .ref (A (q + 3)), .ref (A (q + 4)), .int imageActs, .ref (A (q + 5)), .int tapeMany, .ref (A (q + 6)), .ref (A (q + 7)), .ref (A (q + 8)), .ref (A (q + 9)), .ref (A (q + 10)), .ref (A (q + 11)), .ref (A (q + 12)), .ref (A (q + 13)), .ref (A (q + 14)), .int readAt])) := h18
    refine lv_aload_n hx hb dX7_undo_20 rfl (lv_at hl 0 rfl) ?_
    refine va_get (D := D) (ci := 7) (v := .ref (A (q + 2))) (C := RX7) (T := TX7) (N := 18) hx hb hts in_X7_undo_X7 hown hK.1 hP (q) h20 rfl 1 (by decide) w_1 (fun _ h9 => h9) rfl dX7_undo_21 ?_
    refine lv_sipush (v := 1025) hx hb dX7_undo_24 (by decide) ?_
    refine lv_aload_n hx hb dX7_undo_27 rfl (lv_at hl 0 rfl) ?_
    refine va_get (D := D) (ci := 7) (v := .int (acts - 1)) (C := RX7) (T := TX7) (N := 18) hx hb hts in_X7_undo_X7 hown hK.1 hP (q) h20 rfl 2 (by decide) w_0 (fun _ h9 => h9) rfl dX7_undo_28 ?_
    refine lv_imul hx hb dX7_undo_31 ?_
    refine lv_aload_n hx hb dX7_undo_32 rfl (lv_at hl 0 rfl) ?_
    refine va_get (D := D) (ci := 7) (v := .ref (A (q + 1))) (C := RX7) (T := TX7) (N := 18) hx hb hts in_X7_undo_X7 hown hK.1 hP (q) h20 rfl 0 (by decide) w_2 (fun _ h9 => h9) rfl dX7_undo_33 ?_
    refine lv_iconst (v := 0) hx hb dX7_undo_36 (by decide) ?_
    refine lv_sipush (v := 1025) hx hb dX7_undo_37 (by decide) ?_
    have h21 := sm_at m19 (by omega) h3
    have h22 := sm_at m19 (by omega) h2
    obtain ⟨r23, h24, hf⟩ := bd_s hf
    refine kw_v (va_runS (As := [.ref (A (q + 2)), .int (1025 * (acts - 1)), .ref (A (q + 1)), .int 0, .int 1025]) (rest := []) hcf (cz_X7_bring l D k A u17 (q + 2) (q + 1) 6150 1025 past st (1025 * (acts - 1)) 0 1025 r23 h24 h21 h22 (by omega) _) (va_cwS 5 hts gX7_undo_X7_bring rfl rfl rfl (by decide +kernel) ⟨Nat.le_of_ble_eq_true rfl, Nat.le_of_ble_eq_true rfl⟩) (px_S hP hK hD) rfl rfl hl.1 rfl (lv_room (Nat.le_of_ble_eq_true rfl)) dX7_undo_40 ⟨Nat.zero_le _, Nat.zero_le _⟩) hD hS hA (fun u25 _ _ h26 hP hD hS => ?_)
    obtain ⟨h28, m27⟩ := h26
    have hsm := sm_tr hsm m27 (by omega) (by omega)
    refine lv_aload_n hx hb dX7_undo_43 rfl (lv_at hl 0 rfl) ?_
    have h29 := sm_at m27 (by omega) h20
    refine va_get (D := D) (ci := 7) (v := .int (acts - 1)) (C := RX7) (T := TX7) (N := 18) hx hb hts in_X7_undo_X7 hown hK.1 hP (q) h29 rfl 2 (by decide) w_0 (fun _ h9 => h9) rfl dX7_undo_44 ?_
    obtain rfl := so_i hf
    have h30 := sm_at m27 (by omega) h21
    have h31 := sm_at m19 (by omega) h4
    have h32 := sm_at m27 (by omega) h31
    have h33 := sm_at m19 (by omega) h5
    have h34 := sm_at m27 (by omega) h33
    have h35 := sm_at m19 (by omega) h6
    have h36 := sm_at m27 (by omega) h35
    have h37 := sm_at m19 (by omega) h7
    have h38 := sm_at m27 (by omega) h37
    have h39 := sm_at m19 (by omega) h8
    have h40 := sm_at m27 (by omega) h39
    have h41 := sm_at m19 (by omega) h9
    have h42 := sm_at m27 (by omega) h41
    have h43 := sm_at m19 (by omega) h10
    have h44 := sm_at m27 (by omega) h43
    have h45 := sm_at m19 (by omega) h11
    have h46 := sm_at m27 (by omega) h45
    have h47 := sm_at m19 (by omega) h12
    have h48 := sm_at m27 (by omega) h47
    have h49 := sm_at m19 (by omega) h13
    have h50 := sm_at m27 (by omega) h49
    have h51 := sm_at m19 (by omega) h14
    have h52 := sm_at m27 (by omega) h51
    have h53 := sm_at m19 (by omega) h15
    have h54 := sm_at m27 (by omega) h53
    have h55 : is_Y k A u25 (q) r23 past image imagePast tape laneOf sizeOf items least costs hops comes chain told (acts - 1) imageActs tapeMany readAt := ⟨h29, h28, h30, h32, h34, h36, h38, h40, h42, h44, h46, h48, h50, h52, h54⟩
    exact W.iret (v := (acts - 1)) hx hb hr (qw_end hS hP hD ⟨h55, hsm⟩) hS.2.2 dX7_undo_47
  · have hf := it_p c16 hf
    refine lv_bipush (v := (-4)) hx hb dX7_undo_7 (by decide) ?_
    obtain rfl := so_i hf
    have h56 : is_Y k A ws (q) st past image imagePast tape laneOf sizeOf items least costs hops comes chain told acts imageActs tapeMany readAt := ⟨h1, h2, h3, h4, h5, h6, h7, h8, h9, h10, h11, h12, h13, h14, h15⟩
    exact W.iret (v := (-4)) hx hb hr (qw_end hS hP hD ⟨h56, hsm⟩) hS.2.2 dX7_undo_9

theorem in_X7_seed_X7 : ∀ w ∈ u_ws RX7 TX7 18, w ∈ wsX7_seed := fun w h => List.mem_cons_of_mem _ (List.mem_append_right _ h)
def pf_X7_seed (st : Nat → Int32)  (p1 : Int32) : Option (Int32 × (Nat → Int32)) :=
  if 0 ≤ p1 then
    lt_O (st (Int32.toNatClampNeg 1024)) (fun y17 =>
      some (y17, (upd st (Int32.toNatClampNeg 1024) p1)))
  else
    some ((-1), st)

set_option maxHeartbeats 4000000 in
set_option maxRecDepth 100000 in
theorem cz_X7_seed (l : Launch) (D : va_G) (k : kt_T) (A : Nat → Nat) (ws : va_W) (q : Nat)  (st : Nat → Int32) (past : Nat → Int32) (image : Nat → Int32) (imagePast : Nat → Int32) (tape : Nat → Int32) (laneOf : Nat → Int32) (sizeOf : Nat → Int32) (items : Nat → Int64) (least : Nat → Int32) (costs : Nat → Int32) (hops : Nat → Int32) (comes : Nat → Int32) (chain : Nat → Int32) (told : Nat → Int32) (acts : Int32) (imageActs : Int32) (tapeMany : Int32) (readAt : Int32) (p1 : Int32) (out : Int32 × (Nat → Int32)) (hf : pf_X7_seed st p1 = some out) (h_this : is_Y k A ws q st past image imagePast tape laneOf sizeOf items least costs hops comes chain told acts imageActs tapeMany readAt)  (sz0 : Nat) : Met l yX7_seed wsX7_seed { frames := 0, cells := 0, slots := 0, locals := 0 } (va_Pc [.ref (A q), .int p1] (px_P D k ws sz0)) (qw_Q D ws sz0 (some (.int out.1)) (fun u => is_Y k A u q out.2 past image imagePast tape laneOf sizeOf items least costs hops comes chain told acts imageActs tapeMany readAt ∧ sm_W ws u q (q + 15))) 0 0 (va_A ws sz0) := by
  refine Met.ofW (cc := cX7_seed) (maxL := 3) (ret := (some .int)) (by decide) rfl ?_
  intro p e s m args below meth c s₁ B hml hv
  obtain ⟨rfl, hsz, hP, hK, hD0⟩ := hv
  subst hsz
  have hD := hD0.self (sz := s.heap.size)
  have C0 : cx_P p s m meth c [.ref (A q), .int p1].toArray cX7_seed 3 wsX7_seed RX7 (some .int) := ⟨B.exec, B.bytes, hml, findClass_of_methodNamed B.named, atoms_spec (ws := wsX7_seed) B.pre, B.returns, B.notSynchronized⟩
  obtain ⟨hx, hb, hml, hown, hts, hr, hlocks⟩ := id C0
  have hcf : CallFix p m c cX7_seed 3 s [.ref (A q), .int p1].toArray wsX7_seed RX7 := ⟨hx, hb, hml, hown, hts⟩
  have hA : ∀ q, s.heap.size ≤ q → va_A ws s.heap.size q := fun q h => Or.inr h
  have hS : va_S (va_A ws s.heap.size) s.heap s.heap [] := va_S.rf
  have hsm : sm_W ws ws q (q + 15) := sm_rf
  have w_0 := hts (.fieldLink RX7 7 "LeastRoutesModel" "st" "[I") (List.mem_of_getElem? (i := 1) rfl)
  have hl := lv_entry ([.ref (A q), .int p1]) (n := 3) (Nat.le_of_ble_eq_true rfl)
  rw [lg_entry_eq]
  generalize (lg_sl ([.ref (A q), .int p1]) ++ List.replicate (3 - (lg_sl ([.ref (A q), .int p1])).length) Slot.unset).toArray = ls at hl ⊢
  have hl : lv_has ls 3 [(0, .ref (A q)), (1, .int p1)] := hl
  unfold pf_X7_seed at hf
  refine lv_iload_n hx hb dX7_seed_0 rfl (lv_at hl 1 rfl) ?_
  refine lv_if_ge (tgt := 6) hx hb dX7_seed_1 (by decide) (fun c1 => ?_) (fun c1 => ?_)
  · have hf := it_p c1 hf
    refine lv_aload_n hx hb dX7_seed_6 rfl (lv_at hl 0 rfl) ?_
    obtain ⟨h2, h3, h4, h5, h6, h7, h8, h9, h10, h11, h12, h13, h14, h15, h16⟩ := h_this
    refine va_get (D := D) (ci := 7) (v := .ref (A (q + 1))) (C := RX7) (T := TX7) (N := 18) hx hb hts in_X7_seed_X7 hown hK.1 hP (q) h2 rfl 0 (by decide) w_0 (fun _ h9 => h9) rfl dX7_seed_7 ?_
    refine lv_sipush (v := 1024) hx hb dX7_seed_10 (by decide) ?_
    refine va_iald hx hb hK.1 hP (q + 1) 0 h3 rfl (in_s (by decide)) dX7_seed_13 ?_
    refine lv_topi (fun y17 e18 => ?_)
    have hf := lt_s' e18 hf
    refine lv_istore_n (lv' := [(2, .int y17), (0, .ref (A q)), (1, .int p1)]) hx hb dX7_seed_14 rfl hl (by decide) rfl (fun ls hl => ?_)
    refine lv_aload_n hx hb dX7_seed_15 rfl (lv_at hl 1 rfl) ?_
    refine va_get (D := D) (ci := 7) (v := .ref (A (q + 1))) (C := RX7) (T := TX7) (N := 18) hx hb hts in_X7_seed_X7 hown hK.1 hP (q) h2 rfl 0 (by decide) w_0 (fun _ h9 => h9) rfl dX7_seed_16 ?_
    refine lv_sipush (v := 1024) hx hb dX7_seed_19 (by decide) ?_
    refine lv_iload_n hx hb dX7_seed_22 rfl (lv_at hl 2 rfl) ?_
    refine va_iast hx hb hK.1 hP hD hS (q + 1) 0 h3 rfl (in_s (by decide)) dX7_seed_23 (fun _ _ hP hD hS => ?_)
    obtain ⟨u19, h20, m21, hP, hD⟩ := wd_put hP hD h3
    have hsm := sm_tr hsm m21 (by omega) (by omega)
    refine lv_iload_n hx hb dX7_seed_24 rfl (lv_at hl 0 rfl) ?_
    obtain rfl := so_i hf
    have h22 := sm_at m21 (by omega) h2
    have h23 := sm_at m21 (by omega) h4
    have h24 := sm_at m21 (by omega) h5
    have h25 := sm_at m21 (by omega) h6
    have h26 := sm_at m21 (by omega) h7
    have h27 := sm_at m21 (by omega) h8
    have h28 := sm_at m21 (by omega) h9
    have h29 := sm_at m21 (by omega) h10
    have h30 := sm_at m21 (by omega) h11
    have h31 := sm_at m21 (by omega) h12
    have h32 := sm_at m21 (by omega) h13
    have h33 := sm_at m21 (by omega) h14
    have h34 := sm_at m21 (by omega) h15
    have h35 := sm_at m21 (by omega) h16
    have h36 : is_Y k A u19 (q) (upd st (Int32.toNatClampNeg 1024) p1) past image imagePast tape laneOf sizeOf items least costs hops comes chain told acts imageActs tapeMany readAt := ⟨h22, h20, h23, h24, h25, h26, h27, h28, h29, h30, h31, h32, h33, h34, h35⟩
    exact W.iret (v := y17) hx hb hr (qw_end hS hP hD ⟨h36, hsm⟩) hS.2.2 dX7_seed_25
  · have hf := it_n c1 hf
    refine lv_iconst (v := (-1)) hx hb dX7_seed_4 (by decide) ?_
    obtain rfl := so_i hf
    exact W.iret (v := (-1)) hx hb hr (qw_end hS hP hD ⟨h_this, hsm⟩) hS.2.2 dX7_seed_5

theorem in_X7_image_X7 : ∀ w ∈ u_ws RX7 TX7 18, w ∈ wsX7_image := fun w h => List.mem_cons_of_mem _ (List.mem_append_right _ h)
def pf_X7_image (st : Nat → Int32) (past : Nat → Int32) (image : Nat → Int32) (imagePast : Nat → Int32) (acts : Int32) (imageActs : Int32)   : Option (Int32 × (Nat → Int32) × (Nat → Int32) × Int32) :=
  (pf_X7_bring st image 1025 1025 0 0 1025).bind (fun r16 =>
    (pf_X7_bring past imagePast 6150 6150 0 0 6150).bind (fun r25 =>
      some (1, r16, r25, acts)))

set_option maxHeartbeats 4000000 in
set_option maxRecDepth 100000 in
theorem cz_X7_image (l : Launch) (D : va_G) (k : kt_T) (A : Nat → Nat) (ws : va_W) (q : Nat)  (st : Nat → Int32) (past : Nat → Int32) (image : Nat → Int32) (imagePast : Nat → Int32) (tape : Nat → Int32) (laneOf : Nat → Int32) (sizeOf : Nat → Int32) (items : Nat → Int64) (least : Nat → Int32) (costs : Nat → Int32) (hops : Nat → Int32) (comes : Nat → Int32) (chain : Nat → Int32) (told : Nat → Int32) (acts : Int32) (imageActs : Int32) (tapeMany : Int32) (readAt : Int32)  (out : Int32 × (Nat → Int32) × (Nat → Int32) × Int32) (hf : pf_X7_image st past image imagePast acts imageActs = some out) (h_this : is_Y k A ws q st past image imagePast tape laneOf sizeOf items least costs hops comes chain told acts imageActs tapeMany readAt)  (sz0 : Nat) : Met l yX7_image wsX7_image { frames := 1, cells := 0, slots := 0, locals := 25 } (va_Pc [.ref (A q)] (px_P D k ws sz0)) (qw_Q D ws sz0 (some (.int out.1)) (fun u => is_Y k A u q st past out.2.1 out.2.2.1 tape laneOf sizeOf items least costs hops comes chain told acts out.2.2.2 tapeMany readAt ∧ sm_W ws u q (q + 15))) 0 0 (va_A ws sz0) := by
  refine Met.ofW (cc := cX7_image) (maxL := 1) (ret := (some .int)) (by decide) rfl ?_
  intro p e s m args below meth c s₁ B hml hv
  obtain ⟨rfl, hsz, hP, hK, hD0⟩ := hv
  subst hsz
  have hD := hD0.self (sz := s.heap.size)
  have C0 : cx_P p s m meth c [.ref (A q)].toArray cX7_image 1 wsX7_image RX7 (some .int) := ⟨B.exec, B.bytes, hml, findClass_of_methodNamed B.named, atoms_spec (ws := wsX7_image) B.pre, B.returns, B.notSynchronized⟩
  obtain ⟨hx, hb, hml, hown, hts, hr, hlocks⟩ := id C0
  have hcf : CallFix p m c cX7_image 1 s [.ref (A q)].toArray wsX7_image RX7 := ⟨hx, hb, hml, hown, hts⟩
  have hA : ∀ q, s.heap.size ≤ q → va_A ws s.heap.size q := fun q h => Or.inr h
  have hS : va_S (va_A ws s.heap.size) s.heap s.heap [] := va_S.rf
  have hsm : sm_W ws ws q (q + 15) := sm_rf
  have w_0 := hts (.fieldLink RX7 7 "LeastRoutesModel" "st" "[I") (List.mem_of_getElem? (i := 1) rfl)
  have w_1 := hts (.fieldLink RX7 16 "LeastRoutesModel" "image" "[I") (List.mem_of_getElem? (i := 2) rfl)
  have w_2 := hts (.fieldLink RX7 13 "LeastRoutesModel" "past" "[I") (List.mem_of_getElem? (i := 3) rfl)
  have w_3 := hts (.fieldLink RX7 19 "LeastRoutesModel" "imagePast" "[I") (List.mem_of_getElem? (i := 4) rfl)
  have w_4 := hts (.fieldLink RX7 152 "LeastRoutesModel" "acts" "I") (List.mem_of_getElem? (i := 5) rfl)
  have w_5 := hts (.fieldLink RX7 22 "LeastRoutesModel" "imageActs" "I") (List.mem_of_getElem? (i := 6) rfl)
  have hl := lv_entry ([.ref (A q)]) (n := 1) (Nat.le_of_ble_eq_true rfl)
  rw [lg_entry_eq]
  generalize (lg_sl ([.ref (A q)]) ++ List.replicate (1 - (lg_sl ([.ref (A q)])).length) Slot.unset).toArray = ls at hl ⊢
  have hl : lv_has ls 1 [(0, .ref (A q))] := hl
  unfold pf_X7_image at hf
  refine lv_aload_n hx hb dX7_image_0 rfl (lv_at hl 0 rfl) ?_
  obtain ⟨h1, h2, h3, h4, h5, h6, h7, h8, h9, h10, h11, h12, h13, h14, h15⟩ := h_this
  refine va_get (D := D) (ci := 7) (v := .ref (A (q + 1))) (C := RX7) (T := TX7) (N := 18) hx hb hts in_X7_image_X7 hown hK.1 hP (q) h1 rfl 0 (by decide) w_0 (fun _ h9 => h9) rfl dX7_image_1 ?_
  refine lv_iconst (v := 0) hx hb dX7_image_4 (by decide) ?_
  refine lv_aload_n hx hb dX7_image_5 rfl (lv_at hl 0 rfl) ?_
  refine va_get (D := D) (ci := 7) (v := .ref (A (q + 3))) (C := RX7) (T := TX7) (N := 18) hx hb hts in_X7_image_X7 hown hK.1 hP (q) h1 rfl 3 (by decide) w_1 (fun _ h9 => h9) rfl dX7_image_6 ?_
  refine lv_iconst (v := 0) hx hb dX7_image_9 (by decide) ?_
  refine lv_sipush (v := 1025) hx hb dX7_image_10 (by decide) ?_
  obtain ⟨r16, h17, hf⟩ := bd_s hf
  refine kw_v (va_runS (As := [.ref (A (q + 1)), .int 0, .ref (A (q + 3)), .int 0, .int 1025]) (rest := []) hcf (cz_X7_bring l D k A ws (q + 1) (q + 3) 1025 1025 st image 0 0 1025 r16 h17 h2 h4 (by omega) _) (va_cwS 5 hts gX7_image_X7_bring rfl rfl rfl (by decide +kernel) ⟨Nat.le_of_ble_eq_true rfl, Nat.le_of_ble_eq_true rfl⟩) (px_S hP hK hD) rfl rfl hl.1 rfl (lv_room (Nat.le_of_ble_eq_true rfl)) dX7_image_13 ⟨Nat.zero_le _, Nat.zero_le _⟩) hD hS hA (fun u18 _ _ h19 hP hD hS => ?_)
  obtain ⟨h21, m20⟩ := h19
  have hsm := sm_tr hsm m20 (by omega) (by omega)
  refine lv_aload_n hx hb dX7_image_16 rfl (lv_at hl 0 rfl) ?_
  have h22 := sm_at m20 (by omega) h1
  refine va_get (D := D) (ci := 7) (v := .ref (A (q + 2))) (C := RX7) (T := TX7) (N := 18) hx hb hts in_X7_image_X7 hown hK.1 hP (q) h22 rfl 1 (by decide) w_2 (fun _ h9 => h9) rfl dX7_image_17 ?_
  refine lv_iconst (v := 0) hx hb dX7_image_20 (by decide) ?_
  refine lv_aload_n hx hb dX7_image_21 rfl (lv_at hl 0 rfl) ?_
  refine va_get (D := D) (ci := 7) (v := .ref (A (q + 4))) (C := RX7) (T := TX7) (N := 18) hx hb hts in_X7_image_X7 hown hK.1 hP (q) h22 rfl 4 (by decide) w_3 (fun _ h9 => h9) rfl dX7_image_22 ?_
  refine lv_iconst (v := 0) hx hb dX7_image_25 (by decide) ?_
  refine lv_sipush (v := 6150) hx hb dX7_image_26 (by decide) ?_
  have h23 := sm_at m20 (by omega) h3
  have h24 := sm_at m20 (by omega) h5
  obtain ⟨r25, h26, hf⟩ := bd_s hf
  refine kw_v (va_runS (As := [.ref (A (q + 2)), .int 0, .ref (A (q + 4)), .int 0, .int 6150]) (rest := []) hcf (cz_X7_bring l D k A u18 (q + 2) (q + 4) 6150 6150 past imagePast 0 0 6150 r25 h26 h23 h24 (by omega) _) (va_cwS 5 hts gX7_image_X7_bring rfl rfl rfl (by decide +kernel) ⟨Nat.le_of_ble_eq_true rfl, Nat.le_of_ble_eq_true rfl⟩) (px_S hP hK hD) rfl rfl hl.1 rfl (lv_room (Nat.le_of_ble_eq_true rfl)) dX7_image_29 ⟨Nat.zero_le _, Nat.zero_le _⟩) hD hS hA (fun u27 _ _ h28 hP hD hS => ?_)
  obtain ⟨h30, m29⟩ := h28
  have hsm := sm_tr hsm m29 (by omega) (by omega)
  refine lv_aload_n hx hb dX7_image_32 rfl (lv_at hl 0 rfl) ?_
  refine lv_aload_n hx hb dX7_image_33 rfl (lv_at hl 0 rfl) ?_
  have h31 := sm_at m29 (by omega) h22
  refine va_get (D := D) (ci := 7) (v := .int acts) (C := RX7) (T := TX7) (N := 18) hx hb hts in_X7_image_X7 hown hK.1 hP (q) h31 rfl 2 (by decide) w_4 (fun _ h9 => h9) rfl dX7_image_34 ?_
  refine va_put (D := D) (ci := 7) (v := .int acts) (ty := .int) (C := RX7) (T := TX7) (N := 18) hx hb hts in_X7_image_X7 tyX7 tyX7_ok nmX7 hown hK.1 hP hD hS (q) h31 rfl 5 (by decide) w_5 (fun _ h9 => h9) rfl (by decide +kernel) rfl rfl (Nat.le_of_ble_eq_true rfl) dX7_image_37 (fun _ _ hP hD hS => ?_)
  obtain ⟨u32, h33, m34, hP, hD⟩ := wd_put hP hD h31
  have hsm := sm_tr hsm m34 (by omega) (by omega)
  have h35 : u32[q]? = some (A (q), .inr (7, [.ref (A (q + 1)), .ref (A (q + 2)), .int acts, .ref (A (q + 3)), .ref (A (q + 4)), .int acts, .ref (A (q + 5)), .int tapeMany, .ref (A (q + 6)), .ref (A (q + 7)), .ref (A (q + 8)), .ref (A (q + 9)), .ref (A (q + 10)), .ref (A (q + 11)), .ref (A (q + 12)), .ref (A (q + 13)), .ref (A (q + 14)), .int readAt])) := h33
  refine lv_iconst (v := 1) hx hb dX7_image_40 (by decide) ?_
  obtain rfl := so_i hf
  have h36 := sm_at m20 (by omega) h2
  have h37 := sm_at m29 (by omega) h36
  have h38 := sm_at m34 (by omega) h37
  have h39 := sm_at m29 (by omega) h23
  have h40 := sm_at m34 (by omega) h39
  have h41 := sm_at m29 (by omega) h21
  have h42 := sm_at m34 (by omega) h41
  have h43 := sm_at m34 (by omega) h30
  have h44 := sm_at m20 (by omega) h6
  have h45 := sm_at m29 (by omega) h44
  have h46 := sm_at m34 (by omega) h45
  have h47 := sm_at m20 (by omega) h7
  have h48 := sm_at m29 (by omega) h47
  have h49 := sm_at m34 (by omega) h48
  have h50 := sm_at m20 (by omega) h8
  have h51 := sm_at m29 (by omega) h50
  have h52 := sm_at m34 (by omega) h51
  have h53 := sm_at m20 (by omega) h9
  have h54 := sm_at m29 (by omega) h53
  have h55 := sm_at m34 (by omega) h54
  have h56 := sm_at m20 (by omega) h10
  have h57 := sm_at m29 (by omega) h56
  have h58 := sm_at m34 (by omega) h57
  have h59 := sm_at m20 (by omega) h11
  have h60 := sm_at m29 (by omega) h59
  have h61 := sm_at m34 (by omega) h60
  have h62 := sm_at m20 (by omega) h12
  have h63 := sm_at m29 (by omega) h62
  have h64 := sm_at m34 (by omega) h63
  have h65 := sm_at m20 (by omega) h13
  have h66 := sm_at m29 (by omega) h65
  have h67 := sm_at m34 (by omega) h66
  have h68 := sm_at m20 (by omega) h14
  have h69 := sm_at m29 (by omega) h68
  have h70 := sm_at m34 (by omega) h69
  have h71 := sm_at m20 (by omega) h15
  have h72 := sm_at m29 (by omega) h71
  have h73 := sm_at m34 (by omega) h72
  have h74 : is_Y k A u32 (q) st past r16 r25 tape laneOf sizeOf items least costs hops comes chain told acts acts tapeMany readAt := ⟨h35, h38, h40, h42, h43, h46, h49, h52, h55, h58, h61, h64, h67, h70, h73⟩
  exact W.iret (v := 1) hx hb hr (qw_end hS hP hD ⟨h74, hsm⟩) hS.2.2 dX7_image_41

theorem in_X7_restore_X7 : ∀ w ∈ u_ws RX7 TX7 18, w ∈ wsX7_restore := fun w h => List.mem_cons_of_mem _ (List.mem_append_right _ h)
def pf_X7_restore (st : Nat → Int32) (past : Nat → Int32) (image : Nat → Int32) (imagePast : Nat → Int32) (acts : Int32) (imageActs : Int32)   : Option (Int32 × (Nat → Int32) × (Nat → Int32) × Int32) :=
  if 0 ≤ imageActs then
    (pf_X7_bring image st 1025 1025 0 0 1025).bind (fun r17 =>
      (pf_X7_bring imagePast past 6150 6150 0 0 6150).bind (fun r26 =>
        some (1, r17, r26, imageActs)))
  else
    some ((-4), st, past, acts)

set_option maxHeartbeats 4000000 in
set_option maxRecDepth 100000 in
theorem cz_X7_restore (l : Launch) (D : va_G) (k : kt_T) (A : Nat → Nat) (ws : va_W) (q : Nat)  (st : Nat → Int32) (past : Nat → Int32) (image : Nat → Int32) (imagePast : Nat → Int32) (tape : Nat → Int32) (laneOf : Nat → Int32) (sizeOf : Nat → Int32) (items : Nat → Int64) (least : Nat → Int32) (costs : Nat → Int32) (hops : Nat → Int32) (comes : Nat → Int32) (chain : Nat → Int32) (told : Nat → Int32) (acts : Int32) (imageActs : Int32) (tapeMany : Int32) (readAt : Int32)  (out : Int32 × (Nat → Int32) × (Nat → Int32) × Int32) (hf : pf_X7_restore st past image imagePast acts imageActs = some out) (h_this : is_Y k A ws q st past image imagePast tape laneOf sizeOf items least costs hops comes chain told acts imageActs tapeMany readAt)  (sz0 : Nat) : Met l yX7_restore wsX7_restore { frames := 1, cells := 0, slots := 0, locals := 25 } (va_Pc [.ref (A q)] (px_P D k ws sz0)) (qw_Q D ws sz0 (some (.int out.1)) (fun u => is_Y k A u q out.2.1 out.2.2.1 image imagePast tape laneOf sizeOf items least costs hops comes chain told out.2.2.2 imageActs tapeMany readAt ∧ sm_W ws u q (q + 15))) 0 0 (va_A ws sz0) := by
  refine Met.ofW (cc := cX7_restore) (maxL := 1) (ret := (some .int)) (by decide) rfl ?_
  intro p e s m args below meth c s₁ B hml hv
  obtain ⟨rfl, hsz, hP, hK, hD0⟩ := hv
  subst hsz
  have hD := hD0.self (sz := s.heap.size)
  have C0 : cx_P p s m meth c [.ref (A q)].toArray cX7_restore 1 wsX7_restore RX7 (some .int) := ⟨B.exec, B.bytes, hml, findClass_of_methodNamed B.named, atoms_spec (ws := wsX7_restore) B.pre, B.returns, B.notSynchronized⟩
  obtain ⟨hx, hb, hml, hown, hts, hr, hlocks⟩ := id C0
  have hcf : CallFix p m c cX7_restore 1 s [.ref (A q)].toArray wsX7_restore RX7 := ⟨hx, hb, hml, hown, hts⟩
  have hA : ∀ q, s.heap.size ≤ q → va_A ws s.heap.size q := fun q h => Or.inr h
  have hS : va_S (va_A ws s.heap.size) s.heap s.heap [] := va_S.rf
  have hsm : sm_W ws ws q (q + 15) := sm_rf
  have w_0 := hts (.fieldLink RX7 22 "LeastRoutesModel" "imageActs" "I") (List.mem_of_getElem? (i := 1) rfl)
  have w_1 := hts (.fieldLink RX7 16 "LeastRoutesModel" "image" "[I") (List.mem_of_getElem? (i := 2) rfl)
  have w_2 := hts (.fieldLink RX7 7 "LeastRoutesModel" "st" "[I") (List.mem_of_getElem? (i := 3) rfl)
  have w_3 := hts (.fieldLink RX7 19 "LeastRoutesModel" "imagePast" "[I") (List.mem_of_getElem? (i := 4) rfl)
  have w_4 := hts (.fieldLink RX7 13 "LeastRoutesModel" "past" "[I") (List.mem_of_getElem? (i := 5) rfl)
  have w_5 := hts (.fieldLink RX7 152 "LeastRoutesModel" "acts" "I") (List.mem_of_getElem? (i := 6) rfl)
  have hl := lv_entry ([.ref (A q)]) (n := 1) (Nat.le_of_ble_eq_true rfl)
  rw [lg_entry_eq]
  generalize (lg_sl ([.ref (A q)]) ++ List.replicate (1 - (lg_sl ([.ref (A q)])).length) Slot.unset).toArray = ls at hl ⊢
  have hl : lv_has ls 1 [(0, .ref (A q))] := hl
  unfold pf_X7_restore at hf
  refine lv_aload_n hx hb dX7_restore_0 rfl (lv_at hl 0 rfl) ?_
  obtain ⟨h1, h2, h3, h4, h5, h6, h7, h8, h9, h10, h11, h12, h13, h14, h15⟩ := h_this
  refine va_get (D := D) (ci := 7) (v := .int imageActs) (C := RX7) (T := TX7) (N := 18) hx hb hts in_X7_restore_X7 hown hK.1 hP (q) h1 rfl 5 (by decide) w_0 (fun _ h9 => h9) rfl dX7_restore_1 ?_
  refine lv_if_ge (tgt := 10) hx hb dX7_restore_4 (by decide) (fun c16 => ?_) (fun c16 => ?_)
  · have hf := it_p c16 hf
    refine lv_aload_n hx hb dX7_restore_10 rfl (lv_at hl 0 rfl) ?_
    refine va_get (D := D) (ci := 7) (v := .ref (A (q + 3))) (C := RX7) (T := TX7) (N := 18) hx hb hts in_X7_restore_X7 hown hK.1 hP (q) h1 rfl 3 (by decide) w_1 (fun _ h9 => h9) rfl dX7_restore_11 ?_
    refine lv_iconst (v := 0) hx hb dX7_restore_14 (by decide) ?_
    refine lv_aload_n hx hb dX7_restore_15 rfl (lv_at hl 0 rfl) ?_
    refine va_get (D := D) (ci := 7) (v := .ref (A (q + 1))) (C := RX7) (T := TX7) (N := 18) hx hb hts in_X7_restore_X7 hown hK.1 hP (q) h1 rfl 0 (by decide) w_2 (fun _ h9 => h9) rfl dX7_restore_16 ?_
    refine lv_iconst (v := 0) hx hb dX7_restore_19 (by decide) ?_
    refine lv_sipush (v := 1025) hx hb dX7_restore_20 (by decide) ?_
    obtain ⟨r17, h18, hf⟩ := bd_s hf
    refine kw_v (va_runS (As := [.ref (A (q + 3)), .int 0, .ref (A (q + 1)), .int 0, .int 1025]) (rest := []) hcf (cz_X7_bring l D k A ws (q + 3) (q + 1) 1025 1025 image st 0 0 1025 r17 h18 h4 h2 (by omega) _) (va_cwS 5 hts gX7_restore_X7_bring rfl rfl rfl (by decide +kernel) ⟨Nat.le_of_ble_eq_true rfl, Nat.le_of_ble_eq_true rfl⟩) (px_S hP hK hD) rfl rfl hl.1 rfl (lv_room (Nat.le_of_ble_eq_true rfl)) dX7_restore_23 ⟨Nat.zero_le _, Nat.zero_le _⟩) hD hS hA (fun u19 _ _ h20 hP hD hS => ?_)
    obtain ⟨h22, m21⟩ := h20
    have hsm := sm_tr hsm m21 (by omega) (by omega)
    refine lv_aload_n hx hb dX7_restore_26 rfl (lv_at hl 0 rfl) ?_
    have h23 := sm_at m21 (by omega) h1
    refine va_get (D := D) (ci := 7) (v := .ref (A (q + 4))) (C := RX7) (T := TX7) (N := 18) hx hb hts in_X7_restore_X7 hown hK.1 hP (q) h23 rfl 4 (by decide) w_3 (fun _ h9 => h9) rfl dX7_restore_27 ?_
    refine lv_iconst (v := 0) hx hb dX7_restore_30 (by decide) ?_
    refine lv_aload_n hx hb dX7_restore_31 rfl (lv_at hl 0 rfl) ?_
    refine va_get (D := D) (ci := 7) (v := .ref (A (q + 2))) (C := RX7) (T := TX7) (N := 18) hx hb hts in_X7_restore_X7 hown hK.1 hP (q) h23 rfl 1 (by decide) w_4 (fun _ h9 => h9) rfl dX7_restore_32 ?_
    refine lv_iconst (v := 0) hx hb dX7_restore_35 (by decide) ?_
    refine lv_sipush (v := 6150) hx hb dX7_restore_36 (by decide) ?_
    have h24 := sm_at m21 (by omega) h5
    have h25 := sm_at m21 (by omega) h3
    obtain ⟨r26, h27, hf⟩ := bd_s hf
    refine kw_v (va_runS (As := [.ref (A (q + 4)), .int 0, .ref (A (q + 2)), .int 0, .int 6150]) (rest := []) hcf (cz_X7_bring l D k A u19 (q + 4) (q + 2) 6150 6150 imagePast past 0 0 6150 r26 h27 h24 h25 (by omega) _) (va_cwS 5 hts gX7_restore_X7_bring rfl rfl rfl (by decide +kernel) ⟨Nat.le_of_ble_eq_true rfl, Nat.le_of_ble_eq_true rfl⟩) (px_S hP hK hD) rfl rfl hl.1 rfl (lv_room (Nat.le_of_ble_eq_true rfl)) dX7_restore_39 ⟨Nat.zero_le _, Nat.zero_le _⟩) hD hS hA (fun u28 _ _ h29 hP hD hS => ?_)
    obtain ⟨h31, m30⟩ := h29
    have hsm := sm_tr hsm m30 (by omega) (by omega)
    refine lv_aload_n hx hb dX7_restore_42 rfl (lv_at hl 0 rfl) ?_
    refine lv_aload_n hx hb dX7_restore_43 rfl (lv_at hl 0 rfl) ?_
    have h32 := sm_at m30 (by omega) h23
    refine va_get (D := D) (ci := 7) (v := .int imageActs) (C := RX7) (T := TX7) (N := 18) hx hb hts in_X7_restore_X7 hown hK.1 hP (q) h32 rfl 5 (by decide) w_0 (fun _ h9 => h9) rfl dX7_restore_44 ?_
    refine va_put (D := D) (ci := 7) (v := .int imageActs) (ty := .int) (C := RX7) (T := TX7) (N := 18) hx hb hts in_X7_restore_X7 tyX7 tyX7_ok nmX7 hown hK.1 hP hD hS (q) h32 rfl 2 (by decide) w_5 (fun _ h9 => h9) rfl (by decide +kernel) rfl rfl (Nat.le_of_ble_eq_true rfl) dX7_restore_47 (fun _ _ hP hD hS => ?_)
    obtain ⟨u33, h34, m35, hP, hD⟩ := wd_put hP hD h32
    have hsm := sm_tr hsm m35 (by omega) (by omega)
    have h36 : u33[q]? = some (A (q), .inr (7, [.ref (A (q + 1)), .ref (A (q + 2)), .int imageActs, .ref (A (q + 3)), .ref (A (q + 4)), .int imageActs, .ref (A (q + 5)), .int tapeMany, .ref (A (q + 6)), .ref (A (q + 7)), .ref (A (q + 8)), .ref (A (q + 9)), .ref (A (q + 10)), .ref (A (q + 11)), .ref (A (q + 12)), .ref (A (q + 13)), .ref (A (q + 14)), .int readAt])) := h34
    refine lv_iconst (v := 1) hx hb dX7_restore_50 (by decide) ?_
    obtain rfl := so_i hf
    have h37 := sm_at m30 (by omega) h22
    have h38 := sm_at m35 (by omega) h37
    have h39 := sm_at m35 (by omega) h31
    have h40 := sm_at m21 (by omega) h4
    have h41 := sm_at m30 (by omega) h40
    have h42 := sm_at m35 (by omega) h41
    have h43 := sm_at m30 (by omega) h24
    have h44 := sm_at m35 (by omega) h43
    have h45 := sm_at m21 (by omega) h6
    have h46 := sm_at m30 (by omega) h45
    have h47 := sm_at m35 (by omega) h46
    have h48 := sm_at m21 (by omega) h7
    have h49 := sm_at m30 (by omega) h48
    have h50 := sm_at m35 (by omega) h49
    have h51 := sm_at m21 (by omega) h8
    have h52 := sm_at m30 (by omega) h51
    have h53 := sm_at m35 (by omega) h52
    have h54 := sm_at m21 (by omega) h9
    have h55 := sm_at m30 (by omega) h54
    have h56 := sm_at m35 (by omega) h55
    have h57 := sm_at m21 (by omega) h10
    have h58 := sm_at m30 (by omega) h57
    have h59 := sm_at m35 (by omega) h58
    have h60 := sm_at m21 (by omega) h11
    have h61 := sm_at m30 (by omega) h60
    have h62 := sm_at m35 (by omega) h61
    have h63 := sm_at m21 (by omega) h12
    have h64 := sm_at m30 (by omega) h63
    have h65 := sm_at m35 (by omega) h64
    have h66 := sm_at m21 (by omega) h13
    have h67 := sm_at m30 (by omega) h66
    have h68 := sm_at m35 (by omega) h67
    have h69 := sm_at m21 (by omega) h14
    have h70 := sm_at m30 (by omega) h69
    have h71 := sm_at m35 (by omega) h70
    have h72 := sm_at m21 (by omega) h15
    have h73 := sm_at m30 (by omega) h72
    have h74 := sm_at m35 (by omega) h73
    have h75 : is_Y k A u33 (q) r17 r26 image imagePast tape laneOf sizeOf items least costs hops comes chain told imageActs imageActs tapeMany readAt := ⟨h36, h38, h39, h42, h44, h47, h50, h53, h56, h59, h62, h65, h68, h71, h74⟩
    exact W.iret (v := 1) hx hb hr (qw_end hS hP hD ⟨h75, hsm⟩) hS.2.2 dX7_restore_51
  · have hf := it_n c16 hf
    refine lv_bipush (v := (-4)) hx hb dX7_restore_7 (by decide) ?_
    obtain rfl := so_i hf
    have h76 : is_Y k A ws (q) st past image imagePast tape laneOf sizeOf items least costs hops comes chain told acts imageActs tapeMany readAt := ⟨h1, h2, h3, h4, h5, h6, h7, h8, h9, h10, h11, h12, h13, h14, h15⟩
    exact W.iret (v := (-4)) hx hb hr (qw_end hS hP hD ⟨h76, hsm⟩) hS.2.2 dX7_restore_9

