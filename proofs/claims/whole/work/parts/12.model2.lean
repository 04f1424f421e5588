theorem in_X7_look_X7 : ∀ w ∈ u_ws RX7 TX7 18, w ∈ wsX7_look := fun w h => List.mem_cons_of_mem _ (List.mem_append_right _ h)
def pf_X7_look (st : Nat → Int32) (least : Nat → Int32) (costs : Nat → Int32) (hops : Nat → Int32) (comes : Nat → Int32)  (p1 : Int32) (p2 : Int32) : Option (Int32 × (Nat → Int32) × (Nat → Int32) × (Nat → Int32) × (Nat → Int32)) :=
  (pf_X7_in (Int32.toInt64 p1) 0 255).bind (fun r1 =>
    if r1 = 0 then
      some ((-1), least, costs, hops, comes)
    else
      (pf_X7_in (Int32.toInt64 p2) 0 3).bind (fun r4 =>
        if r4 = 0 then
          some ((-1), least, costs, hops, comes)
        else
          (pf_X7_lays st least costs hops comes).bind (fun r7 =>
            if p2 = 0 then
              ck_O (in_b p1 512) (
                some ((r7.2.2.1 (Int32.toNatClampNeg p1)), r7.1, r7.2.1, r7.2.2.1, r7.2.2.2))
            else if p2 = 1 then
              (pf_X7_decides st 1025 0 p1 0).bind (fun r47 =>
                some (r47, r7.1, r7.2.1, r7.2.2.1, r7.2.2.2))
            else if p2 = 2 then
              ck_O (in_b (256 + p1) 512) (
                some ((r7.2.2.1 (Int32.toNatClampNeg (256 + p1))), r7.1, r7.2.1, r7.2.2.1, r7.2.2.2))
            else (pf_X7_hopBy r7.1 512 0 p1 0).bind (fun r83 =>
              some (r83, r7.1, r7.2.1, r7.2.2.1, r7.2.2.2)))))

set_option maxHeartbeats 4000000 in
set_option maxRecDepth 100000 in
theorem cz_X7_look (l : Launch) (D : va_G) (k : kt_T) (A : Nat → Nat) (ws : va_W) (q : Nat)  (st : Nat → Int32) (past : Nat → Int32) (image : Nat → Int32) (imagePast : Nat → Int32) (tape : Nat → Int32) (laneOf : Nat → Int32) (sizeOf : Nat → Int32) (items : Nat → Int64) (least : Nat → Int32) (costs : Nat → Int32) (hops : Nat → Int32) (comes : Nat → Int32) (chain : Nat → Int32) (told : Nat → Int32) (acts : Int32) (imageActs : Int32) (tapeMany : Int32) (readAt : Int32) (p1 : Int32) (p2 : Int32) (out : Int32 × (Nat → Int32) × (Nat → Int32) × (Nat → Int32) × (Nat → Int32)) (hf : pf_X7_look st least costs hops comes p1 p2 = some out) (h_this : is_Y k A ws q st past image imagePast tape laneOf sizeOf items least costs hops comes chain told acts imageActs tapeMany readAt)  (sz0 : Nat) : Met l yX7_look wsX7_look { frames := 5, cells := 0, slots := 0, locals := 110 } (va_Pc [.ref (A q), .int p1, .int p2] (px_P D k ws sz0)) (qw_Q D ws sz0 (some (.int out.1)) (fun u => is_Y k A u q st past image imagePast tape laneOf sizeOf items out.2.1 out.2.2.1 out.2.2.2.1 out.2.2.2.2 chain told acts imageActs tapeMany readAt ∧ sm_W ws u q (q + 15))) 0 0 (va_A ws sz0) := by
  refine Met.ofW (cc := cX7_look) (maxL := 3) (ret := (some .int)) (by decide) rfl ?_
  intro p e s m args below meth c s₁ B hml hv
  obtain ⟨rfl, hsz, hP, hK, hD0⟩ := hv
  subst hsz
  have hD := hD0.self (sz := s.heap.size)
  have C0 : cx_P p s m meth c [.ref (A q), .int p1, .int p2].toArray cX7_look 3 wsX7_look RX7 (some .int) := ⟨B.exec, B.bytes, hml, findClass_of_methodNamed B.named, atoms_spec (ws := wsX7_look) B.pre, B.returns, B.notSynchronized⟩
  obtain ⟨hx, hb, hml, hown, hts, hr, hlocks⟩ := id C0
  have hcf : CallFix p m c cX7_look 3 s [.ref (A q), .int p1, .int p2].toArray wsX7_look RX7 := ⟨hx, hb, hml, hown, hts⟩
  have hA : ∀ q, s.heap.size ≤ q → va_A ws s.heap.size q := fun q h => Or.inr h
  have hS : va_S (va_A ws s.heap.size) s.heap s.heap [] := va_S.rf
  have hsm : sm_W ws ws q (q + 15) := sm_rf
  have w_0 := hts (.constantLong RX7 88 (255)) (List.mem_of_getElem? (i := 1) rfl)
  have w_1 := hts (.constantLong RX7 94 (3)) (List.mem_of_getElem? (i := 2) rfl)
  have w_2 := hts (.fieldLink RX7 45 "LeastRoutesModel" "hops" "[I") (List.mem_of_getElem? (i := 3) rfl)
  have w_3 := hts (.fieldLink RX7 39 "LeastRoutesModel" "least" "[I") (List.mem_of_getElem? (i := 5) rfl)
  have w_4 := hts (.fieldLink RX7 7 "LeastRoutesModel" "st" "[I") (List.mem_of_getElem? (i := 4) rfl)
  have hl := lv_entry ([.ref (A q), .int p1, .int p2]) (n := 3) (Nat.le_of_ble_eq_true rfl)
  rw [lg_entry_eq]
  generalize (lg_sl ([.ref (A q), .int p1, .int p2]) ++ List.replicate (3 - (lg_sl ([.ref (A q), .int p1, .int p2])).length) Slot.unset).toArray = ls at hl ⊢
  have hl : lv_has ls 3 [(0, .ref (A q)), (1, .int p1), (2, .int p2)] := hl
  unfold pf_X7_look at hf
  refine lv_iload_n hx hb dX7_look_0 rfl (lv_at hl 1 rfl) ?_
  refine lv_i2l hx hb dX7_look_1 rfl ?_
  refine lv_lconst (v := 0) hx hb dX7_look_2 (by decide) ?_
  refine lv_ldc2 hx hb hown w_0 dX7_look_3 ?_
  obtain ⟨r1, h2, hf⟩ := bd_s hf
  refine ks_i (va_runS (As := [.long (Int32.toInt64 p1), .long 0, .long 255]) (rest := []) hcf (cz_X7_in l D k A ws (Int32.toInt64 p1) 0 255 r1 h2) (va_cwS 3 hts gX7_look_X7_in rfl rfl rfl (by decide +kernel) ⟨Nat.le_of_ble_eq_true rfl, Nat.le_of_ble_eq_true rfl⟩) (pw_S hP hK hD) rfl rfl hl.1 rfl (lv_room (Nat.le_of_ble_eq_true rfl)) dX7_look_6 ⟨Nat.zero_le _, Nat.zero_le _⟩) ?_
  refine lv_if_eq (tgt := 24) hx hb dX7_look_9 (by decide) (fun c3 => ?_) (fun c3 => ?_)
  · have hf := it_p c3 hf
    refine lv_iconst (v := (-1)) hx hb dX7_look_24 (by decide) ?_
    obtain rfl := so_i hf
    exact W.iret (v := (-1)) hx hb hr (qw_end hS hP hD ⟨h_this, hsm⟩) hS.2.2 dX7_look_25
  · have hf := it_n c3 hf
    refine lv_iload_n hx hb dX7_look_12 rfl (lv_at hl 2 rfl) ?_
    refine lv_i2l hx hb dX7_look_13 rfl ?_
    refine lv_lconst (v := 0) hx hb dX7_look_14 (by decide) ?_
    refine lv_ldc2 hx hb hown w_1 dX7_look_15 ?_
    obtain ⟨r4, h5, hf⟩ := bd_s hf
    refine ks_i (va_runS (As := [.long (Int32.toInt64 p2), .long 0, .long 3]) (rest := []) hcf (cz_X7_in l D k A ws (Int32.toInt64 p2) 0 3 r4 h5) (va_cwS 3 hts gX7_look_X7_in rfl rfl rfl (by decide +kernel) ⟨Nat.le_of_ble_eq_true rfl, Nat.le_of_ble_eq_true rfl⟩) (pw_S hP hK hD) rfl rfl hl.1 rfl (lv_room (Nat.le_of_ble_eq_true rfl)) dX7_look_18 ⟨Nat.zero_le _, Nat.zero_le _⟩) ?_
    refine lv_if_ne (tgt := 26) hx hb dX7_look_21 (by decide) (fun c6 => ?_) (fun c6 => ?_)
    · have hf := it_n c6 hf
      refine lv_aload_n hx hb dX7_look_26 rfl (lv_at hl 0 rfl) ?_
      obtain ⟨r7, h8, hf⟩ := bd_s hf
      refine kw_v (va_runV (As := []) (rest := []) hcf (cz_X7_lays l D k A ws (q) st past image imagePast tape laneOf sizeOf items least costs hops comes chain told acts imageActs tapeMany readAt r7 h8 h_this _) (cwV 0 hts gX7_look_X7_lays rfl rfl rfl (by decide +kernel) ⟨Nat.le_of_ble_eq_true rfl, Nat.le_of_ble_eq_true rfl⟩) (px_V hP hK hD (ci := 7) h_this.1 rfl) rfl rfl hl.1 rfl (lv_room (Nat.le_of_ble_eq_true rfl)) dX7_look_27 ⟨Nat.zero_le _, Nat.zero_le _⟩) hD hS hA (fun u9 _ _ h10 hP hD hS => ?_)
      obtain ⟨h12, m11⟩ := h10
      have hsm := sm_tr hsm m11 (by omega) (by omega)
      refine lv_iload_n hx hb dX7_look_30 rfl (lv_at hl 2 rfl) ?_
      by_cases c13 : p2 = 0
      · have hf := it_p c13 hf
        refine lv_tableIn (tgt := 56) hx hb dX7_look_31 (by rw [c13]; decide) (by rw [c13]; decide) (by rw [c13]; rfl) (by decide) ?_
        refine lv_aload_n hx hb dX7_look_56 rfl (lv_at hl 0 rfl) ?_
        obtain ⟨h14, h15, h16, h17, h18, h19, h20, h21, h22, h23, h24, h25, h26, h27, h28⟩ := h12
        refine va_get (D := D) (ci := 7) (v := .ref (A (q + 11))) (C := RX7) (T := TX7) (N := 18) hx hb hts in_X7_look_X7 hown hK.1 hP (q) h14 rfl 13 (by decide) w_2 (fun _ h9 => h9) rfl dX7_look_57 ?_
        refine lv_iload_n hx hb dX7_look_60 rfl (lv_at hl 1 rfl) ?_
        obtain ⟨z29, hf⟩ := ck_s hf
        refine va_iald hx hb hK.1 hP (q + 11) 0 h25 rfl (in_s z29) dX7_look_61 ?_
        obtain rfl := so_i hf
        have h30 : is_Y k A u9 (q) st past image imagePast tape laneOf sizeOf items r7.1 r7.2.1 r7.2.2.1 r7.2.2.2 chain told acts imageActs tapeMany readAt := ⟨h14, h15, h16, h17, h18, h19, h20, h21, h22, h23, h24, h25, h26, h27, h28⟩
        exact W.iret (v := (r7.2.2.1 (Int32.toNatClampNeg p1))) hx hb hr (qw_end hS hP hD ⟨h30, hsm⟩) hS.2.2 dX7_look_62
      have hf := it_n c13 hf
      by_cases c31 : p2 = 1
      · have hf := it_p c31 hf
        refine lv_tableIn (tgt := 63) hx hb dX7_look_31 (by rw [c31]; decide) (by rw [c31]; decide) (by rw [c31]; rfl) (by decide) ?_
        refine lv_aload_n hx hb dX7_look_63 rfl (lv_at hl 0 rfl) ?_
        obtain ⟨h32, h33, h34, h35, h36, h37, h38, h39, h40, h41, h42, h43, h44, h45, h46⟩ := h12
        refine va_get (D := D) (ci := 7) (v := .ref (A (q + 1))) (C := RX7) (T := TX7) (N := 18) hx hb hts in_X7_look_X7 hown hK.1 hP (q) h32 rfl 0 (by decide) w_4 (fun _ h9 => h9) rfl dX7_look_64 ?_
        refine lv_iconst (v := 0) hx hb dX7_look_67 (by decide) ?_
        refine lv_iload_n hx hb dX7_look_68 rfl (lv_at hl 1 rfl) ?_
        refine lv_iconst (v := 0) hx hb dX7_look_69 (by decide) ?_
        obtain ⟨r47, h48, hf⟩ := bd_s hf
        refine ks_i (va_runS (As := [.ref (A (q + 1)), .int 0, .int p1, .int 0]) (rest := []) hcf (cz_X7_decides l D k A u9 (q + 1) 1025 st 0 p1 0 r47 h48 h33) (va_cwS 4 hts gX7_look_X7_decides rfl rfl rfl (by decide +kernel) ⟨Nat.le_of_ble_eq_true rfl, Nat.le_of_ble_eq_true rfl⟩) (pw_S hP hK hD) rfl rfl hl.1 rfl (lv_room (Nat.le_of_ble_eq_true rfl)) dX7_look_70 ⟨Nat.zero_le _, Nat.zero_le _⟩) ?_
        obtain rfl := so_i hf
        have h49 : is_Y k A u9 (q) st past image imagePast tape laneOf sizeOf items r7.1 r7.2.1 r7.2.2.1 r7.2.2.2 chain told acts imageActs tapeMany readAt := ⟨h32, h33, h34, h35, h36, h37, h38, h39, h40, h41, h42, h43, h44, h45, h46⟩
        exact W.iret (v := r47) hx hb hr (qw_end hS hP hD ⟨h49, hsm⟩) hS.2.2 dX7_look_73
      have hf := it_n c31 hf
      by_cases c50 : p2 = 2
      · have hf := it_p c50 hf
        refine lv_tableIn (tgt := 74) hx hb dX7_look_31 (by rw [c50]; decide) (by rw [c50]; decide) (by rw [c50]; rfl) (by decide) ?_
        refine lv_aload_n hx hb dX7_look_74 rfl (lv_at hl 0 rfl) ?_
        obtain ⟨h51, h52, h53, h54, h55, h56, h57, h58, h59, h60, h61, h62, h63, h64, h65⟩ := h12
        refine va_get (D := D) (ci := 7) (v := .ref (A (q + 11))) (C := RX7) (T := TX7) (N := 18) hx hb hts in_X7_look_X7 hown hK.1 hP (q) h51 rfl 13 (by decide) w_2 (fun _ h9 => h9) rfl dX7_look_75 ?_
        refine lv_sipush (v := 256) hx hb dX7_look_78 (by decide) ?_
        refine lv_iload_n hx hb dX7_look_81 rfl (lv_at hl 1 rfl) ?_
        refine lv_iadd hx hb dX7_look_82 ?_
        obtain ⟨z66, hf⟩ := ck_s hf
        refine va_iald hx hb hK.1 hP (q + 11) 0 h62 rfl (in_s z66) dX7_look_83 ?_
        obtain rfl := so_i hf
        have h67 : is_Y k A u9 (q) st past image imagePast tape laneOf sizeOf items r7.1 r7.2.1 r7.2.2.1 r7.2.2.2 chain told acts imageActs tapeMany readAt := ⟨h51, h52, h53, h54, h55, h56, h57, h58, h59, h60, h61, h62, h63, h64, h65⟩
        exact W.iret (v := (r7.2.2.1 (Int32.toNatClampNeg (256 + p1)))) hx hb hr (qw_end hS hP hD ⟨h67, hsm⟩) hS.2.2 dX7_look_84
      have hf := it_n c50 hf
      refine lv_tableOut (tgt := 85) hx hb dX7_look_31 (sw_0_2 c13 c31 c50) (by decide) ?_
      refine lv_aload_n hx hb dX7_look_85 rfl (lv_at hl 0 rfl) ?_
      obtain ⟨h68, h69, h70, h71, h72, h73, h74, h75, h76, h77, h78, h79, h80, h81, h82⟩ := h12
      refine va_get (D := D) (ci := 7) (v := .ref (A (q + 9))) (C := RX7) (T := TX7) (N := 18) hx hb hts in_X7_look_X7 hown hK.1 hP (q) h68 rfl 11 (by decide) w_3 (fun _ h9 => h9) rfl dX7_look_86 ?_
      refine lv_iconst (v := 0) hx hb dX7_look_89 (by decide) ?_
      refine lv_iload_n hx hb dX7_look_90 rfl (lv_at hl 1 rfl) ?_
      refine lv_iconst (v := 0) hx hb dX7_look_91 (by decide) ?_
      obtain ⟨r83, h84, hf⟩ := bd_s hf
      refine ks_i (va_runS (As := [.ref (A (q + 9)), .int 0, .int p1, .int 0]) (rest := []) hcf (cz_X7_hopBy l D k A u9 (q + 9) 512 r7.1 0 p1 0 r83 h84 h77) (va_cwS 4 hts gX7_look_X7_hopBy rfl rfl rfl (by decide +kernel) ⟨Nat.le_of_ble_eq_true rfl, Nat.le_of_ble_eq_true rfl⟩) (pw_S hP hK hD) rfl rfl hl.1 rfl (lv_room (Nat.le_of_ble_eq_true rfl)) dX7_look_92 ⟨Nat.zero_le _, Nat.zero_le _⟩) ?_
      obtain rfl := so_i hf
      have h85 : is_Y k A u9 (q) st past image imagePast tape laneOf sizeOf items r7.1 r7.2.1 r7.2.2.1 r7.2.2.2 chain told acts imageActs tapeMany readAt := ⟨h68, h69, h70, h71, h72, h73, h74, h75, h76, h77, h78, h79, h80, h81, h82⟩
      exact W.iret (v := r83) hx hb hr (qw_end hS hP hD ⟨h85, hsm⟩) hS.2.2 dX7_look_95
    · have hf := it_p c6 hf
      refine lv_iconst (v := (-1)) hx hb dX7_look_24 (by decide) ?_
      obtain rfl := so_i hf
      exact W.iret (v := (-1)) hx hb hr (qw_end hS hP hD ⟨h_this, hsm⟩) hS.2.2 dX7_look_25

def pf_X7_isPrefix   (p1 : Int32) : Option (Int32) :=
  (pf_X7_in (Int32.toInt64 p1) 1 511).bind (fun r1 =>
    ck_O (bo_b r1) (
      some r1))

set_option maxHeartbeats 4000000 in
set_option maxRecDepth 100000 in
theorem cz_X7_isPrefix (l : Launch) (D : va_G) (k : kt_T) (A : Nat → Nat) (ws : va_W)    (p1 : Int32) (out : Int32) (hf : pf_X7_isPrefix p1 = some out)   : Met l yX7_isPrefix wsX7_isPrefix { frames := 1, cells := 0, slots := 0, locals := 25 } (va_Pc [.int p1] (pw_P D k ws)) (qs_Q (some (.int out))) 0 0 (fun _ => False) := by
  refine Met.ofW (cc := cX7_isPrefix) (maxL := 1) (ret := (some .boolean)) (by decide) rfl ?_
  intro p e s m args below meth c s₁ B hml hv
  obtain ⟨rfl, hP, hK, hD⟩ := hv
  have C0 : cx_P p s m meth c [.int p1].toArray cX7_isPrefix 1 wsX7_isPrefix RX7 (some .boolean) := ⟨B.exec, B.bytes, hml, findClass_of_methodNamed B.named, atoms_spec (ws := wsX7_isPrefix) B.pre, B.returns, B.notSynchronized⟩
  obtain ⟨hx, hb, hml, hown, hts, hr, hlocks⟩ := id C0
  have hcf : CallFix p m c cX7_isPrefix 1 s [.int p1].toArray wsX7_isPrefix RX7 := ⟨hx, hb, hml, hown, hts⟩
  have w_0 := hts (.constantLong RX7 99 (511)) (List.mem_of_getElem? (i := 1) rfl)
  have hl := lv_entry ([.int p1]) (n := 1) (Nat.le_of_ble_eq_true rfl)
  rw [lg_entry_eq]
  generalize (lg_sl ([.int p1]) ++ List.replicate (1 - (lg_sl ([.int p1])).length) Slot.unset).toArray = ls at hl ⊢
  have hl : lv_has ls 1 [(0, .int p1)] := hl
  unfold pf_X7_isPrefix at hf
  refine lv_iload_n hx hb dX7_isPrefix_0 rfl (lv_at hl 0 rfl) ?_
  refine lv_i2l hx hb dX7_isPrefix_1 rfl ?_
  refine lv_lconst (v := 1) hx hb dX7_isPrefix_2 (by decide) ?_
  refine lv_ldc2 hx hb hown w_0 dX7_isPrefix_3 ?_
  obtain ⟨r1, h2, hf⟩ := bd_s hf
  refine ks_i (va_runS (As := [.long (Int32.toInt64 p1), .long 1, .long 511]) (rest := []) hcf (cz_X7_in l D k A ws (Int32.toInt64 p1) 1 511 r1 h2) (va_cwS 3 hts gX7_isPrefix_X7_in rfl rfl rfl (by decide +kernel) ⟨Nat.le_of_ble_eq_true rfl, Nat.le_of_ble_eq_true rfl⟩) (pw_S hP hK hD) rfl rfl hl.1 rfl (lv_room (Nat.le_of_ble_eq_true rfl)) dX7_isPrefix_6 ⟨Nat.zero_le _, Nat.zero_le _⟩) ?_
  obtain ⟨z3, hf⟩ := ck_s hf
  obtain rfl := so_i hf
  exact W.zret (v := r1) (ty := .boolean) hx hb hr (bo_s z3) (fun t ht _ => ⟨rfl, ht⟩) (fun _ h => absurd h List.not_mem_nil) dX7_isPrefix_9

theorem sw_0_5 {x : Int32} (h0 : ¬ x = 0) (h1 : ¬ x = 1) (h2 : ¬ x = 2) (h3 : ¬ x = 3) (h4 : ¬ x = 4) (h5 : ¬ x = 5) : x.toInt < 0 ∨ 5 < x.toInt := by
  have g0 : ¬ x.toInt = 0 := fun h => h0 (Int32.toInt.inj (h.trans (by decide)))
  have g1 : ¬ x.toInt = 1 := fun h => h1 (Int32.toInt.inj (h.trans (by decide)))
  have g2 : ¬ x.toInt = 2 := fun h => h2 (Int32.toInt.inj (h.trans (by decide)))
  have g3 : ¬ x.toInt = 3 := fun h => h3 (Int32.toInt.inj (h.trans (by decide)))
  have g4 : ¬ x.toInt = 4 := fun h => h4 (Int32.toInt.inj (h.trans (by decide)))
  have g5 : ¬ x.toInt = 5 := fun h => h5 (Int32.toInt.inj (h.trans (by decide)))
  omega
theorem in_X7_prefix_X7 : ∀ w ∈ u_ws RX7 TX7 18, w ∈ wsX7_prefix := fun w h => List.mem_cons_of_mem _ (List.mem_append_right _ h)
def pf_X7_prefix (st : Nat → Int32) (least : Nat → Int32) (costs : Nat → Int32) (hops : Nat → Int32) (comes : Nat → Int32)  (p1 : Int32) (p2 : Int32) : Option (Int32 × (Nat → Int32) × (Nat → Int32) × (Nat → Int32) × (Nat → Int32)) :=
  (pf_X7_isPrefix p1).bind (fun r1 =>
    if r1 = 0 then
      some ((-1), least, costs, hops, comes)
    else
      (pf_X7_in (Int32.toInt64 p2) 0 6).bind (fun r4 =>
        if r4 = 0 then
          some ((-1), least, costs, hops, comes)
        else
          (pf_X7_lays st least costs hops comes).bind (fun r7 =>
            if p2 = 0 then
              ck_O (in_b ((512 * p2) + p1) 1025) (
                (pf_X7_toldOf (st (Int32.toNatClampNeg ((512 * p2) + p1)))).bind (fun r30 =>
                  some (r30, r7.1, r7.2.1, r7.2.2.1, r7.2.2.2)))
            else if p2 = 1 then
              ck_O (in_b ((512 * p2) + p1) 1025) (
                (pf_X7_toldOf (st (Int32.toNatClampNeg ((512 * p2) + p1)))).bind (fun r50 =>
                  some (r50, r7.1, r7.2.1, r7.2.2.1, r7.2.2.2)))
            else if p2 = 2 then
              ck_O (in_b p1 512) (
                (pf_X7_toldOf (r7.1 (Int32.toNatClampNeg p1))).bind (fun r70 =>
                  some (r70, r7.1, r7.2.1, r7.2.2.1, r7.2.2.2)))
            else if p2 = 3 then
              (pf_X7_setOf r7.2.1 p1).bind (fun r74 =>
                some (r74, r7.1, r7.2.1, r7.2.2.1, r7.2.2.2))
            else if p2 = 4 then
              (pf_X7_ease r7.2.1 p1).bind (fun r77 =>
                some (r77, r7.1, r7.2.1, r7.2.2.1, r7.2.2.2))
            else if p2 = 5 then
              (pf_X7_hopsIn r7.2.2.1 p1).bind (fun r80 =>
                some (r80, r7.1, r7.2.1, r7.2.2.1, r7.2.2.2))
            else ck_O (in_b (0 + p1) 1025) (
              if (st (Int32.toNatClampNeg (0 + p1))) = 8 then
                some ((-4), r7.1, r7.2.1, r7.2.2.1, r7.2.2.2)
              else
                (pf_X7_isRedundant st r7.2.2.1 p1).bind (fun r100 =>
                  if r100 = 0 then
                    some (0, r7.1, r7.2.1, r7.2.2.1, r7.2.2.2)
                  else
                    some (1, r7.1, r7.2.1, r7.2.2.1, r7.2.2.2))))))

set_option maxHeartbeats 4000000 in
set_option maxRecDepth 100000 in
theorem cz_X7_prefix (l : Launch) (D : va_G) (k : kt_T) (A : Nat → Nat) (ws : va_W) (q : Nat)  (st : Nat → Int32) (past : Nat → Int32) (image : Nat → Int32) (imagePast : Nat → Int32) (tape : Nat → Int32) (laneOf : Nat → Int32) (sizeOf : Nat → Int32) (items : Nat → Int64) (least : Nat → Int32) (costs : Nat → Int32) (hops : Nat → Int32) (comes : Nat → Int32) (chain : Nat → Int32) (told : Nat → Int32) (acts : Int32) (imageActs : Int32) (tapeMany : Int32) (readAt : Int32) (p1 : Int32) (p2 : Int32) (out : Int32 × (Nat → Int32) × (Nat → Int32) × (Nat → Int32) × (Nat → Int32)) (hf : pf_X7_prefix st least costs hops comes p1 p2 = some out) (h_this : is_Y k A ws q st past image imagePast tape laneOf sizeOf items least costs hops comes chain told acts imageActs tapeMany readAt)  (sz0 : Nat) : Met l yX7_prefix wsX7_prefix { frames := 5, cells := 0, slots := 0, locals := 110 } (va_Pc [.ref (A q), .int p1, .int p2] (px_P D k ws sz0)) (qw_Q D ws sz0 (some (.int out.1)) (fun u => is_Y k A u q st past image imagePast tape laneOf sizeOf items out.2.1 out.2.2.1 out.2.2.2.1 out.2.2.2.2 chain told acts imageActs tapeMany readAt ∧ sm_W ws u q (q + 15))) 0 0 (va_A ws sz0) := by
  refine Met.ofW (cc := cX7_prefix) (maxL := 3) (ret := (some .int)) (by decide) rfl ?_
  intro p e s m args below meth c s₁ B hml hv
  obtain ⟨rfl, hsz, hP, hK, hD0⟩ := hv
  subst hsz
  have hD := hD0.self (sz := s.heap.size)
  have C0 : cx_P p s m meth c [.ref (A q), .int p1, .int p2].toArray cX7_prefix 3 wsX7_prefix RX7 (some .int) := ⟨B.exec, B.bytes, hml, findClass_of_methodNamed B.named, atoms_spec (ws := wsX7_prefix) B.pre, B.returns, B.notSynchronized⟩
  obtain ⟨hx, hb, hml, hown, hts, hr, hlocks⟩ := id C0
  have hcf : CallFix p m c cX7_prefix 3 s [.ref (A q), .int p1, .int p2].toArray wsX7_prefix RX7 := ⟨hx, hb, hml, hown, hts⟩
  have hA : ∀ q, s.heap.size ≤ q → va_A ws s.heap.size q := fun q h => Or.inr h
  have hS : va_S (va_A ws s.heap.size) s.heap s.heap [] := va_S.rf
  have hsm : sm_W ws ws q (q + 15) := sm_rf
  have w_0 := hts (.constantLong RX7 105 (6)) (List.mem_of_getElem? (i := 1) rfl)
  have w_1 := hts (.fieldLink RX7 7 "LeastRoutesModel" "st" "[I") (List.mem_of_getElem? (i := 2) rfl)
  have w_2 := hts (.fieldLink RX7 39 "LeastRoutesModel" "least" "[I") (List.mem_of_getElem? (i := 3) rfl)
  have hl := lv_entry ([.ref (A q), .int p1, .int p2]) (n := 3) (Nat.le_of_ble_eq_true rfl)
  rw [lg_entry_eq]
  generalize (lg_sl ([.ref (A q), .int p1, .int p2]) ++ List.replicate (3 - (lg_sl ([.ref (A q), .int p1, .int p2])).length) Slot.unset).toArray = ls at hl ⊢
  have hl : lv_has ls 3 [(0, .ref (A q)), (1, .int p1), (2, .int p2)] := hl
  unfold pf_X7_prefix at hf
  refine lv_iload_n hx hb dX7_prefix_0 rfl (lv_at hl 1 rfl) ?_
  obtain ⟨r1, h2, hf⟩ := bd_s hf
  refine ks_i (va_runS (As := [.int p1]) (rest := []) hcf (cz_X7_isPrefix l D k A ws p1 r1 h2) (va_cwS 1 hts gX7_prefix_X7_isPrefix rfl rfl rfl (by decide +kernel) ⟨Nat.le_of_ble_eq_true rfl, Nat.le_of_ble_eq_true rfl⟩) (pw_S hP hK hD) rfl rfl hl.1 rfl (lv_room (Nat.le_of_ble_eq_true rfl)) dX7_prefix_1 ⟨Nat.zero_le _, Nat.zero_le _⟩) ?_
  refine lv_if_eq (tgt := 19) hx hb dX7_prefix_4 (by decide) (fun c3 => ?_) (fun c3 => ?_)
  · have hf := it_p c3 hf
    refine lv_iconst (v := (-1)) hx hb dX7_prefix_19 (by decide) ?_
    obtain rfl := so_i hf
    exact W.iret (v := (-1)) hx hb hr (qw_end hS hP hD ⟨h_this, hsm⟩) hS.2.2 dX7_prefix_20
  · have hf := it_n c3 hf
    refine lv_iload_n hx hb dX7_prefix_7 rfl (lv_at hl 2 rfl) ?_
    refine lv_i2l hx hb dX7_prefix_8 rfl ?_
    refine lv_lconst (v := 0) hx hb dX7_prefix_9 (by decide) ?_
    refine lv_ldc2 hx hb hown w_0 dX7_prefix_10 ?_
    obtain ⟨r4, h5, hf⟩ := bd_s hf
    refine ks_i (va_runS (As := [.long (Int32.toInt64 p2), .long 0, .long 6]) (rest := []) hcf (cz_X7_in l D k A ws (Int32.toInt64 p2) 0 6 r4 h5) (va_cwS 3 hts gX7_prefix_X7_in rfl rfl rfl (by decide +kernel) ⟨Nat.le_of_ble_eq_true rfl, Nat.le_of_ble_eq_true rfl⟩) (pw_S hP hK hD) rfl rfl hl.1 rfl (lv_room (Nat.le_of_ble_eq_true rfl)) dX7_prefix_13 ⟨Nat.zero_le _, Nat.zero_le _⟩) ?_
    refine lv_if_ne (tgt := 21) hx hb dX7_prefix_16 (by decide) (fun c6 => ?_) (fun c6 => ?_)
    · have hf := it_n c6 hf
      refine lv_aload_n hx hb dX7_prefix_21 rfl (lv_at hl 0 rfl) ?_
      obtain ⟨r7, h8, hf⟩ := bd_s hf
      refine kw_v (va_runV (As := []) (rest := []) hcf (cz_X7_lays l D k A ws (q) st past image imagePast tape laneOf sizeOf items least costs hops comes chain told acts imageActs tapeMany readAt r7 h8 h_this _) (cwV 0 hts gX7_prefix_X7_lays rfl rfl rfl (by decide +kernel) ⟨Nat.le_of_ble_eq_true rfl, Nat.le_of_ble_eq_true rfl⟩) (px_V hP hK hD (ci := 7) h_this.1 rfl) rfl rfl hl.1 rfl (lv_room (Nat.le_of_ble_eq_true rfl)) dX7_prefix_22 ⟨Nat.zero_le _, Nat.zero_le _⟩) hD hS hA (fun u9 _ _ h10 hP hD hS => ?_)
      obtain ⟨h12, m11⟩ := h10
      have hsm := sm_tr hsm m11 (by omega) (by omega)
      refine lv_iload_n hx hb dX7_prefix_25 rfl (lv_at hl 2 rfl) ?_
      by_cases c13 : p2 = 0
      · have hf := it_p c13 hf
        refine lv_tableIn (tgt := 64) hx hb dX7_prefix_26 (by rw [c13]; decide) (by rw [c13]; decide) (by rw [c13]; rfl) (by decide) ?_
        refine lv_aload_n hx hb dX7_prefix_64 rfl (lv_at hl 0 rfl) ?_
        obtain ⟨h14, h15, h16, h17, h18, h19, h20, h21, h22, h23, h24, h25, h26, h27, h28⟩ := h12
        refine va_get (D := D) (ci := 7) (v := .ref (A (q + 1))) (C := RX7) (T := TX7) (N := 18) hx hb hts in_X7_prefix_X7 hown hK.1 hP (q) h14 rfl 0 (by decide) w_1 (fun _ h9 => h9) rfl dX7_prefix_65 ?_
        refine lv_sipush (v := 512) hx hb dX7_prefix_68 (by decide) ?_
        refine lv_iload_n hx hb dX7_prefix_71 rfl (lv_at hl 2 rfl) ?_
        refine lv_imul hx hb dX7_prefix_72 ?_
        refine lv_iload_n hx hb dX7_prefix_73 rfl (lv_at hl 1 rfl) ?_
        refine lv_iadd hx hb dX7_prefix_74 ?_
        obtain ⟨z29, hf⟩ := ck_s hf
        refine va_iald hx hb hK.1 hP (q + 1) 0 h15 rfl (in_s z29) dX7_prefix_75 ?_
        obtain ⟨r30, h31, hf⟩ := bd_s hf
        refine ks_i (va_runS (As := [.int (st (Int32.toNatClampNeg ((512 * p2) + p1)))]) (rest := []) hcf (cz_X7_toldOf l D k A u9 (st (Int32.toNatClampNeg ((512 * p2) + p1))) r30 h31) (va_cwS 1 hts gX7_prefix_X7_toldOf rfl rfl rfl (by decide +kernel) ⟨Nat.le_of_ble_eq_true rfl, Nat.le_of_ble_eq_true rfl⟩) (pw_S hP hK hD) rfl rfl hl.1 rfl (lv_room (Nat.le_of_ble_eq_true rfl)) dX7_prefix_76 ⟨Nat.zero_le _, Nat.zero_le _⟩) ?_
        obtain rfl := so_i hf
        have h32 : is_Y k A u9 (q) st past image imagePast tape laneOf sizeOf items r7.1 r7.2.1 r7.2.2.1 r7.2.2.2 chain told acts imageActs tapeMany readAt := ⟨h14, h15, h16, h17, h18, h19, h20, h21, h22, h23, h24, h25, h26, h27, h28⟩
        exact W.iret (v := r30) hx hb hr (qw_end hS hP hD ⟨h32, hsm⟩) hS.2.2 dX7_prefix_79
      have hf := it_n c13 hf
      by_cases c33 : p2 = 1
      · have hf := it_p c33 hf
        refine lv_tableIn (tgt := 64) hx hb dX7_prefix_26 (by rw [c33]; decide) (by rw [c33]; decide) (by rw [c33]; rfl) (by decide) ?_
        refine lv_aload_n hx hb dX7_prefix_64 rfl (lv_at hl 0 rfl) ?_
        obtain ⟨h34, h35, h36, h37, h38, h39, h40, h41, h42, h43, h44, h45, h46, h47, h48⟩ := h12
        refine va_get (D := D) (ci := 7) (v := .ref (A (q + 1))) (C := RX7) (T := TX7) (N := 18) hx hb hts in_X7_prefix_X7 hown hK.1 hP (q) h34 rfl 0 (by decide) w_1 (fun _ h9 => h9) rfl dX7_prefix_65 ?_
        refine lv_sipush (v := 512) hx hb dX7_prefix_68 (by decide) ?_
        refine lv_iload_n hx hb dX7_prefix_71 rfl (lv_at hl 2 rfl) ?_
        refine lv_imul hx hb dX7_prefix_72 ?_
        refine lv_iload_n hx hb dX7_prefix_73 rfl (lv_at hl 1 rfl) ?_
        refine lv_iadd hx hb dX7_prefix_74 ?_
        obtain ⟨z49, hf⟩ := ck_s hf
        refine va_iald hx hb hK.1 hP (q + 1) 0 h35 rfl (in_s z49) dX7_prefix_75 ?_
        obtain ⟨r50, h51, hf⟩ := bd_s hf
        refine ks_i (va_runS (As := [.int (st (Int32.toNatClampNeg ((512 * p2) + p1)))]) (rest := []) hcf (cz_X7_toldOf l D k A u9 (st (Int32.toNatClampNeg ((512 * p2) + p1))) r50 h51) (va_cwS 1 hts gX7_prefix_X7_toldOf rfl rfl rfl (by decide +kernel) ⟨Nat.le_of_ble_eq_true rfl, Nat.le_of_ble_eq_true rfl⟩) (pw_S hP hK hD) rfl rfl hl.1 rfl (lv_room (Nat.le_of_ble_eq_true rfl)) dX7_prefix_76 ⟨Nat.zero_le _, Nat.zero_le _⟩) ?_
        obtain rfl := so_i hf
        have h52 : is_Y k A u9 (q) st past image imagePast tape laneOf sizeOf items r7.1 r7.2.1 r7.2.2.1 r7.2.2.2 chain told acts imageActs tapeMany readAt := ⟨h34, h35, h36, h37, h38, h39, h40, h41, h42, h43, h44, h45, h46, h47, h48⟩
        exact W.iret (v := r50) hx hb hr (qw_end hS hP hD ⟨h52, hsm⟩) hS.2.2 dX7_prefix_79
      have hf := it_n c33 hf
      by_cases c53 : p2 = 2
      · have hf := it_p c53 hf
        refine lv_tableIn (tgt := 80) hx hb dX7_prefix_26 (by rw [c53]; decide) (by rw [c53]; decide) (by rw [c53]; rfl) (by decide) ?_
        refine lv_aload_n hx hb dX7_prefix_80 rfl (lv_at hl 0 rfl) ?_
        obtain ⟨h54, h55, h56, h57, h58, h59, h60, h61, h62, h63, h64, h65, h66, h67, h68⟩ := h12
        refine va_get (D := D) (ci := 7) (v := .ref (A (q + 9))) (C := RX7) (T := TX7) (N := 18) hx hb hts in_X7_prefix_X7 hown hK.1 hP (q) h54 rfl 11 (by decide) w_2 (fun _ h9 => h9) rfl dX7_prefix_81 ?_
        refine lv_iload_n hx hb dX7_prefix_84 rfl (lv_at hl 1 rfl) ?_
        obtain ⟨z69, hf⟩ := ck_s hf
        refine va_iald hx hb hK.1 hP (q + 9) 0 h63 rfl (in_s z69) dX7_prefix_85 ?_
        obtain ⟨r70, h71, hf⟩ := bd_s hf
        refine ks_i (va_runS (As := [.int (r7.1 (Int32.toNatClampNeg p1))]) (rest := []) hcf (cz_X7_toldOf l D k A u9 (r7.1 (Int32.toNatClampNeg p1)) r70 h71) (va_cwS 1 hts gX7_prefix_X7_toldOf rfl rfl rfl (by decide +kernel) ⟨Nat.le_of_ble_eq_true rfl, Nat.le_of_ble_eq_true rfl⟩) (pw_S hP hK hD) rfl rfl hl.1 rfl (lv_room (Nat.le_of_ble_eq_true rfl)) dX7_prefix_86 ⟨Nat.zero_le _, Nat.zero_le _⟩) ?_
        obtain rfl := so_i hf
        have h72 : is_Y k A u9 (q) st past image imagePast tape laneOf sizeOf items r7.1 r7.2.1 r7.2.2.1 r7.2.2.2 chain told acts imageActs tapeMany readAt := ⟨h54, h55, h56, h57, h58, h59, h60, h61, h62, h63, h64, h65, h66, h67, h68⟩
        exact W.iret (v := r70) hx hb hr (qw_end hS hP hD ⟨h72, hsm⟩) hS.2.2 dX7_prefix_89
      have hf := it_n c53 hf
      by_cases c73 : p2 = 3
      · have hf := it_p c73 hf
        refine lv_tableIn (tgt := 90) hx hb dX7_prefix_26 (by rw [c73]; decide) (by rw [c73]; decide) (by rw [c73]; rfl) (by decide) ?_
        refine lv_aload_n hx hb dX7_prefix_90 rfl (lv_at hl 0 rfl) ?_
        refine lv_iload_n hx hb dX7_prefix_91 rfl (lv_at hl 1 rfl) ?_
        obtain ⟨r74, h75, hf⟩ := bd_s hf
        refine ks_i (va_runV (As := [.int p1]) (rest := []) hcf (cz_X7_setOf l D k A u9 (q) st past image imagePast tape laneOf sizeOf items r7.1 r7.2.1 r7.2.2.1 r7.2.2.2 chain told acts imageActs tapeMany readAt p1 r74 h75 h12) (cwV 1 hts gX7_prefix_X7_setOf rfl rfl rfl (by decide +kernel) ⟨Nat.le_of_ble_eq_true rfl, Nat.le_of_ble_eq_true rfl⟩) (pw_V hP hK hD (ci := 7) h12.1 rfl) rfl rfl hl.1 rfl (lv_room (Nat.le_of_ble_eq_true rfl)) dX7_prefix_92 ⟨Nat.zero_le _, Nat.zero_le _⟩) ?_
        obtain rfl := so_i hf
        exact W.iret (v := r74) hx hb hr (qw_end hS hP hD ⟨h12, hsm⟩) hS.2.2 dX7_prefix_95
      have hf := it_n c73 hf
      by_cases c76 : p2 = 4
      · have hf := it_p c76 hf
        refine lv_tableIn (tgt := 96) hx hb dX7_prefix_26 (by rw [c76]; decide) (by rw [c76]; decide) (by rw [c76]; rfl) (by decide) ?_
        refine lv_aload_n hx hb dX7_prefix_96 rfl (lv_at hl 0 rfl) ?_
        refine lv_iload_n hx hb dX7_prefix_97 rfl (lv_at hl 1 rfl) ?_
        obtain ⟨r77, h78, hf⟩ := bd_s hf
        refine ks_i (va_runV (As := [.int p1]) (rest := []) hcf (cz_X7_ease l D k A u9 (q) st past image imagePast tape laneOf sizeOf items r7.1 r7.2.1 r7.2.2.1 r7.2.2.2 chain told acts imageActs tapeMany readAt p1 r77 h78 h12) (cwV 1 hts gX7_prefix_X7_ease rfl rfl rfl (by decide +kernel) ⟨Nat.le_of_ble_eq_true rfl, Nat.le_of_ble_eq_true rfl⟩) (pw_V hP hK hD (ci := 7) h12.1 rfl) rfl rfl hl.1 rfl (lv_room (Nat.le_of_ble_eq_true rfl)) dX7_prefix_98 ⟨Nat.zero_le _, Nat.zero_le _⟩) ?_
        obtain rfl := so_i hf
        exact W.iret (v := r77) hx hb hr (qw_end hS hP hD ⟨h12, hsm⟩) hS.2.2 dX7_prefix_101
      have hf := it_n c76 hf
      by_cases c79 : p2 = 5
      · have hf := it_p c79 hf
        refine lv_tableIn (tgt := 102) hx hb dX7_prefix_26 (by rw [c79]; decide) (by rw [c79]; decide) (by rw [c79]; rfl) (by decide) ?_
        refine lv_aload_n hx hb dX7_prefix_102 rfl (lv_at hl 0 rfl) ?_
        refine lv_iload_n hx hb dX7_prefix_103 rfl (lv_at hl 1 rfl) ?_
        obtain ⟨r80, h81, hf⟩ := bd_s hf
        refine ks_i (va_runV (As := [.int p1]) (rest := []) hcf (cz_X7_hopsIn l D k A u9 (q) st past image imagePast tape laneOf sizeOf items r7.1 r7.2.1 r7.2.2.1 r7.2.2.2 chain told acts imageActs tapeMany readAt p1 r80 h81 h12) (cwV 1 hts gX7_prefix_X7_hopsIn rfl rfl rfl (by decide +kernel) ⟨Nat.le_of_ble_eq_true rfl, Nat.le_of_ble_eq_true rfl⟩) (pw_V hP hK hD (ci := 7) h12.1 rfl) rfl rfl hl.1 rfl (lv_room (Nat.le_of_ble_eq_true rfl)) dX7_prefix_104 ⟨Nat.zero_le _, Nat.zero_le _⟩) ?_
        obtain rfl := so_i hf
        exact W.iret (v := r80) hx hb hr (qw_end hS hP hD ⟨h12, hsm⟩) hS.2.2 dX7_prefix_107
      have hf := it_n c79 hf
      refine lv_tableOut (tgt := 108) hx hb dX7_prefix_26 (sw_0_5 c13 c33 c53 c73 c76 c79) (by decide) ?_
      refine lv_aload_n hx hb dX7_prefix_108 rfl (lv_at hl 0 rfl) ?_
      obtain ⟨h82, h83, h84, h85, h86, h87, h88, h89, h90, h91, h92, h93, h94, h95, h96⟩ := h12
      refine va_get (D := D) (ci := 7) (v := .ref (A (q + 1))) (C := RX7) (T := TX7) (N := 18) hx hb hts in_X7_prefix_X7 hown hK.1 hP (q) h82 rfl 0 (by decide) w_1 (fun _ h9 => h9) rfl dX7_prefix_109 ?_
      refine lv_iconst (v := 0) hx hb dX7_prefix_112 (by decide) ?_
      refine lv_iload_n hx hb dX7_prefix_113 rfl (lv_at hl 1 rfl) ?_
      refine lv_iadd hx hb dX7_prefix_114 ?_
      obtain ⟨z97, hf⟩ := ck_s hf
      refine va_iald hx hb hK.1 hP (q + 1) 0 h83 rfl (in_s z97) dX7_prefix_115 ?_
      refine lv_bipush (v := 8) hx hb dX7_prefix_116 (by decide) ?_
      refine lv_icmp_ne (tgt := 126) hx hb dX7_prefix_118 (by decide) (fun c98 => ?_) (fun c98 => ?_)
      · have hf := it_n c98 hf
        refine lv_aload_n hx hb dX7_prefix_126 rfl (lv_at hl 0 rfl) ?_
        refine lv_iload_n hx hb dX7_prefix_127 rfl (lv_at hl 1 rfl) ?_
        have h99 : is_Y k A u9 (q) st past image imagePast tape laneOf sizeOf items r7.1 r7.2.1 r7.2.2.1 r7.2.2.2 chain told acts imageActs tapeMany readAt := ⟨h82, h83, h84, h85, h86, h87, h88, h89, h90, h91, h92, h93, h94, h95, h96⟩
        obtain ⟨r100, h101, hf⟩ := bd_s hf
        refine ks_i (va_runV (As := [.int p1]) (rest := []) hcf (cz_X7_isRedundant l D k A u9 (q) st past image imagePast tape laneOf sizeOf items r7.1 r7.2.1 r7.2.2.1 r7.2.2.2 chain told acts imageActs tapeMany readAt p1 r100 h101 h99) (cwV 1 hts gX7_prefix_X7_isRedundant rfl rfl rfl (by decide +kernel) ⟨Nat.le_of_ble_eq_true rfl, Nat.le_of_ble_eq_true rfl⟩) (pw_V hP hK hD (ci := 7) h99.1 rfl) rfl rfl hl.1 rfl (lv_room (Nat.le_of_ble_eq_true rfl)) dX7_prefix_128 ⟨Nat.zero_le _, Nat.zero_le _⟩) ?_
        refine lv_if_eq (tgt := 138) hx hb dX7_prefix_131 (by decide) (fun c102 => ?_) (fun c102 => ?_)
        · have hf := it_p c102 hf
          refine lv_iconst (v := 0) hx hb dX7_prefix_138 (by decide) ?_
          obtain rfl := so_i hf
          exact W.iret (v := 0) hx hb hr (qw_end hS hP hD ⟨h99, hsm⟩) hS.2.2 dX7_prefix_139
        · have hf := it_n c102 hf
          refine lv_iconst (v := 1) hx hb dX7_prefix_134 (by decide) ?_
          refine lv_goto (tgt := 139) hx hb dX7_prefix_135 (by decide) ?_
          obtain rfl := so_i hf
          exact W.iret (v := 1) hx hb hr (qw_end hS hP hD ⟨h99, hsm⟩) hS.2.2 dX7_prefix_139
      · have hf := it_p c98 hf
        refine lv_bipush (v := (-4)) hx hb dX7_prefix_121 (by decide) ?_
        refine lv_goto (tgt := 139) hx hb dX7_prefix_123 (by decide) ?_
        obtain rfl := so_i hf
        have h103 : is_Y k A u9 (q) st past image imagePast tape laneOf sizeOf items r7.1 r7.2.1 r7.2.2.1 r7.2.2.2 chain told acts imageActs tapeMany readAt := ⟨h82, h83, h84, h85, h86, h87, h88, h89, h90, h91, h92, h93, h94, h95, h96⟩
        exact W.iret (v := (-4)) hx hb hr (qw_end hS hP hD ⟨h103, hsm⟩) hS.2.2 dX7_prefix_139
    · have hf := it_p c6 hf
      refine lv_iconst (v := (-1)) hx hb dX7_prefix_19 (by decide) ?_
      obtain rfl := so_i hf
      exact W.iret (v := (-1)) hx hb hr (qw_end hS hP hD ⟨h_this, hsm⟩) hS.2.2 dX7_prefix_20

theorem in_X7_cost_X7 : ∀ w ∈ u_ws RX7 TX7 18, w ∈ wsX7_cost := fun w h => List.mem_cons_of_mem _ (List.mem_append_right _ h)
def pf_X7_cost (st : Nat → Int32) (least : Nat → Int32) (costs : Nat → Int32) (hops : Nat → Int32) (comes : Nat → Int32)  (p1 : Int32) (p2 : Int32) : Option (Int32 × (Nat → Int32) × (Nat → Int32) × (Nat → Int32) × (Nat → Int32)) :=
  (pf_X7_isPrefix p1).bind (fun r1 =>
    if r1 = 0 then
      some ((-1), least, costs, hops, comes)
    else
      (pf_X7_in (Int32.toInt64 p2) 0 7).bind (fun r4 =>
        if r4 = 0 then
          some ((-1), least, costs, hops, comes)
        else
          (pf_X7_lays st least costs hops comes).bind (fun r7 =>
            ck_O (in_b ((8 * p1) + p2) 4096) (
              some ((r7.2.1 (Int32.toNatClampNeg ((8 * p1) + p2))), r7.1, r7.2.1, r7.2.2.1, r7.2.2.2)))))

set_option maxHeartbeats 4000000 in
set_option maxRecDepth 100000 in
theorem cz_X7_cost (l : Launch) (D : va_G) (k : kt_T) (A : Nat → Nat) (ws : va_W) (q : Nat)  (st : Nat → Int32) (past : Nat → Int32) (image : Nat → Int32) (imagePast : Nat → Int32) (tape : Nat → Int32) (laneOf : Nat → Int32) (sizeOf : Nat → Int32) (items : Nat → Int64) (least : Nat → Int32) (costs : Nat → Int32) (hops : Nat → Int32) (comes : Nat → Int32) (chain : Nat → Int32) (told : Nat → Int32) (acts : Int32) (imageActs : Int32) (tapeMany : Int32) (readAt : Int32) (p1 : Int32) (p2 : Int32) (out : Int32 × (Nat → Int32) × (Nat → Int32) × (Nat → Int32) × (Nat → Int32)) (hf : pf_X7_cost st least costs hops comes p1 p2 = some out) (h_this : is_Y k A ws q st past image imagePast tape laneOf sizeOf items least costs hops comes chain told acts imageActs tapeMany readAt)  (sz0 : Nat) : Met l yX7_cost wsX7_cost { frames := 5, cells := 0, slots := 0, locals := 110 } (va_Pc [.ref (A q), .int p1, .int p2] (px_P D k ws sz0)) (qw_Q D ws sz0 (some (.int out.1)) (fun u => is_Y k A u q st past image imagePast tape laneOf sizeOf items out.2.1 out.2.2.1 out.2.2.2.1 out.2.2.2.2 chain told acts imageActs tapeMany readAt ∧ sm_W ws u q (q + 15))) 0 0 (va_A ws sz0) := by
  refine Met.ofW (cc := cX7_cost) (maxL := 3) (ret := (some .int)) (by decide) rfl ?_
  intro p e s m args below meth c s₁ B hml hv
  obtain ⟨rfl, hsz, hP, hK, hD0⟩ := hv
  subst hsz
  have hD := hD0.self (sz := s.heap.size)
  have C0 : cx_P p s m meth c [.ref (A q), .int p1, .int p2].toArray cX7_cost 3 wsX7_cost RX7 (some .int) := ⟨B.exec, B.bytes, hml, findClass_of_methodNamed B.named, atoms_spec (ws := wsX7_cost) B.pre, B.returns, B.notSynchronized⟩
  obtain ⟨hx, hb, hml, hown, hts, hr, hlocks⟩ := id C0
  have hcf : CallFix p m c cX7_cost 3 s [.ref (A q), .int p1, .int p2].toArray wsX7_cost RX7 := ⟨hx, hb, hml, hown, hts⟩
  have hA : ∀ q, s.heap.size ≤ q → va_A ws s.heap.size q := fun q h => Or.inr h
  have hS : va_S (va_A ws s.heap.size) s.heap s.heap [] := va_S.rf
  have hsm : sm_W ws ws q (q + 15) := sm_rf
  have w_0 := hts (.constantLong RX7 116 (7)) (List.mem_of_getElem? (i := 1) rfl)
  have w_1 := hts (.fieldLink RX7 42 "LeastRoutesModel" "costs" "[I") (List.mem_of_getElem? (i := 2) rfl)
  have hl := lv_entry ([.ref (A q), .int p1, .int p2]) (n := 3) (Nat.le_of_ble_eq_true rfl)
  rw [lg_entry_eq]
  generalize (lg_sl ([.ref (A q), .int p1, .int p2]) ++ List.replicate (3 - (lg_sl ([.ref (A q), .int p1, .int p2])).length) Slot.unset).toArray = ls at hl ⊢
  have hl : lv_has ls 3 [(0, .ref (A q)), (1, .int p1), (2, .int p2)] := hl
  unfold pf_X7_cost at hf
  refine lv_iload_n hx hb dX7_cost_0 rfl (lv_at hl 1 rfl) ?_
  obtain ⟨r1, h2, hf⟩ := bd_s hf
  refine ks_i (va_runS (As := [.int p1]) (rest := []) hcf (cz_X7_isPrefix l D k A ws p1 r1 h2) (va_cwS 1 hts gX7_cost_X7_isPrefix rfl rfl rfl (by decide +kernel) ⟨Nat.le_of_ble_eq_true rfl, Nat.le_of_ble_eq_true rfl⟩) (pw_S hP hK hD) rfl rfl hl.1 rfl (lv_room (Nat.le_of_ble_eq_true rfl)) dX7_cost_1 ⟨Nat.zero_le _, Nat.zero_le _⟩) ?_
  refine lv_if_eq (tgt := 19) hx hb dX7_cost_4 (by decide) (fun c3 => ?_) (fun c3 => ?_)
  · have hf := it_p c3 hf
    refine lv_iconst (v := (-1)) hx hb dX7_cost_19 (by decide) ?_
    obtain rfl := so_i hf
    exact W.iret (v := (-1)) hx hb hr (qw_end hS hP hD ⟨h_this, hsm⟩) hS.2.2 dX7_cost_20
  · have hf := it_n c3 hf
    refine lv_iload_n hx hb dX7_cost_7 rfl (lv_at hl 2 rfl) ?_
    refine lv_i2l hx hb dX7_cost_8 rfl ?_
    refine lv_lconst (v := 0) hx hb dX7_cost_9 (by decide) ?_
    refine lv_ldc2 hx hb hown w_0 dX7_cost_10 ?_
    obtain ⟨r4, h5, hf⟩ := bd_s hf
    refine ks_i (va_runS (As := [.long (Int32.toInt64 p2), .long 0, .long 7]) (rest := []) hcf (cz_X7_in l D k A ws (Int32.toInt64 p2) 0 7 r4 h5) (va_cwS 3 hts gX7_cost_X7_in rfl rfl rfl (by decide +kernel) ⟨Nat.le_of_ble_eq_true rfl, Nat.le_of_ble_eq_true rfl⟩) (pw_S hP hK hD) rfl rfl hl.1 rfl (lv_room (Nat.le_of_ble_eq_true rfl)) dX7_cost_13 ⟨Nat.zero_le _, Nat.zero_le _⟩) ?_
    refine lv_if_ne (tgt := 21) hx hb dX7_cost_16 (by decide) (fun c6 => ?_) (fun c6 => ?_)
    · have hf := it_n c6 hf
      refine lv_aload_n hx hb dX7_cost_21 rfl (lv_at hl 0 rfl) ?_
      obtain ⟨r7, h8, hf⟩ := bd_s hf
      refine kw_v (va_runV (As := []) (rest := []) hcf (cz_X7_lays l D k A ws (q) st past image imagePast tape laneOf sizeOf items least costs hops comes chain told acts imageActs tapeMany readAt r7 h8 h_this _) (cwV 0 hts gX7_cost_X7_lays rfl rfl rfl (by decide +kernel) ⟨Nat.le_of_ble_eq_true rfl, Nat.le_of_ble_eq_true rfl⟩) (px_V hP hK hD (ci := 7) h_this.1 rfl) rfl rfl hl.1 rfl (lv_room (Nat.le_of_ble_eq_true rfl)) dX7_cost_22 ⟨Nat.zero_le _, Nat.zero_le _⟩) hD hS hA (fun u9 _ _ h10 hP hD hS => ?_)
      obtain ⟨h12, m11⟩ := h10
      have hsm := sm_tr hsm m11 (by omega) (by omega)
      refine lv_aload_n hx hb dX7_cost_25 rfl (lv_at hl 0 rfl) ?_
      obtain ⟨h13, h14, h15, h16, h17, h18, h19, h20, h21, h22, h23, h24, h25, h26, h27⟩ := h12
      refine va_get (D := D) (ci := 7) (v := .ref (A (q + 10))) (C := RX7) (T := TX7) (N := 18) hx hb hts in_X7_cost_X7 hown hK.1 hP (q) h13 rfl 12 (by decide) w_1 (fun _ h9 => h9) rfl dX7_cost_26 ?_
      refine lv_bipush (v := 8) hx hb dX7_cost_29 (by decide) ?_
      refine lv_iload_n hx hb dX7_cost_31 rfl (lv_at hl 1 rfl) ?_
      refine lv_imul hx hb dX7_cost_32 ?_
      refine lv_iload_n hx hb dX7_cost_33 rfl (lv_at hl 2 rfl) ?_
      refine lv_iadd hx hb dX7_cost_34 ?_
      obtain ⟨z28, hf⟩ := ck_s hf
      refine va_iald hx hb hK.1 hP (q + 10) 0 h23 rfl (in_s z28) dX7_cost_35 ?_
      obtain rfl := so_i hf
      have h29 : is_Y k A u9 (q) st past image imagePast tape laneOf sizeOf items r7.1 r7.2.1 r7.2.2.1 r7.2.2.2 chain told acts imageActs tapeMany readAt := ⟨h13, h14, h15, h16, h17, h18, h19, h20, h21, h22, h23, h24, h25, h26, h27⟩
      exact W.iret (v := (r7.2.1 (Int32.toNatClampNeg ((8 * p1) + p2)))) hx hb hr (qw_end hS hP hD ⟨h29, hsm⟩) hS.2.2 dX7_cost_36
    · have hf := it_p c6 hf
      refine lv_iconst (v := (-1)) hx hb dX7_cost_19 (by decide) ?_
      obtain rfl := so_i hf
      exact W.iret (v := (-1)) hx hb hr (qw_end hS hP hD ⟨h_this, hsm⟩) hS.2.2 dX7_cost_20

def lp_X7_many_4 (n1 : Nat) (f1 : Nat → Int32) (x1 : Int32) : Nat → Int32 → Int32 → Option (Int32)
  | 0, _, _ => none
  | n + 1, x2, x3 =>
    if 512 ≤ x3 then
      some x2
    else
      ck_O (in_b (x1 + x3) n1) (
        if (f1 (Int32.toNatClampNeg (x1 + x3))) = 8 then
          lp_X7_many_4 n1 f1 x1 n (x2 + 0) (x3 + 1)
        else
          lp_X7_many_4 n1 f1 x1 n (x2 + 1) (x3 + 1))

def pf_X7_many (f1 : Nat → Int32) (n1 : Nat) (p2 : Int32) : Option (Int32) :=
  lp_X7_many_4 n1 f1 p2 fu_N 0 1

set_option maxHeartbeats 4000000 in
set_option maxRecDepth 100000 in
theorem wl_X7_many_4 {p : Program} {e : Env} {s : State} {m : MethodId} {args : Array Value} {below : List Frame} {meth : Method} {c : Code} (l : Launch) (D : va_G) (k : kt_T) (A : Nat → Nat) (ws : va_W) (q1 : Nat) (n1 : Nat) (out : Int32) (hK : kk_P D k s) (C0 : cx_P p s m meth c args cX7_many 4 wsX7_many RX7 (some .int))  (f1 : Nat → Int32) (x1 : Int32)   (h_f1 : ws[q1]? = some (A q1, .inl (k.1, n1, .inl f1))) (hP : va_P D vwCl ws s.heap) (hD : va_D (fun _ => True) ws) : ∀ (n : Nat) (x2 : Int32) (x3 : Int32) (ls : Array Slot), lp_X7_many_4 n1 f1 x1 n x2 x3 = some out → lv_has ls 4 [(0, .ref (A q1)), (1, .int x1), (2, .int x2), (3, .int x3)] → W p l e (headSpec wsX7_many { frames := 0, cells := 0, slots := 0, locals := 0 }).room s m args below meth c s.heap [] 0 0 (MQ below (qs_Q (some (.int out))) args s 0 0 (fun _ => False)) (F0 m 4 ls []) := by
  obtain ⟨hx, hb, hml, hown, hts, hr, hlocks⟩ := id C0
  have hcf : CallFix p m c cX7_many 4 s args wsX7_many RX7 := ⟨hx, hb, hml, hown, hts⟩
  intro n
  induction n with
  | zero =>
    intro x2 x3 ls hf hl
    exact (no_s hf).elim
  | succ n ih =>
    intro x2 x3 ls hf hl
    rw [lp_X7_many_4] at hf
    refine lv_iload_n hx hb dX7_many_4 rfl (lv_at hl 3 rfl) ?_
    refine lv_sipush (v := 512) hx hb dX7_many_5 (by decide) ?_
    refine lv_icmp_ge (tgt := 35) hx hb dX7_many_8 (by decide) (fun c1 => ?_) (fun c1 => ?_)
    · have hf := it_p c1 hf
      refine lv_iload_n hx hb dX7_many_35 rfl (lv_at hl 2 rfl) ?_
      obtain rfl := so_i hf
      exact W.iret (v := x2) hx hb hr (fun t ht _ => ⟨rfl, ht⟩) (fun _ h => absurd h List.not_mem_nil) dX7_many_36
    · have hf := it_n c1 hf
      refine lv_iload_n hx hb dX7_many_11 rfl (lv_at hl 2 rfl) ?_
      refine lv_aload_n hx hb dX7_many_12 rfl (lv_at hl 0 rfl) ?_
      refine lv_iload_n hx hb dX7_many_13 rfl (lv_at hl 1 rfl) ?_
      refine lv_iload_n hx hb dX7_many_14 rfl (lv_at hl 3 rfl) ?_
      refine lv_iadd hx hb dX7_many_15 ?_
      obtain ⟨z2, hf⟩ := ck_s hf
      refine va_iald hx hb hK.1 hP (q1) 0 h_f1 rfl (in_s z2) dX7_many_16 ?_
      refine lv_bipush (v := 8) hx hb dX7_many_17 (by decide) ?_
      refine lv_icmp_ne (tgt := 26) hx hb dX7_many_19 (by decide) (fun c3 => ?_) (fun c3 => ?_)
      · have hf := it_n c3 hf
        refine lv_iconst (v := 1) hx hb dX7_many_26 (by decide) ?_
        refine lv_iadd hx hb dX7_many_27 ?_
        refine lv_istore_n (lv' := [(2, .int (x2 + 1)), (0, .ref (A q1)), (1, .int x1), (3, .int x3)]) hx hb dX7_many_28 rfl hl (by decide) rfl (fun ls hl => ?_)
        refine lv_iinc (v := (x3 + 1)) (lv' := [(3, .int (x3 + 1)), (2, .int (x2 + 1)), (0, .ref (A q1)), (1, .int x1)]) hx hb dX7_many_29 hl (k := 3) rfl rfl (by decide) rfl (fun ls hl => ?_)
        refine lv_goto (tgt := 4) hx hb dX7_many_32 (by decide) ?_
        exact ih (x2 + 1) (x3 + 1) _ hf (lv_sub hl [2, 3, 1, 0] rfl)
      · have hf := it_p c3 hf
        refine lv_iconst (v := 0) hx hb dX7_many_22 (by decide) ?_
        refine lv_goto (tgt := 27) hx hb dX7_many_23 (by decide) ?_
        refine lv_iadd hx hb dX7_many_27 ?_
        refine lv_istore_n (lv' := [(2, .int (x2 + 0)), (0, .ref (A q1)), (1, .int x1), (3, .int x3)]) hx hb dX7_many_28 rfl hl (by decide) rfl (fun ls hl => ?_)
        refine lv_iinc (v := (x3 + 1)) (lv' := [(3, .int (x3 + 1)), (2, .int (x2 + 0)), (0, .ref (A q1)), (1, .int x1)]) hx hb dX7_many_29 hl (k := 3) rfl rfl (by decide) rfl (fun ls hl => ?_)
        refine lv_goto (tgt := 4) hx hb dX7_many_32 (by decide) ?_
        exact ih (x2 + 0) (x3 + 1) _ hf (lv_sub hl [2, 3, 1, 0] rfl)

set_option maxHeartbeats 4000000 in
set_option maxRecDepth 100000 in
theorem cz_X7_many (l : Launch) (D : va_G) (k : kt_T) (A : Nat → Nat) (ws : va_W) (q1 : Nat) (n1 : Nat) (f1 : Nat → Int32) (p2 : Int32) (out : Int32) (hf : pf_X7_many f1 n1 p2 = some out) (h_f1 : ws[q1]? = some (A q1, .inl (k.1, n1, .inl f1)))  : Met l yX7_many wsX7_many { frames := 0, cells := 0, slots := 0, locals := 0 } (va_Pc [.ref (A q1), .int p2] (pw_P D k ws)) (qs_Q (some (.int out))) 0 0 (fun _ => False) := by
  refine Met.ofW (cc := cX7_many) (maxL := 4) (ret := (some .int)) (by decide) rfl ?_
  intro p e s m args below meth c s₁ B hml hv
  obtain ⟨rfl, hP, hK, hD⟩ := hv
  have C0 : cx_P p s m meth c [.ref (A q1), .int p2].toArray cX7_many 4 wsX7_many RX7 (some .int) := ⟨B.exec, B.bytes, hml, findClass_of_methodNamed B.named, atoms_spec (ws := wsX7_many) B.pre, B.returns, B.notSynchronized⟩
  obtain ⟨hx, hb, hml, hown, hts, hr, hlocks⟩ := id C0
  have hcf : CallFix p m c cX7_many 4 s [.ref (A q1), .int p2].toArray wsX7_many RX7 := ⟨hx, hb, hml, hown, hts⟩
  have hl := lv_entry ([.ref (A q1), .int p2]) (n := 4) (Nat.le_of_ble_eq_true rfl)
  rw [lg_entry_eq]
  generalize (lg_sl ([.ref (A q1), .int p2]) ++ List.replicate (4 - (lg_sl ([.ref (A q1), .int p2])).length) Slot.unset).toArray = ls at hl ⊢
  have hl : lv_has ls 4 [(0, .ref (A q1)), (1, .int p2)] := hl
  unfold pf_X7_many at hf
  refine lv_iconst (v := 0) hx hb dX7_many_0 (by decide) ?_
  refine lv_istore_n (lv' := [(2, .int 0), (0, .ref (A q1)), (1, .int p2)]) hx hb dX7_many_1 rfl hl (by decide) rfl (fun ls hl => ?_)
  refine lv_iconst (v := 1) hx hb dX7_many_2 (by decide) ?_
  refine lv_istore_n (lv' := [(3, .int 1), (2, .int 0), (0, .ref (A q1)), (1, .int p2)]) hx hb dX7_many_3 rfl hl (by decide) rfl (fun ls hl => ?_)
  exact wl_X7_many_4 l D k A ws q1 n1 _ hK C0 f1 p2 h_f1 hP hD fu_N 0 1 _ hf (lv_sub hl [2, 3, 1, 0] rfl)

theorem in_X7_leastAt_X7 : ∀ w ∈ u_ws RX7 TX7 18, w ∈ wsX7_leastAt := fun w h => List.mem_cons_of_mem _ (List.mem_append_right _ h)
def lp_X7_leastAt_4  (least : Nat → Int32) : Nat → Int32 → Int32 → Option (Int32)
  | 0, _, _ => none
  | n + 1, x2, x3 =>
    if 512 ≤ x3 then
      some (-4)
    else
      ck_O (in_b x3 512) (
        if (least (Int32.toNatClampNeg x3)) = 8 then
          lp_X7_leastAt_4 least n x2 (x3 + 1)
        else
          if x2 = 0 then
            some x3
          else
            lp_X7_leastAt_4 least n (x2 + (-1)) (x3 + 1))

def pf_X7_leastAt (least : Nat → Int32)  (p1 : Int32) : Option (Int32) :=
  lp_X7_leastAt_4 least fu_N p1 1

set_option maxHeartbeats 4000000 in
set_option maxRecDepth 100000 in
theorem wl_X7_leastAt_4 {p : Program} {e : Env} {s : State} {m : MethodId} {args : Array Value} {below : List Frame} {meth : Method} {c : Code} (l : Launch) (D : va_G) (k : kt_T) (A : Nat → Nat) (ws : va_W) (q : Nat)  (out : Int32) (hK : kk_P D k s) (C0 : cx_P p s m meth c args cX7_leastAt 4 wsX7_leastAt RX7 (some .int))  (st : Nat → Int32) (past : Nat → Int32) (image : Nat → Int32) (imagePast : Nat → Int32) (tape : Nat → Int32) (laneOf : Nat → Int32) (sizeOf : Nat → Int32) (items : Nat → Int64) (least : Nat → Int32) (costs : Nat → Int32) (hops : Nat → Int32) (comes : Nat → Int32) (chain : Nat → Int32) (told : Nat → Int32) (acts : Int32) (imageActs : Int32) (tapeMany : Int32) (readAt : Int32)    (h_this : is_Y k A ws q st past image imagePast tape laneOf sizeOf items least costs hops comes chain told acts imageActs tapeMany readAt) (hP : va_P D vwCl ws s.heap) (hD : va_D (fun _ => True) ws) : ∀ (n : Nat) (x2 : Int32) (x3 : Int32) (ls : Array Slot), lp_X7_leastAt_4 least n x2 x3 = some out → lv_has ls 4 [(0, .ref (A q)), (2, .int x2), (3, .int x3)] → W p l e (headSpec wsX7_leastAt { frames := 0, cells := 0, slots := 0, locals := 0 }).room s m args below meth c s.heap [] 0 0 (MQ below (qs_Q (some (.int out))) args s 0 0 (fun _ => False)) (F0 m 4 ls []) := by
  obtain ⟨hx, hb, hml, hown, hts, hr, hlocks⟩ := id C0
  have hcf : CallFix p m c cX7_leastAt 4 s args wsX7_leastAt RX7 := ⟨hx, hb, hml, hown, hts⟩
  have w_0 := hts (.fieldLink RX7 39 "LeastRoutesModel" "least" "[I") (List.mem_of_getElem? (i := 1) rfl)
  intro n
  induction n with
  | zero =>
    intro x2 x3 ls hf hl
    exact (no_s hf).elim
  | succ n ih =>
    intro x2 x3 ls hf hl
    rw [lp_X7_leastAt_4] at hf
    refine lv_iload_n hx hb dX7_leastAt_4 rfl (lv_at hl 2 rfl) ?_
    refine lv_sipush (v := 512) hx hb dX7_leastAt_5 (by decide) ?_
    refine lv_icmp_ge (tgt := 37) hx hb dX7_leastAt_8 (by decide) (fun c1 => ?_) (fun c1 => ?_)
    · have hf := it_p c1 hf
      refine lv_bipush (v := (-4)) hx hb dX7_leastAt_37 (by decide) ?_
      obtain rfl := so_i hf
      exact W.iret (v := (-4)) hx hb hr (fun t ht _ => ⟨rfl, ht⟩) (fun _ h => absurd h List.not_mem_nil) dX7_leastAt_39
    · have hf := it_n c1 hf
      refine lv_aload_n hx hb dX7_leastAt_11 rfl (lv_at hl 0 rfl) ?_
      obtain ⟨h2, h3, h4, h5, h6, h7, h8, h9, h10, h11, h12, h13, h14, h15, h16⟩ := h_this
      refine va_get (D := D) (ci := 7) (v := .ref (A (q + 9))) (C := RX7) (T := TX7) (N := 18) hx hb hts in_X7_leastAt_X7 hown hK.1 hP (q) h2 rfl 11 (by decide) w_0 (fun _ h9 => h9) rfl dX7_leastAt_12 ?_
      refine lv_iload_n hx hb dX7_leastAt_15 rfl (lv_at hl 2 rfl) ?_
      obtain ⟨z17, hf⟩ := ck_s hf
      refine va_iald hx hb hK.1 hP (q + 9) 0 h11 rfl (in_s z17) dX7_leastAt_16 ?_
      refine lv_bipush (v := 8) hx hb dX7_leastAt_17 (by decide) ?_
      refine lv_icmp_eq (tgt := 31) hx hb dX7_leastAt_19 (by decide) (fun c18 => ?_) (fun c18 => ?_)
      · have hf := it_p c18 hf
        refine lv_iinc (v := (x3 + 1)) (lv' := [(3, .int (x3 + 1)), (0, .ref (A q)), (2, .int x2)]) hx hb dX7_leastAt_31 hl (k := 2) rfl rfl (by decide) rfl (fun ls hl => ?_)
        refine lv_goto (tgt := 4) hx hb dX7_leastAt_34 (by decide) ?_
        exact ih x2 (x3 + 1) _ hf (lv_sub hl [1, 2, 0] rfl)
      · have hf := it_n c18 hf
        refine lv_iload_n hx hb dX7_leastAt_22 rfl (lv_at hl 1 rfl) ?_
        refine lv_if_ne (tgt := 28) hx hb dX7_leastAt_23 (by decide) (fun c19 => ?_) (fun c19 => ?_)
        · have hf := it_n c19 hf
          refine lv_iinc (v := (x2 + (-1))) (lv' := [(2, .int (x2 + (-1))), (0, .ref (A q)), (3, .int x3)]) hx hb dX7_leastAt_28 hl (k := 1) rfl rfl (by decide) rfl (fun ls hl => ?_)
          refine lv_iinc (v := (x3 + 1)) (lv' := [(3, .int (x3 + 1)), (2, .int (x2 + (-1))), (0, .ref (A q))]) hx hb dX7_leastAt_31 hl (k := 2) rfl rfl (by decide) rfl (fun ls hl => ?_)
          refine lv_goto (tgt := 4) hx hb dX7_leastAt_34 (by decide) ?_
          exact ih (x2 + (-1)) (x3 + 1) _ hf (lv_sub hl [2, 1, 0] rfl)
        · have hf := it_p c19 hf
          refine lv_iload_n hx hb dX7_leastAt_26 rfl (lv_at hl 2 rfl) ?_
          obtain rfl := so_i hf
          exact W.iret (v := x3) hx hb hr (fun t ht _ => ⟨rfl, ht⟩) (fun _ h => absurd h List.not_mem_nil) dX7_leastAt_27

set_option maxHeartbeats 4000000 in
set_option maxRecDepth 100000 in
theorem cz_X7_leastAt (l : Launch) (D : va_G) (k : kt_T) (A : Nat → Nat) (ws : va_W) (q : Nat)  (st : Nat → Int32) (past : Nat → Int32) (image : Nat → Int32) (imagePast : Nat → Int32) (tape : Nat → Int32) (laneOf : Nat → Int32) (sizeOf : Nat → Int32) (items : Nat → Int64) (least : Nat → Int32) (costs : Nat → Int32) (hops : Nat → Int32) (comes : Nat → Int32) (chain : Nat → Int32) (told : Nat → Int32) (acts : Int32) (imageActs : Int32) (tapeMany : Int32) (readAt : Int32) (p1 : Int32) (out : Int32) (hf : pf_X7_leastAt least p1 = some out) (h_this : is_Y k A ws q st past image imagePast tape laneOf sizeOf items least costs hops comes chain told acts imageActs tapeMany readAt)  : Met l yX7_leastAt wsX7_leastAt { frames := 0, cells := 0, slots := 0, locals := 0 } (va_Pc [.ref (A q), .int p1] (pw_P D k ws)) (qs_Q (some (.int out))) 0 0 (fun _ => False) := by
  refine Met.ofW (cc := cX7_leastAt) (maxL := 4) (ret := (some .int)) (by decide) rfl ?_
  intro p e s m args below meth c s₁ B hml hv
  obtain ⟨rfl, hP, hK, hD⟩ := hv
  have C0 : cx_P p s m meth c [.ref (A q), .int p1].toArray cX7_leastAt 4 wsX7_leastAt RX7 (some .int) := ⟨B.exec, B.bytes, hml, findClass_of_methodNamed B.named, atoms_spec (ws := wsX7_leastAt) B.pre, B.returns, B.notSynchronized⟩
  obtain ⟨hx, hb, hml, hown, hts, hr, hlocks⟩ := id C0
  have hcf : CallFix p m c cX7_leastAt 4 s [.ref (A q), .int p1].toArray wsX7_leastAt RX7 := ⟨hx, hb, hml, hown, hts⟩
  have hl := lv_entry ([.ref (A q), .int p1]) (n := 4) (Nat.le_of_ble_eq_true rfl)
  rw [lg_entry_eq]
  generalize (lg_sl ([.ref (A q), .int p1]) ++ List.replicate (4 - (lg_sl ([.ref (A q), .int p1])).length) Slot.unset).toArray = ls at hl ⊢
  have hl : lv_has ls 4 [(0, .ref (A q)), (1, .int p1)] := hl
  unfold pf_X7_leastAt at hf
  refine lv_iload_n hx hb dX7_leastAt_0 rfl (lv_at hl 1 rfl) ?_
  refine lv_istore_n (lv' := [(2, .int p1), (0, .ref (A q)), (1, .int p1)]) hx hb dX7_leastAt_1 rfl hl (by decide) rfl (fun ls hl => ?_)
  refine lv_iconst (v := 1) hx hb dX7_leastAt_2 (by decide) ?_
  refine lv_istore_n (lv' := [(3, .int 1), (2, .int p1), (0, .ref (A q)), (1, .int p1)]) hx hb dX7_leastAt_3 rfl hl (by decide) rfl (fun ls hl => ?_)
  exact wl_X7_leastAt_4 l D k A ws q _ hK C0 st past image imagePast tape laneOf sizeOf items least costs hops comes chain told acts imageActs tapeMany readAt h_this hP hD fu_N p1 1 _ hf (lv_sub hl [2, 1, 0] rfl)

theorem in_X7_least_X7 : ∀ w ∈ u_ws RX7 TX7 18, w ∈ wsX7_least := fun w h => List.mem_cons_of_mem _ (List.mem_append_right _ h)
def pf_X7_least (st : Nat → Int32) (least : Nat → Int32) (costs : Nat → Int32) (hops : Nat → Int32) (comes : Nat → Int32)  (p1 : Int32) (p2 : Int32) : Option (Int32 × (Nat → Int32) × (Nat → Int32) × (Nat → Int32) × (Nat → Int32)) :=
  if p1 < 0 then
    some ((-1), least, costs, hops, comes)
  else
    (pf_X7_in (Int32.toInt64 p2) 0 1).bind (fun r2 =>
      if r2 = 0 then
        some ((-1), least, costs, hops, comes)
      else
        (pf_X7_lays st least costs hops comes).bind (fun r5 =>
          (pf_X7_leastAt r5.1 p1).bind (fun r11 =>
            if r11 = (-4) then
              some (r11, r5.1, r5.2.1, r5.2.2.1, r5.2.2.2)
            else
              if p2 = 0 then
                some (r11, r5.1, r5.2.1, r5.2.2.1, r5.2.2.2)
              else
                ck_O (in_b r11 512) (
                  some ((r5.1 (Int32.toNatClampNeg r11)), r5.1, r5.2.1, r5.2.2.1, r5.2.2.2)))))

set_option maxHeartbeats 4000000 in
set_option maxRecDepth 100000 in
theorem cz_X7_least (l : Launch) (D : va_G) (k : kt_T) (A : Nat → Nat) (ws : va_W) (q : Nat)  (st : Nat → Int32) (past : Nat → Int32) (image : Nat → Int32) (imagePast : Nat → Int32) (tape : Nat → Int32) (laneOf : Nat → Int32) (sizeOf : Nat → Int32) (items : Nat → Int64) (least : Nat → Int32) (costs : Nat → Int32) (hops : Nat → Int32) (comes : Nat → Int32) (chain : Nat → Int32) (told : Nat → Int32) (acts : Int32) (imageActs : Int32) (tapeMany : Int32) (readAt : Int32) (p1 : Int32) (p2 : Int32) (out : Int32 × (Nat → Int32) × (Nat → Int32) × (Nat → Int32) × (Nat → Int32)) (hf : pf_X7_least st least costs hops comes p1 p2 = some out) (h_this : is_Y k A ws q st past image imagePast tape laneOf sizeOf items least costs hops comes chain told acts imageActs tapeMany readAt)  (sz0 : Nat) : Met l yX7_least wsX7_least { frames := 5, cells := 0, slots := 0, locals := 110 } (va_Pc [.ref (A q), .int p1, .int p2] (px_P D k ws sz0)) (qw_Q D ws sz0 (some (.int out.1)) (fun u => is_Y k A u q st past image imagePast tape laneOf sizeOf items out.2.1 out.2.2.1 out.2.2.2.1 out.2.2.2.2 chain told acts imageActs tapeMany readAt ∧ sm_W ws u q (q + 15))) 0 0 (va_A ws sz0) := by
  refine Met.ofW (cc := cX7_least) (maxL := 4) (ret := (some .int)) (by decide) rfl ?_
  intro p e s m args below meth c s₁ B hml hv
  obtain ⟨rfl, hsz, hP, hK, hD0⟩ := hv
  subst hsz
  have hD := hD0.self (sz := s.heap.size)
  have C0 : cx_P p s m meth c [.ref (A q), .int p1, .int p2].toArray cX7_least 4 wsX7_least RX7 (some .int) := ⟨B.exec, B.bytes, hml, findClass_of_methodNamed B.named, atoms_spec (ws := wsX7_least) B.pre, B.returns, B.notSynchronized⟩
  obtain ⟨hx, hb, hml, hown, hts, hr, hlocks⟩ := id C0
  have hcf : CallFix p m c cX7_least 4 s [.ref (A q), .int p1, .int p2].toArray wsX7_least RX7 := ⟨hx, hb, hml, hown, hts⟩
  have hA : ∀ q, s.heap.size ≤ q → va_A ws s.heap.size q := fun q h => Or.inr h
  have hS : va_S (va_A ws s.heap.size) s.heap s.heap [] := va_S.rf
  have hsm : sm_W ws ws q (q + 15) := sm_rf
  have w_0 := hts (.fieldLink RX7 39 "LeastRoutesModel" "least" "[I") (List.mem_of_getElem? (i := 1) rfl)
  have hl := lv_entry ([.ref (A q), .int p1, .int p2]) (n := 4) (Nat.le_of_ble_eq_true rfl)
  rw [lg_entry_eq]
  generalize (lg_sl ([.ref (A q), .int p1, .int p2]) ++ List.replicate (4 - (lg_sl ([.ref (A q), .int p1, .int p2])).length) Slot.unset).toArray = ls at hl ⊢
  have hl : lv_has ls 4 [(0, .ref (A q)), (1, .int p1), (2, .int p2)] := hl
  unfold pf_X7_least at hf
  refine lv_iload_n hx hb dX7_least_0 rfl (lv_at hl 1 rfl) ?_
  refine lv_if_lt (tgt := 14) hx hb dX7_least_1 (by decide) (fun c1 => ?_) (fun c1 => ?_)
  · have hf := it_p c1 hf
    refine lv_iconst (v := (-1)) hx hb dX7_least_14 (by decide) ?_
    obtain rfl := so_i hf
    exact W.iret (v := (-1)) hx hb hr (qw_end hS hP hD ⟨h_this, hsm⟩) hS.2.2 dX7_least_15
  · have hf := it_n c1 hf
    refine lv_iload_n hx hb dX7_least_4 rfl (lv_at hl 2 rfl) ?_
    refine lv_i2l hx hb dX7_least_5 rfl ?_
    refine lv_lconst (v := 0) hx hb dX7_least_6 (by decide) ?_
    refine lv_lconst (v := 1) hx hb dX7_least_7 (by decide) ?_
    obtain ⟨r2, h3, hf⟩ := bd_s hf
    refine ks_i (va_runS (As := [.long (Int32.toInt64 p2), .long 0, .long 1]) (rest := []) hcf (cz_X7_in l D k A ws (Int32.toInt64 p2) 0 1 r2 h3) (va_cwS 3 hts gX7_least_X7_in rfl rfl rfl (by decide +kernel) ⟨Nat.le_of_ble_eq_true rfl, Nat.le_of_ble_eq_true rfl⟩) (pw_S hP hK hD) rfl rfl hl.1 rfl (lv_room (Nat.le_of_ble_eq_true rfl)) dX7_least_8 ⟨Nat.zero_le _, Nat.zero_le _⟩) ?_
    refine lv_if_ne (tgt := 16) hx hb dX7_least_11 (by decide) (fun c4 => ?_) (fun c4 => ?_)
    · have hf := it_n c4 hf
      refine lv_aload_n hx hb dX7_least_16 rfl (lv_at hl 0 rfl) ?_
      obtain ⟨r5, h6, hf⟩ := bd_s hf
      refine kw_v (va_runV (As := []) (rest := []) hcf (cz_X7_lays l D k A ws (q) st past image imagePast tape laneOf sizeOf items least costs hops comes chain told acts imageActs tapeMany readAt r5 h6 h_this _) (cwV 0 hts gX7_least_X7_lays rfl rfl rfl (by decide +kernel) ⟨Nat.le_of_ble_eq_true rfl, Nat.le_of_ble_eq_true rfl⟩) (px_V hP hK hD (ci := 7) h_this.1 rfl) rfl rfl hl.1 rfl (lv_room (Nat.le_of_ble_eq_true rfl)) dX7_least_17 ⟨Nat.zero_le _, Nat.zero_le _⟩) hD hS hA (fun u7 _ _ h8 hP hD hS => ?_)
      obtain ⟨h10, m9⟩ := h8
      have hsm := sm_tr hsm m9 (by omega) (by omega)
      refine lv_aload_n hx hb dX7_least_20 rfl (lv_at hl 0 rfl) ?_
      refine lv_iload_n hx hb dX7_least_21 rfl (lv_at hl 1 rfl) ?_
      obtain ⟨r11, h12, hf⟩ := bd_s hf
      refine ks_i (va_runV (As := [.int p1]) (rest := []) hcf (cz_X7_leastAt l D k A u7 (q) st past image imagePast tape laneOf sizeOf items r5.1 r5.2.1 r5.2.2.1 r5.2.2.2 chain told acts imageActs tapeMany readAt p1 r11 h12 h10) (cwV 1 hts gX7_least_X7_leastAt rfl rfl rfl (by decide +kernel) ⟨Nat.le_of_ble_eq_true rfl, Nat.le_of_ble_eq_true rfl⟩) (pw_V hP hK hD (ci := 7) h10.1 rfl) rfl rfl hl.1 rfl (lv_room (Nat.le_of_ble_eq_true rfl)) dX7_least_22 ⟨Nat.zero_le _, Nat.zero_le _⟩) ?_
      refine lv_istore_n (lv' := [(3, .int r11), (0, .ref (A q)), (1, .int p1), (2, .int p2)]) hx hb dX7_least_25 rfl hl (by decide) rfl (fun ls hl => ?_)
      refine lv_iload_n hx hb dX7_least_26 rfl (lv_at hl 0 rfl) ?_
      refine lv_bipush (v := (-4)) hx hb dX7_least_27 (by decide) ?_
      refine lv_icmp_eq (tgt := 36) hx hb dX7_least_29 (by decide) (fun c13 => ?_) (fun c13 => ?_)
      · have hf := it_p c13 hf
        refine lv_iload_n hx hb dX7_least_36 rfl (lv_at hl 0 rfl) ?_
        refine lv_goto (tgt := 46) hx hb dX7_least_37 (by decide) ?_
        obtain rfl := so_i hf
        exact W.iret (v := r11) hx hb hr (qw_end hS hP hD ⟨h10, hsm⟩) hS.2.2 dX7_least_46
      · have hf := it_n c13 hf
        refine lv_iload_n hx hb dX7_least_32 rfl (lv_at hl 3 rfl) ?_
        refine lv_if_ne (tgt := 40) hx hb dX7_least_33 (by decide) (fun c14 => ?_) (fun c14 => ?_)
        · have hf := it_n c14 hf
          refine lv_aload_n hx hb dX7_least_40 rfl (lv_at hl 1 rfl) ?_
          obtain ⟨h15, h16, h17, h18, h19, h20, h21, h22, h23, h24, h25, h26, h27, h28, h29⟩ := h10
          refine va_get (D := D) (ci := 7) (v := .ref (A (q + 9))) (C := RX7) (T := TX7) (N := 18) hx hb hts in_X7_least_X7 hown hK.1 hP (q) h15 rfl 11 (by decide) w_0 (fun _ h9 => h9) rfl dX7_least_41 ?_
          refine lv_iload_n hx hb dX7_least_44 rfl (lv_at hl 0 rfl) ?_
          obtain ⟨z30, hf⟩ := ck_s hf
          refine va_iald hx hb hK.1 hP (q + 9) 0 h24 rfl (in_s z30) dX7_least_45 ?_
          obtain rfl := so_i hf
          have h31 : is_Y k A u7 (q) st past image imagePast tape laneOf sizeOf items r5.1 r5.2.1 r5.2.2.1 r5.2.2.2 chain told acts imageActs tapeMany readAt := ⟨h15, h16, h17, h18, h19, h20, h21, h22, h23, h24, h25, h26, h27, h28, h29⟩
          exact W.iret (v := (r5.1 (Int32.toNatClampNeg r11))) hx hb hr (qw_end hS hP hD ⟨h31, hsm⟩) hS.2.2 dX7_least_46
        · have hf := it_p c14 hf
          refine lv_iload_n hx hb dX7_least_36 rfl (lv_at hl 0 rfl) ?_
          refine lv_goto (tgt := 46) hx hb dX7_least_37 (by decide) ?_
          obtain rfl := so_i hf
          exact W.iret (v := r11) hx hb hr (qw_end hS hP hD ⟨h10, hsm⟩) hS.2.2 dX7_least_46
    · have hf := it_p c4 hf
      refine lv_iconst (v := (-1)) hx hb dX7_least_14 (by decide) ?_
      obtain rfl := so_i hf
      exact W.iret (v := (-1)) hx hb hr (qw_end hS hP hD ⟨h_this, hsm⟩) hS.2.2 dX7_least_15

theorem in_X7_changeAt_X7 : ∀ w ∈ u_ws RX7 TX7 18, w ∈ wsX7_changeAt := fun w h => List.mem_cons_of_mem _ (List.mem_append_right _ h)
def lp_X7_changeAt_4  (st : Nat → Int32) (least : Nat → Int32) : Nat → Int32 → Int32 → Option (Int32)
  | 0, _, _ => none
  | n + 1, x2, x3 =>
    if 512 ≤ x3 then
      some (-4)
    else
      ck_O (in_b x3 512) (
        ck_O (in_b (512 + x3) 1025) (
          if (least (Int32.toNatClampNeg x3)) = (st (Int32.toNatClampNeg (512 + x3))) then
            lp_X7_changeAt_4 st least n x2 (x3 + 1)
          else
            if x2 = 0 then
              some x3
            else
              lp_X7_changeAt_4 st least n (x2 + (-1)) (x3 + 1)))

def pf_X7_changeAt (st : Nat → Int32) (least : Nat → Int32)  (p1 : Int32) : Option (Int32) :=
  lp_X7_changeAt_4 st least fu_N p1 1

set_option maxHeartbeats 4000000 in
set_option maxRecDepth 100000 in
theorem wl_X7_changeAt_4 {p : Program} {e : Env} {s : State} {m : MethodId} {args : Array Value} {below : List Frame} {meth : Method} {c : Code} (l : Launch) (D : va_G) (k : kt_T) (A : Nat → Nat) (ws : va_W) (q : Nat)  (out : Int32) (hK : kk_P D k s) (C0 : cx_P p s m meth c args cX7_changeAt 4 wsX7_changeAt RX7 (some .int))  (st : Nat → Int32) (past : Nat → Int32) (image : Nat → Int32) (imagePast : Nat → Int32) (tape : Nat → Int32) (laneOf : Nat → Int32) (sizeOf : Nat → Int32) (items : Nat → Int64) (least : Nat → Int32) (costs : Nat → Int32) (hops : Nat → Int32) (comes : Nat → Int32) (chain : Nat → Int32) (told : Nat → Int32) (acts : Int32) (imageActs : Int32) (tapeMany : Int32) (readAt : Int32)    (h_this : is_Y k A ws q st past image imagePast tape laneOf sizeOf items least costs hops comes chain told acts imageActs tapeMany readAt) (hP : va_P D vwCl ws s.heap) (hD : va_D (fun _ => True) ws) : ∀ (n : Nat) (x2 : Int32) (x3 : Int32) (ls : Array Slot), lp_X7_changeAt_4 st least n x2 x3 = some out → lv_has ls 4 [(0, .ref (A q)), (2, .int x2), (3, .int x3)] → W p l e (headSpec wsX7_changeAt { frames := 0, cells := 0, slots := 0, locals := 0 }).room s m args below meth c s.heap [] 0 0 (MQ below (qs_Q (some (.int out))) args s 0 0 (fun _ => False)) (F0 m 4 ls []) := by
  obtain ⟨hx, hb, hml, hown, hts, hr, hlocks⟩ := id C0
  have hcf : CallFix p m c cX7_changeAt 4 s args wsX7_changeAt RX7 := ⟨hx, hb, hml, hown, hts⟩
  have w_0 := hts (.fieldLink RX7 39 "LeastRoutesModel" "least" "[I") (List.mem_of_getElem? (i := 1) rfl)
  have w_1 := hts (.fieldLink RX7 7 "LeastRoutesModel" "st" "[I") (List.mem_of_getElem? (i := 2) rfl)
  intro n
  induction n with
  | zero =>
    intro x2 x3 ls hf hl
    exact (no_s hf).elim
  | succ n ih =>
    intro x2 x3 ls hf hl
    rw [lp_X7_changeAt_4] at hf
    refine lv_iload_n hx hb dX7_changeAt_4 rfl (lv_at hl 2 rfl) ?_
    refine lv_sipush (v := 512) hx hb dX7_changeAt_5 (by decide) ?_
    refine lv_icmp_ge (tgt := 45) hx hb dX7_changeAt_8 (by decide) (fun c1 => ?_) (fun c1 => ?_)
    · have hf := it_p c1 hf
      refine lv_bipush (v := (-4)) hx hb dX7_changeAt_45 (by decide) ?_
      obtain rfl := so_i hf
      exact W.iret (v := (-4)) hx hb hr (fun t ht _ => ⟨rfl, ht⟩) (fun _ h => absurd h List.not_mem_nil) dX7_changeAt_47
    · have hf := it_n c1 hf
      refine lv_aload_n hx hb dX7_changeAt_11 rfl (lv_at hl 0 rfl) ?_
      obtain ⟨h2, h3, h4, h5, h6, h7, h8, h9, h10, h11, h12, h13, h14, h15, h16⟩ := h_this
      refine va_get (D := D) (ci := 7) (v := .ref (A (q + 9))) (C := RX7) (T := TX7) (N := 18) hx hb hts in_X7_changeAt_X7 hown hK.1 hP (q) h2 rfl 11 (by decide) w_0 (fun _ h9 => h9) rfl dX7_changeAt_12 ?_
      refine lv_iload_n hx hb dX7_changeAt_15 rfl (lv_at hl 2 rfl) ?_
      obtain ⟨z17, hf⟩ := ck_s hf
      refine va_iald hx hb hK.1 hP (q + 9) 0 h11 rfl (in_s z17) dX7_changeAt_16 ?_
      refine lv_aload_n hx hb dX7_changeAt_17 rfl (lv_at hl 0 rfl) ?_
      refine va_get (D := D) (ci := 7) (v := .ref (A (q + 1))) (C := RX7) (T := TX7) (N := 18) hx hb hts in_X7_changeAt_X7 hown hK.1 hP (q) h2 rfl 0 (by decide) w_1 (fun _ h9 => h9) rfl dX7_changeAt_18 ?_
      refine lv_sipush (v := 512) hx hb dX7_changeAt_21 (by decide) ?_
      refine lv_iload_n hx hb dX7_changeAt_24 rfl (lv_at hl 2 rfl) ?_
      refine lv_iadd hx hb dX7_changeAt_25 ?_
      obtain ⟨z18, hf⟩ := ck_s hf
      refine va_iald hx hb hK.1 hP (q + 1) 0 h3 rfl (in_s z18) dX7_changeAt_26 ?_
      refine lv_icmp_eq (tgt := 39) hx hb dX7_changeAt_27 (by decide) (fun c19 => ?_) (fun c19 => ?_)
      · have hf := it_p c19 hf
        refine lv_iinc (v := (x3 + 1)) (lv' := [(3, .int (x3 + 1)), (0, .ref (A q)), (2, .int x2)]) hx hb dX7_changeAt_39 hl (k := 2) rfl rfl (by decide) rfl (fun ls hl => ?_)
        refine lv_goto (tgt := 4) hx hb dX7_changeAt_42 (by decide) ?_
        exact ih x2 (x3 + 1) _ hf (lv_sub hl [1, 2, 0] rfl)
      · have hf := it_n c19 hf
        refine lv_iload_n hx hb dX7_changeAt_30 rfl (lv_at hl 1 rfl) ?_
        refine lv_if_ne (tgt := 36) hx hb dX7_changeAt_31 (by decide) (fun c20 => ?_) (fun c20 => ?_)
        · have hf := it_n c20 hf
          refine lv_iinc (v := (x2 + (-1))) (lv' := [(2, .int (x2 + (-1))), (0, .ref (A q)), (3, .int x3)]) hx hb dX7_changeAt_36 hl (k := 1) rfl rfl (by decide) rfl (fun ls hl => ?_)
          refine lv_iinc (v := (x3 + 1)) (lv' := [(3, .int (x3 + 1)), (2, .int (x2 + (-1))), (0, .ref (A q))]) hx hb dX7_changeAt_39 hl (k := 2) rfl rfl (by decide) rfl (fun ls hl => ?_)
          refine lv_goto (tgt := 4) hx hb dX7_changeAt_42 (by decide) ?_
          exact ih (x2 + (-1)) (x3 + 1) _ hf (lv_sub hl [2, 1, 0] rfl)
        · have hf := it_p c20 hf
          refine lv_iload_n hx hb dX7_changeAt_34 rfl (lv_at hl 2 rfl) ?_
          obtain rfl := so_i hf
          exact W.iret (v := x3) hx hb hr (fun t ht _ => ⟨rfl, ht⟩) (fun _ h => absurd h List.not_mem_nil) dX7_changeAt_35

set_option maxHeartbeats 4000000 in
set_option maxRecDepth 100000 in
theorem cz_X7_changeAt (l : Launch) (D : va_G) (k : kt_T) (A : Nat → Nat) (ws : va_W) (q : Nat)  (st : Nat → Int32) (past : Nat → Int32) (image : Nat → Int32) (imagePast : Nat → Int32) (tape : Nat → Int32) (laneOf : Nat → Int32) (sizeOf : Nat → Int32) (items : Nat → Int64) (least : Nat → Int32) (costs : Nat → Int32) (hops : Nat → Int32) (comes : Nat → Int32) (chain : Nat → Int32) (told : Nat → Int32) (acts : Int32) (imageActs : Int32) (tapeMany : Int32) (readAt : Int32) (p1 : Int32) (out : Int32) (hf : pf_X7_changeAt st least p1 = some out) (h_this : is_Y k A ws q st past image imagePast tape laneOf sizeOf items least costs hops comes chain told acts imageActs tapeMany readAt)  : Met l yX7_changeAt wsX7_changeAt { frames := 0, cells := 0, slots := 0, locals := 0 } (va_Pc [.ref (A q), .int p1] (pw_P D k ws)) (qs_Q (some (.int out))) 0 0 (fun _ => False) := by
  refine Met.ofW (cc := cX7_changeAt) (maxL := 4) (ret := (some .int)) (by decide) rfl ?_
  intro p e s m args below meth c s₁ B hml hv
  obtain ⟨rfl, hP, hK, hD⟩ := hv
  have C0 : cx_P p s m meth c [.ref (A q), .int p1].toArray cX7_changeAt 4 wsX7_changeAt RX7 (some .int) := ⟨B.exec, B.bytes, hml, findClass_of_methodNamed B.named, atoms_spec (ws := wsX7_changeAt) B.pre, B.returns, B.notSynchronized⟩
  obtain ⟨hx, hb, hml, hown, hts, hr, hlocks⟩ := id C0
  have hcf : CallFix p m c cX7_changeAt 4 s [.ref (A q), .int p1].toArray wsX7_changeAt RX7 := ⟨hx, hb, hml, hown, hts⟩
  have hl := lv_entry ([.ref (A q), .int p1]) (n := 4) (Nat.le_of_ble_eq_true rfl)
  rw [lg_entry_eq]
  generalize (lg_sl ([.ref (A q), .int p1]) ++ List.replicate (4 - (lg_sl ([.ref (A q), .int p1])).length) Slot.unset).toArray = ls at hl ⊢
  have hl : lv_has ls 4 [(0, .ref (A q)), (1, .int p1)] := hl
  unfold pf_X7_changeAt at hf
  refine lv_iload_n hx hb dX7_changeAt_0 rfl (lv_at hl 1 rfl) ?_
  refine lv_istore_n (lv' := [(2, .int p1), (0, .ref (A q)), (1, .int p1)]) hx hb dX7_changeAt_1 rfl hl (by decide) rfl (fun ls hl => ?_)
  refine lv_iconst (v := 1) hx hb dX7_changeAt_2 (by decide) ?_
  refine lv_istore_n (lv' := [(3, .int 1), (2, .int p1), (0, .ref (A q)), (1, .int p1)]) hx hb dX7_changeAt_3 rfl hl (by decide) rfl (fun ls hl => ?_)
  exact wl_X7_changeAt_4 l D k A ws q _ hK C0 st past image imagePast tape laneOf sizeOf items least costs hops comes chain told acts imageActs tapeMany readAt h_this hP hD fu_N p1 1 _ hf (lv_sub hl [2, 1, 0] rfl)

theorem in_X7_changes_X7 : ∀ w ∈ u_ws RX7 TX7 18, w ∈ wsX7_changes := fun w h => List.mem_cons_of_mem _ (List.mem_append_right _ h)
def lp_X7_changes_4  (st : Nat → Int32) (least : Nat → Int32) : Nat → Int32 → Int32 → Option (Int32)
  | 0, _, _ => none
  | n + 1, x1, x2 =>
    if 512 ≤ x2 then
      some x1
    else
      ck_O (in_b x2 512) (
        ck_O (in_b (512 + x2) 1025) (
          if (least (Int32.toNatClampNeg x2)) = (st (Int32.toNatClampNeg (512 + x2))) then
            lp_X7_changes_4 st least n (x1 + 0) (x2 + 1)
          else
            lp_X7_changes_4 st least n (x1 + 1) (x2 + 1)))

def pf_X7_changes (st : Nat → Int32) (least : Nat → Int32)   : Option (Int32) :=
  lp_X7_changes_4 st least fu_N 0 1

set_option maxHeartbeats 4000000 in
set_option maxRecDepth 100000 in
theorem wl_X7_changes_4 {p : Program} {e : Env} {s : State} {m : MethodId} {args : Array Value} {below : List Frame} {meth : Method} {c : Code} (l : Launch) (D : va_G) (k : kt_T) (A : Nat → Nat) (ws : va_W) (q : Nat)  (out : Int32) (hK : kk_P D k s) (C0 : cx_P p s m meth c args cX7_changes 3 wsX7_changes RX7 (some .int))  (st : Nat → Int32) (past : Nat → Int32) (image : Nat → Int32) (imagePast : Nat → Int32) (tape : Nat → Int32) (laneOf : Nat → Int32) (sizeOf : Nat → Int32) (items : Nat → Int64) (least : Nat → Int32) (costs : Nat → Int32) (hops : Nat → Int32) (comes : Nat → Int32) (chain : Nat → Int32) (told : Nat → Int32) (acts : Int32) (imageActs : Int32) (tapeMany : Int32) (readAt : Int32)    (h_this : is_Y k A ws q st past image imagePast tape laneOf sizeOf items least costs hops comes chain told acts imageActs tapeMany readAt) (hP : va_P D vwCl ws s.heap) (hD : va_D (fun _ => True) ws) : ∀ (n : Nat) (x1 : Int32) (x2 : Int32) (ls : Array Slot), lp_X7_changes_4 st least n x1 x2 = some out → lv_has ls 3 [(0, .ref (A q)), (1, .int x1), (2, .int x2)] → W p l e (headSpec wsX7_changes { frames := 0, cells := 0, slots := 0, locals := 0 }).room s m args below meth c s.heap [] 0 0 (MQ below (qs_Q (some (.int out))) args s 0 0 (fun _ => False)) (F0 m 4 ls []) := by
  obtain ⟨hx, hb, hml, hown, hts, hr, hlocks⟩ := id C0
  have hcf : CallFix p m c cX7_changes 3 s args wsX7_changes RX7 := ⟨hx, hb, hml, hown, hts⟩
  have w_0 := hts (.fieldLink RX7 39 "LeastRoutesModel" "least" "[I") (List.mem_of_getElem? (i := 1) rfl)
  have w_1 := hts (.fieldLink RX7 7 "LeastRoutesModel" "st" "[I") (List.mem_of_getElem? (i := 2) rfl)
  intro n
  induction n with
  | zero =>
    intro x1 x2 ls hf hl
    exact (no_s hf).elim
  | succ n ih =>
    intro x1 x2 ls hf hl
    rw [lp_X7_changes_4] at hf
    refine lv_iload_n hx hb dX7_changes_4 rfl (lv_at hl 2 rfl) ?_
    refine lv_sipush (v := 512) hx hb dX7_changes_5 (by decide) ?_
    refine lv_icmp_ge (tgt := 44) hx hb dX7_changes_8 (by decide) (fun c1 => ?_) (fun c1 => ?_)
    · have hf := it_p c1 hf
      refine lv_iload_n hx hb dX7_changes_44 rfl (lv_at hl 1 rfl) ?_
      obtain rfl := so_i hf
      exact W.iret (v := x1) hx hb hr (fun t ht _ => ⟨rfl, ht⟩) (fun _ h => absurd h List.not_mem_nil) dX7_changes_45
    · have hf := it_n c1 hf
      refine lv_iload_n hx hb dX7_changes_11 rfl (lv_at hl 1 rfl) ?_
      refine lv_aload_n hx hb dX7_changes_12 rfl (lv_at hl 0 rfl) ?_
      obtain ⟨h2, h3, h4, h5, h6, h7, h8, h9, h10, h11, h12, h13, h14, h15, h16⟩ := h_this
      refine va_get (D := D) (ci := 7) (v := .ref (A (q + 9))) (C := RX7) (T := TX7) (N := 18) hx hb hts in_X7_changes_X7 hown hK.1 hP (q) h2 rfl 11 (by decide) w_0 (fun _ h9 => h9) rfl dX7_changes_13 ?_
      refine lv_iload_n hx hb dX7_changes_16 rfl (lv_at hl 2 rfl) ?_
      obtain ⟨z17, hf⟩ := ck_s hf
      refine va_iald hx hb hK.1 hP (q + 9) 0 h11 rfl (in_s z17) dX7_changes_17 ?_
      refine lv_aload_n hx hb dX7_changes_18 rfl (lv_at hl 0 rfl) ?_
      refine va_get (D := D) (ci := 7) (v := .ref (A (q + 1))) (C := RX7) (T := TX7) (N := 18) hx hb hts in_X7_changes_X7 hown hK.1 hP (q) h2 rfl 0 (by decide) w_1 (fun _ h9 => h9) rfl dX7_changes_19 ?_
      refine lv_sipush (v := 512) hx hb dX7_changes_22 (by decide) ?_
      refine lv_iload_n hx hb dX7_changes_25 rfl (lv_at hl 2 rfl) ?_
      refine lv_iadd hx hb dX7_changes_26 ?_
      obtain ⟨z18, hf⟩ := ck_s hf
      refine va_iald hx hb hK.1 hP (q + 1) 0 h3 rfl (in_s z18) dX7_changes_27 ?_
      refine lv_icmp_eq (tgt := 35) hx hb dX7_changes_28 (by decide) (fun c19 => ?_) (fun c19 => ?_)
      · have hf := it_p c19 hf
        refine lv_iconst (v := 0) hx hb dX7_changes_35 (by decide) ?_
        refine lv_iadd hx hb dX7_changes_36 ?_
        refine lv_istore_n (lv' := [(1, .int (x1 + 0)), (0, .ref (A q)), (2, .int x2)]) hx hb dX7_changes_37 rfl hl (by decide) rfl (fun ls hl => ?_)
        refine lv_iinc (v := (x2 + 1)) (lv' := [(2, .int (x2 + 1)), (1, .int (x1 + 0)), (0, .ref (A q))]) hx hb dX7_changes_38 hl (k := 2) rfl rfl (by decide) rfl (fun ls hl => ?_)
        refine lv_goto (tgt := 4) hx hb dX7_changes_41 (by decide) ?_
        exact ih (x1 + 0) (x2 + 1) _ hf (lv_sub hl [2, 1, 0] rfl)
      · have hf := it_n c19 hf
        refine lv_iconst (v := 1) hx hb dX7_changes_31 (by decide) ?_
        refine lv_goto (tgt := 36) hx hb dX7_changes_32 (by decide) ?_
        refine lv_iadd hx hb dX7_changes_36 ?_
        refine lv_istore_n (lv' := [(1, .int (x1 + 1)), (0, .ref (A q)), (2, .int x2)]) hx hb dX7_changes_37 rfl hl (by decide) rfl (fun ls hl => ?_)
        refine lv_iinc (v := (x2 + 1)) (lv' := [(2, .int (x2 + 1)), (1, .int (x1 + 1)), (0, .ref (A q))]) hx hb dX7_changes_38 hl (k := 2) rfl rfl (by decide) rfl (fun ls hl => ?_)
        refine lv_goto (tgt := 4) hx hb dX7_changes_41 (by decide) ?_
        exact ih (x1 + 1) (x2 + 1) _ hf (lv_sub hl [2, 1, 0] rfl)

set_option maxHeartbeats 4000000 in
set_option maxRecDepth 100000 in
theorem cz_X7_changes (l : Launch) (D : va_G) (k : kt_T) (A : Nat → Nat) (ws : va_W) (q : Nat)  (st : Nat → Int32) (past : Nat → Int32) (image : Nat → Int32) (imagePast : Nat → Int32) (tape : Nat → Int32) (laneOf : Nat → Int32) (sizeOf : Nat → Int32) (items : Nat → Int64) (least : Nat → Int32) (costs : Nat → Int32) (hops : Nat → Int32) (comes : Nat → Int32) (chain : Nat → Int32) (told : Nat → Int32) (acts : Int32) (imageActs : Int32) (tapeMany : Int32) (readAt : Int32)  (out : Int32) (hf : pf_X7_changes st least = some out) (h_this : is_Y k A ws q st past image imagePast tape laneOf sizeOf items least costs hops comes chain told acts imageActs tapeMany readAt)  : Met l yX7_changes wsX7_changes { frames := 0, cells := 0, slots := 0, locals := 0 } (va_Pc [.ref (A q)] (pw_P D k ws)) (qs_Q (some (.int out))) 0 0 (fun _ => False) := by
  refine Met.ofW (cc := cX7_changes) (maxL := 3) (ret := (some .int)) (by decide) rfl ?_
  intro p e s m args below meth c s₁ B hml hv
  obtain ⟨rfl, hP, hK, hD⟩ := hv
  have C0 : cx_P p s m meth c [.ref (A q)].toArray cX7_changes 3 wsX7_changes RX7 (some .int) := ⟨B.exec, B.bytes, hml, findClass_of_methodNamed B.named, atoms_spec (ws := wsX7_changes) B.pre, B.returns, B.notSynchronized⟩
  obtain ⟨hx, hb, hml, hown, hts, hr, hlocks⟩ := id C0
  have hcf : CallFix p m c cX7_changes 3 s [.ref (A q)].toArray wsX7_changes RX7 := ⟨hx, hb, hml, hown, hts⟩
  have hl := lv_entry ([.ref (A q)]) (n := 3) (Nat.le_of_ble_eq_true rfl)
  rw [lg_entry_eq]
  generalize (lg_sl ([.ref (A q)]) ++ List.replicate (3 - (lg_sl ([.ref (A q)])).length) Slot.unset).toArray = ls at hl ⊢
  have hl : lv_has ls 3 [(0, .ref (A q))] := hl
  unfold pf_X7_changes at hf
  refine lv_iconst (v := 0) hx hb dX7_changes_0 (by decide) ?_
  refine lv_istore_n (lv' := [(1, .int 0), (0, .ref (A q))]) hx hb dX7_changes_1 rfl hl (by decide) rfl (fun ls hl => ?_)
  refine lv_iconst (v := 1) hx hb dX7_changes_2 (by decide) ?_
  refine lv_istore_n (lv' := [(2, .int 1), (1, .int 0), (0, .ref (A q))]) hx hb dX7_changes_3 rfl hl (by decide) rfl (fun ls hl => ?_)
  exact wl_X7_changes_4 l D k A ws q _ hK C0 st past image imagePast tape laneOf sizeOf items least costs hops comes chain told acts imageActs tapeMany readAt h_this hP hD fu_N 0 1 _ hf (lv_sub hl [2, 1, 0] rfl)

theorem in_X7_change_X7 : ∀ w ∈ u_ws RX7 TX7 18, w ∈ wsX7_change := fun w h => List.mem_cons_of_mem _ (List.mem_append_right _ h)
def pf_X7_change (st : Nat → Int32) (least : Nat → Int32) (costs : Nat → Int32) (hops : Nat → Int32) (comes : Nat → Int32)  (p1 : Int32) (p2 : Int32) : Option (Int32 × (Nat → Int32) × (Nat → Int32) × (Nat → Int32) × (Nat → Int32)) :=
  if p1 < 0 then
    some ((-1), least, costs, hops, comes)
  else
    (pf_X7_in (Int32.toInt64 p2) 0 3).bind (fun r2 =>
      if r2 = 0 then
        some ((-1), least, costs, hops, comes)
      else
        (pf_X7_lays st least costs hops comes).bind (fun r5 =>
          (pf_X7_changeAt st r5.1 p1).bind (fun r11 =>
            if r11 = (-4) then
              some ((-4), r5.1, r5.2.1, r5.2.2.1, r5.2.2.2)
            else
              ck_O (in_b (512 + r11) 1025) (
                lt_O (st (Int32.toNatClampNeg (512 + r11))) (fun y30 =>
                  if p2 = 0 then
                    some (r11, r5.1, r5.2.1, r5.2.2.1, r5.2.2.2)
                  else if p2 = 1 then
                    (pf_X7_toldOf y30).bind (fun r35 =>
                      some (r35, r5.1, r5.2.1, r5.2.2.1, r5.2.2.2))
                  else if p2 = 2 then
                    ck_O (in_b r11 512) (
                      (pf_X7_toldOf (r5.1 (Int32.toNatClampNeg r11))).bind (fun r40 =>
                        some (r40, r5.1, r5.2.1, r5.2.2.1, r5.2.2.2)))
                  else ck_O (in_b r11 512) (
                    if (r5.1 (Int32.toNatClampNeg r11)) = 8 then
                      some (0, r5.1, r5.2.1, r5.2.2.1, r5.2.2.2)
                    else
                      if y30 = 8 then
                        some (1, r5.1, r5.2.1, r5.2.2.1, r5.2.2.2)
                      else
                        some (2, r5.1, r5.2.1, r5.2.2.1, r5.2.2.2)))))))

set_option maxHeartbeats 4000000 in
set_option maxRecDepth 100000 in
theorem cz_X7_change (l : Launch) (D : va_G) (k : kt_T) (A : Nat → Nat) (ws : va_W) (q : Nat)  (st : Nat → Int32) (past : Nat → Int32) (image : Nat → Int32) (imagePast : Nat → Int32) (tape : Nat → Int32) (laneOf : Nat → Int32) (sizeOf : Nat → Int32) (items : Nat → Int64) (least : Nat → Int32) (costs : Nat → Int32) (hops : Nat → Int32) (comes : Nat → Int32) (chain : Nat → Int32) (told : Nat → Int32) (acts : Int32) (imageActs : Int32) (tapeMany : Int32) (readAt : Int32) (p1 : Int32) (p2 : Int32) (out : Int32 × (Nat → Int32) × (Nat → Int32) × (Nat → Int32) × (Nat → Int32)) (hf : pf_X7_change st least costs hops comes p1 p2 = some out) (h_this : is_Y k A ws q st past image imagePast tape laneOf sizeOf items least costs hops comes chain told acts imageActs tapeMany readAt)  (sz0 : Nat) : Met l yX7_change wsX7_change { frames := 5, cells := 0, slots := 0, locals := 110 } (va_Pc [.ref (A q), .int p1, .int p2] (px_P D k ws sz0)) (qw_Q D ws sz0 (some (.int out.1)) (fun u => is_Y k A u q st past image imagePast tape laneOf sizeOf items out.2.1 out.2.2.1 out.2.2.2.1 out.2.2.2.2 chain told acts imageActs tapeMany readAt ∧ sm_W ws u q (q + 15))) 0 0 (va_A ws sz0) := by
  refine Met.ofW (cc := cX7_change) (maxL := 5) (ret := (some .int)) (by decide) rfl ?_
  intro p e s m args below meth c s₁ B hml hv
  obtain ⟨rfl, hsz, hP, hK, hD0⟩ := hv
  subst hsz
  have hD := hD0.self (sz := s.heap.size)
  have C0 : cx_P p s m meth c [.ref (A q), .int p1, .int p2].toArray cX7_change 5 wsX7_change RX7 (some .int) := ⟨B.exec, B.bytes, hml, findClass_of_methodNamed B.named, atoms_spec (ws := wsX7_change) B.pre, B.returns, B.notSynchronized⟩
  obtain ⟨hx, hb, hml, hown, hts, hr, hlocks⟩ := id C0
  have hcf : CallFix p m c cX7_change 5 s [.ref (A q), .int p1, .int p2].toArray wsX7_change RX7 := ⟨hx, hb, hml, hown, hts⟩
  have hA : ∀ q, s.heap.size ≤ q → va_A ws s.heap.size q := fun q h => Or.inr h
  have hS : va_S (va_A ws s.heap.size) s.heap s.heap [] := va_S.rf
  have hsm : sm_W ws ws q (q + 15) := sm_rf
  have w_0 := hts (.constantLong RX7 94 (3)) (List.mem_of_getElem? (i := 1) rfl)
  have w_1 := hts (.fieldLink RX7 7 "LeastRoutesModel" "st" "[I") (List.mem_of_getElem? (i := 2) rfl)
  have w_2 := hts (.fieldLink RX7 39 "LeastRoutesModel" "least" "[I") (List.mem_of_getElem? (i := 3) rfl)
  have hl := lv_entry ([.ref (A q), .int p1, .int p2]) (n := 5) (Nat.le_of_ble_eq_true rfl)
  rw [lg_entry_eq]
  generalize (lg_sl ([.ref (A q), .int p1, .int p2]) ++ List.replicate (5 - (lg_sl ([.ref (A q), .int p1, .int p2])).length) Slot.unset).toArray = ls at hl ⊢
  have hl : lv_has ls 5 [(0, .ref (A q)), (1, .int p1), (2, .int p2)] := hl
  unfold pf_X7_change at hf
  refine lv_iload_n hx hb dX7_change_0 rfl (lv_at hl 1 rfl) ?_
  refine lv_if_lt (tgt := 16) hx hb dX7_change_1 (by decide) (fun c1 => ?_) (fun c1 => ?_)
  · have hf := it_p c1 hf
    refine lv_iconst (v := (-1)) hx hb dX7_change_16 (by decide) ?_
    obtain rfl := so_i hf
    exact W.iret (v := (-1)) hx hb hr (qw_end hS hP hD ⟨h_this, hsm⟩) hS.2.2 dX7_change_17
  · have hf := it_n c1 hf
    refine lv_iload_n hx hb dX7_change_4 rfl (lv_at hl 2 rfl) ?_
    refine lv_i2l hx hb dX7_change_5 rfl ?_
    refine lv_lconst (v := 0) hx hb dX7_change_6 (by decide) ?_
    refine lv_ldc2 hx hb hown w_0 dX7_change_7 ?_
    obtain ⟨r2, h3, hf⟩ := bd_s hf
    refine ks_i (va_runS (As := [.long (Int32.toInt64 p2), .long 0, .long 3]) (rest := []) hcf (cz_X7_in l D k A ws (Int32.toInt64 p2) 0 3 r2 h3) (va_cwS 3 hts gX7_change_X7_in rfl rfl rfl (by decide +kernel) ⟨Nat.le_of_ble_eq_true rfl, Nat.le_of_ble_eq_true rfl⟩) (pw_S hP hK hD) rfl rfl hl.1 rfl (lv_room (Nat.le_of_ble_eq_true rfl)) dX7_change_10 ⟨Nat.zero_le _, Nat.zero_le _⟩) ?_
    refine lv_if_ne (tgt := 18) hx hb dX7_change_13 (by decide) (fun c4 => ?_) (fun c4 => ?_)
    · have hf := it_n c4 hf
      refine lv_aload_n hx hb dX7_change_18 rfl (lv_at hl 0 rfl) ?_
      obtain ⟨r5, h6, hf⟩ := bd_s hf
      refine kw_v (va_runV (As := []) (rest := []) hcf (cz_X7_lays l D k A ws (q) st past image imagePast tape laneOf sizeOf items least costs hops comes chain told acts imageActs tapeMany readAt r5 h6 h_this _) (cwV 0 hts gX7_change_X7_lays rfl rfl rfl (by decide +kernel) ⟨Nat.le_of_ble_eq_true rfl, Nat.le_of_ble_eq_true rfl⟩) (px_V hP hK hD (ci := 7) h_this.1 rfl) rfl rfl hl.1 rfl (lv_room (Nat.le_of_ble_eq_true rfl)) dX7_change_19 ⟨Nat.zero_le _, Nat.zero_le _⟩) hD hS hA (fun u7 _ _ h8 hP hD hS => ?_)
      obtain ⟨h10, m9⟩ := h8
      have hsm := sm_tr hsm m9 (by omega) (by omega)
      refine lv_aload_n hx hb dX7_change_22 rfl (lv_at hl 0 rfl) ?_
      refine lv_iload_n hx hb dX7_change_23 rfl (lv_at hl 1 rfl) ?_
      obtain ⟨r11, h12, hf⟩ := bd_s hf
      refine ks_i (va_runV (As := [.int p1]) (rest := []) hcf (cz_X7_changeAt l D k A u7 (q) st past image imagePast tape laneOf sizeOf items r5.1 r5.2.1 r5.2.2.1 r5.2.2.2 chain told acts imageActs tapeMany readAt p1 r11 h12 h10) (cwV 1 hts gX7_change_X7_changeAt rfl rfl rfl (by decide +kernel) ⟨Nat.le_of_ble_eq_true rfl, Nat.le_of_ble_eq_true rfl⟩) (pw_V hP hK hD (ci := 7) h10.1 rfl) rfl rfl hl.1 rfl (lv_room (Nat.le_of_ble_eq_true rfl)) dX7_change_24 ⟨Nat.zero_le _, Nat.zero_le _⟩) ?_
      refine lv_istore_n (lv' := [(3, .int r11), (0, .ref (A q)), (1, .int p1), (2, .int p2)]) hx hb dX7_change_27 rfl hl (by decide) rfl (fun ls hl => ?_)
      refine lv_iload_n hx hb dX7_change_28 rfl (lv_at hl 0 rfl) ?_
      refine lv_bipush (v := (-4)) hx hb dX7_change_29 (by decide) ?_
      refine lv_icmp_ne (tgt := 37) hx hb dX7_change_31 (by decide) (fun c13 => ?_) (fun c13 => ?_)
      · have hf := it_n c13 hf
        refine lv_aload_n hx hb dX7_change_37 rfl (lv_at hl 1 rfl) ?_
        obtain ⟨h14, h15, h16, h17, h18, h19, h20, h21, h22, h23, h24, h25, h26, h27, h28⟩ := h10
        refine va_get (D := D) (ci := 7) (v := .ref (A (q + 1))) (C := RX7) (T := TX7) (N := 18) hx hb hts in_X7_change_X7 hown hK.1 hP (q) h14 rfl 0 (by decide) w_1 (fun _ h9 => h9) rfl dX7_change_38 ?_
        refine lv_sipush (v := 512) hx hb dX7_change_41 (by decide) ?_
        refine lv_iload_n hx hb dX7_change_44 rfl (lv_at hl 0 rfl) ?_
        refine lv_iadd hx hb dX7_change_45 ?_
        obtain ⟨z29, hf⟩ := ck_s hf
        refine va_iald hx hb hK.1 hP (q + 1) 0 h15 rfl (in_s z29) dX7_change_46 ?_
        refine lv_topi (fun y30 e31 => ?_)
        have hf := lt_s' e31 hf
        refine lv_istore (lv' := [(4, .int y30), (3, .int r11), (0, .ref (A q)), (1, .int p1), (2, .int p2)]) hx hb dX7_change_47 hl (by decide) rfl (fun ls hl => ?_)
        refine lv_iload_n hx hb dX7_change_49 rfl (lv_at hl 4 rfl) ?_
        by_cases c32 : p2 = 0
        · have hf := it_p c32 hf
          refine lv_tableIn (tgt := 76) hx hb dX7_change_50 (by rw [c32]; decide) (by rw [c32]; decide) (by rw [c32]; rfl) (by decide) ?_
          refine lv_iload_n hx hb dX7_change_76 rfl (lv_at hl 1 rfl) ?_
          obtain rfl := so_i hf
          have h33 : is_Y k A u7 (q) st past image imagePast tape laneOf sizeOf items r5.1 r5.2.1 r5.2.2.1 r5.2.2.2 chain told acts imageActs tapeMany readAt := ⟨h14, h15, h16, h17, h18, h19, h20, h21, h22, h23, h24, h25, h26, h27, h28⟩
          exact W.iret (v := r11) hx hb hr (qw_end hS hP hD ⟨h33, hsm⟩) hS.2.2 dX7_change_77
        have hf := it_n c32 hf
        by_cases c34 : p2 = 1
        · have hf := it_p c34 hf
          refine lv_tableIn (tgt := 78) hx hb dX7_change_50 (by rw [c34]; decide) (by rw [c34]; decide) (by rw [c34]; rfl) (by decide) ?_
          refine lv_iload hx hb dX7_change_78 (lv_at hl 0 rfl) ?_
          obtain ⟨r35, h36, hf⟩ := bd_s hf
          refine ks_i (va_runS (As := [.int y30]) (rest := []) hcf (cz_X7_toldOf l D k A u7 y30 r35 h36) (va_cwS 1 hts gX7_change_X7_toldOf rfl rfl rfl (by decide +kernel) ⟨Nat.le_of_ble_eq_true rfl, Nat.le_of_ble_eq_true rfl⟩) (pw_S hP hK hD) rfl rfl hl.1 rfl (lv_room (Nat.le_of_ble_eq_true rfl)) dX7_change_80 ⟨Nat.zero_le _, Nat.zero_le _⟩) ?_
          obtain rfl := so_i hf
          have h37 : is_Y k A u7 (q) st past image imagePast tape laneOf sizeOf items r5.1 r5.2.1 r5.2.2.1 r5.2.2.2 chain told acts imageActs tapeMany readAt := ⟨h14, h15, h16, h17, h18, h19, h20, h21, h22, h23, h24, h25, h26, h27, h28⟩
          exact W.iret (v := r35) hx hb hr (qw_end hS hP hD ⟨h37, hsm⟩) hS.2.2 dX7_change_83
        have hf := it_n c34 hf
        by_cases c38 : p2 = 2
        · have hf := it_p c38 hf
          refine lv_tableIn (tgt := 84) hx hb dX7_change_50 (by rw [c38]; decide) (by rw [c38]; decide) (by rw [c38]; rfl) (by decide) ?_
          refine lv_aload_n hx hb dX7_change_84 rfl (lv_at hl 2 rfl) ?_
          refine va_get (D := D) (ci := 7) (v := .ref (A (q + 9))) (C := RX7) (T := TX7) (N := 18) hx hb hts in_X7_change_X7 hown hK.1 hP (q) h14 rfl 11 (by decide) w_2 (fun _ h9 => h9) rfl dX7_change_85 ?_
          refine lv_iload_n hx hb dX7_change_88 rfl (lv_at hl 1 rfl) ?_
          obtain ⟨z39, hf⟩ := ck_s hf
          refine va_iald hx hb hK.1 hP (q + 9) 0 h23 rfl (in_s z39) dX7_change_89 ?_
          obtain ⟨r40, h41, hf⟩ := bd_s hf
          refine ks_i (va_runS (As := [.int (r5.1 (Int32.toNatClampNeg r11))]) (rest := []) hcf (cz_X7_toldOf l D k A u7 (r5.1 (Int32.toNatClampNeg r11)) r40 h41) (va_cwS 1 hts gX7_change_X7_toldOf rfl rfl rfl (by decide +kernel) ⟨Nat.le_of_ble_eq_true rfl, Nat.le_of_ble_eq_true rfl⟩) (pw_S hP hK hD) rfl rfl hl.1 rfl (lv_room (Nat.le_of_ble_eq_true rfl)) dX7_change_90 ⟨Nat.zero_le _, Nat.zero_le _⟩) ?_
          obtain rfl := so_i hf
          have h42 : is_Y k A u7 (q) st past image imagePast tape laneOf sizeOf items r5.1 r5.2.1 r5.2.2.1 r5.2.2.2 chain told acts imageActs tapeMany readAt := ⟨h14, h15, h16, h17, h18, h19, h20, h21, h22, h23, h24, h25, h26, h27, h28⟩
          exact W.iret (v := r40) hx hb hr (qw_end hS hP hD ⟨h42, hsm⟩) hS.2.2 dX7_change_93
        have hf := it_n c38 hf
        refine lv_tableOut (tgt := 94) hx hb dX7_change_50 (sw_0_2 c32 c34 c38) (by decide) ?_
        refine lv_aload_n hx hb dX7_change_94 rfl (lv_at hl 2 rfl) ?_
        refine va_get (D := D) (ci := 7) (v := .ref (A (q + 9))) (C := RX7) (T := TX7) (N := 18) hx hb hts in_X7_change_X7 hown hK.1 hP (q) h14 rfl 11 (by decide) w_2 (fun _ h9 => h9) rfl dX7_change_95 ?_
        refine lv_iload_n hx hb dX7_change_98 rfl (lv_at hl 1 rfl) ?_
        obtain ⟨z43, hf⟩ := ck_s hf
        refine va_iald hx hb hK.1 hP (q + 9) 0 h23 rfl (in_s z43) dX7_change_99 ?_
        refine lv_bipush (v := 8) hx hb dX7_change_100 (by decide) ?_
        refine lv_icmp_ne (tgt := 109) hx hb dX7_change_102 (by decide) (fun c44 => ?_) (fun c44 => ?_)
        · have hf := it_n c44 hf
          refine lv_iload hx hb dX7_change_109 (lv_at hl 0 rfl) ?_
          refine lv_bipush (v := 8) hx hb dX7_change_111 (by decide) ?_
          refine lv_icmp_ne (tgt := 120) hx hb dX7_change_113 (by decide) (fun c45 => ?_) (fun c45 => ?_)
          · have hf := it_n c45 hf
            refine lv_iconst (v := 2) hx hb dX7_change_120 (by decide) ?_
            obtain rfl := so_i hf
            have h46 : is_Y k A u7 (q) st past image imagePast tape laneOf sizeOf items r5.1 r5.2.1 r5.2.2.1 r5.2.2.2 chain told acts imageActs tapeMany readAt := ⟨h14, h15, h16, h17, h18, h19, h20, h21, h22, h23, h24, h25, h26, h27, h28⟩
            exact W.iret (v := 2) hx hb hr (qw_end hS hP hD ⟨h46, hsm⟩) hS.2.2 dX7_change_121
          · have hf := it_p c45 hf
            refine lv_iconst (v := 1) hx hb dX7_change_116 (by decide) ?_
            refine lv_goto (tgt := 121) hx hb dX7_change_117 (by decide) ?_
            obtain rfl := so_i hf
            have h47 : is_Y k A u7 (q) st past image imagePast tape laneOf sizeOf items r5.1 r5.2.1 r5.2.2.1 r5.2.2.2 chain told acts imageActs tapeMany readAt := ⟨h14, h15, h16, h17, h18, h19, h20, h21, h22, h23, h24, h25, h26, h27, h28⟩
            exact W.iret (v := 1) hx hb hr (qw_end hS hP hD ⟨h47, hsm⟩) hS.2.2 dX7_change_121
        · have hf := it_p c44 hf
          refine lv_iconst (v := 0) hx hb dX7_change_105 (by decide) ?_
          refine lv_goto (tgt := 121) hx hb dX7_change_106 (by decide) ?_
          obtain rfl := so_i hf
          have h48 : is_Y k A u7 (q) st past image imagePast tape laneOf sizeOf items r5.1 r5.2.1 r5.2.2.1 r5.2.2.2 chain told acts imageActs tapeMany readAt := ⟨h14, h15, h16, h17, h18, h19, h20, h21, h22, h23, h24, h25, h26, h27, h28⟩
          exact W.iret (v := 0) hx hb hr (qw_end hS hP hD ⟨h48, hsm⟩) hS.2.2 dX7_change_121
      · have hf := it_p c13 hf
        refine lv_bipush (v := (-4)) hx hb dX7_change_34 (by decide) ?_
        obtain rfl := so_i hf
        exact W.iret (v := (-4)) hx hb hr (qw_end hS hP hD ⟨h10, hsm⟩) hS.2.2 dX7_change_36
    · have hf := it_p c4 hf
      refine lv_iconst (v := (-1)) hx hb dX7_change_16 (by decide) ?_
      obtain rfl := so_i hf
      exact W.iret (v := (-1)) hx hb hr (qw_end hS hP hD ⟨h_this, hsm⟩) hS.2.2 dX7_change_17

theorem in_X7_isOne_X7 : ∀ w ∈ u_ws RX7 TX7 18, w ∈ wsX7_isOne := fun w h => List.mem_cons_of_mem _ (List.mem_append_right _ h)
def lp_X7_isOne_8  (hops : Nat → Int32) (x1 : Int32) : Nat → Int32 → Int32 → Int32 → Option (Int32)
  | 0, _, _, _ => none
  | n + 1, x2, x3, x4 =>
    if 256 ≤ x4 then
      ck_O (bo_b x3) (
        some x3)
    else
      (pf_X7_has x4 x1).bind (fun r3 =>
        if r3 = 0 then
          lp_X7_isOne_8 hops x1 n x2 x3 (x4 + 1)
        else
          ck_O (in_b x4 512) (
            ck_O (in_b (256 + x4) 512) (
              lt_O ((8 * (hops (Int32.toNatClampNeg x4))) + (hops (Int32.toNatClampNeg (256 + x4)))) (fun y23 =>
                if x3 = 0 then
                  lp_X7_isOne_8 hops x1 n y23 0 (x4 + 1)
                else
                  if x2 = (-4) then
                    lp_X7_isOne_8 hops x1 n y23 1 (x4 + 1)
                  else
                    if x2 = y23 then
                      lp_X7_isOne_8 hops x1 n y23 1 (x4 + 1)
                    else
                      lp_X7_isOne_8 hops x1 n y23 0 (x4 + 1)))))

def pf_X7_isOne (hops : Nat → Int32)  (p1 : Int32) : Option (Int32) :=
  lp_X7_isOne_8 hops p1 fu_N (-4) 1 0

set_option maxHeartbeats 4000000 in
set_option maxRecDepth 100000 in
theorem wl_X7_isOne_8 {p : Program} {e : Env} {s : State} {m : MethodId} {args : Array Value} {below : List Frame} {meth : Method} {c : Code} (l : Launch) (D : va_G) (k : kt_T) (A : Nat → Nat) (ws : va_W) (q : Nat)  (out : Int32) (hK : kk_P D k s) (C0 : cx_P p s m meth c args cX7_isOne 6 wsX7_isOne RX7 (some .boolean))  (st : Nat → Int32) (past : Nat → Int32) (image : Nat → Int32) (imagePast : Nat → Int32) (tape : Nat → Int32) (laneOf : Nat → Int32) (sizeOf : Nat → Int32) (items : Nat → Int64) (least : Nat → Int32) (costs : Nat → Int32) (hops : Nat → Int32) (comes : Nat → Int32) (chain : Nat → Int32) (told : Nat → Int32) (acts : Int32) (imageActs : Int32) (tapeMany : Int32) (readAt : Int32) (x1 : Int32)   (h_this : is_Y k A ws q st past image imagePast tape laneOf sizeOf items least costs hops comes chain told acts imageActs tapeMany readAt) (hP : va_P D vwCl ws s.heap) (hD : va_D (fun _ => True) ws) : ∀ (n : Nat) (x2 : Int32) (x3 : Int32) (x4 : Int32) (ls : Array Slot), lp_X7_isOne_8 hops x1 n x2 x3 x4 = some out → lv_has ls 6 [(0, .ref (A q)), (1, .int x1), (2, .int x2), (3, .int x3), (4, .int x4)] → W p l e (headSpec wsX7_isOne { frames := 1, cells := 0, slots := 0, locals := 22 }).room s m args below meth c s.heap [] 0 0 (MQ below (qs_Q (some (.int out))) args s 0 0 (fun _ => False)) (F0 m 8 ls []) := by
  obtain ⟨hx, hb, hml, hown, hts, hr, hlocks⟩ := id C0
  have hcf : CallFix p m c cX7_isOne 6 s args wsX7_isOne RX7 := ⟨hx, hb, hml, hown, hts⟩
  have w_0 := hts (.fieldLink RX7 45 "LeastRoutesModel" "hops" "[I") (List.mem_of_getElem? (i := 1) rfl)
  intro n
  induction n with
  | zero =>
    intro x2 x3 x4 ls hf hl
    exact (no_s hf).elim
  | succ n ih =>
    intro x2 x3 x4 ls hf hl
    rw [lp_X7_isOne_8] at hf
    refine lv_iload hx hb dX7_isOne_8 (lv_at hl 4 rfl) ?_
    refine lv_sipush (v := 256) hx hb dX7_isOne_10 (by decide) ?_
    refine lv_icmp_ge (tgt := 80) hx hb dX7_isOne_13 (by decide) (fun c1 => ?_) (fun c1 => ?_)
    · have hf := it_p c1 hf
      refine lv_iload_n hx hb dX7_isOne_80 rfl (lv_at hl 3 rfl) ?_
      obtain ⟨z2, hf⟩ := ck_s hf
      obtain rfl := so_i hf
      exact W.zret (v := x3) (ty := .boolean) hx hb hr (bo_s z2) (fun t ht _ => ⟨rfl, ht⟩) (fun _ h => absurd h List.not_mem_nil) dX7_isOne_81
    · have hf := it_n c1 hf
      refine lv_iload hx hb dX7_isOne_16 (lv_at hl 4 rfl) ?_
      refine lv_iload_n hx hb dX7_isOne_18 rfl (lv_at hl 1 rfl) ?_
      obtain ⟨r3, h4, hf⟩ := bd_s hf
      refine ks_i (va_runS (As := [.int x4, .int x1]) (rest := []) hcf (cz_X7_has l D k A ws x4 x1 r3 h4) (va_cwS 2 hts gX7_isOne_X7_has rfl rfl rfl (by decide +kernel) ⟨Nat.le_of_ble_eq_true rfl, Nat.le_of_ble_eq_true rfl⟩) (pw_S hP hK hD) rfl rfl hl.1 rfl (lv_room (Nat.le_of_ble_eq_true rfl)) dX7_isOne_19 ⟨Nat.zero_le _, Nat.zero_le _⟩) ?_
      refine lv_if_eq (tgt := 74) hx hb dX7_isOne_22 (by decide) (fun c5 => ?_) (fun c5 => ?_)
      · have hf := it_p c5 hf
        refine lv_iinc (v := (x4 + 1)) (lv' := [(4, .int (x4 + 1)), (0, .ref (A q)), (1, .int x1), (2, .int x2), (3, .int x3)]) hx hb dX7_isOne_74 hl (k := 4) rfl rfl (by decide) rfl (fun ls hl => ?_)
        refine lv_goto (tgt := 8) hx hb dX7_isOne_77 (by decide) ?_
        exact ih x2 x3 (x4 + 1) _ hf (lv_sub hl [1, 2, 3, 4, 0] rfl)
      · have hf := it_n c5 hf
        refine lv_bipush (v := 8) hx hb dX7_isOne_25 (by decide) ?_
        refine lv_aload_n hx hb dX7_isOne_27 rfl (lv_at hl 0 rfl) ?_
        obtain ⟨h6, h7, h8, h9, h10, h11, h12, h13, h14, h15, h16, h17, h18, h19, h20⟩ := h_this
        refine va_get (D := D) (ci := 7) (v := .ref (A (q + 11))) (C := RX7) (T := TX7) (N := 18) hx hb hts in_X7_isOne_X7 hown hK.1 hP (q) h6 rfl 13 (by decide) w_0 (fun _ h9 => h9) rfl dX7_isOne_28 ?_
        refine lv_iload hx hb dX7_isOne_31 (lv_at hl 4 rfl) ?_
        obtain ⟨z21, hf⟩ := ck_s hf
        refine va_iald hx hb hK.1 hP (q + 11) 0 h17 rfl (in_s z21) dX7_isOne_33 ?_
        refine lv_imul hx hb dX7_isOne_34 ?_
        refine lv_aload_n hx hb dX7_isOne_35 rfl (lv_at hl 0 rfl) ?_
        refine va_get (D := D) (ci := 7) (v := .ref (A (q + 11))) (C := RX7) (T := TX7) (N := 18) hx hb hts in_X7_isOne_X7 hown hK.1 hP (q) h6 rfl 13 (by decide) w_0 (fun _ h9 => h9) rfl dX7_isOne_36 ?_
        refine lv_sipush (v := 256) hx hb dX7_isOne_39 (by decide) ?_
        refine lv_iload hx hb dX7_isOne_42 (lv_at hl 4 rfl) ?_
        refine lv_iadd hx hb dX7_isOne_44 ?_
        obtain ⟨z22, hf⟩ := ck_s hf
        refine va_iald hx hb hK.1 hP (q + 11) 0 h17 rfl (in_s z22) dX7_isOne_45 ?_
        refine lv_iadd hx hb dX7_isOne_46 ?_
        refine lv_topi (fun y23 e24 => ?_)
        have hf := lt_s' e24 hf
        refine lv_istore (lv' := [(5, .int y23), (0, .ref (A q)), (1, .int x1), (2, .int x2), (3, .int x3), (4, .int x4)]) hx hb dX7_isOne_47 hl (by decide) rfl (fun ls hl => ?_)
        refine lv_iload_n hx hb dX7_isOne_49 rfl (lv_at hl 4 rfl) ?_
        refine lv_if_eq (tgt := 69) hx hb dX7_isOne_50 (by decide) (fun c25 => ?_) (fun c25 => ?_)
        · have hf := it_p c25 hf
          refine lv_iconst (v := 0) hx hb dX7_isOne_69 (by decide) ?_
          refine lv_istore_n (lv' := [(3, .int 0), (5, .int y23), (0, .ref (A q)), (1, .int x1), (2, .int x2), (4, .int x4)]) hx hb dX7_isOne_70 rfl hl (by decide) rfl (fun ls hl => ?_)
          refine lv_iload hx hb dX7_isOne_71 (lv_at hl 1 rfl) ?_
          refine lv_istore_n (lv' := [(2, .int y23), (3, .int 0), (5, .int y23), (0, .ref (A q)), (1, .int x1), (4, .int x4)]) hx hb dX7_isOne_73 rfl hl (by decide) rfl (fun ls hl => ?_)
          refine lv_iinc (v := (x4 + 1)) (lv' := [(4, .int (x4 + 1)), (2, .int y23), (3, .int 0), (5, .int y23), (0, .ref (A q)), (1, .int x1)]) hx hb dX7_isOne_74 hl (k := 5) rfl rfl (by decide) rfl (fun ls hl => ?_)
          refine lv_goto (tgt := 8) hx hb dX7_isOne_77 (by decide) ?_
          exact ih y23 0 (x4 + 1) _ hf (lv_sub hl [4, 5, 1, 2, 0] rfl)
        · have hf := it_n c25 hf
          refine lv_iload_n hx hb dX7_isOne_53 rfl (lv_at hl 3 rfl) ?_
          refine lv_bipush (v := (-4)) hx hb dX7_isOne_54 (by decide) ?_
          refine lv_icmp_eq (tgt := 65) hx hb dX7_isOne_56 (by decide) (fun c26 => ?_) (fun c26 => ?_)
          · have hf := it_p c26 hf
            refine lv_iconst (v := 1) hx hb dX7_isOne_65 (by decide) ?_
            refine lv_goto (tgt := 70) hx hb dX7_isOne_66 (by decide) ?_
            refine lv_istore_n (lv' := [(3, .int 1), (5, .int y23), (0, .ref (A q)), (1, .int x1), (2, .int x2), (4, .int x4)]) hx hb dX7_isOne_70 rfl hl (by decide) rfl (fun ls hl => ?_)
            refine lv_iload hx hb dX7_isOne_71 (lv_at hl 1 rfl) ?_
            refine lv_istore_n (lv' := [(2, .int y23), (3, .int 1), (5, .int y23), (0, .ref (A q)), (1, .int x1), (4, .int x4)]) hx hb dX7_isOne_73 rfl hl (by decide) rfl (fun ls hl => ?_)
            refine lv_iinc (v := (x4 + 1)) (lv' := [(4, .int (x4 + 1)), (2, .int y23), (3, .int 1), (5, .int y23), (0, .ref (A q)), (1, .int x1)]) hx hb dX7_isOne_74 hl (k := 5) rfl rfl (by decide) rfl (fun ls hl => ?_)
            refine lv_goto (tgt := 8) hx hb dX7_isOne_77 (by decide) ?_
            exact ih y23 1 (x4 + 1) _ hf (lv_sub hl [4, 5, 1, 2, 0] rfl)
          · have hf := it_n c26 hf
            refine lv_iload_n hx hb dX7_isOne_59 rfl (lv_at hl 3 rfl) ?_
            refine lv_iload hx hb dX7_isOne_60 (lv_at hl 0 rfl) ?_
            refine lv_icmp_ne (tgt := 69) hx hb dX7_isOne_62 (by decide) (fun c27 => ?_) (fun c27 => ?_)
            · have hf := it_n c27 hf
              refine lv_iconst (v := 0) hx hb dX7_isOne_69 (by decide) ?_
              refine lv_istore_n (lv' := [(3, .int 0), (5, .int y23), (0, .ref (A q)), (1, .int x1), (2, .int x2), (4, .int x4)]) hx hb dX7_isOne_70 rfl hl (by decide) rfl (fun ls hl => ?_)
              refine lv_iload hx hb dX7_isOne_71 (lv_at hl 1 rfl) ?_
              refine lv_istore_n (lv' := [(2, .int y23), (3, .int 0), (5, .int y23), (0, .ref (A q)), (1, .int x1), (4, .int x4)]) hx hb dX7_isOne_73 rfl hl (by decide) rfl (fun ls hl => ?_)
              refine lv_iinc (v := (x4 + 1)) (lv' := [(4, .int (x4 + 1)), (2, .int y23), (3, .int 0), (5, .int y23), (0, .ref (A q)), (1, .int x1)]) hx hb dX7_isOne_74 hl (k := 5) rfl rfl (by decide) rfl (fun ls hl => ?_)
              refine lv_goto (tgt := 8) hx hb dX7_isOne_77 (by decide) ?_
              exact ih y23 0 (x4 + 1) _ hf (lv_sub hl [4, 5, 1, 2, 0] rfl)
            · have hf := it_p c27 hf
              refine lv_iconst (v := 1) hx hb dX7_isOne_65 (by decide) ?_
              refine lv_goto (tgt := 70) hx hb dX7_isOne_66 (by decide) ?_
              refine lv_istore_n (lv' := [(3, .int 1), (5, .int y23), (0, .ref (A q)), (1, .int x1), (2, .int x2), (4, .int x4)]) hx hb dX7_isOne_70 rfl hl (by decide) rfl (fun ls hl => ?_)
              refine lv_iload hx hb dX7_isOne_71 (lv_at hl 1 rfl) ?_
              refine lv_istore_n (lv' := [(2, .int y23), (3, .int 1), (5, .int y23), (0, .ref (A q)), (1, .int x1), (4, .int x4)]) hx hb dX7_isOne_73 rfl hl (by decide) rfl (fun ls hl => ?_)
              refine lv_iinc (v := (x4 + 1)) (lv' := [(4, .int (x4 + 1)), (2, .int y23), (3, .int 1), (5, .int y23), (0, .ref (A q)), (1, .int x1)]) hx hb dX7_isOne_74 hl (k := 5) rfl rfl (by decide) rfl (fun ls hl => ?_)
              refine lv_goto (tgt := 8) hx hb dX7_isOne_77 (by decide) ?_
              exact ih y23 1 (x4 + 1) _ hf (lv_sub hl [4, 5, 1, 2, 0] rfl)

set_option maxHeartbeats 4000000 in
set_option maxRecDepth 100000 in
theorem cz_X7_isOne (l : Launch) (D : va_G) (k : kt_T) (A : Nat → Nat) (ws : va_W) (q : Nat)  (st : Nat → Int32) (past : Nat → Int32) (image : Nat → Int32) (imagePast : Nat → Int32) (tape : Nat → Int32) (laneOf : Nat → Int32) (sizeOf : Nat → Int32) (items : Nat → Int64) (least : Nat → Int32) (costs : Nat → Int32) (hops : Nat → Int32) (comes : Nat → Int32) (chain : Nat → Int32) (told : Nat → Int32) (acts : Int32) (imageActs : Int32) (tapeMany : Int32) (readAt : Int32) (p1 : Int32) (out : Int32) (hf : pf_X7_isOne hops p1 = some out) (h_this : is_Y k A ws q st past image imagePast tape laneOf sizeOf items least costs hops comes chain told acts imageActs tapeMany readAt)  : Met l yX7_isOne wsX7_isOne { frames := 1, cells := 0, slots := 0, locals := 22 } (va_Pc [.ref (A q), .int p1] (pw_P D k ws)) (qs_Q (some (.int out))) 0 0 (fun _ => False) := by
  refine Met.ofW (cc := cX7_isOne) (maxL := 6) (ret := (some .boolean)) (by decide) rfl ?_
  intro p e s m args below meth c s₁ B hml hv
  obtain ⟨rfl, hP, hK, hD⟩ := hv
  have C0 : cx_P p s m meth c [.ref (A q), .int p1].toArray cX7_isOne 6 wsX7_isOne RX7 (some .boolean) := ⟨B.exec, B.bytes, hml, findClass_of_methodNamed B.named, atoms_spec (ws := wsX7_isOne) B.pre, B.returns, B.notSynchronized⟩
  obtain ⟨hx, hb, hml, hown, hts, hr, hlocks⟩ := id C0
  have hcf : CallFix p m c cX7_isOne 6 s [.ref (A q), .int p1].toArray wsX7_isOne RX7 := ⟨hx, hb, hml, hown, hts⟩
  have hl := lv_entry ([.ref (A q), .int p1]) (n := 6) (Nat.le_of_ble_eq_true rfl)
  rw [lg_entry_eq]
  generalize (lg_sl ([.ref (A q), .int p1]) ++ List.replicate (6 - (lg_sl ([.ref (A q), .int p1])).length) Slot.unset).toArray = ls at hl ⊢
  have hl : lv_has ls 6 [(0, .ref (A q)), (1, .int p1)] := hl
  unfold pf_X7_isOne at hf
  refine lv_bipush (v := (-4)) hx hb dX7_isOne_0 (by decide) ?_
  refine lv_istore_n (lv' := [(2, .int (-4)), (0, .ref (A q)), (1, .int p1)]) hx hb dX7_isOne_2 rfl hl (by decide) rfl (fun ls hl => ?_)
  refine lv_iconst (v := 1) hx hb dX7_isOne_3 (by decide) ?_
  refine lv_istore_n (lv' := [(3, .int 1), (2, .int (-4)), (0, .ref (A q)), (1, .int p1)]) hx hb dX7_isOne_4 rfl hl (by decide) rfl (fun ls hl => ?_)
  refine lv_iconst (v := 0) hx hb dX7_isOne_5 (by decide) ?_
  refine lv_istore (lv' := [(4, .int 0), (3, .int 1), (2, .int (-4)), (0, .ref (A q)), (1, .int p1)]) hx hb dX7_isOne_6 hl (by decide) rfl (fun ls hl => ?_)
  exact wl_X7_isOne_8 l D k A ws q _ hK C0 st past image imagePast tape laneOf sizeOf items least costs hops comes chain told acts imageActs tapeMany readAt p1 h_this hP hD fu_N (-4) 1 0 _ hf (lv_sub hl [3, 4, 2, 1, 0] rfl)

def lp_X7_proofOf_9  (hops : Nat → Int32) : Nat → Int32 → Int32 → Option (Int32)
  | 0, _, _ => none
  | n + 1, x2, x3 =>
    if x3 ≤ 0 then
      some x2
    else
      (pf_X7_isOne hops x3).bind (fun r2 =>
        if r2 = 0 then
          lp_X7_proofOf_9 hops n x2 (x3 / 2)
        else
          lp_X7_proofOf_9 hops n x3 (x3 / 2))

def pf_X7_proofOf (hops : Nat → Int32)  (p1 : Int32) : Option (Int32) :=
  lp_X7_proofOf_9 hops fu_N (-4) (256 + p1)

set_option maxHeartbeats 4000000 in
set_option maxRecDepth 100000 in
theorem wl_X7_proofOf_9 {p : Program} {e : Env} {s : State} {m : MethodId} {args : Array Value} {below : List Frame} {meth : Method} {c : Code} (l : Launch) (D : va_G) (k : kt_T) (A : Nat → Nat) (ws : va_W) (q : Nat)  (out : Int32) (hK : kk_P D k s) (C0 : cx_P p s m meth c args cX7_proofOf 4 wsX7_proofOf RX7 (some .int))  (st : Nat → Int32) (past : Nat → Int32) (image : Nat → Int32) (imagePast : Nat → Int32) (tape : Nat → Int32) (laneOf : Nat → Int32) (sizeOf : Nat → Int32) (items : Nat → Int64) (least : Nat → Int32) (costs : Nat → Int32) (hops : Nat → Int32) (comes : Nat → Int32) (chain : Nat → Int32) (told : Nat → Int32) (acts : Int32) (imageActs : Int32) (tapeMany : Int32) (readAt : Int32)    (h_this : is_Y k A ws q st past image imagePast tape laneOf sizeOf items least costs hops comes chain told acts imageActs tapeMany readAt) (hP : va_P D vwCl ws s.heap) (hD : va_D (fun _ => True) ws) : ∀ (n : Nat) (x2 : Int32) (x3 : Int32) (ls : Array Slot), lp_X7_proofOf_9 hops n x2 x3 = some out → lv_has ls 4 [(0, .ref (A q)), (2, .int x2), (3, .int x3)] → W p l e (headSpec wsX7_proofOf { frames := 2, cells := 0, slots := 0, locals := 47 }).room s m args below meth c s.heap [] 0 0 (MQ below (qs_Q (some (.int out))) args s 0 0 (fun _ => False)) (F0 m 9 ls []) := by
  obtain ⟨hx, hb, hml, hown, hts, hr, hlocks⟩ := id C0
  have hcf : CallFix p m c cX7_proofOf 4 s args wsX7_proofOf RX7 := ⟨hx, hb, hml, hown, hts⟩
  intro n
  induction n with
  | zero =>
    intro x2 x3 ls hf hl
    exact (no_s hf).elim
  | succ n ih =>
    intro x2 x3 ls hf hl
    rw [lp_X7_proofOf_9] at hf
    refine lv_iload_n hx hb dX7_proofOf_9 rfl (lv_at hl 2 rfl) ?_
    refine lv_if_le (tgt := 34) hx hb dX7_proofOf_10 (by decide) (fun c1 => ?_) (fun c1 => ?_)
    · have hf := it_p c1 hf
      refine lv_iload_n hx hb dX7_proofOf_34 rfl (lv_at hl 1 rfl) ?_
      obtain rfl := so_i hf
      exact W.iret (v := x2) hx hb hr (fun t ht _ => ⟨rfl, ht⟩) (fun _ h => absurd h List.not_mem_nil) dX7_proofOf_35
    · have hf := it_n c1 hf
      refine lv_aload_n hx hb dX7_proofOf_13 rfl (lv_at hl 0 rfl) ?_
      refine lv_iload_n hx hb dX7_proofOf_14 rfl (lv_at hl 2 rfl) ?_
      obtain ⟨r2, h3, hf⟩ := bd_s hf
      refine ks_i (va_runV (As := [.int x3]) (rest := []) hcf (cz_X7_isOne l D k A ws (q) st past image imagePast tape laneOf sizeOf items least costs hops comes chain told acts imageActs tapeMany readAt x3 r2 h3 h_this) (cwV 1 hts gX7_proofOf_X7_isOne rfl rfl rfl (by decide +kernel) ⟨Nat.le_of_ble_eq_true rfl, Nat.le_of_ble_eq_true rfl⟩) (pw_V hP hK hD (ci := 7) h_this.1 rfl) rfl rfl hl.1 rfl (lv_room (Nat.le_of_ble_eq_true rfl)) dX7_proofOf_15 ⟨Nat.zero_le _, Nat.zero_le _⟩) ?_
      refine lv_if_eq (tgt := 25) hx hb dX7_proofOf_18 (by decide) (fun c4 => ?_) (fun c4 => ?_)
      · have hf := it_p c4 hf
        refine lv_iload_n hx hb dX7_proofOf_25 rfl (lv_at hl 1 rfl) ?_
        refine lv_istore_n (lv' := [(2, .int x2), (0, .ref (A q)), (3, .int x3)]) hx hb dX7_proofOf_26 rfl hl (by decide) rfl (fun ls hl => ?_)
        refine lv_iload_n hx hb dX7_proofOf_27 rfl (lv_at hl 2 rfl) ?_
        refine lv_iconst (v := 2) hx hb dX7_proofOf_28 (by decide) ?_
        refine lv_idiv hx hb dX7_proofOf_29 (by decide) ?_
        refine lv_istore_n (lv' := [(3, .int (x3 / 2)), (2, .int x2), (0, .ref (A q))]) hx hb dX7_proofOf_30 rfl hl (by decide) rfl (fun ls hl => ?_)
        refine lv_goto (tgt := 9) hx hb dX7_proofOf_31 (by decide) ?_
        exact ih x2 (x3 / 2) _ hf (lv_sub hl [2, 1, 0] rfl)
      · have hf := it_n c4 hf
        refine lv_iload_n hx hb dX7_proofOf_21 rfl (lv_at hl 2 rfl) ?_
        refine lv_goto (tgt := 26) hx hb dX7_proofOf_22 (by decide) ?_
        refine lv_istore_n (lv' := [(2, .int x3), (0, .ref (A q)), (3, .int x3)]) hx hb dX7_proofOf_26 rfl hl (by decide) rfl (fun ls hl => ?_)
        refine lv_iload_n hx hb dX7_proofOf_27 rfl (lv_at hl 2 rfl) ?_
        refine lv_iconst (v := 2) hx hb dX7_proofOf_28 (by decide) ?_
        refine lv_idiv hx hb dX7_proofOf_29 (by decide) ?_
        refine lv_istore_n (lv' := [(3, .int (x3 / 2)), (2, .int x3), (0, .ref (A q))]) hx hb dX7_proofOf_30 rfl hl (by decide) rfl (fun ls hl => ?_)
        refine lv_goto (tgt := 9) hx hb dX7_proofOf_31 (by decide) ?_
        exact ih x3 (x3 / 2) _ hf (lv_sub hl [2, 1, 0] rfl)

set_option maxHeartbeats 4000000 in
set_option maxRecDepth 100000 in
theorem cz_X7_proofOf (l : Launch) (D : va_G) (k : kt_T) (A : Nat → Nat) (ws : va_W) (q : Nat)  (st : Nat → Int32) (past : Nat → Int32) (image : Nat → Int32) (imagePast : Nat → Int32) (tape : Nat → Int32) (laneOf : Nat → Int32) (sizeOf : Nat → Int32) (items : Nat → Int64) (least : Nat → Int32) (costs : Nat → Int32) (hops : Nat → Int32) (comes : Nat → Int32) (chain : Nat → Int32) (told : Nat → Int32) (acts : Int32) (imageActs : Int32) (tapeMany : Int32) (readAt : Int32) (p1 : Int32) (out : Int32) (hf : pf_X7_proofOf hops p1 = some out) (h_this : is_Y k A ws q st past image imagePast tape laneOf sizeOf items least costs hops comes chain told acts imageActs tapeMany readAt)  : Met l yX7_proofOf wsX7_proofOf { frames := 2, cells := 0, slots := 0, locals := 47 } (va_Pc [.ref (A q), .int p1] (pw_P D k ws)) (qs_Q (some (.int out))) 0 0 (fun _ => False) := by
  refine Met.ofW (cc := cX7_proofOf) (maxL := 4) (ret := (some .int)) (by decide) rfl ?_
  intro p e s m args below meth c s₁ B hml hv
  obtain ⟨rfl, hP, hK, hD⟩ := hv
  have C0 : cx_P p s m meth c [.ref (A q), .int p1].toArray cX7_proofOf 4 wsX7_proofOf RX7 (some .int) := ⟨B.exec, B.bytes, hml, findClass_of_methodNamed B.named, atoms_spec (ws := wsX7_proofOf) B.pre, B.returns, B.notSynchronized⟩
  obtain ⟨hx, hb, hml, hown, hts, hr, hlocks⟩ := id C0
  have hcf : CallFix p m c cX7_proofOf 4 s [.ref (A q), .int p1].toArray wsX7_proofOf RX7 := ⟨hx, hb, hml, hown, hts⟩
  have hl := lv_entry ([.ref (A q), .int p1]) (n := 4) (Nat.le_of_ble_eq_true rfl)
  rw [lg_entry_eq]
  generalize (lg_sl ([.ref (A q), .int p1]) ++ List.replicate (4 - (lg_sl ([.ref (A q), .int p1])).length) Slot.unset).toArray = ls at hl ⊢
  have hl : lv_has ls 4 [(0, .ref (A q)), (1, .int p1)] := hl
  unfold pf_X7_proofOf at hf
  refine lv_bipush (v := (-4)) hx hb dX7_proofOf_0 (by decide) ?_
  refine lv_istore_n (lv' := [(2, .int (-4)), (0, .ref (A q)), (1, .int p1)]) hx hb dX7_proofOf_2 rfl hl (by decide) rfl (fun ls hl => ?_)
  refine lv_sipush (v := 256) hx hb dX7_proofOf_3 (by decide) ?_
  refine lv_iload_n hx hb dX7_proofOf_6 rfl (lv_at hl 2 rfl) ?_
  refine lv_iadd hx hb dX7_proofOf_7 ?_
  refine lv_istore_n (lv' := [(3, .int (256 + p1)), (2, .int (-4)), (0, .ref (A q)), (1, .int p1)]) hx hb dX7_proofOf_8 rfl hl (by decide) rfl (fun ls hl => ?_)
  exact wl_X7_proofOf_9 l D k A ws q _ hK C0 st past image imagePast tape laneOf sizeOf items least costs hops comes chain told acts imageActs tapeMany readAt h_this hP hD fu_N (-4) (256 + p1) _ hf (lv_sub hl [2, 1, 0] rfl)

def lp_X7_wide_4   : Nat → Int32 → Int32 → Option (Int32)
  | 0, _, _ => none
  | n + 1, x1, x2 =>
    if 256 ≤ x2 then
      some x1
    else
      lp_X7_wide_4 n (x1 * 2) (x2 * 2)

def pf_X7_wide   (p1 : Int32) : Option (Int32) :=
  lp_X7_wide_4 fu_N 1 p1

set_option maxHeartbeats 4000000 in
set_option maxRecDepth 100000 in
theorem wl_X7_wide_4 {p : Program} {e : Env} {s : State} {m : MethodId} {args : Array Value} {below : List Frame} {meth : Method} {c : Code} (l : Launch) (D : va_G) (k : kt_T) (A : Nat → Nat) (ws : va_W)   (out : Int32) (hK : kk_P D k s) (C0 : cx_P p s m meth c args cX7_wide 3 wsX7_wide RX7 (some .int))       (hP : va_P D vwCl ws s.heap) (hD : va_D (fun _ => True) ws) : ∀ (n : Nat) (x1 : Int32) (x2 : Int32) (ls : Array Slot), lp_X7_wide_4 n x1 x2 = some out → lv_has ls 3 [(1, .int x1), (2, .int x2)] → W p l e (headSpec wsX7_wide { frames := 0, cells := 0, slots := 0, locals := 0 }).room s m args below meth c s.heap [] 0 0 (MQ below (qs_Q (some (.int out))) args s 0 0 (fun _ => False)) (F0 m 4 ls []) := by
  obtain ⟨hx, hb, hml, hown, hts, hr, hlocks⟩ := id C0
  have hcf : CallFix p m c cX7_wide 3 s args wsX7_wide RX7 := ⟨hx, hb, hml, hown, hts⟩
  intro n
  induction n with
  | zero =>
    intro x1 x2 ls hf hl
    exact (no_s hf).elim
  | succ n ih =>
    intro x1 x2 ls hf hl
    rw [lp_X7_wide_4] at hf
    refine lv_iload_n hx hb dX7_wide_4 rfl (lv_at hl 1 rfl) ?_
    refine lv_sipush (v := 256) hx hb dX7_wide_5 (by decide) ?_
    refine lv_icmp_ge (tgt := 22) hx hb dX7_wide_8 (by decide) (fun c1 => ?_) (fun c1 => ?_)
    · have hf := it_p c1 hf
      refine lv_iload_n hx hb dX7_wide_22 rfl (lv_at hl 0 rfl) ?_
      obtain rfl := so_i hf
      exact W.iret (v := x1) hx hb hr (fun t ht _ => ⟨rfl, ht⟩) (fun _ h => absurd h List.not_mem_nil) dX7_wide_23
    · have hf := it_n c1 hf
      refine lv_iload_n hx hb dX7_wide_11 rfl (lv_at hl 0 rfl) ?_
      refine lv_iconst (v := 2) hx hb dX7_wide_12 (by decide) ?_
      refine lv_imul hx hb dX7_wide_13 ?_
      refine lv_istore_n (lv' := [(1, .int (x1 * 2)), (2, .int x2)]) hx hb dX7_wide_14 rfl hl (by decide) rfl (fun ls hl => ?_)
      refine lv_iload_n hx hb dX7_wide_15 rfl (lv_at hl 1 rfl) ?_
      refine lv_iconst (v := 2) hx hb dX7_wide_16 (by decide) ?_
      refine lv_imul hx hb dX7_wide_17 ?_
      refine lv_istore_n (lv' := [(2, .int (x2 * 2)), (1, .int (x1 * 2))]) hx hb dX7_wide_18 rfl hl (by decide) rfl (fun ls hl => ?_)
      refine lv_goto (tgt := 4) hx hb dX7_wide_19 (by decide) ?_
      exact ih (x1 * 2) (x2 * 2) _ hf (lv_sub hl [1, 0] rfl)

set_option maxHeartbeats 4000000 in
set_option maxRecDepth 100000 in
theorem cz_X7_wide (l : Launch) (D : va_G) (k : kt_T) (A : Nat → Nat) (ws : va_W)    (p1 : Int32) (out : Int32) (hf : pf_X7_wide p1 = some out)   : Met l yX7_wide wsX7_wide { frames := 0, cells := 0, slots := 0, locals := 0 } (va_Pc [.int p1] (pw_P D k ws)) (qs_Q (some (.int out))) 0 0 (fun _ => False) := by
  refine Met.ofW (cc := cX7_wide) (maxL := 3) (ret := (some .int)) (by decide) rfl ?_
  intro p e s m args below meth c s₁ B hml hv
  obtain ⟨rfl, hP, hK, hD⟩ := hv
  have C0 : cx_P p s m meth c [.int p1].toArray cX7_wide 3 wsX7_wide RX7 (some .int) := ⟨B.exec, B.bytes, hml, findClass_of_methodNamed B.named, atoms_spec (ws := wsX7_wide) B.pre, B.returns, B.notSynchronized⟩
  obtain ⟨hx, hb, hml, hown, hts, hr, hlocks⟩ := id C0
  have hcf : CallFix p m c cX7_wide 3 s [.int p1].toArray wsX7_wide RX7 := ⟨hx, hb, hml, hown, hts⟩
  have hl := lv_entry ([.int p1]) (n := 3) (Nat.le_of_ble_eq_true rfl)
  rw [lg_entry_eq]
  generalize (lg_sl ([.int p1]) ++ List.replicate (3 - (lg_sl ([.int p1])).length) Slot.unset).toArray = ls at hl ⊢
  have hl : lv_has ls 3 [(0, .int p1)] := hl
  unfold pf_X7_wide at hf
  refine lv_iconst (v := 1) hx hb dX7_wide_0 (by decide) ?_
  refine lv_istore_n (lv' := [(1, .int 1), (0, .int p1)]) hx hb dX7_wide_1 rfl hl (by decide) rfl (fun ls hl => ?_)
  refine lv_iload_n hx hb dX7_wide_2 rfl (lv_at hl 1 rfl) ?_
  refine lv_istore_n (lv' := [(2, .int p1), (1, .int 1), (0, .int p1)]) hx hb dX7_wide_3 rfl hl (by decide) rfl (fun ls hl => ?_)
  exact wl_X7_wide_4 l D k A ws _ hK C0 hP hD fu_N 1 p1 _ hf (lv_sub hl [1, 0] rfl)

def lp_X7_proofAt_4  (hops : Nat → Int32) (x1 : Int32) : Nat → Int32 → Int32 → Option (Int32)
  | 0, _, _ => none
  | n + 1, x2, x3 =>
    if 256 ≤ x3 then
      if 0 ≤ x1 then
        some (-4)
      else
        some x2
    else
      if x2 = x1 then
        some x3
      else
        (pf_X7_proofOf hops x3).bind (fun r4 =>
          (pf_X7_wide r4).bind (fun r6 =>
            lp_X7_proofAt_4 hops x1 n (x2 + 1) (x3 + r6)))

def pf_X7_proofAt (hops : Nat → Int32)  (p1 : Int32) : Option (Int32) :=
  lp_X7_proofAt_4 hops p1 fu_N 0 0

set_option maxHeartbeats 4000000 in
set_option maxRecDepth 100000 in
theorem wl_X7_proofAt_4 {p : Program} {e : Env} {s : State} {m : MethodId} {args : Array Value} {below : List Frame} {meth : Method} {c : Code} (l : Launch) (D : va_G) (k : kt_T) (A : Nat → Nat) (ws : va_W) (q : Nat)  (out : Int32) (hK : kk_P D k s) (C0 : cx_P p s m meth c args cX7_proofAt 4 wsX7_proofAt RX7 (some .int))  (st : Nat → Int32) (past : Nat → Int32) (image : Nat → Int32) (imagePast : Nat → Int32) (tape : Nat → Int32) (laneOf : Nat → Int32) (sizeOf : Nat → Int32) (items : Nat → Int64) (least : Nat → Int32) (costs : Nat → Int32) (hops : Nat → Int32) (comes : Nat → Int32) (chain : Nat → Int32) (told : Nat → Int32) (acts : Int32) (imageActs : Int32) (tapeMany : Int32) (readAt : Int32) (x1 : Int32)   (h_this : is_Y k A ws q st past image imagePast tape laneOf sizeOf items least costs hops comes chain told acts imageActs tapeMany readAt) (hP : va_P D vwCl ws s.heap) (hD : va_D (fun _ => True) ws) : ∀ (n : Nat) (x2 : Int32) (x3 : Int32) (ls : Array Slot), lp_X7_proofAt_4 hops x1 n x2 x3 = some out → lv_has ls 4 [(0, .ref (A q)), (1, .int x1), (2, .int x2), (3, .int x3)] → W p l e (headSpec wsX7_proofAt { frames := 3, cells := 0, slots := 0, locals := 70 }).room s m args below meth c s.heap [] 0 0 (MQ below (qs_Q (some (.int out))) args s 0 0 (fun _ => False)) (F0 m 4 ls []) := by
  obtain ⟨hx, hb, hml, hown, hts, hr, hlocks⟩ := id C0
  have hcf : CallFix p m c cX7_proofAt 4 s args wsX7_proofAt RX7 := ⟨hx, hb, hml, hown, hts⟩
  intro n
  induction n with
  | zero =>
    intro x2 x3 ls hf hl
    exact (no_s hf).elim
  | succ n ih =>
    intro x2 x3 ls hf hl
    rw [lp_X7_proofAt_4] at hf
    refine lv_iload_n hx hb dX7_proofAt_4 rfl (lv_at hl 3 rfl) ?_
    refine lv_sipush (v := 256) hx hb dX7_proofAt_5 (by decide) ?_
    refine lv_icmp_ge (tgt := 35) hx hb dX7_proofAt_8 (by decide) (fun c1 => ?_) (fun c1 => ?_)
    · have hf := it_p c1 hf
      refine lv_iload_n hx hb dX7_proofAt_35 rfl (lv_at hl 1 rfl) ?_
      refine lv_if_ge (tgt := 43) hx hb dX7_proofAt_36 (by decide) (fun c2 => ?_) (fun c2 => ?_)
      · have hf := it_p c2 hf
        refine lv_bipush (v := (-4)) hx hb dX7_proofAt_43 (by decide) ?_
        obtain rfl := so_i hf
        exact W.iret (v := (-4)) hx hb hr (fun t ht _ => ⟨rfl, ht⟩) (fun _ h => absurd h List.not_mem_nil) dX7_proofAt_45
      · have hf := it_n c2 hf
        refine lv_iload_n hx hb dX7_proofAt_39 rfl (lv_at hl 2 rfl) ?_
        refine lv_goto (tgt := 45) hx hb dX7_proofAt_40 (by decide) ?_
        obtain rfl := so_i hf
        exact W.iret (v := x2) hx hb hr (fun t ht _ => ⟨rfl, ht⟩) (fun _ h => absurd h List.not_mem_nil) dX7_proofAt_45
    · have hf := it_n c1 hf
      refine lv_iload_n hx hb dX7_proofAt_11 rfl (lv_at hl 2 rfl) ?_
      refine lv_iload_n hx hb dX7_proofAt_12 rfl (lv_at hl 1 rfl) ?_
      refine lv_icmp_ne (tgt := 18) hx hb dX7_proofAt_13 (by decide) (fun c3 => ?_) (fun c3 => ?_)
      · have hf := it_n c3 hf
        refine lv_iload_n hx hb dX7_proofAt_18 rfl (lv_at hl 3 rfl) ?_
        refine lv_aload_n hx hb dX7_proofAt_19 rfl (lv_at hl 0 rfl) ?_
        refine lv_iload_n hx hb dX7_proofAt_20 rfl (lv_at hl 3 rfl) ?_
        obtain ⟨r4, h5, hf⟩ := bd_s hf
        refine ks_i (va_runV (As := [.int x3]) (rest := [.int x3]) hcf (cz_X7_proofOf l D k A ws (q) st past image imagePast tape laneOf sizeOf items least costs hops comes chain told acts imageActs tapeMany readAt x3 r4 h5 h_this) (cwV 1 hts gX7_proofAt_X7_proofOf rfl rfl rfl (by decide +kernel) ⟨Nat.le_of_ble_eq_true rfl, Nat.le_of_ble_eq_true rfl⟩) (pw_V hP hK hD (ci := 7) h_this.1 rfl) rfl rfl hl.1 rfl (lv_room (Nat.le_of_ble_eq_true rfl)) dX7_proofAt_21 ⟨Nat.zero_le _, Nat.zero_le _⟩) ?_
        obtain ⟨r6, h7, hf⟩ := bd_s hf
        refine ks_i (va_runS (As := [.int r4]) (rest := [.int x3]) hcf (cz_X7_wide l D k A ws r4 r6 h7) (va_cwS 1 hts gX7_proofAt_X7_wide rfl rfl rfl (by decide +kernel) ⟨Nat.le_of_ble_eq_true rfl, Nat.le_of_ble_eq_true rfl⟩) (pw_S hP hK hD) rfl rfl hl.1 rfl (lv_room (Nat.le_of_ble_eq_true rfl)) dX7_proofAt_24 ⟨Nat.zero_le _, Nat.zero_le _⟩) ?_
        refine lv_iadd hx hb dX7_proofAt_27 ?_
        refine lv_istore_n (lv' := [(3, .int (x3 + r6)), (0, .ref (A q)), (1, .int x1), (2, .int x2)]) hx hb dX7_proofAt_28 rfl hl (by decide) rfl (fun ls hl => ?_)
        refine lv_iinc (v := (x2 + 1)) (lv' := [(2, .int (x2 + 1)), (3, .int (x3 + r6)), (0, .ref (A q)), (1, .int x1)]) hx hb dX7_proofAt_29 hl (k := 3) rfl rfl (by decide) rfl (fun ls hl => ?_)
        refine lv_goto (tgt := 4) hx hb dX7_proofAt_32 (by decide) ?_
        exact ih (x2 + 1) (x3 + r6) _ hf (lv_sub hl [2, 3, 0, 1] rfl)
      · have hf := it_p c3 hf
        refine lv_iload_n hx hb dX7_proofAt_16 rfl (lv_at hl 3 rfl) ?_
        obtain rfl := so_i hf
        exact W.iret (v := x3) hx hb hr (fun t ht _ => ⟨rfl, ht⟩) (fun _ h => absurd h List.not_mem_nil) dX7_proofAt_17

set_option maxHeartbeats 4000000 in
set_option maxRecDepth 100000 in
theorem cz_X7_proofAt (l : Launch) (D : va_G) (k : kt_T) (A : Nat → Nat) (ws : va_W) (q : Nat)  (st : Nat → Int32) (past : Nat → Int32) (image : Nat → Int32) (imagePast : Nat → Int32) (tape : Nat → Int32) (laneOf : Nat → Int32) (sizeOf : Nat → Int32) (items : Nat → Int64) (least : Nat → Int32) (costs : Nat → Int32) (hops : Nat → Int32) (comes : Nat → Int32) (chain : Nat → Int32) (told : Nat → Int32) (acts : Int32) (imageActs : Int32) (tapeMany : Int32) (readAt : Int32) (p1 : Int32) (out : Int32) (hf : pf_X7_proofAt hops p1 = some out) (h_this : is_Y k A ws q st past image imagePast tape laneOf sizeOf items least costs hops comes chain told acts imageActs tapeMany readAt)  : Met l yX7_proofAt wsX7_proofAt { frames := 3, cells := 0, slots := 0, locals := 70 } (va_Pc [.ref (A q), .int p1] (pw_P D k ws)) (qs_Q (some (.int out))) 0 0 (fun _ => False) := by
  refine Met.ofW (cc := cX7_proofAt) (maxL := 4) (ret := (some .int)) (by decide) rfl ?_
  intro p e s m args below meth c s₁ B hml hv
  obtain ⟨rfl, hP, hK, hD⟩ := hv
  have C0 : cx_P p s m meth c [.ref (A q), .int p1].toArray cX7_proofAt 4 wsX7_proofAt RX7 (some .int) := ⟨B.exec, B.bytes, hml, findClass_of_methodNamed B.named, atoms_spec (ws := wsX7_proofAt) B.pre, B.returns, B.notSynchronized⟩
  obtain ⟨hx, hb, hml, hown, hts, hr, hlocks⟩ := id C0
  have hcf : CallFix p m c cX7_proofAt 4 s [.ref (A q), .int p1].toArray wsX7_proofAt RX7 := ⟨hx, hb, hml, hown, hts⟩
  have hl := lv_entry ([.ref (A q), .int p1]) (n := 4) (Nat.le_of_ble_eq_true rfl)
  rw [lg_entry_eq]
  generalize (lg_sl ([.ref (A q), .int p1]) ++ List.replicate (4 - (lg_sl ([.ref (A q), .int p1])).length) Slot.unset).toArray = ls at hl ⊢
  have hl : lv_has ls 4 [(0, .ref (A q)), (1, .int p1)] := hl
  unfold pf_X7_proofAt at hf
  refine lv_iconst (v := 0) hx hb dX7_proofAt_0 (by decide) ?_
  refine lv_istore_n (lv' := [(2, .int 0), (0, .ref (A q)), (1, .int p1)]) hx hb dX7_proofAt_1 rfl hl (by decide) rfl (fun ls hl => ?_)
  refine lv_iconst (v := 0) hx hb dX7_proofAt_2 (by decide) ?_
  refine lv_istore_n (lv' := [(3, .int 0), (2, .int 0), (0, .ref (A q)), (1, .int p1)]) hx hb dX7_proofAt_3 rfl hl (by decide) rfl (fun ls hl => ?_)
  exact wl_X7_proofAt_4 l D k A ws q _ hK C0 st past image imagePast tape laneOf sizeOf items least costs hops comes chain told acts imageActs tapeMany readAt p1 h_this hP hD fu_N 0 0 _ hf (lv_sub hl [2, 3, 1, 0] rfl)

theorem in_X7_proof_X7 : ∀ w ∈ u_ws RX7 TX7 18, w ∈ wsX7_proof := fun w h => List.mem_cons_of_mem _ (List.mem_append_right _ h)
def pf_X7_proof (st : Nat → Int32) (hops : Nat → Int32)  (p1 : Int32) (p2 : Int32) : Option (Int32 × (Nat → Int32)) :=
  if p1 < 0 then
    some ((-1), hops)
  else
    (pf_X7_in (Int32.toInt64 p2) 0 2).bind (fun r2 =>
      if r2 = 0 then
        some ((-1), hops)
      else
        (pf_X7_laysHops st hops).bind (fun r5 =>
          (pf_X7_proofAt r5 p1).bind (fun r11 =>
            if r11 = (-4) then
              some ((-4), r5)
            else
              if p2 = 0 then
                (pf_X7_proofOf r5 r11).bind (fun r50 =>
                  some (r50, r5))
              else
                if p2 = 1 then
                  ck_O (in_b r11 512) (
                    some ((r5 (Int32.toNatClampNeg r11)), r5))
                else
                  ck_O (in_b (256 + r11) 512) (
                    some ((r5 (Int32.toNatClampNeg (256 + r11))), r5)))))

set_option maxHeartbeats 4000000 in
set_option maxRecDepth 100000 in
theorem cz_X7_proof (l : Launch) (D : va_G) (k : kt_T) (A : Nat → Nat) (ws : va_W) (q : Nat)  (st : Nat → Int32) (past : Nat → Int32) (image : Nat → Int32) (imagePast : Nat → Int32) (tape : Nat → Int32) (laneOf : Nat → Int32) (sizeOf : Nat → Int32) (items : Nat → Int64) (least : Nat → Int32) (costs : Nat → Int32) (hops : Nat → Int32) (comes : Nat → Int32) (chain : Nat → Int32) (told : Nat → Int32) (acts : Int32) (imageActs : Int32) (tapeMany : Int32) (readAt : Int32) (p1 : Int32) (p2 : Int32) (out : Int32 × (Nat → Int32)) (hf : pf_X7_proof st hops p1 p2 = some out) (h_this : is_Y k A ws q st past image imagePast tape laneOf sizeOf items least costs hops comes chain told acts imageActs tapeMany readAt)  (sz0 : Nat) : Met l yX7_proof wsX7_proof { frames := 4, cells := 0, slots := 0, locals := 93 } (va_Pc [.ref (A q), .int p1, .int p2] (px_P D k ws sz0)) (qw_Q D ws sz0 (some (.int out.1)) (fun u => is_Y k A u q st past image imagePast tape laneOf sizeOf items least costs out.2 comes chain told acts imageActs tapeMany readAt ∧ sm_W ws u q (q + 15))) 0 0 (va_A ws sz0) := by
  refine Met.ofW (cc := cX7_proof) (maxL := 4) (ret := (some .int)) (by decide) rfl ?_
  intro p e s m args below meth c s₁ B hml hv
  obtain ⟨rfl, hsz, hP, hK, hD0⟩ := hv
  subst hsz
  have hD := hD0.self (sz := s.heap.size)
  have C0 : cx_P p s m meth c [.ref (A q), .int p1, .int p2].toArray cX7_proof 4 wsX7_proof RX7 (some .int) := ⟨B.exec, B.bytes, hml, findClass_of_methodNamed B.named, atoms_spec (ws := wsX7_proof) B.pre, B.returns, B.notSynchronized⟩
  obtain ⟨hx, hb, hml, hown, hts, hr, hlocks⟩ := id C0
  have hcf : CallFix p m c cX7_proof 4 s [.ref (A q), .int p1, .int p2].toArray wsX7_proof RX7 := ⟨hx, hb, hml, hown, hts⟩
  have hA : ∀ q, s.heap.size ≤ q → va_A ws s.heap.size q := fun q h => Or.inr h
  have hS : va_S (va_A ws s.heap.size) s.heap s.heap [] := va_S.rf
  have hsm : sm_W ws ws q (q + 15) := sm_rf
  have w_0 := hts (.constantLong RX7 133 (2)) (List.mem_of_getElem? (i := 1) rfl)
  have w_1 := hts (.fieldLink RX7 45 "LeastRoutesModel" "hops" "[I") (List.mem_of_getElem? (i := 2) rfl)
  have hl := lv_entry ([.ref (A q), .int p1, .int p2]) (n := 4) (Nat.le_of_ble_eq_true rfl)
  rw [lg_entry_eq]
  generalize (lg_sl ([.ref (A q), .int p1, .int p2]) ++ List.replicate (4 - (lg_sl ([.ref (A q), .int p1, .int p2])).length) Slot.unset).toArray = ls at hl ⊢
  have hl : lv_has ls 4 [(0, .ref (A q)), (1, .int p1), (2, .int p2)] := hl
  unfold pf_X7_proof at hf
  refine lv_iload_n hx hb dX7_proof_0 rfl (lv_at hl 1 rfl) ?_
  refine lv_if_lt (tgt := 16) hx hb dX7_proof_1 (by decide) (fun c1 => ?_) (fun c1 => ?_)
  · have hf := it_p c1 hf
    refine lv_iconst (v := (-1)) hx hb dX7_proof_16 (by decide) ?_
    obtain rfl := so_i hf
    exact W.iret (v := (-1)) hx hb hr (qw_end hS hP hD ⟨h_this, hsm⟩) hS.2.2 dX7_proof_17
  · have hf := it_n c1 hf
    refine lv_iload_n hx hb dX7_proof_4 rfl (lv_at hl 2 rfl) ?_
    refine lv_i2l hx hb dX7_proof_5 rfl ?_
    refine lv_lconst (v := 0) hx hb dX7_proof_6 (by decide) ?_
    refine lv_ldc2 hx hb hown w_0 dX7_proof_7 ?_
    obtain ⟨r2, h3, hf⟩ := bd_s hf
    refine ks_i (va_runS (As := [.long (Int32.toInt64 p2), .long 0, .long 2]) (rest := []) hcf (cz_X7_in l D k A ws (Int32.toInt64 p2) 0 2 r2 h3) (va_cwS 3 hts gX7_proof_X7_in rfl rfl rfl (by decide +kernel) ⟨Nat.le_of_ble_eq_true rfl, Nat.le_of_ble_eq_true rfl⟩) (pw_S hP hK hD) rfl rfl hl.1 rfl (lv_room (Nat.le_of_ble_eq_true rfl)) dX7_proof_10 ⟨Nat.zero_le _, Nat.zero_le _⟩) ?_
    refine lv_if_ne (tgt := 18) hx hb dX7_proof_13 (by decide) (fun c4 => ?_) (fun c4 => ?_)
    · have hf := it_n c4 hf
      refine lv_aload_n hx hb dX7_proof_18 rfl (lv_at hl 0 rfl) ?_
      obtain ⟨r5, h6, hf⟩ := bd_s hf
      refine kw_v (va_runV (As := []) (rest := []) hcf (cz_X7_laysHops l D k A ws (q) st past image imagePast tape laneOf sizeOf items least costs hops comes chain told acts imageActs tapeMany readAt r5 h6 h_this _) (cwV 0 hts gX7_proof_X7_laysHops rfl rfl rfl (by decide +kernel) ⟨Nat.le_of_ble_eq_true rfl, Nat.le_of_ble_eq_true rfl⟩) (px_V hP hK hD (ci := 7) h_this.1 rfl) rfl rfl hl.1 rfl (lv_room (Nat.le_of_ble_eq_true rfl)) dX7_proof_19 ⟨Nat.zero_le _, Nat.zero_le _⟩) hD hS hA (fun u7 _ _ h8 hP hD hS => ?_)
      obtain ⟨h10, m9⟩ := h8
      have hsm := sm_tr hsm m9 (by omega) (by omega)
      refine lv_aload_n hx hb dX7_proof_22 rfl (lv_at hl 0 rfl) ?_
      refine lv_iload_n hx hb dX7_proof_23 rfl (lv_at hl 1 rfl) ?_
      obtain ⟨r11, h12, hf⟩ := bd_s hf
      refine ks_i (va_runV (As := [.int p1]) (rest := []) hcf (cz_X7_proofAt l D k A u7 (q) st past image imagePast tape laneOf sizeOf items least costs r5 comes chain told acts imageActs tapeMany readAt p1 r11 h12 h10) (cwV 1 hts gX7_proof_X7_proofAt rfl rfl rfl (by decide +kernel) ⟨Nat.le_of_ble_eq_true rfl, Nat.le_of_ble_eq_true rfl⟩) (pw_V hP hK hD (ci := 7) h10.1 rfl) rfl rfl hl.1 rfl (lv_room (Nat.le_of_ble_eq_true rfl)) dX7_proof_24 ⟨Nat.zero_le _, Nat.zero_le _⟩) ?_
      refine lv_istore_n (lv' := [(3, .int r11), (0, .ref (A q)), (1, .int p1), (2, .int p2)]) hx hb dX7_proof_27 rfl hl (by decide) rfl (fun ls hl => ?_)
      refine lv_iload_n hx hb dX7_proof_28 rfl (lv_at hl 0 rfl) ?_
      refine lv_bipush (v := (-4)) hx hb dX7_proof_29 (by decide) ?_
      refine lv_icmp_ne (tgt := 37) hx hb dX7_proof_31 (by decide) (fun c13 => ?_) (fun c13 => ?_)
      · have hf := it_n c13 hf
        refine lv_iload_n hx hb dX7_proof_37 rfl (lv_at hl 3 rfl) ?_
        refine lv_if_ne (tgt := 49) hx hb dX7_proof_38 (by decide) (fun c14 => ?_) (fun c14 => ?_)
        · have hf := it_n c14 hf
          refine lv_iload_n hx hb dX7_proof_49 rfl (lv_at hl 3 rfl) ?_
          refine lv_iconst (v := 1) hx hb dX7_proof_50 (by decide) ?_
          refine lv_icmp_ne (tgt := 63) hx hb dX7_proof_51 (by decide) (fun c15 => ?_) (fun c15 => ?_)
          · have hf := it_n c15 hf
            refine lv_aload_n hx hb dX7_proof_63 rfl (lv_at hl 1 rfl) ?_
            obtain ⟨h16, h17, h18, h19, h20, h21, h22, h23, h24, h25, h26, h27, h28, h29, h30⟩ := h10
            refine va_get (D := D) (ci := 7) (v := .ref (A (q + 11))) (C := RX7) (T := TX7) (N := 18) hx hb hts in_X7_proof_X7 hown hK.1 hP (q) h16 rfl 13 (by decide) w_1 (fun _ h9 => h9) rfl dX7_proof_64 ?_
            refine lv_sipush (v := 256) hx hb dX7_proof_67 (by decide) ?_
            refine lv_iload_n hx hb dX7_proof_70 rfl (lv_at hl 0 rfl) ?_
            refine lv_iadd hx hb dX7_proof_71 ?_
            obtain ⟨z31, hf⟩ := ck_s hf
            refine va_iald hx hb hK.1 hP (q + 11) 0 h27 rfl (in_s z31) dX7_proof_72 ?_
            obtain rfl := so_i hf
            have h32 : is_Y k A u7 (q) st past image imagePast tape laneOf sizeOf items least costs r5 comes chain told acts imageActs tapeMany readAt := ⟨h16, h17, h18, h19, h20, h21, h22, h23, h24, h25, h26, h27, h28, h29, h30⟩
            exact W.iret (v := (r5 (Int32.toNatClampNeg (256 + r11)))) hx hb hr (qw_end hS hP hD ⟨h32, hsm⟩) hS.2.2 dX7_proof_73
          · have hf := it_p c15 hf
            refine lv_aload_n hx hb dX7_proof_54 rfl (lv_at hl 1 rfl) ?_
            obtain ⟨h33, h34, h35, h36, h37, h38, h39, h40, h41, h42, h43, h44, h45, h46, h47⟩ := h10
            refine va_get (D := D) (ci := 7) (v := .ref (A (q + 11))) (C := RX7) (T := TX7) (N := 18) hx hb hts in_X7_proof_X7 hown hK.1 hP (q) h33 rfl 13 (by decide) w_1 (fun _ h9 => h9) rfl dX7_proof_55 ?_
            refine lv_iload_n hx hb dX7_proof_58 rfl (lv_at hl 0 rfl) ?_
            obtain ⟨z48, hf⟩ := ck_s hf
            refine va_iald hx hb hK.1 hP (q + 11) 0 h44 rfl (in_s z48) dX7_proof_59 ?_
            refine lv_goto (tgt := 73) hx hb dX7_proof_60 (by decide) ?_
            obtain rfl := so_i hf
            have h49 : is_Y k A u7 (q) st past image imagePast tape laneOf sizeOf items least costs r5 comes chain told acts imageActs tapeMany readAt := ⟨h33, h34, h35, h36, h37, h38, h39, h40, h41, h42, h43, h44, h45, h46, h47⟩
            exact W.iret (v := (r5 (Int32.toNatClampNeg r11))) hx hb hr (qw_end hS hP hD ⟨h49, hsm⟩) hS.2.2 dX7_proof_73
        · have hf := it_p c14 hf
          refine lv_aload_n hx hb dX7_proof_41 rfl (lv_at hl 1 rfl) ?_
          refine lv_iload_n hx hb dX7_proof_42 rfl (lv_at hl 0 rfl) ?_
          obtain ⟨r50, h51, hf⟩ := bd_s hf
          refine ks_i (va_runV (As := [.int r11]) (rest := []) hcf (cz_X7_proofOf l D k A u7 (q) st past image imagePast tape laneOf sizeOf items least costs r5 comes chain told acts imageActs tapeMany readAt r11 r50 h51 h10) (cwV 1 hts gX7_proof_X7_proofOf rfl rfl rfl (by decide +kernel) ⟨Nat.le_of_ble_eq_true rfl, Nat.le_of_ble_eq_true rfl⟩) (pw_V hP hK hD (ci := 7) h10.1 rfl) rfl rfl hl.1 rfl (lv_room (Nat.le_of_ble_eq_true rfl)) dX7_proof_43 ⟨Nat.zero_le _, Nat.zero_le _⟩) ?_
          refine lv_goto (tgt := 73) hx hb dX7_proof_46 (by decide) ?_
          obtain rfl := so_i hf
          exact W.iret (v := r50) hx hb hr (qw_end hS hP hD ⟨h10, hsm⟩) hS.2.2 dX7_proof_73
      · have hf := it_p c13 hf
        refine lv_bipush (v := (-4)) hx hb dX7_proof_34 (by decide) ?_
        obtain rfl := so_i hf
        exact W.iret (v := (-4)) hx hb hr (qw_end hS hP hD ⟨h10, hsm⟩) hS.2.2 dX7_proof_36
    · have hf := it_p c4 hf
      refine lv_iconst (v := (-1)) hx hb dX7_proof_16 (by decide) ?_
      obtain rfl := so_i hf
      exact W.iret (v := (-1)) hx hb hr (qw_end hS hP hD ⟨h_this, hsm⟩) hS.2.2 dX7_proof_17

theorem in_X7_redundant_X7 : ∀ w ∈ u_ws RX7 TX7 18, w ∈ wsX7_redundant := fun w h => List.mem_cons_of_mem _ (List.mem_append_right _ h)
def lp_X7_redundant_4  (st : Nat → Int32) (hops : Nat → Int32) : Nat → Int32 → Int32 → Option (Int32)
  | 0, _, _ => none
  | n + 1, x1, x2 =>
    if 512 ≤ x2 then
      some x1
    else
      ck_O (in_b (0 + x2) 1025) (
        if (st (Int32.toNatClampNeg (0 + x2))) = 8 then
          lp_X7_redundant_4 st hops n (x1 + 0) (x2 + 1)
        else
          (pf_X7_isRedundant st hops x2).bind (fun r20 =>
            if r20 = 0 then
              lp_X7_redundant_4 st hops n (x1 + 0) (x2 + 1)
            else
              lp_X7_redundant_4 st hops n (x1 + 1) (x2 + 1)))

def pf_X7_redundant (st : Nat → Int32) (hops : Nat → Int32)   : Option (Int32) :=
  lp_X7_redundant_4 st hops fu_N 0 1

set_option maxHeartbeats 4000000 in
set_option maxRecDepth 100000 in
theorem wl_X7_redundant_4 {p : Program} {e : Env} {s : State} {m : MethodId} {args : Array Value} {below : List Frame} {meth : Method} {c : Code} (l : Launch) (D : va_G) (k : kt_T) (A : Nat → Nat) (ws : va_W) (q : Nat)  (out : Int32) (hK : kk_P D k s) (C0 : cx_P p s m meth c args cX7_redundant 3 wsX7_redundant RX7 (some .int))  (st : Nat → Int32) (past : Nat → Int32) (image : Nat → Int32) (imagePast : Nat → Int32) (tape : Nat → Int32) (laneOf : Nat → Int32) (sizeOf : Nat → Int32) (items : Nat → Int64) (least : Nat → Int32) (costs : Nat → Int32) (hops : Nat → Int32) (comes : Nat → Int32) (chain : Nat → Int32) (told : Nat → Int32) (acts : Int32) (imageActs : Int32) (tapeMany : Int32) (readAt : Int32)    (h_this : is_Y k A ws q st past image imagePast tape laneOf sizeOf items least costs hops comes chain told acts imageActs tapeMany readAt) (hP : va_P D vwCl ws s.heap) (hD : va_D (fun _ => True) ws) : ∀ (n : Nat) (x1 : Int32) (x2 : Int32) (ls : Array Slot), lp_X7_redundant_4 st hops n x1 x2 = some out → lv_has ls 3 [(0, .ref (A q)), (1, .int x1), (2, .int x2)] → W p l e (headSpec wsX7_redundant { frames := 3, cells := 0, slots := 0, locals := 71 }).room s m args below meth c s.heap [] 0 0 (MQ below (qs_Q (some (.int out))) args s 0 0 (fun _ => False)) (F0 m 4 ls []) := by
  obtain ⟨hx, hb, hml, hown, hts, hr, hlocks⟩ := id C0
  have hcf : CallFix p m c cX7_redundant 3 s args wsX7_redundant RX7 := ⟨hx, hb, hml, hown, hts⟩
  have w_0 := hts (.fieldLink RX7 7 "LeastRoutesModel" "st" "[I") (List.mem_of_getElem? (i := 1) rfl)
  intro n
  induction n with
  | zero =>
    intro x1 x2 ls hf hl
    exact (no_s hf).elim
  | succ n ih =>
    intro x1 x2 ls hf hl
    rw [lp_X7_redundant_4] at hf
    refine lv_iload_n hx hb dX7_redundant_4 rfl (lv_at hl 2 rfl) ?_
    refine lv_sipush (v := 512) hx hb dX7_redundant_5 (by decide) ?_
    refine lv_icmp_ge (tgt := 46) hx hb dX7_redundant_8 (by decide) (fun c1 => ?_) (fun c1 => ?_)
    · have hf := it_p c1 hf
      refine lv_iload_n hx hb dX7_redundant_46 rfl (lv_at hl 1 rfl) ?_
      obtain rfl := so_i hf
      exact W.iret (v := x1) hx hb hr (fun t ht _ => ⟨rfl, ht⟩) (fun _ h => absurd h List.not_mem_nil) dX7_redundant_47
    · have hf := it_n c1 hf
      refine lv_iload_n hx hb dX7_redundant_11 rfl (lv_at hl 1 rfl) ?_
      refine lv_aload_n hx hb dX7_redundant_12 rfl (lv_at hl 0 rfl) ?_
      obtain ⟨h2, h3, h4, h5, h6, h7, h8, h9, h10, h11, h12, h13, h14, h15, h16⟩ := h_this
      refine va_get (D := D) (ci := 7) (v := .ref (A (q + 1))) (C := RX7) (T := TX7) (N := 18) hx hb hts in_X7_redundant_X7 hown hK.1 hP (q) h2 rfl 0 (by decide) w_0 (fun _ h9 => h9) rfl dX7_redundant_13 ?_
      refine lv_iconst (v := 0) hx hb dX7_redundant_16 (by decide) ?_
      refine lv_iload_n hx hb dX7_redundant_17 rfl (lv_at hl 2 rfl) ?_
      refine lv_iadd hx hb dX7_redundant_18 ?_
      obtain ⟨z17, hf⟩ := ck_s hf
      refine va_iald hx hb hK.1 hP (q + 1) 0 h3 rfl (in_s z17) dX7_redundant_19 ?_
      refine lv_bipush (v := 8) hx hb dX7_redundant_20 (by decide) ?_
      refine lv_icmp_eq (tgt := 37) hx hb dX7_redundant_22 (by decide) (fun c18 => ?_) (fun c18 => ?_)
      · have hf := it_p c18 hf
        refine lv_iconst (v := 0) hx hb dX7_redundant_37 (by decide) ?_
        refine lv_iadd hx hb dX7_redundant_38 ?_
        refine lv_istore_n (lv' := [(1, .int (x1 + 0)), (0, .ref (A q)), (2, .int x2)]) hx hb dX7_redundant_39 rfl hl (by decide) rfl (fun ls hl => ?_)
        refine lv_iinc (v := (x2 + 1)) (lv' := [(2, .int (x2 + 1)), (1, .int (x1 + 0)), (0, .ref (A q))]) hx hb dX7_redundant_40 hl (k := 2) rfl rfl (by decide) rfl (fun ls hl => ?_)
        refine lv_goto (tgt := 4) hx hb dX7_redundant_43 (by decide) ?_
        exact ih (x1 + 0) (x2 + 1) _ hf (lv_sub hl [2, 1, 0] rfl)
      · have hf := it_n c18 hf
        refine lv_aload_n hx hb dX7_redundant_25 rfl (lv_at hl 0 rfl) ?_
        refine lv_iload_n hx hb dX7_redundant_26 rfl (lv_at hl 2 rfl) ?_
        have h19 : is_Y k A ws (q) st past image imagePast tape laneOf sizeOf items least costs hops comes chain told acts imageActs tapeMany readAt := ⟨h2, h3, h4, h5, h6, h7, h8, h9, h10, h11, h12, h13, h14, h15, h16⟩
        obtain ⟨r20, h21, hf⟩ := bd_s hf
        refine ks_i (va_runV (As := [.int x2]) (rest := [.int x1]) hcf (cz_X7_isRedundant l D k A ws (q) st past image imagePast tape laneOf sizeOf items least costs hops comes chain told acts imageActs tapeMany readAt x2 r20 h21 h19) (cwV 1 hts gX7_redundant_X7_isRedundant rfl rfl rfl (by decide +kernel) ⟨Nat.le_of_ble_eq_true rfl, Nat.le_of_ble_eq_true rfl⟩) (pw_V hP hK hD (ci := 7) h19.1 rfl) rfl rfl hl.1 rfl (lv_room (Nat.le_of_ble_eq_true rfl)) dX7_redundant_27 ⟨Nat.zero_le _, Nat.zero_le _⟩) ?_
        refine lv_if_eq (tgt := 37) hx hb dX7_redundant_30 (by decide) (fun c22 => ?_) (fun c22 => ?_)
        · have hf := it_p c22 hf
          refine lv_iconst (v := 0) hx hb dX7_redundant_37 (by decide) ?_
          refine lv_iadd hx hb dX7_redundant_38 ?_
          refine lv_istore_n (lv' := [(1, .int (x1 + 0)), (0, .ref (A q)), (2, .int x2)]) hx hb dX7_redundant_39 rfl hl (by decide) rfl (fun ls hl => ?_)
          refine lv_iinc (v := (x2 + 1)) (lv' := [(2, .int (x2 + 1)), (1, .int (x1 + 0)), (0, .ref (A q))]) hx hb dX7_redundant_40 hl (k := 2) rfl rfl (by decide) rfl (fun ls hl => ?_)
          refine lv_goto (tgt := 4) hx hb dX7_redundant_43 (by decide) ?_
          exact ih (x1 + 0) (x2 + 1) _ hf (lv_sub hl [2, 1, 0] rfl)
        · have hf := it_n c22 hf
          refine lv_iconst (v := 1) hx hb dX7_redundant_33 (by decide) ?_
          refine lv_goto (tgt := 38) hx hb dX7_redundant_34 (by decide) ?_
          refine lv_iadd hx hb dX7_redundant_38 ?_
          refine lv_istore_n (lv' := [(1, .int (x1 + 1)), (0, .ref (A q)), (2, .int x2)]) hx hb dX7_redundant_39 rfl hl (by decide) rfl (fun ls hl => ?_)
          refine lv_iinc (v := (x2 + 1)) (lv' := [(2, .int (x2 + 1)), (1, .int (x1 + 1)), (0, .ref (A q))]) hx hb dX7_redundant_40 hl (k := 2) rfl rfl (by decide) rfl (fun ls hl => ?_)
          refine lv_goto (tgt := 4) hx hb dX7_redundant_43 (by decide) ?_
          exact ih (x1 + 1) (x2 + 1) _ hf (lv_sub hl [2, 1, 0] rfl)

set_option maxHeartbeats 4000000 in
set_option maxRecDepth 100000 in
theorem cz_X7_redundant (l : Launch) (D : va_G) (k : kt_T) (A : Nat → Nat) (ws : va_W) (q : Nat)  (st : Nat → Int32) (past : Nat → Int32) (image : Nat → Int32) (imagePast : Nat → Int32) (tape : Nat → Int32) (laneOf : Nat → Int32) (sizeOf : Nat → Int32) (items : Nat → Int64) (least : Nat → Int32) (costs : Nat → Int32) (hops : Nat → Int32) (comes : Nat → Int32) (chain : Nat → Int32) (told : Nat → Int32) (acts : Int32) (imageActs : Int32) (tapeMany : Int32) (readAt : Int32)  (out : Int32) (hf : pf_X7_redundant st hops = some out) (h_this : is_Y k A ws q st past image imagePast tape laneOf sizeOf items least costs hops comes chain told acts imageActs tapeMany readAt)  : Met l yX7_redundant wsX7_redundant { frames := 3, cells := 0, slots := 0, locals := 71 } (va_Pc [.ref (A q)] (pw_P D k ws)) (qs_Q (some (.int out))) 0 0 (fun _ => False) := by
  refine Met.ofW (cc := cX7_redundant) (maxL := 3) (ret := (some .int)) (by decide) rfl ?_
  intro p e s m args below meth c s₁ B hml hv
  obtain ⟨rfl, hP, hK, hD⟩ := hv
  have C0 : cx_P p s m meth c [.ref (A q)].toArray cX7_redundant 3 wsX7_redundant RX7 (some .int) := ⟨B.exec, B.bytes, hml, findClass_of_methodNamed B.named, atoms_spec (ws := wsX7_redundant) B.pre, B.returns, B.notSynchronized⟩
  obtain ⟨hx, hb, hml, hown, hts, hr, hlocks⟩ := id C0
  have hcf : CallFix p m c cX7_redundant 3 s [.ref (A q)].toArray wsX7_redundant RX7 := ⟨hx, hb, hml, hown, hts⟩
  have hl := lv_entry ([.ref (A q)]) (n := 3) (Nat.le_of_ble_eq_true rfl)
  rw [lg_entry_eq]
  generalize (lg_sl ([.ref (A q)]) ++ List.replicate (3 - (lg_sl ([.ref (A q)])).length) Slot.unset).toArray = ls at hl ⊢
  have hl : lv_has ls 3 [(0, .ref (A q))] := hl
  unfold pf_X7_redundant at hf
  refine lv_iconst (v := 0) hx hb dX7_redundant_0 (by decide) ?_
  refine lv_istore_n (lv' := [(1, .int 0), (0, .ref (A q))]) hx hb dX7_redundant_1 rfl hl (by decide) rfl (fun ls hl => ?_)
  refine lv_iconst (v := 1) hx hb dX7_redundant_2 (by decide) ?_
  refine lv_istore_n (lv' := [(2, .int 1), (1, .int 0), (0, .ref (A q))]) hx hb dX7_redundant_3 rfl hl (by decide) rfl (fun ls hl => ?_)
  exact wl_X7_redundant_4 l D k A ws q _ hK C0 st past image imagePast tape laneOf sizeOf items least costs hops comes chain told acts imageActs tapeMany readAt h_this hP hD fu_N 0 1 _ hf (lv_sub hl [2, 1, 0] rfl)

theorem in_X7_firstUnlike_X7 : ∀ w ∈ u_ws RX7 TX7 18, w ∈ wsX7_firstUnlike := fun w h => List.mem_cons_of_mem _ (List.mem_append_right _ h)
def lp_X7_firstUnlike_2  (hops : Nat → Int32) : Nat → Int32 → Option (Int32)
  | 0, _ => none
  | n + 1, x1 =>
    if 256 ≤ x1 then
      if 256 ≤ x1 then
        some (-4)
      else
        some x1
    else
      ck_O (in_b x1 512) (
        ck_O (in_b (256 + x1) 512) (
          if (hops (Int32.toNatClampNeg x1)) = (hops (Int32.toNatClampNeg (256 + x1))) then
            lp_X7_firstUnlike_2 hops n (x1 + 1)
          else
            if 256 ≤ x1 then
              some (-4)
            else
              some x1))

def pf_X7_firstUnlike (hops : Nat → Int32)   : Option (Int32) :=
  lp_X7_firstUnlike_2 hops fu_N 0

set_option maxHeartbeats 4000000 in
set_option maxRecDepth 100000 in
theorem wl_X7_firstUnlike_2 {p : Program} {e : Env} {s : State} {m : MethodId} {args : Array Value} {below : List Frame} {meth : Method} {c : Code} (l : Launch) (D : va_G) (k : kt_T) (A : Nat → Nat) (ws : va_W) (q : Nat)  (out : Int32) (hK : kk_P D k s) (C0 : cx_P p s m meth c args cX7_firstUnlike 2 wsX7_firstUnlike RX7 (some .int))  (st : Nat → Int32) (past : Nat → Int32) (image : Nat → Int32) (imagePast : Nat → Int32) (tape : Nat → Int32) (laneOf : Nat → Int32) (sizeOf : Nat → Int32) (items : Nat → Int64) (least : Nat → Int32) (costs : Nat → Int32) (hops : Nat → Int32) (comes : Nat → Int32) (chain : Nat → Int32) (told : Nat → Int32) (acts : Int32) (imageActs : Int32) (tapeMany : Int32) (readAt : Int32)    (h_this : is_Y k A ws q st past image imagePast tape laneOf sizeOf items least costs hops comes chain told acts imageActs tapeMany readAt) (hP : va_P D vwCl ws s.heap) (hD : va_D (fun _ => True) ws) : ∀ (n : Nat) (x1 : Int32) (ls : Array Slot), lp_X7_firstUnlike_2 hops n x1 = some out → lv_has ls 2 [(0, .ref (A q)), (1, .int x1)] → W p l e (headSpec wsX7_firstUnlike { frames := 0, cells := 0, slots := 0, locals := 0 }).room s m args below meth c s.heap [] 0 0 (MQ below (qs_Q (some (.int out))) args s 0 0 (fun _ => False)) (F0 m 2 ls []) := by
  obtain ⟨hx, hb, hml, hown, hts, hr, hlocks⟩ := id C0
  have hcf : CallFix p m c cX7_firstUnlike 2 s args wsX7_firstUnlike RX7 := ⟨hx, hb, hml, hown, hts⟩
  have w_0 := hts (.fieldLink RX7 45 "LeastRoutesModel" "hops" "[I") (List.mem_of_getElem? (i := 1) rfl)
  intro n
  induction n with
  | zero =>
    intro x1 ls hf hl
    exact (no_s hf).elim
  | succ n ih =>
    intro x1 ls hf hl
    rw [lp_X7_firstUnlike_2] at hf
    refine lv_iload_n hx hb dX7_firstUnlike_2 rfl (lv_at hl 1 rfl) ?_
    refine lv_sipush (v := 256) hx hb dX7_firstUnlike_3 (by decide) ?_
    refine lv_icmp_ge (tgt := 34) hx hb dX7_firstUnlike_6 (by decide) (fun c1 => ?_) (fun c1 => ?_)
    · have hf := it_p c1 hf
      refine lv_iload_n hx hb dX7_firstUnlike_34 rfl (lv_at hl 1 rfl) ?_
      refine lv_sipush (v := 256) hx hb dX7_firstUnlike_35 (by decide) ?_
      refine lv_icmp_ge (tgt := 45) hx hb dX7_firstUnlike_38 (by decide) (fun c2 => ?_) (fun c2 => ?_)
      · have hf := it_p c2 hf
        refine lv_bipush (v := (-4)) hx hb dX7_firstUnlike_45 (by decide) ?_
        obtain rfl := so_i hf
        exact W.iret (v := (-4)) hx hb hr (fun t ht _ => ⟨rfl, ht⟩) (fun _ h => absurd h List.not_mem_nil) dX7_firstUnlike_47
      · have hf := it_n c2 hf
        refine lv_iload_n hx hb dX7_firstUnlike_41 rfl (lv_at hl 1 rfl) ?_
        refine lv_goto (tgt := 47) hx hb dX7_firstUnlike_42 (by decide) ?_
        obtain rfl := so_i hf
        exact W.iret (v := x1) hx hb hr (fun t ht _ => ⟨rfl, ht⟩) (fun _ h => absurd h List.not_mem_nil) dX7_firstUnlike_47
    · have hf := it_n c1 hf
      refine lv_aload_n hx hb dX7_firstUnlike_9 rfl (lv_at hl 0 rfl) ?_
      obtain ⟨h3, h4, h5, h6, h7, h8, h9, h10, h11, h12, h13, h14, h15, h16, h17⟩ := h_this
      refine va_get (D := D) (ci := 7) (v := .ref (A (q + 11))) (C := RX7) (T := TX7) (N := 18) hx hb hts in_X7_firstUnlike_X7 hown hK.1 hP (q) h3 rfl 13 (by decide) w_0 (fun _ h9 => h9) rfl dX7_firstUnlike_10 ?_
      refine lv_iload_n hx hb dX7_firstUnlike_13 rfl (lv_at hl 1 rfl) ?_
      obtain ⟨z18, hf⟩ := ck_s hf
      refine va_iald hx hb hK.1 hP (q + 11) 0 h14 rfl (in_s z18) dX7_firstUnlike_14 ?_
      refine lv_aload_n hx hb dX7_firstUnlike_15 rfl (lv_at hl 0 rfl) ?_
      refine va_get (D := D) (ci := 7) (v := .ref (A (q + 11))) (C := RX7) (T := TX7) (N := 18) hx hb hts in_X7_firstUnlike_X7 hown hK.1 hP (q) h3 rfl 13 (by decide) w_0 (fun _ h9 => h9) rfl dX7_firstUnlike_16 ?_
      refine lv_sipush (v := 256) hx hb dX7_firstUnlike_19 (by decide) ?_
      refine lv_iload_n hx hb dX7_firstUnlike_22 rfl (lv_at hl 1 rfl) ?_
      refine lv_iadd hx hb dX7_firstUnlike_23 ?_
      obtain ⟨z19, hf⟩ := ck_s hf
      refine va_iald hx hb hK.1 hP (q + 11) 0 h14 rfl (in_s z19) dX7_firstUnlike_24 ?_
      refine lv_icmp_ne (tgt := 34) hx hb dX7_firstUnlike_25 (by decide) (fun c20 => ?_) (fun c20 => ?_)
      · have hf := it_n c20 hf
        refine lv_iload_n hx hb dX7_firstUnlike_34 rfl (lv_at hl 1 rfl) ?_
        refine lv_sipush (v := 256) hx hb dX7_firstUnlike_35 (by decide) ?_
        refine lv_icmp_ge (tgt := 45) hx hb dX7_firstUnlike_38 (by decide) (fun c21 => ?_) (fun c21 => ?_)
        · have hf := it_p c21 hf
          refine lv_bipush (v := (-4)) hx hb dX7_firstUnlike_45 (by decide) ?_
          obtain rfl := so_i hf
          exact W.iret (v := (-4)) hx hb hr (fun t ht _ => ⟨rfl, ht⟩) (fun _ h => absurd h List.not_mem_nil) dX7_firstUnlike_47
        · have hf := it_n c21 hf
          refine lv_iload_n hx hb dX7_firstUnlike_41 rfl (lv_at hl 1 rfl) ?_
          refine lv_goto (tgt := 47) hx hb dX7_firstUnlike_42 (by decide) ?_
          obtain rfl := so_i hf
          exact W.iret (v := x1) hx hb hr (fun t ht _ => ⟨rfl, ht⟩) (fun _ h => absurd h List.not_mem_nil) dX7_firstUnlike_47
      · have hf := it_p c20 hf
        refine lv_iinc (v := (x1 + 1)) (lv' := [(1, .int (x1 + 1)), (0, .ref (A q))]) hx hb dX7_firstUnlike_28 hl (k := 1) rfl rfl (by decide) rfl (fun ls hl => ?_)
        refine lv_goto (tgt := 2) hx hb dX7_firstUnlike_31 (by decide) ?_
        exact ih (x1 + 1) _ hf (lv_sub hl [1, 0] rfl)

set_option maxHeartbeats 4000000 in
set_option maxRecDepth 100000 in
theorem cz_X7_firstUnlike (l : Launch) (D : va_G) (k : kt_T) (A : Nat → Nat) (ws : va_W) (q : Nat)  (st : Nat → Int32) (past : Nat → Int32) (image : Nat → Int32) (imagePast : Nat → Int32) (tape : Nat → Int32) (laneOf : Nat → Int32) (sizeOf : Nat → Int32) (items : Nat → Int64) (least : Nat → Int32) (costs : Nat → Int32) (hops : Nat → Int32) (comes : Nat → Int32) (chain : Nat → Int32) (told : Nat → Int32) (acts : Int32) (imageActs : Int32) (tapeMany : Int32) (readAt : Int32)  (out : Int32) (hf : pf_X7_firstUnlike hops = some out) (h_this : is_Y k A ws q st past image imagePast tape laneOf sizeOf items least costs hops comes chain told acts imageActs tapeMany readAt)  : Met l yX7_firstUnlike wsX7_firstUnlike { frames := 0, cells := 0, slots := 0, locals := 0 } (va_Pc [.ref (A q)] (pw_P D k ws)) (qs_Q (some (.int out))) 0 0 (fun _ => False) := by
  refine Met.ofW (cc := cX7_firstUnlike) (maxL := 2) (ret := (some .int)) (by decide) rfl ?_
  intro p e s m args below meth c s₁ B hml hv
  obtain ⟨rfl, hP, hK, hD⟩ := hv
  have C0 : cx_P p s m meth c [.ref (A q)].toArray cX7_firstUnlike 2 wsX7_firstUnlike RX7 (some .int) := ⟨B.exec, B.bytes, hml, findClass_of_methodNamed B.named, atoms_spec (ws := wsX7_firstUnlike) B.pre, B.returns, B.notSynchronized⟩
  obtain ⟨hx, hb, hml, hown, hts, hr, hlocks⟩ := id C0
  have hcf : CallFix p m c cX7_firstUnlike 2 s [.ref (A q)].toArray wsX7_firstUnlike RX7 := ⟨hx, hb, hml, hown, hts⟩
  have hl := lv_entry ([.ref (A q)]) (n := 2) (Nat.le_of_ble_eq_true rfl)
  rw [lg_entry_eq]
  generalize (lg_sl ([.ref (A q)]) ++ List.replicate (2 - (lg_sl ([.ref (A q)])).length) Slot.unset).toArray = ls at hl ⊢
  have hl : lv_has ls 2 [(0, .ref (A q))] := hl
  unfold pf_X7_firstUnlike at hf
  refine lv_iconst (v := 0) hx hb dX7_firstUnlike_0 (by decide) ?_
  refine lv_istore_n (lv' := [(1, .int 0), (0, .ref (A q))]) hx hb dX7_firstUnlike_1 rfl hl (by decide) rfl (fun ls hl => ?_)
  exact wl_X7_firstUnlike_2 l D k A ws q _ hK C0 st past image imagePast tape laneOf sizeOf items least costs hops comes chain told acts imageActs tapeMany readAt h_this hP hD fu_N 0 _ hf (lv_sub hl [1, 0] rfl)

theorem sw_0_7 {x : Int32} (h0 : ¬ x = 0) (h1 : ¬ x = 1) (h2 : ¬ x = 2) (h3 : ¬ x = 3) (h4 : ¬ x = 4) (h5 : ¬ x = 5) (h6 : ¬ x = 6) (h7 : ¬ x = 7) : x.toInt < 0 ∨ 7 < x.toInt := by
  have g0 : ¬ x.toInt = 0 := fun h => h0 (Int32.toInt.inj (h.trans (by decide)))
  have g1 : ¬ x.toInt = 1 := fun h => h1 (Int32.toInt.inj (h.trans (by decide)))
  have g2 : ¬ x.toInt = 2 := fun h => h2 (Int32.toInt.inj (h.trans (by decide)))
  have g3 : ¬ x.toInt = 3 := fun h => h3 (Int32.toInt.inj (h.trans (by decide)))
  have g4 : ¬ x.toInt = 4 := fun h => h4 (Int32.toInt.inj (h.trans (by decide)))
  have g5 : ¬ x.toInt = 5 := fun h => h5 (Int32.toInt.inj (h.trans (by decide)))
  have g6 : ¬ x.toInt = 6 := fun h => h6 (Int32.toInt.inj (h.trans (by decide)))
  have g7 : ¬ x.toInt = 7 := fun h => h7 (Int32.toInt.inj (h.trans (by decide)))
  omega
theorem in_X7_count_X7 : ∀ w ∈ u_ws RX7 TX7 18, w ∈ wsX7_count := fun w h => List.mem_cons_of_mem _ (List.mem_append_right _ h)
def pf_X7_count (st : Nat → Int32) (least : Nat → Int32) (costs : Nat → Int32) (hops : Nat → Int32) (comes : Nat → Int32) (acts : Int32)  (p1 : Int32) : Option (Int32 × (Nat → Int32) × (Nat → Int32) × (Nat → Int32) × (Nat → Int32)) :=
  (pf_X7_lays st least costs hops comes).bind (fun r1 =>
    if p1 = 0 then
      (pf_X7_many st 1025 0).bind (fun r23 =>
        some (r23, r1.1, r1.2.1, r1.2.2.1, r1.2.2.2))
    else if p1 = 1 then
      (pf_X7_many r1.1 512 0).bind (fun r42 =>
        some (r42, r1.1, r1.2.1, r1.2.2.1, r1.2.2.2))
    else if p1 = 2 then
      (pf_X7_many st 1025 512).bind (fun r61 =>
        some (r61, r1.1, r1.2.1, r1.2.2.1, r1.2.2.2))
    else if p1 = 3 then
      (pf_X7_changes st r1.1).bind (fun r65 =>
        some (r65, r1.1, r1.2.1, r1.2.2.1, r1.2.2.2))
    else if p1 = 4 then
      (pf_X7_proofAt r1.2.2.1 (-1)).bind (fun r68 =>
        some (r68, r1.1, r1.2.1, r1.2.2.1, r1.2.2.2))
    else if p1 = 5 then
      (pf_X7_redundant st r1.2.2.1).bind (fun r71 =>
        some (r71, r1.1, r1.2.1, r1.2.2.1, r1.2.2.2))
    else if p1 = 6 then
      (pf_X7_firstUnlike r1.2.2.1).bind (fun r74 =>
        some (r74, r1.1, r1.2.1, r1.2.2.1, r1.2.2.2))
    else if p1 = 7 then
      some (acts, r1.1, r1.2.1, r1.2.2.1, r1.2.2.2)
    else some ((-1), r1.1, r1.2.1, r1.2.2.1, r1.2.2.2))

set_option maxHeartbeats 4000000 in
set_option maxRecDepth 100000 in
theorem cz_X7_count (l : Launch) (D : va_G) (k : kt_T) (A : Nat → Nat) (ws : va_W) (q : Nat)  (st : Nat → Int32) (past : Nat → Int32) (image : Nat → Int32) (imagePast : Nat → Int32) (tape : Nat → Int32) (laneOf : Nat → Int32) (sizeOf : Nat → Int32) (items : Nat → Int64) (least : Nat → Int32) (costs : Nat → Int32) (hops : Nat → Int32) (comes : Nat → Int32) (chain : Nat → Int32) (told : Nat → Int32) (acts : Int32) (imageActs : Int32) (tapeMany : Int32) (readAt : Int32) (p1 : Int32) (out : Int32 × (Nat → Int32) × (Nat → Int32) × (Nat → Int32) × (Nat → Int32)) (hf : pf_X7_count st least costs hops comes acts p1 = some out) (h_this : is_Y k A ws q st past image imagePast tape laneOf sizeOf items least costs hops comes chain told acts imageActs tapeMany readAt)  (sz0 : Nat) : Met l yX7_count wsX7_count { frames := 5, cells := 0, slots := 0, locals := 110 } (va_Pc [.ref (A q), .int p1] (px_P D k ws sz0)) (qw_Q D ws sz0 (some (.int out.1)) (fun u => is_Y k A u q st past image imagePast tape laneOf sizeOf items out.2.1 out.2.2.1 out.2.2.2.1 out.2.2.2.2 chain told acts imageActs tapeMany readAt ∧ sm_W ws u q (q + 15))) 0 0 (va_A ws sz0) := by
  refine Met.ofW (cc := cX7_count) (maxL := 2) (ret := (some .int)) (by decide) rfl ?_
  intro p e s m args below meth c s₁ B hml hv
  obtain ⟨rfl, hsz, hP, hK, hD0⟩ := hv
  subst hsz
  have hD := hD0.self (sz := s.heap.size)
  have C0 : cx_P p s m meth c [.ref (A q), .int p1].toArray cX7_count 2 wsX7_count RX7 (some .int) := ⟨B.exec, B.bytes, hml, findClass_of_methodNamed B.named, atoms_spec (ws := wsX7_count) B.pre, B.returns, B.notSynchronized⟩
  obtain ⟨hx, hb, hml, hown, hts, hr, hlocks⟩ := id C0
  have hcf : CallFix p m c cX7_count 2 s [.ref (A q), .int p1].toArray wsX7_count RX7 := ⟨hx, hb, hml, hown, hts⟩
  have hA : ∀ q, s.heap.size ≤ q → va_A ws s.heap.size q := fun q h => Or.inr h
  have hS : va_S (va_A ws s.heap.size) s.heap s.heap [] := va_S.rf
  have hsm : sm_W ws ws q (q + 15) := sm_rf
  have w_0 := hts (.fieldLink RX7 7 "LeastRoutesModel" "st" "[I") (List.mem_of_getElem? (i := 1) rfl)
  have w_1 := hts (.fieldLink RX7 152 "LeastRoutesModel" "acts" "I") (List.mem_of_getElem? (i := 3) rfl)
  have w_2 := hts (.fieldLink RX7 39 "LeastRoutesModel" "least" "[I") (List.mem_of_getElem? (i := 2) rfl)
  have hl := lv_entry ([.ref (A q), .int p1]) (n := 2) (Nat.le_of_ble_eq_true rfl)
  rw [lg_entry_eq]
  generalize (lg_sl ([.ref (A q), .int p1]) ++ List.replicate (2 - (lg_sl ([.ref (A q), .int p1])).length) Slot.unset).toArray = ls at hl ⊢
  have hl : lv_has ls 2 [(0, .ref (A q)), (1, .int p1)] := hl
  unfold pf_X7_count at hf
  refine lv_aload_n hx hb dX7_count_0 rfl (lv_at hl 0 rfl) ?_
  obtain ⟨r1, h2, hf⟩ := bd_s hf
  refine kw_v (va_runV (As := []) (rest := []) hcf (cz_X7_lays l D k A ws (q) st past image imagePast tape laneOf sizeOf items least costs hops comes chain told acts imageActs tapeMany readAt r1 h2 h_this _) (cwV 0 hts gX7_count_X7_lays rfl rfl rfl (by decide +kernel) ⟨Nat.le_of_ble_eq_true rfl, Nat.le_of_ble_eq_true rfl⟩) (px_V hP hK hD (ci := 7) h_this.1 rfl) rfl rfl hl.1 rfl (lv_room (Nat.le_of_ble_eq_true rfl)) dX7_count_1 ⟨Nat.zero_le _, Nat.zero_le _⟩) hD hS hA (fun u3 _ _ h4 hP hD hS => ?_)
  obtain ⟨h6, m5⟩ := h4
  have hsm := sm_tr hsm m5 (by omega) (by omega)
  refine lv_iload_n hx hb dX7_count_4 rfl (lv_at hl 1 rfl) ?_
  by_cases c7 : p1 = 0
  · have hf := it_p c7 hf
    refine lv_tableIn (tgt := 52) hx hb dX7_count_5 (by rw [c7]; decide) (by rw [c7]; decide) (by rw [c7]; rfl) (by decide) ?_
    refine lv_aload_n hx hb dX7_count_52 rfl (lv_at hl 0 rfl) ?_
    obtain ⟨h8, h9, h10, h11, h12, h13, h14, h15, h16, h17, h18, h19, h20, h21, h22⟩ := h6
    refine va_get (D := D) (ci := 7) (v := .ref (A (q + 1))) (C := RX7) (T := TX7) (N := 18) hx hb hts in_X7_count_X7 hown hK.1 hP (q) h8 rfl 0 (by decide) w_0 (fun _ h9 => h9) rfl dX7_count_53 ?_
    refine lv_iconst (v := 0) hx hb dX7_count_56 (by decide) ?_
    obtain ⟨r23, h24, hf⟩ := bd_s hf
    refine ks_i (va_runS (As := [.ref (A (q + 1)), .int 0]) (rest := []) hcf (cz_X7_many l D k A u3 (q + 1) 1025 st 0 r23 h24 h9) (va_cwS 2 hts gX7_count_X7_many rfl rfl rfl (by decide +kernel) ⟨Nat.le_of_ble_eq_true rfl, Nat.le_of_ble_eq_true rfl⟩) (pw_S hP hK hD) rfl rfl hl.1 rfl (lv_room (Nat.le_of_ble_eq_true rfl)) dX7_count_57 ⟨Nat.zero_le _, Nat.zero_le _⟩) ?_
    obtain rfl := so_i hf
    have h25 : is_Y k A u3 (q) st past image imagePast tape laneOf sizeOf items r1.1 r1.2.1 r1.2.2.1 r1.2.2.2 chain told acts imageActs tapeMany readAt := ⟨h8, h9, h10, h11, h12, h13, h14, h15, h16, h17, h18, h19, h20, h21, h22⟩
    exact W.iret (v := r23) hx hb hr (qw_end hS hP hD ⟨h25, hsm⟩) hS.2.2 dX7_count_60
  have hf := it_n c7 hf
  by_cases c26 : p1 = 1
  · have hf := it_p c26 hf
    refine lv_tableIn (tgt := 61) hx hb dX7_count_5 (by rw [c26]; decide) (by rw [c26]; decide) (by rw [c26]; rfl) (by decide) ?_
    refine lv_aload_n hx hb dX7_count_61 rfl (lv_at hl 0 rfl) ?_
    obtain ⟨h27, h28, h29, h30, h31, h32, h33, h34, h35, h36, h37, h38, h39, h40, h41⟩ := h6
    refine va_get (D := D) (ci := 7) (v := .ref (A (q + 9))) (C := RX7) (T := TX7) (N := 18) hx hb hts in_X7_count_X7 hown hK.1 hP (q) h27 rfl 11 (by decide) w_2 (fun _ h9 => h9) rfl dX7_count_62 ?_
    refine lv_iconst (v := 0) hx hb dX7_count_65 (by decide) ?_
    obtain ⟨r42, h43, hf⟩ := bd_s hf
    refine ks_i (va_runS (As := [.ref (A (q + 9)), .int 0]) (rest := []) hcf (cz_X7_many l D k A u3 (q + 9) 512 r1.1 0 r42 h43 h36) (va_cwS 2 hts gX7_count_X7_many rfl rfl rfl (by decide +kernel) ⟨Nat.le_of_ble_eq_true rfl, Nat.le_of_ble_eq_true rfl⟩) (pw_S hP hK hD) rfl rfl hl.1 rfl (lv_room (Nat.le_of_ble_eq_true rfl)) dX7_count_66 ⟨Nat.zero_le _, Nat.zero_le _⟩) ?_
    obtain rfl := so_i hf
    have h44 : is_Y k A u3 (q) st past image imagePast tape laneOf sizeOf items r1.1 r1.2.1 r1.2.2.1 r1.2.2.2 chain told acts imageActs tapeMany readAt := ⟨h27, h28, h29, h30, h31, h32, h33, h34, h35, h36, h37, h38, h39, h40, h41⟩
    exact W.iret (v := r42) hx hb hr (qw_end hS hP hD ⟨h44, hsm⟩) hS.2.2 dX7_count_69
  have hf := it_n c26 hf
  by_cases c45 : p1 = 2
  · have hf := it_p c45 hf
    refine lv_tableIn (tgt := 70) hx hb dX7_count_5 (by rw [c45]; decide) (by rw [c45]; decide) (by rw [c45]; rfl) (by decide) ?_
    refine lv_aload_n hx hb dX7_count_70 rfl (lv_at hl 0 rfl) ?_
    obtain ⟨h46, h47, h48, h49, h50, h51, h52, h53, h54, h55, h56, h57, h58, h59, h60⟩ := h6
    refine va_get (D := D) (ci := 7) (v := .ref (A (q + 1))) (C := RX7) (T := TX7) (N := 18) hx hb hts in_X7_count_X7 hown hK.1 hP (q) h46 rfl 0 (by decide) w_0 (fun _ h9 => h9) rfl dX7_count_71 ?_
    refine lv_sipush (v := 512) hx hb dX7_count_74 (by decide) ?_
    obtain ⟨r61, h62, hf⟩ := bd_s hf
    refine ks_i (va_runS (As := [.ref (A (q + 1)), .int 512]) (rest := []) hcf (cz_X7_many l D k A u3 (q + 1) 1025 st 512 r61 h62 h47) (va_cwS 2 hts gX7_count_X7_many rfl rfl rfl (by decide +kernel) ⟨Nat.le_of_ble_eq_true rfl, Nat.le_of_ble_eq_true rfl⟩) (pw_S hP hK hD) rfl rfl hl.1 rfl (lv_room (Nat.le_of_ble_eq_true rfl)) dX7_count_77 ⟨Nat.zero_le _, Nat.zero_le _⟩) ?_
    obtain rfl := so_i hf
    have h63 : is_Y k A u3 (q) st past image imagePast tape laneOf sizeOf items r1.1 r1.2.1 r1.2.2.1 r1.2.2.2 chain told acts imageActs tapeMany readAt := ⟨h46, h47, h48, h49, h50, h51, h52, h53, h54, h55, h56, h57, h58, h59, h60⟩
    exact W.iret (v := r61) hx hb hr (qw_end hS hP hD ⟨h63, hsm⟩) hS.2.2 dX7_count_80
  have hf := it_n c45 hf
  by_cases c64 : p1 = 3
  · have hf := it_p c64 hf
    refine lv_tableIn (tgt := 81) hx hb dX7_count_5 (by rw [c64]; decide) (by rw [c64]; decide) (by rw [c64]; rfl) (by decide) ?_
    refine lv_aload_n hx hb dX7_count_81 rfl (lv_at hl 0 rfl) ?_
    obtain ⟨r65, h66, hf⟩ := bd_s hf
    refine ks_i (va_runV (As := []) (rest := []) hcf (cz_X7_changes l D k A u3 (q) st past image imagePast tape laneOf sizeOf items r1.1 r1.2.1 r1.2.2.1 r1.2.2.2 chain told acts imageActs tapeMany readAt r65 h66 h6) (cwV 0 hts gX7_count_X7_changes rfl rfl rfl (by decide +kernel) ⟨Nat.le_of_ble_eq_true rfl, Nat.le_of_ble_eq_true rfl⟩) (pw_V hP hK hD (ci := 7) h6.1 rfl) rfl rfl hl.1 rfl (lv_room (Nat.le_of_ble_eq_true rfl)) dX7_count_82 ⟨Nat.zero_le _, Nat.zero_le _⟩) ?_
    obtain rfl := so_i hf
    exact W.iret (v := r65) hx hb hr (qw_end hS hP hD ⟨h6, hsm⟩) hS.2.2 dX7_count_85
  have hf := it_n c64 hf
  by_cases c67 : p1 = 4
  · have hf := it_p c67 hf
    refine lv_tableIn (tgt := 86) hx hb dX7_count_5 (by rw [c67]; decide) (by rw [c67]; decide) (by rw [c67]; rfl) (by decide) ?_
    refine lv_aload_n hx hb dX7_count_86 rfl (lv_at hl 0 rfl) ?_
    refine lv_iconst (v := (-1)) hx hb dX7_count_87 (by decide) ?_
    obtain ⟨r68, h69, hf⟩ := bd_s hf
    refine ks_i (va_runV (As := [.int (-1)]) (rest := []) hcf (cz_X7_proofAt l D k A u3 (q) st past image imagePast tape laneOf sizeOf items r1.1 r1.2.1 r1.2.2.1 r1.2.2.2 chain told acts imageActs tapeMany readAt (-1) r68 h69 h6) (cwV 1 hts gX7_count_X7_proofAt rfl rfl rfl (by decide +kernel) ⟨Nat.le_of_ble_eq_true rfl, Nat.le_of_ble_eq_true rfl⟩) (pw_V hP hK hD (ci := 7) h6.1 rfl) rfl rfl hl.1 rfl (lv_room (Nat.le_of_ble_eq_true rfl)) dX7_count_88 ⟨Nat.zero_le _, Nat.zero_le _⟩) ?_
    obtain rfl := so_i hf
    exact W.iret (v := r68) hx hb hr (qw_end hS hP hD ⟨h6, hsm⟩) hS.2.2 dX7_count_91
  have hf := it_n c67 hf
  by_cases c70 : p1 = 5
  · have hf := it_p c70 hf
    refine lv_tableIn (tgt := 92) hx hb dX7_count_5 (by rw [c70]; decide) (by rw [c70]; decide) (by rw [c70]; rfl) (by decide) ?_
    refine lv_aload_n hx hb dX7_count_92 rfl (lv_at hl 0 rfl) ?_
    obtain ⟨r71, h72, hf⟩ := bd_s hf
    refine ks_i (va_runV (As := []) (rest := []) hcf (cz_X7_redundant l D k A u3 (q) st past image imagePast tape laneOf sizeOf items r1.1 r1.2.1 r1.2.2.1 r1.2.2.2 chain told acts imageActs tapeMany readAt r71 h72 h6) (cwV 0 hts gX7_count_X7_redundant rfl rfl rfl (by decide +kernel) ⟨Nat.le_of_ble_eq_true rfl, Nat.le_of_ble_eq_true rfl⟩) (pw_V hP hK hD (ci := 7) h6.1 rfl) rfl rfl hl.1 rfl (lv_room (Nat.le_of_ble_eq_true rfl)) dX7_count_93 ⟨Nat.zero_le _, Nat.zero_le _⟩) ?_
    obtain rfl := so_i hf
    exact W.iret (v := r71) hx hb hr (qw_end hS hP hD ⟨h6, hsm⟩) hS.2.2 dX7_count_96
  have hf := it_n c70 hf
  by_cases c73 : p1 = 6
  · have hf := it_p c73 hf
    refine lv_tableIn (tgt := 97) hx hb dX7_count_5 (by rw [c73]; decide) (by rw [c73]; decide) (by rw [c73]; rfl) (by decide) ?_
    refine lv_aload_n hx hb dX7_count_97 rfl (lv_at hl 0 rfl) ?_
    obtain ⟨r74, h75, hf⟩ := bd_s hf
    refine ks_i (va_runV (As := []) (rest := []) hcf (cz_X7_firstUnlike l D k A u3 (q) st past image imagePast tape laneOf sizeOf items r1.1 r1.2.1 r1.2.2.1 r1.2.2.2 chain told acts imageActs tapeMany readAt r74 h75 h6) (cwV 0 hts gX7_count_X7_firstUnlike rfl rfl rfl (by decide +kernel) ⟨Nat.le_of_ble_eq_true rfl, Nat.le_of_ble_eq_true rfl⟩) (pw_V hP hK hD (ci := 7) h6.1 rfl) rfl rfl hl.1 rfl (lv_room (Nat.le_of_ble_eq_true rfl)) dX7_count_98 ⟨Nat.zero_le _, Nat.zero_le _⟩) ?_
    obtain rfl := so_i hf
    exact W.iret (v := r74) hx hb hr (qw_end hS hP hD ⟨h6, hsm⟩) hS.2.2 dX7_count_101
  have hf := it_n c73 hf
  by_cases c76 : p1 = 7
  · have hf := it_p c76 hf
    refine lv_tableIn (tgt := 102) hx hb dX7_count_5 (by rw [c76]; decide) (by rw [c76]; decide) (by rw [c76]; rfl) (by decide) ?_
    refine lv_aload_n hx hb dX7_count_102 rfl (lv_at hl 0 rfl) ?_
    obtain ⟨h77, h78, h79, h80, h81, h82, h83, h84, h85, h86, h87, h88, h89, h90, h91⟩ := h6
    refine va_get (D := D) (ci := 7) (v := .int acts) (C := RX7) (T := TX7) (N := 18) hx hb hts in_X7_count_X7 hown hK.1 hP (q) h77 rfl 2 (by decide) w_1 (fun _ h9 => h9) rfl dX7_count_103 ?_
    obtain rfl := so_i hf
    have h92 : is_Y k A u3 (q) st past image imagePast tape laneOf sizeOf items r1.1 r1.2.1 r1.2.2.1 r1.2.2.2 chain told acts imageActs tapeMany readAt := ⟨h77, h78, h79, h80, h81, h82, h83, h84, h85, h86, h87, h88, h89, h90, h91⟩
    exact W.iret (v := acts) hx hb hr (qw_end hS hP hD ⟨h92, hsm⟩) hS.2.2 dX7_count_106
  have hf := it_n c76 hf
  refine lv_tableOut (tgt := 107) hx hb dX7_count_5 (sw_0_7 c7 c26 c45 c64 c67 c70 c73 c76) (by decide) ?_
  refine lv_iconst (v := (-1)) hx hb dX7_count_107 (by decide) ?_
  obtain rfl := so_i hf
  exact W.iret (v := (-1)) hx hb hr (qw_end hS hP hD ⟨h6, hsm⟩) hS.2.2 dX7_count_108

theorem in_X7_chances_X7 : ∀ w ∈ u_ws RX7 TX7 18, w ∈ wsX7_chances := fun w h => List.mem_cons_of_mem _ (List.mem_append_right _ h)
def lp_X7_chances_77  (st : Nat → Int32) (chain : Nat → Int32) (x2 : Int32) (x3 : Int32) (x4 : Int32) (x5 : Int32) (x6 : Int32) (x8 : Int32) (x9 : Int32) (x10 : Int32) (x11 : Int32) (v0 : Int32) (v1 : Int32) (g_38 : Int32 → Int32 → Int32 → Int32 → Option (Int32)) : Option (Int32) :=
  if x11 = 0 then
    if x9 = 0 then
      if x11 = 0 then
        g_38 (v0 * v1) x8 0 (x10 + 1)
      else
        g_38 (v0 * v1) x8 1 (x10 + 1)
    else
      g_38 (v0 * v1) x8 1 (x10 + 1)
  else
    if x9 = 0 then
      ck_O (in_b x10 9) (
        ck_O (in_b (0 + (chain (Int32.toNatClampNeg x10))) 1025) (
          lt_O (st (Int32.toNatClampNeg (0 + (chain (Int32.toNatClampNeg x10))))) (fun y46 =>
            if x9 = 0 then
              if x11 = 0 then
                g_38 (v0 * v1) y46 0 (x10 + 1)
              else
                g_38 (v0 * v1) y46 1 (x10 + 1)
            else
              g_38 (v0 * v1) y46 1 (x10 + 1))))
    else
      if x9 = 0 then
        if x11 = 0 then
          g_38 (v0 * v1) x8 0 (x10 + 1)
        else
          g_38 (v0 * v1) x8 1 (x10 + 1)
      else
        g_38 (v0 * v1) x8 1 (x10 + 1)

def lp_X7_chances_60  (st : Nat → Int32) (chain : Nat → Int32) (x2 : Int32) (x3 : Int32) (x4 : Int32) (x5 : Int32) (x6 : Int32) (x7 : Int32) (x8 : Int32) (x9 : Int32) (x10 : Int32) (v0 : Int32) (g_38 : Int32 → Int32 → Int32 → Int32 → Option (Int32)) : Option (Int32) :=
  if v0 = 0 then
    lp_X7_chances_77 st chain x2 x3 x4 x5 x6 x8 x9 x10 v0 x7 x2 g_38
  else
    lp_X7_chances_77 st chain x2 x3 x4 x5 x6 x8 x9 x10 v0 x7 (10 - x2) g_38

def lp_X7_chances_38  (st : Nat → Int32) (chain : Nat → Int32) (x2 : Int32) (x3 : Int32) (x4 : Int32) (x5 : Int32) (x6 : Int32) (g_18 : Int32 → Int32 → Option (Int32)) : Nat → Int32 → Int32 → Int32 → Int32 → Option (Int32)
  | 0, _, _, _, _ => none
  | n + 1, x7, x8, x9, x10 =>
    if x3 ≤ x10 then
      if x8 = x4 then
        g_18 (x5 + x7) (x6 + 1)
      else
        g_18 (x5 + 0) (x6 + 1)
    else
      if ((x6 >>> (x10 &&& 31)) &&& 1) = 1 then
        lp_X7_chances_60 st chain x2 x3 x4 x5 x6 x7 x8 x9 x10 1 (lp_X7_chances_38 st chain x2 x3 x4 x5 x6 g_18 n)
      else
        lp_X7_chances_60 st chain x2 x3 x4 x5 x6 x7 x8 x9 x10 0 (lp_X7_chances_38 st chain x2 x3 x4 x5 x6 g_18 n)

def lp_X7_chances_18  (st : Nat → Int32) (chain : Nat → Int32) (x2 : Int32) (x3 : Int32) (x4 : Int32) : Nat → Int32 → Int32 → Option (Int32)
  | 0, _, _ => none
  | n + 1, x5, x6 =>
    if ((1 : Int32) <<< (x3 &&& 31)) ≤ x6 then
      some x5
    else
      lp_X7_chances_38 st chain x2 x3 x4 x5 x6 (lp_X7_chances_18 st chain x2 x3 x4 n) fu_N 1 0 0 0

def pf_X7_chances (st : Nat → Int32) (chain : Nat → Int32)  (p1 : Int32) (p2 : Int32) (p3 : Int32) : Option (Int32) :=
  (pf_X7_hopBy st 1025 0 p1 0).bind (fun r16 =>
    lp_X7_chances_18 st chain p2 p3 r16 fu_N 0 0)

set_option maxHeartbeats 4000000 in
set_option maxRecDepth 100000 in
theorem wl_X7_chances_77 {p : Program} {e : Env} {s : State} {m : MethodId} {args : Array Value} {below : List Frame} {meth : Method} {c : Code} (l : Launch) (D : va_G) (k : kt_T) (A : Nat → Nat) (ws : va_W) (q : Nat)  (out : Int32) (hK : kk_P D k s) (C0 : cx_P p s m meth c args cX7_chances 12 wsX7_chances RX7 (some .int))  (st : Nat → Int32) (past : Nat → Int32) (image : Nat → Int32) (imagePast : Nat → Int32) (tape : Nat → Int32) (laneOf : Nat → Int32) (sizeOf : Nat → Int32) (items : Nat → Int64) (least : Nat → Int32) (costs : Nat → Int32) (hops : Nat → Int32) (comes : Nat → Int32) (chain : Nat → Int32) (told : Nat → Int32) (acts : Int32) (imageActs : Int32) (tapeMany : Int32) (readAt : Int32) (x2 : Int32) (x3 : Int32) (x4 : Int32) (x5 : Int32) (x6 : Int32) (x8 : Int32) (x9 : Int32) (x10 : Int32) (x11 : Int32) (v0 : Int32) (v1 : Int32) (g_38 : Int32 → Int32 → Int32 → Int32 → Option (Int32)) (hg_38 : ∀ (x7 : Int32) (x8 : Int32) (x9 : Int32) (x10 : Int32) (ls : Array Slot), g_38 x7 x8 x9 x10 = some out → lv_has ls 12 [(0, .ref (A q)), (2, .int x2), (3, .int x3), (4, .int x4), (5, .int x5), (6, .int x6), (7, .int x7), (8, .int x8), (9, .int x9), (10, .int x10)] → W p l e (headSpec wsX7_chances { frames := 2, cells := 0, slots := 0, locals := 48 }).room s m args below meth c s.heap [] 0 0 (MQ below (qs_Q (some (.int out))) args s 0 0 (fun _ => False)) (F0 m 38 ls [])) (h_this : is_Y k A ws q st past image imagePast tape laneOf sizeOf items least costs hops comes chain told acts imageActs tapeMany readAt) (hP : va_P D vwCl ws s.heap) (hD : va_D (fun _ => True) ws) : ∀ (ls : Array Slot), lp_X7_chances_77 st chain x2 x3 x4 x5 x6 x8 x9 x10 x11 v0 v1 g_38 = some out → lv_has ls 12 [(0, .ref (A q)), (2, .int x2), (3, .int x3), (4, .int x4), (5, .int x5), (6, .int x6), (8, .int x8), (9, .int x9), (10, .int x10), (11, .int x11)] → W p l e (headSpec wsX7_chances { frames := 2, cells := 0, slots := 0, locals := 48 }).room s m args below meth c s.heap [] 0 0 (MQ below (qs_Q (some (.int out))) args s 0 0 (fun _ => False)) (F0 m 77 ls [.int v1, .int v0]) := by
  obtain ⟨hx, hb, hml, hown, hts, hr, hlocks⟩ := id C0
  have hcf : CallFix p m c cX7_chances 12 s args wsX7_chances RX7 := ⟨hx, hb, hml, hown, hts⟩
  have w_0 := hts (.fieldLink RX7 7 "LeastRoutesModel" "st" "[I") (List.mem_of_getElem? (i := 1) rfl)
  have w_1 := hts (.fieldLink RX7 51 "LeastRoutesModel" "chain" "[I") (List.mem_of_getElem? (i := 2) rfl)
  intro ls hf hl
  unfold lp_X7_chances_77 at hf
  refine lv_imul hx hb dX7_chances_77 ?_
  refine lv_istore (lv' := [(7, .int (v0 * v1)), (0, .ref (A q)), (2, .int x2), (3, .int x3), (4, .int x4), (5, .int x5), (6, .int x6), (8, .int x8), (9, .int x9), (10, .int x10), (11, .int x11)]) hx hb dX7_chances_78 hl (by decide) rfl (fun ls hl => ?_)
  refine lv_iload hx hb dX7_chances_80 (lv_at hl 10 rfl) ?_
  refine lv_if_eq (tgt := 107) hx hb dX7_chances_82 (by decide) (fun c23 => ?_) (fun c23 => ?_)
  · have hf := it_p c23 hf
    refine lv_iload hx hb dX7_chances_107 (lv_at hl 7 rfl) ?_
    refine lv_istore (lv' := [(8, .int x8), (7, .int (v0 * v1)), (0, .ref (A q)), (2, .int x2), (3, .int x3), (4, .int x4), (5, .int x5), (6, .int x6), (9, .int x9), (10, .int x10), (11, .int x11)]) hx hb dX7_chances_109 hl (by decide) rfl (fun ls hl => ?_)
    refine lv_iload hx hb dX7_chances_111 (lv_at hl 8 rfl) ?_
    refine lv_if_ne (tgt := 121) hx hb dX7_chances_113 (by decide) (fun c24 => ?_) (fun c24 => ?_)
    · have hf := it_n c24 hf
      refine lv_iconst (v := 1) hx hb dX7_chances_121 (by decide) ?_
      refine lv_goto (tgt := 126) hx hb dX7_chances_122 (by decide) ?_
      refine lv_istore (lv' := [(9, .int 1), (8, .int x8), (7, .int (v0 * v1)), (0, .ref (A q)), (2, .int x2), (3, .int x3), (4, .int x4), (5, .int x5), (6, .int x6), (10, .int x10), (11, .int x11)]) hx hb dX7_chances_126 hl (by decide) rfl (fun ls hl => ?_)
      refine lv_iinc (v := (x10 + 1)) (lv' := [(10, .int (x10 + 1)), (9, .int 1), (8, .int x8), (7, .int (v0 * v1)), (0, .ref (A q)), (2, .int x2), (3, .int x3), (4, .int x4), (5, .int x5), (6, .int x6), (11, .int x11)]) hx hb dX7_chances_128 hl (k := 9) rfl rfl (by decide) rfl (fun ls hl => ?_)
      refine lv_goto (tgt := 38) hx hb dX7_chances_131 (by decide) ?_
      exact hg_38 (v0 * v1) x8 1 (x10 + 1) _ hf (lv_sub hl [4, 5, 6, 7, 8, 9, 3, 2, 1, 0] rfl)
    · have hf := it_p c24 hf
      refine lv_iload hx hb dX7_chances_116 (lv_at hl 10 rfl) ?_
      refine lv_if_eq (tgt := 125) hx hb dX7_chances_118 (by decide) (fun c25 => ?_) (fun c25 => ?_)
      · have hf := it_p c25 hf
        refine lv_iconst (v := 0) hx hb dX7_chances_125 (by decide) ?_
        refine lv_istore (lv' := [(9, .int 0), (8, .int x8), (7, .int (v0 * v1)), (0, .ref (A q)), (2, .int x2), (3, .int x3), (4, .int x4), (5, .int x5), (6, .int x6), (10, .int x10), (11, .int x11)]) hx hb dX7_chances_126 hl (by decide) rfl (fun ls hl => ?_)
        refine lv_iinc (v := (x10 + 1)) (lv' := [(10, .int (x10 + 1)), (9, .int 0), (8, .int x8), (7, .int (v0 * v1)), (0, .ref (A q)), (2, .int x2), (3, .int x3), (4, .int x4), (5, .int x5), (6, .int x6), (11, .int x11)]) hx hb dX7_chances_128 hl (k := 9) rfl rfl (by decide) rfl (fun ls hl => ?_)
        refine lv_goto (tgt := 38) hx hb dX7_chances_131 (by decide) ?_
        exact hg_38 (v0 * v1) x8 0 (x10 + 1) _ hf (lv_sub hl [4, 5, 6, 7, 8, 9, 3, 2, 1, 0] rfl)
      · have hf := it_n c25 hf
        refine lv_iconst (v := 1) hx hb dX7_chances_121 (by decide) ?_
        refine lv_goto (tgt := 126) hx hb dX7_chances_122 (by decide) ?_
        refine lv_istore (lv' := [(9, .int 1), (8, .int x8), (7, .int (v0 * v1)), (0, .ref (A q)), (2, .int x2), (3, .int x3), (4, .int x4), (5, .int x5), (6, .int x6), (10, .int x10), (11, .int x11)]) hx hb dX7_chances_126 hl (by decide) rfl (fun ls hl => ?_)
        refine lv_iinc (v := (x10 + 1)) (lv' := [(10, .int (x10 + 1)), (9, .int 1), (8, .int x8), (7, .int (v0 * v1)), (0, .ref (A q)), (2, .int x2), (3, .int x3), (4, .int x4), (5, .int x5), (6, .int x6), (11, .int x11)]) hx hb dX7_chances_128 hl (k := 9) rfl rfl (by decide) rfl (fun ls hl => ?_)
        refine lv_goto (tgt := 38) hx hb dX7_chances_131 (by decide) ?_
        exact hg_38 (v0 * v1) x8 1 (x10 + 1) _ hf (lv_sub hl [4, 5, 6, 7, 8, 9, 3, 2, 1, 0] rfl)
  · have hf := it_n c23 hf
    refine lv_iload hx hb dX7_chances_85 (lv_at hl 8 rfl) ?_
    refine lv_if_ne (tgt := 107) hx hb dX7_chances_87 (by decide) (fun c26 => ?_) (fun c26 => ?_)
    · have hf := it_n c26 hf
      refine lv_iload hx hb dX7_chances_107 (lv_at hl 7 rfl) ?_
      refine lv_istore (lv' := [(8, .int x8), (7, .int (v0 * v1)), (0, .ref (A q)), (2, .int x2), (3, .int x3), (4, .int x4), (5, .int x5), (6, .int x6), (9, .int x9), (10, .int x10), (11, .int x11)]) hx hb dX7_chances_109 hl (by decide) rfl (fun ls hl => ?_)
      refine lv_iload hx hb dX7_chances_111 (lv_at hl 8 rfl) ?_
      refine lv_if_ne (tgt := 121) hx hb dX7_chances_113 (by decide) (fun c27 => ?_) (fun c27 => ?_)
      · have hf := it_n c27 hf
        refine lv_iconst (v := 1) hx hb dX7_chances_121 (by decide) ?_
        refine lv_goto (tgt := 126) hx hb dX7_chances_122 (by decide) ?_
        refine lv_istore (lv' := [(9, .int 1), (8, .int x8), (7, .int (v0 * v1)), (0, .ref (A q)), (2, .int x2), (3, .int x3), (4, .int x4), (5, .int x5), (6, .int x6), (10, .int x10), (11, .int x11)]) hx hb dX7_chances_126 hl (by decide) rfl (fun ls hl => ?_)
        refine lv_iinc (v := (x10 + 1)) (lv' := [(10, .int (x10 + 1)), (9, .int 1), (8, .int x8), (7, .int (v0 * v1)), (0, .ref (A q)), (2, .int x2), (3, .int x3), (4, .int x4), (5, .int x5), (6, .int x6), (11, .int x11)]) hx hb dX7_chances_128 hl (k := 9) rfl rfl (by decide) rfl (fun ls hl => ?_)
        refine lv_goto (tgt := 38) hx hb dX7_chances_131 (by decide) ?_
        exact hg_38 (v0 * v1) x8 1 (x10 + 1) _ hf (lv_sub hl [4, 5, 6, 7, 8, 9, 3, 2, 1, 0] rfl)
      · have hf := it_p c27 hf
        refine lv_iload hx hb dX7_chances_116 (lv_at hl 10 rfl) ?_
        refine lv_if_eq (tgt := 125) hx hb dX7_chances_118 (by decide) (fun c28 => ?_) (fun c28 => ?_)
        · have hf := it_p c28 hf
          refine lv_iconst (v := 0) hx hb dX7_chances_125 (by decide) ?_
          refine lv_istore (lv' := [(9, .int 0), (8, .int x8), (7, .int (v0 * v1)), (0, .ref (A q)), (2, .int x2), (3, .int x3), (4, .int x4), (5, .int x5), (6, .int x6), (10, .int x10), (11, .int x11)]) hx hb dX7_chances_126 hl (by decide) rfl (fun ls hl => ?_)
          refine lv_iinc (v := (x10 + 1)) (lv' := [(10, .int (x10 + 1)), (9, .int 0), (8, .int x8), (7, .int (v0 * v1)), (0, .ref (A q)), (2, .int x2), (3, .int x3), (4, .int x4), (5, .int x5), (6, .int x6), (11, .int x11)]) hx hb dX7_chances_128 hl (k := 9) rfl rfl (by decide) rfl (fun ls hl => ?_)
          refine lv_goto (tgt := 38) hx hb dX7_chances_131 (by decide) ?_
          exact hg_38 (v0 * v1) x8 0 (x10 + 1) _ hf (lv_sub hl [4, 5, 6, 7, 8, 9, 3, 2, 1, 0] rfl)
        · have hf := it_n c28 hf
          refine lv_iconst (v := 1) hx hb dX7_chances_121 (by decide) ?_
          refine lv_goto (tgt := 126) hx hb dX7_chances_122 (by decide) ?_
          refine lv_istore (lv' := [(9, .int 1), (8, .int x8), (7, .int (v0 * v1)), (0, .ref (A q)), (2, .int x2), (3, .int x3), (4, .int x4), (5, .int x5), (6, .int x6), (10, .int x10), (11, .int x11)]) hx hb dX7_chances_126 hl (by decide) rfl (fun ls hl => ?_)
          refine lv_iinc (v := (x10 + 1)) (lv' := [(10, .int (x10 + 1)), (9, .int 1), (8, .int x8), (7, .int (v0 * v1)), (0, .ref (A q)), (2, .int x2), (3, .int x3), (4, .int x4), (5, .int x5), (6, .int x6), (11, .int x11)]) hx hb dX7_chances_128 hl (k := 9) rfl rfl (by decide) rfl (fun ls hl => ?_)
          refine lv_goto (tgt := 38) hx hb dX7_chances_131 (by decide) ?_
          exact hg_38 (v0 * v1) x8 1 (x10 + 1) _ hf (lv_sub hl [4, 5, 6, 7, 8, 9, 3, 2, 1, 0] rfl)
    · have hf := it_p c26 hf
      refine lv_aload_n hx hb dX7_chances_90 rfl (lv_at hl 1 rfl) ?_
      obtain ⟨h29, h30, h31, h32, h33, h34, h35, h36, h37, h38, h39, h40, h41, h42, h43⟩ := h_this
      refine va_get (D := D) (ci := 7) (v := .ref (A (q + 1))) (C := RX7) (T := TX7) (N := 18) hx hb hts in_X7_chances_X7 hown hK.1 hP (q) h29 rfl 0 (by decide) w_0 (fun _ h9 => h9) rfl dX7_chances_91 ?_
      refine lv_iconst (v := 0) hx hb dX7_chances_94 (by decide) ?_
      refine lv_aload_n hx hb dX7_chances_95 rfl (lv_at hl 1 rfl) ?_
      refine va_get (D := D) (ci := 7) (v := .ref (A (q + 13))) (C := RX7) (T := TX7) (N := 18) hx hb hts in_X7_chances_X7 hown hK.1 hP (q) h29 rfl 15 (by decide) w_1 (fun _ h9 => h9) rfl dX7_chances_96 ?_
      refine lv_iload hx hb dX7_chances_99 (lv_at hl 9 rfl) ?_
      obtain ⟨z44, hf⟩ := ck_s hf
      refine va_iald hx hb hK.1 hP (q + 13) 0 h42 rfl (in_s z44) dX7_chances_101 ?_
      refine lv_iadd hx hb dX7_chances_102 ?_
      obtain ⟨z45, hf⟩ := ck_s hf
      refine va_iald hx hb hK.1 hP (q + 1) 0 h30 rfl (in_s z45) dX7_chances_103 ?_
      refine lv_goto (tgt := 109) hx hb dX7_chances_104 (by decide) ?_
      refine lv_topi (fun y46 e47 => ?_)
      have hf := lt_s' e47 hf
      refine lv_istore (lv' := [(8, .int y46), (7, .int (v0 * v1)), (0, .ref (A q)), (2, .int x2), (3, .int x3), (4, .int x4), (5, .int x5), (6, .int x6), (9, .int x9), (10, .int x10), (11, .int x11)]) hx hb dX7_chances_109 hl (by decide) rfl (fun ls hl => ?_)
      refine lv_iload hx hb dX7_chances_111 (lv_at hl 8 rfl) ?_
      refine lv_if_ne (tgt := 121) hx hb dX7_chances_113 (by decide) (fun c48 => ?_) (fun c48 => ?_)
      · have hf := it_n c48 hf
        refine lv_iconst (v := 1) hx hb dX7_chances_121 (by decide) ?_
        refine lv_goto (tgt := 126) hx hb dX7_chances_122 (by decide) ?_
        refine lv_istore (lv' := [(9, .int 1), (8, .int y46), (7, .int (v0 * v1)), (0, .ref (A q)), (2, .int x2), (3, .int x3), (4, .int x4), (5, .int x5), (6, .int x6), (10, .int x10), (11, .int x11)]) hx hb dX7_chances_126 hl (by decide) rfl (fun ls hl => ?_)
        refine lv_iinc (v := (x10 + 1)) (lv' := [(10, .int (x10 + 1)), (9, .int 1), (8, .int y46), (7, .int (v0 * v1)), (0, .ref (A q)), (2, .int x2), (3, .int x3), (4, .int x4), (5, .int x5), (6, .int x6), (11, .int x11)]) hx hb dX7_chances_128 hl (k := 9) rfl rfl (by decide) rfl (fun ls hl => ?_)
        refine lv_goto (tgt := 38) hx hb dX7_chances_131 (by decide) ?_
        exact hg_38 (v0 * v1) y46 1 (x10 + 1) _ hf (lv_sub hl [4, 5, 6, 7, 8, 9, 3, 2, 1, 0] rfl)
      · have hf := it_p c48 hf
        refine lv_iload hx hb dX7_chances_116 (lv_at hl 10 rfl) ?_
        refine lv_if_eq (tgt := 125) hx hb dX7_chances_118 (by decide) (fun c49 => ?_) (fun c49 => ?_)
        · have hf := it_p c49 hf
          refine lv_iconst (v := 0) hx hb dX7_chances_125 (by decide) ?_
          refine lv_istore (lv' := [(9, .int 0), (8, .int y46), (7, .int (v0 * v1)), (0, .ref (A q)), (2, .int x2), (3, .int x3), (4, .int x4), (5, .int x5), (6, .int x6), (10, .int x10), (11, .int x11)]) hx hb dX7_chances_126 hl (by decide) rfl (fun ls hl => ?_)
          refine lv_iinc (v := (x10 + 1)) (lv' := [(10, .int (x10 + 1)), (9, .int 0), (8, .int y46), (7, .int (v0 * v1)), (0, .ref (A q)), (2, .int x2), (3, .int x3), (4, .int x4), (5, .int x5), (6, .int x6), (11, .int x11)]) hx hb dX7_chances_128 hl (k := 9) rfl rfl (by decide) rfl (fun ls hl => ?_)
          refine lv_goto (tgt := 38) hx hb dX7_chances_131 (by decide) ?_
          exact hg_38 (v0 * v1) y46 0 (x10 + 1) _ hf (lv_sub hl [4, 5, 6, 7, 8, 9, 3, 2, 1, 0] rfl)
        · have hf := it_n c49 hf
          refine lv_iconst (v := 1) hx hb dX7_chances_121 (by decide) ?_
          refine lv_goto (tgt := 126) hx hb dX7_chances_122 (by decide) ?_
          refine lv_istore (lv' := [(9, .int 1), (8, .int y46), (7, .int (v0 * v1)), (0, .ref (A q)), (2, .int x2), (3, .int x3), (4, .int x4), (5, .int x5), (6, .int x6), (10, .int x10), (11, .int x11)]) hx hb dX7_chances_126 hl (by decide) rfl (fun ls hl => ?_)
          refine lv_iinc (v := (x10 + 1)) (lv' := [(10, .int (x10 + 1)), (9, .int 1), (8, .int y46), (7, .int (v0 * v1)), (0, .ref (A q)), (2, .int x2), (3, .int x3), (4, .int x4), (5, .int x5), (6, .int x6), (11, .int x11)]) hx hb dX7_chances_128 hl (k := 9) rfl rfl (by decide) rfl (fun ls hl => ?_)
          refine lv_goto (tgt := 38) hx hb dX7_chances_131 (by decide) ?_
          exact hg_38 (v0 * v1) y46 1 (x10 + 1) _ hf (lv_sub hl [4, 5, 6, 7, 8, 9, 3, 2, 1, 0] rfl)

set_option maxHeartbeats 4000000 in
set_option maxRecDepth 100000 in
theorem wl_X7_chances_60 {p : Program} {e : Env} {s : State} {m : MethodId} {args : Array Value} {below : List Frame} {meth : Method} {c : Code} (l : Launch) (D : va_G) (k : kt_T) (A : Nat → Nat) (ws : va_W) (q : Nat)  (out : Int32) (hK : kk_P D k s) (C0 : cx_P p s m meth c args cX7_chances 12 wsX7_chances RX7 (some .int))  (st : Nat → Int32) (past : Nat → Int32) (image : Nat → Int32) (imagePast : Nat → Int32) (tape : Nat → Int32) (laneOf : Nat → Int32) (sizeOf : Nat → Int32) (items : Nat → Int64) (least : Nat → Int32) (costs : Nat → Int32) (hops : Nat → Int32) (comes : Nat → Int32) (chain : Nat → Int32) (told : Nat → Int32) (acts : Int32) (imageActs : Int32) (tapeMany : Int32) (readAt : Int32) (x2 : Int32) (x3 : Int32) (x4 : Int32) (x5 : Int32) (x6 : Int32) (x7 : Int32) (x8 : Int32) (x9 : Int32) (x10 : Int32) (v0 : Int32) (g_38 : Int32 → Int32 → Int32 → Int32 → Option (Int32)) (hg_38 : ∀ (x7 : Int32) (x8 : Int32) (x9 : Int32) (x10 : Int32) (ls : Array Slot), g_38 x7 x8 x9 x10 = some out → lv_has ls 12 [(0, .ref (A q)), (2, .int x2), (3, .int x3), (4, .int x4), (5, .int x5), (6, .int x6), (7, .int x7), (8, .int x8), (9, .int x9), (10, .int x10)] → W p l e (headSpec wsX7_chances { frames := 2, cells := 0, slots := 0, locals := 48 }).room s m args below meth c s.heap [] 0 0 (MQ below (qs_Q (some (.int out))) args s 0 0 (fun _ => False)) (F0 m 38 ls [])) (h_this : is_Y k A ws q st past image imagePast tape laneOf sizeOf items least costs hops comes chain told acts imageActs tapeMany readAt) (hP : va_P D vwCl ws s.heap) (hD : va_D (fun _ => True) ws) : ∀ (ls : Array Slot), lp_X7_chances_60 st chain x2 x3 x4 x5 x6 x7 x8 x9 x10 v0 g_38 = some out → lv_has ls 12 [(0, .ref (A q)), (2, .int x2), (3, .int x3), (4, .int x4), (5, .int x5), (6, .int x6), (7, .int x7), (8, .int x8), (9, .int x9), (10, .int x10)] → W p l e (headSpec wsX7_chances { frames := 2, cells := 0, slots := 0, locals := 48 }).room s m args below meth c s.heap [] 0 0 (MQ below (qs_Q (some (.int out))) args s 0 0 (fun _ => False)) (F0 m 60 ls [.int v0]) := by
  obtain ⟨hx, hb, hml, hown, hts, hr, hlocks⟩ := id C0
  have hcf : CallFix p m c cX7_chances 12 s args wsX7_chances RX7 := ⟨hx, hb, hml, hown, hts⟩
  intro ls hf hl
  unfold lp_X7_chances_60 at hf
  refine lv_istore (lv' := [(11, .int v0), (0, .ref (A q)), (2, .int x2), (3, .int x3), (4, .int x4), (5, .int x5), (6, .int x6), (7, .int x7), (8, .int x8), (9, .int x9), (10, .int x10)]) hx hb dX7_chances_60 hl (by decide) rfl (fun ls hl => ?_)
  refine lv_iload hx hb dX7_chances_62 (lv_at hl 7 rfl) ?_
  refine lv_iload hx hb dX7_chances_64 (lv_at hl 0 rfl) ?_
  refine lv_if_eq (tgt := 76) hx hb dX7_chances_66 (by decide) (fun c22 => ?_) (fun c22 => ?_)
  · have hf := it_p c22 hf
    refine lv_iload_n hx hb dX7_chances_76 rfl (lv_at hl 2 rfl) ?_
    exact wl_X7_chances_77 l D k A ws q _ hK C0 st past image imagePast tape laneOf sizeOf items least costs hops comes chain told acts imageActs tapeMany readAt x2 x3 x4 x5 x6 x8 x9 x10 v0 x7 x2 g_38 hg_38 h_this hP hD _ hf (lv_sub hl [1, 2, 3, 4, 5, 6, 8, 9, 10, 0] rfl)
  · have hf := it_n c22 hf
    refine lv_bipush (v := 10) hx hb dX7_chances_69 (by decide) ?_
    refine lv_iload_n hx hb dX7_chances_71 rfl (lv_at hl 2 rfl) ?_
    refine lv_isub hx hb dX7_chances_72 ?_
    refine lv_goto (tgt := 77) hx hb dX7_chances_73 (by decide) ?_
    exact wl_X7_chances_77 l D k A ws q _ hK C0 st past image imagePast tape laneOf sizeOf items least costs hops comes chain told acts imageActs tapeMany readAt x2 x3 x4 x5 x6 x8 x9 x10 v0 x7 (10 - x2) g_38 hg_38 h_this hP hD _ hf (lv_sub hl [1, 2, 3, 4, 5, 6, 8, 9, 10, 0] rfl)

set_option maxHeartbeats 4000000 in
set_option maxRecDepth 100000 in
theorem wl_X7_chances_38 {p : Program} {e : Env} {s : State} {m : MethodId} {args : Array Value} {below : List Frame} {meth : Method} {c : Code} (l : Launch) (D : va_G) (k : kt_T) (A : Nat → Nat) (ws : va_W) (q : Nat)  (out : Int32) (hK : kk_P D k s) (C0 : cx_P p s m meth c args cX7_chances 12 wsX7_chances RX7 (some .int))  (st : Nat → Int32) (past : Nat → Int32) (image : Nat → Int32) (imagePast : Nat → Int32) (tape : Nat → Int32) (laneOf : Nat → Int32) (sizeOf : Nat → Int32) (items : Nat → Int64) (least : Nat → Int32) (costs : Nat → Int32) (hops : Nat → Int32) (comes : Nat → Int32) (chain : Nat → Int32) (told : Nat → Int32) (acts : Int32) (imageActs : Int32) (tapeMany : Int32) (readAt : Int32) (x2 : Int32) (x3 : Int32) (x4 : Int32) (x5 : Int32) (x6 : Int32)  (g_18 : Int32 → Int32 → Option (Int32)) (hg_18 : ∀ (x5 : Int32) (x6 : Int32) (ls : Array Slot), g_18 x5 x6 = some out → lv_has ls 12 [(0, .ref (A q)), (2, .int x2), (3, .int x3), (4, .int x4), (5, .int x5), (6, .int x6)] → W p l e (headSpec wsX7_chances { frames := 2, cells := 0, slots := 0, locals := 48 }).room s m args below meth c s.heap [] 0 0 (MQ below (qs_Q (some (.int out))) args s 0 0 (fun _ => False)) (F0 m 18 ls [])) (h_this : is_Y k A ws q st past image imagePast tape laneOf sizeOf items least costs hops comes chain told acts imageActs tapeMany readAt) (hP : va_P D vwCl ws s.heap) (hD : va_D (fun _ => True) ws) : ∀ (n : Nat) (x7 : Int32) (x8 : Int32) (x9 : Int32) (x10 : Int32) (ls : Array Slot), lp_X7_chances_38 st chain x2 x3 x4 x5 x6 g_18 n x7 x8 x9 x10 = some out → lv_has ls 12 [(0, .ref (A q)), (2, .int x2), (3, .int x3), (4, .int x4), (5, .int x5), (6, .int x6), (7, .int x7), (8, .int x8), (9, .int x9), (10, .int x10)] → W p l e (headSpec wsX7_chances { frames := 2, cells := 0, slots := 0, locals := 48 }).room s m args below meth c s.heap [] 0 0 (MQ below (qs_Q (some (.int out))) args s 0 0 (fun _ => False)) (F0 m 38 ls []) := by
  obtain ⟨hx, hb, hml, hown, hts, hr, hlocks⟩ := id C0
  have hcf : CallFix p m c cX7_chances 12 s args wsX7_chances RX7 := ⟨hx, hb, hml, hown, hts⟩
  intro n
  induction n with
  | zero =>
    intro x7 x8 x9 x10 ls hf hl
    exact (no_s hf).elim
  | succ n ih =>
    intro x7 x8 x9 x10 ls hf hl
    rw [lp_X7_chances_38] at hf
    refine lv_iload hx hb dX7_chances_38 (lv_at hl 9 rfl) ?_
    refine lv_iload_n hx hb dX7_chances_40 rfl (lv_at hl 2 rfl) ?_
    refine lv_icmp_ge (tgt := 134) hx hb dX7_chances_41 (by decide) (fun c19 => ?_) (fun c19 => ?_)
    · have hf := it_p c19 hf
      refine lv_iload hx hb dX7_chances_134 (lv_at hl 4 rfl) ?_
      refine lv_iload hx hb dX7_chances_136 (lv_at hl 7 rfl) ?_
      refine lv_iload hx hb dX7_chances_138 (lv_at hl 3 rfl) ?_
      refine lv_icmp_ne (tgt := 148) hx hb dX7_chances_140 (by decide) (fun c20 => ?_) (fun c20 => ?_)
      · have hf := it_n c20 hf
        refine lv_iconst (v := 0) hx hb dX7_chances_148 (by decide) ?_
        refine lv_iadd hx hb dX7_chances_149 ?_
        refine lv_istore (lv' := [(5, .int (x5 + 0)), (0, .ref (A q)), (2, .int x2), (3, .int x3), (4, .int x4), (6, .int x6), (7, .int x7), (8, .int x8), (9, .int x9), (10, .int x10)]) hx hb dX7_chances_150 hl (by decide) rfl (fun ls hl => ?_)
        refine lv_iinc (v := (x6 + 1)) (lv' := [(6, .int (x6 + 1)), (5, .int (x5 + 0)), (0, .ref (A q)), (2, .int x2), (3, .int x3), (4, .int x4), (7, .int x7), (8, .int x8), (9, .int x9), (10, .int x10)]) hx hb dX7_chances_152 hl (k := 5) rfl rfl (by decide) rfl (fun ls hl => ?_)
        refine lv_goto (tgt := 18) hx hb dX7_chances_155 (by decide) ?_
        exact hg_18 (x5 + 0) (x6 + 1) _ hf (lv_sub hl [2, 3, 4, 5, 1, 0] rfl)
      · have hf := it_p c20 hf
        refine lv_iload hx hb dX7_chances_143 (lv_at hl 6 rfl) ?_
        refine lv_goto (tgt := 149) hx hb dX7_chances_145 (by decide) ?_
        refine lv_iadd hx hb dX7_chances_149 ?_
        refine lv_istore (lv' := [(5, .int (x5 + x7)), (0, .ref (A q)), (2, .int x2), (3, .int x3), (4, .int x4), (6, .int x6), (7, .int x7), (8, .int x8), (9, .int x9), (10, .int x10)]) hx hb dX7_chances_150 hl (by decide) rfl (fun ls hl => ?_)
        refine lv_iinc (v := (x6 + 1)) (lv' := [(6, .int (x6 + 1)), (5, .int (x5 + x7)), (0, .ref (A q)), (2, .int x2), (3, .int x3), (4, .int x4), (7, .int x7), (8, .int x8), (9, .int x9), (10, .int x10)]) hx hb dX7_chances_152 hl (k := 5) rfl rfl (by decide) rfl (fun ls hl => ?_)
        refine lv_goto (tgt := 18) hx hb dX7_chances_155 (by decide) ?_
        exact hg_18 (x5 + x7) (x6 + 1) _ hf (lv_sub hl [2, 3, 4, 5, 1, 0] rfl)
    · have hf := it_n c19 hf
      refine lv_iload hx hb dX7_chances_44 (lv_at hl 5 rfl) ?_
      refine lv_iload hx hb dX7_chances_46 (lv_at hl 9 rfl) ?_
      refine lv_ishr hx hb dX7_chances_48 ?_
      refine lv_iconst (v := 1) hx hb dX7_chances_49 (by decide) ?_
      refine lv_iand hx hb dX7_chances_50 ?_
      refine lv_iconst (v := 1) hx hb dX7_chances_51 (by decide) ?_
      refine lv_icmp_ne (tgt := 59) hx hb dX7_chances_52 (by decide) (fun c21 => ?_) (fun c21 => ?_)
      · have hf := it_n c21 hf
        refine lv_iconst (v := 0) hx hb dX7_chances_59 (by decide) ?_
        exact wl_X7_chances_60 l D k A ws q _ hK C0 st past image imagePast tape laneOf sizeOf items least costs hops comes chain told acts imageActs tapeMany readAt x2 x3 x4 x5 x6 x7 x8 x9 x10 0 _ ih h_this hP hD _ hf (lv_sub hl [0, 1, 2, 3, 4, 5, 6, 7, 8, 9] rfl)
      · have hf := it_p c21 hf
        refine lv_iconst (v := 1) hx hb dX7_chances_55 (by decide) ?_
        refine lv_goto (tgt := 60) hx hb dX7_chances_56 (by decide) ?_
        exact wl_X7_chances_60 l D k A ws q _ hK C0 st past image imagePast tape laneOf sizeOf items least costs hops comes chain told acts imageActs tapeMany readAt x2 x3 x4 x5 x6 x7 x8 x9 x10 1 _ ih h_this hP hD _ hf (lv_sub hl [0, 1, 2, 3, 4, 5, 6, 7, 8, 9] rfl)

set_option maxHeartbeats 4000000 in
set_option maxRecDepth 100000 in
theorem wl_X7_chances_18 {p : Program} {e : Env} {s : State} {m : MethodId} {args : Array Value} {below : List Frame} {meth : Method} {c : Code} (l : Launch) (D : va_G) (k : kt_T) (A : Nat → Nat) (ws : va_W) (q : Nat)  (out : Int32) (hK : kk_P D k s) (C0 : cx_P p s m meth c args cX7_chances 12 wsX7_chances RX7 (some .int))  (st : Nat → Int32) (past : Nat → Int32) (image : Nat → Int32) (imagePast : Nat → Int32) (tape : Nat → Int32) (laneOf : Nat → Int32) (sizeOf : Nat → Int32) (items : Nat → Int64) (least : Nat → Int32) (costs : Nat → Int32) (hops : Nat → Int32) (comes : Nat → Int32) (chain : Nat → Int32) (told : Nat → Int32) (acts : Int32) (imageActs : Int32) (tapeMany : Int32) (readAt : Int32) (x2 : Int32) (x3 : Int32) (x4 : Int32)   (h_this : is_Y k A ws q st past image imagePast tape laneOf sizeOf items least costs hops comes chain told acts imageActs tapeMany readAt) (hP : va_P D vwCl ws s.heap) (hD : va_D (fun _ => True) ws) : ∀ (n : Nat) (x5 : Int32) (x6 : Int32) (ls : Array Slot), lp_X7_chances_18 st chain x2 x3 x4 n x5 x6 = some out → lv_has ls 12 [(0, .ref (A q)), (2, .int x2), (3, .int x3), (4, .int x4), (5, .int x5), (6, .int x6)] → W p l e (headSpec wsX7_chances { frames := 2, cells := 0, slots := 0, locals := 48 }).room s m args below meth c s.heap [] 0 0 (MQ below (qs_Q (some (.int out))) args s 0 0 (fun _ => False)) (F0 m 18 ls []) := by
  obtain ⟨hx, hb, hml, hown, hts, hr, hlocks⟩ := id C0
  have hcf : CallFix p m c cX7_chances 12 s args wsX7_chances RX7 := ⟨hx, hb, hml, hown, hts⟩
  intro n
  induction n with
  | zero =>
    intro x5 x6 ls hf hl
    exact (no_s hf).elim
  | succ n ih =>
    intro x5 x6 ls hf hl
    rw [lp_X7_chances_18] at hf
    refine lv_iload hx hb dX7_chances_18 (lv_at hl 5 rfl) ?_
    refine lv_iconst (v := 1) hx hb dX7_chances_20 (by decide) ?_
    refine lv_iload_n hx hb dX7_chances_21 rfl (lv_at hl 2 rfl) ?_
    refine lv_ishl hx hb dX7_chances_22 ?_
    refine lv_icmp_ge (tgt := 158) hx hb dX7_chances_23 (by decide) (fun c18 => ?_) (fun c18 => ?_)
    · have hf := it_p c18 hf
      refine lv_iload hx hb dX7_chances_158 (lv_at hl 4 rfl) ?_
      obtain rfl := so_i hf
      exact W.iret (v := x5) hx hb hr (fun t ht _ => ⟨rfl, ht⟩) (fun _ h => absurd h List.not_mem_nil) dX7_chances_160
    · have hf := it_n c18 hf
      refine lv_iconst (v := 1) hx hb dX7_chances_26 (by decide) ?_
      refine lv_istore (lv' := [(7, .int 1), (0, .ref (A q)), (2, .int x2), (3, .int x3), (4, .int x4), (5, .int x5), (6, .int x6)]) hx hb dX7_chances_27 hl (by decide) rfl (fun ls hl => ?_)
      refine lv_iconst (v := 0) hx hb dX7_chances_29 (by decide) ?_
      refine lv_istore (lv' := [(8, .int 0), (7, .int 1), (0, .ref (A q)), (2, .int x2), (3, .int x3), (4, .int x4), (5, .int x5), (6, .int x6)]) hx hb dX7_chances_30 hl (by decide) rfl (fun ls hl => ?_)
      refine lv_iconst (v := 0) hx hb dX7_chances_32 (by decide) ?_
      refine lv_istore (lv' := [(9, .int 0), (8, .int 0), (7, .int 1), (0, .ref (A q)), (2, .int x2), (3, .int x3), (4, .int x4), (5, .int x5), (6, .int x6)]) hx hb dX7_chances_33 hl (by decide) rfl (fun ls hl => ?_)
      refine lv_iconst (v := 0) hx hb dX7_chances_35 (by decide) ?_
      refine lv_istore (lv' := [(10, .int 0), (9, .int 0), (8, .int 0), (7, .int 1), (0, .ref (A q)), (2, .int x2), (3, .int x3), (4, .int x4), (5, .int x5), (6, .int x6)]) hx hb dX7_chances_36 hl (by decide) rfl (fun ls hl => ?_)
      exact wl_X7_chances_38 l D k A ws q _ hK C0 st past image imagePast tape laneOf sizeOf items least costs hops comes chain told acts imageActs tapeMany readAt x2 x3 x4 x5 x6 _ ih h_this hP hD fu_N 1 0 0 0 _ hf (lv_sub hl [4, 5, 6, 7, 8, 9, 3, 2, 1, 0] rfl)

set_option maxHeartbeats 4000000 in
set_option maxRecDepth 100000 in
theorem cz_X7_chances (l : Launch) (D : va_G) (k : kt_T) (A : Nat → Nat) (ws : va_W) (q : Nat)  (st : Nat → Int32) (past : Nat → Int32) (image : Nat → Int32) (imagePast : Nat → Int32) (tape : Nat → Int32) (laneOf : Nat → Int32) (sizeOf : Nat → Int32) (items : Nat → Int64) (least : Nat → Int32) (costs : Nat → Int32) (hops : Nat → Int32) (comes : Nat → Int32) (chain : Nat → Int32) (told : Nat → Int32) (acts : Int32) (imageActs : Int32) (tapeMany : Int32) (readAt : Int32) (p1 : Int32) (p2 : Int32) (p3 : Int32) (out : Int32) (hf : pf_X7_chances st chain p1 p2 p3 = some out) (h_this : is_Y k A ws q st past image imagePast tape laneOf sizeOf items least costs hops comes chain told acts imageActs tapeMany readAt)  : Met l yX7_chances wsX7_chances { frames := 2, cells := 0, slots := 0, locals := 48 } (va_Pc [.ref (A q), .int p1, .int p2, .int p3] (pw_P D k ws)) (qs_Q (some (.int out))) 0 0 (fun _ => False) := by
  refine Met.ofW (cc := cX7_chances) (maxL := 12) (ret := (some .int)) (by decide) rfl ?_
  intro p e s m args below meth c s₁ B hml hv
  obtain ⟨rfl, hP, hK, hD⟩ := hv
  have C0 : cx_P p s m meth c [.ref (A q), .int p1, .int p2, .int p3].toArray cX7_chances 12 wsX7_chances RX7 (some .int) := ⟨B.exec, B.bytes, hml, findClass_of_methodNamed B.named, atoms_spec (ws := wsX7_chances) B.pre, B.returns, B.notSynchronized⟩
  obtain ⟨hx, hb, hml, hown, hts, hr, hlocks⟩ := id C0
  have hcf : CallFix p m c cX7_chances 12 s [.ref (A q), .int p1, .int p2, .int p3].toArray wsX7_chances RX7 := ⟨hx, hb, hml, hown, hts⟩
  have w_0 := hts (.fieldLink RX7 7 "LeastRoutesModel" "st" "[I") (List.mem_of_getElem? (i := 1) rfl)
  have hl := lv_entry ([.ref (A q), .int p1, .int p2, .int p3]) (n := 12) (Nat.le_of_ble_eq_true rfl)
  rw [lg_entry_eq]
  generalize (lg_sl ([.ref (A q), .int p1, .int p2, .int p3]) ++ List.replicate (12 - (lg_sl ([.ref (A q), .int p1, .int p2, .int p3])).length) Slot.unset).toArray = ls at hl ⊢
  have hl : lv_has ls 12 [(0, .ref (A q)), (1, .int p1), (2, .int p2), (3, .int p3)] := hl
  unfold pf_X7_chances at hf
  refine lv_aload_n hx hb dX7_chances_0 rfl (lv_at hl 0 rfl) ?_
  obtain ⟨h1, h2, h3, h4, h5, h6, h7, h8, h9, h10, h11, h12, h13, h14, h15⟩ := h_this
  refine va_get (D := D) (ci := 7) (v := .ref (A (q + 1))) (C := RX7) (T := TX7) (N := 18) hx hb hts in_X7_chances_X7 hown hK.1 hP (q) h1 rfl 0 (by decide) w_0 (fun _ h9 => h9) rfl dX7_chances_1 ?_
  refine lv_iconst (v := 0) hx hb dX7_chances_4 (by decide) ?_
  refine lv_iload_n hx hb dX7_chances_5 rfl (lv_at hl 1 rfl) ?_
  refine lv_iconst (v := 0) hx hb dX7_chances_6 (by decide) ?_
  obtain ⟨r16, h17, hf⟩ := bd_s hf
  refine ks_i (va_runS (As := [.ref (A (q + 1)), .int 0, .int p1, .int 0]) (rest := []) hcf (cz_X7_hopBy l D k A ws (q + 1) 1025 st 0 p1 0 r16 h17 h2) (va_cwS 4 hts gX7_chances_X7_hopBy rfl rfl rfl (by decide +kernel) ⟨Nat.le_of_ble_eq_true rfl, Nat.le_of_ble_eq_true rfl⟩) (pw_S hP hK hD) rfl rfl hl.1 rfl (lv_room (Nat.le_of_ble_eq_true rfl)) dX7_chances_7 ⟨Nat.zero_le _, Nat.zero_le _⟩) ?_
  refine lv_istore (lv' := [(4, .int r16), (0, .ref (A q)), (1, .int p1), (2, .int p2), (3, .int p3)]) hx hb dX7_chances_10 hl (by decide) rfl (fun ls hl => ?_)
  refine lv_iconst (v := 0) hx hb dX7_chances_12 (by decide) ?_
  refine lv_istore (lv' := [(5, .int 0), (4, .int r16), (0, .ref (A q)), (1, .int p1), (2, .int p2), (3, .int p3)]) hx hb dX7_chances_13 hl (by decide) rfl (fun ls hl => ?_)
  refine lv_iconst (v := 0) hx hb dX7_chances_15 (by decide) ?_
  refine lv_istore (lv' := [(6, .int 0), (5, .int 0), (4, .int r16), (0, .ref (A q)), (1, .int p1), (2, .int p2), (3, .int p3)]) hx hb dX7_chances_16 hl (by decide) rfl (fun ls hl => ?_)
  have h50 : is_Y k A ws (q) st past image imagePast tape laneOf sizeOf items least costs hops comes chain told acts imageActs tapeMany readAt := ⟨h1, h2, h3, h4, h5, h6, h7, h8, h9, h10, h11, h12, h13, h14, h15⟩
  exact wl_X7_chances_18 l D k A ws q _ hK C0 st past image imagePast tape laneOf sizeOf items least costs hops comes chain told acts imageActs tapeMany readAt p2 p3 r16 h50 hP hD fu_N 0 0 _ hf (lv_sub hl [3, 5, 6, 2, 1, 0] rfl)

theorem in_X7_lost_X7 : ∀ w ∈ u_ws RX7 TX7 18, w ∈ wsX7_lost := fun w h => List.mem_cons_of_mem _ (List.mem_append_right _ h)
def lp_X7_lost_114  (chain : Nat → Int32) (x3 : Int32) (x5 : Int32) (x6 : Int32) : Nat → Int32 → Int32 → Option (Int32 × (Nat → Int32))
  | 0, _, _ => none
  | n + 1, x7, x8 =>
    if x8 = 0 then
      if x3 = 0 then
        ck_O (nz_b x7) (
          some ((x6 / x7), chain))
      else
        ck_O (nz_b x7) (
          some ((x5 / x7), chain))
    else
      ck_O (nz_b x8) (
        lp_X7_lost_114 chain x3 x5 x6 n x8 (x7 - x7 / x8 * x8))

def lp_X7_lost_49  (st : Nat → Int32) (x1 : Int32) (x2 : Int32) (x3 : Int32) : Nat → (Nat → Int32) → Int32 → Int32 → Int32 → Option (Int32 × (Nat → Int32))
  | 0, _, _, _, _ => none
  | n + 1, chain, x4, x5, x6 =>
    if x6 ≤ 0 then
      (pf_X7_chances st chain x1 x2 x4).bind (fun r11 =>
        lp_X7_lost_114 chain x3 x5 r11 fu_N r11 x5)
    else
      ck_O (in_b (0 + x6) 1025) (
        if (st (Int32.toNatClampNeg (0 + x6))) = 8 then
          lp_X7_lost_49 st x1 x2 x3 n chain x4 x5 (x6 / 2)
        else
          ck_O (in_b x4 9) (
            lp_X7_lost_49 st x1 x2 x3 n (upd chain (Int32.toNatClampNeg x4) x6) (x4 + 1) (x5 * 10) (x6 / 2)))

def pf_X7_lost (st : Nat → Int32) (chain : Nat → Int32)  (p1 : Int32) (p2 : Int32) (p3 : Int32) : Option (Int32 × (Nat → Int32)) :=
  (pf_X7_in (Int32.toInt64 p1) 0 255).bind (fun r1 =>
    if r1 = 0 then
      some ((-1), chain)
    else
      (pf_X7_in (Int32.toInt64 p2) 0 10).bind (fun r4 =>
        if r4 = 0 then
          some ((-1), chain)
        else
          (pf_X7_in (Int32.toInt64 p3) 0 1).bind (fun r7 =>
            if r7 = 0 then
              some ((-1), chain)
            else
              lp_X7_lost_49 st p1 p2 p3 fu_N chain 0 1 (256 + p1))))

set_option maxHeartbeats 4000000 in
set_option maxRecDepth 100000 in
theorem wl_X7_lost_114 {p : Program} {e : Env} {s : State} {m : MethodId} {args : Array Value} {below : List Frame} {meth : Method} {c : Code} (l : Launch) (D : va_G) (k : kt_T) (A : Nat → Nat) (ws : va_W) (q : Nat)  (out : Int32 × (Nat → Int32)) (hK : kk_P D k s) (C0 : cx_P p s m meth c args cX7_lost 10 wsX7_lost RX7 (some .int))  (st : Nat → Int32) (past : Nat → Int32) (image : Nat → Int32) (imagePast : Nat → Int32) (tape : Nat → Int32) (laneOf : Nat → Int32) (sizeOf : Nat → Int32) (items : Nat → Int64) (least : Nat → Int32) (costs : Nat → Int32) (hops : Nat → Int32) (comes : Nat → Int32) (chain : Nat → Int32) (told : Nat → Int32) (acts : Int32) (imageActs : Int32) (tapeMany : Int32) (readAt : Int32) (x3 : Int32) (x5 : Int32) (x6 : Int32)    : ∀ (n : Nat) (x7 : Int32) (x8 : Int32) (w : va_W) (H : Heap) (locs : List Loc) (ls : Array Slot), lp_X7_lost_114 chain x3 x5 x6 n x7 x8 = some out → is_Y k A w q st past image imagePast tape laneOf sizeOf items least costs hops comes chain told acts imageActs tapeMany readAt → sm_W ws w q (q + 15) → va_P D vwCl w H → va_D (va_A ws s.heap.size) w → va_S (va_A ws s.heap.size) s.heap H locs → lv_has ls 10 [(3, .int x3), (5, .int x5), (6, .int x6), (7, .int x7), (8, .int x8)] → W p l e (headSpec wsX7_lost { frames := 3, cells := 0, slots := 0, locals := 79 }).room s m args below meth c H locs 0 0 (MQ below (qw_Q D ws s.heap.size (some (.int out.1)) (fun u => is_Y k A u q st past image imagePast tape laneOf sizeOf items least costs hops comes out.2 told acts imageActs tapeMany readAt ∧ sm_W ws u q (q + 15))) args s 0 0 (va_A ws s.heap.size)) (F0 m 114 ls []) := by
  obtain ⟨hx, hb, hml, hown, hts, hr, hlocks⟩ := id C0
  have hcf : CallFix p m c cX7_lost 10 s args wsX7_lost RX7 := ⟨hx, hb, hml, hown, hts⟩
  have hA : ∀ q, s.heap.size ≤ q → va_A ws s.heap.size q := fun q h => Or.inr h
  intro n
  induction n with
  | zero =>
    intro x7 x8 w H locs ls hf h_this hsm hP hD hS hl
    exact (no_s hf).elim
  | succ n ih =>
    intro x7 x8 w H locs ls hf h_this hsm hP hD hS hl
    rw [lp_X7_lost_114] at hf
    refine lv_iload hx hb dX7_lost_114 (lv_at hl 4 rfl) ?_
    refine lv_if_eq (tgt := 137) hx hb dX7_lost_116 (by decide) (fun c13 => ?_) (fun c13 => ?_)
    · have hf := it_p c13 hf
      refine lv_iload_n hx hb dX7_lost_137 rfl (lv_at hl 0 rfl) ?_
      refine lv_if_ne (tgt := 149) hx hb dX7_lost_138 (by decide) (fun c14 => ?_) (fun c14 => ?_)
      · have hf := it_n c14 hf
        refine lv_iload hx hb dX7_lost_149 (lv_at hl 1 rfl) ?_
        refine lv_iload hx hb dX7_lost_151 (lv_at hl 3 rfl) ?_
        obtain ⟨z15, hf⟩ := ck_s hf
        refine lv_idiv hx hb dX7_lost_153 (nz_s z15) ?_
        obtain rfl := so_i hf
        exact W.iret (v := (x5 / x7)) hx hb hr (qw_end hS hP hD ⟨h_this, hsm⟩) hS.2.2 dX7_lost_154
      · have hf := it_p c14 hf
        refine lv_iload hx hb dX7_lost_141 (lv_at hl 2 rfl) ?_
        refine lv_iload hx hb dX7_lost_143 (lv_at hl 3 rfl) ?_
        obtain ⟨z16, hf⟩ := ck_s hf
        refine lv_idiv hx hb dX7_lost_145 (nz_s z16) ?_
        refine lv_goto (tgt := 154) hx hb dX7_lost_146 (by decide) ?_
        obtain rfl := so_i hf
        exact W.iret (v := (x6 / x7)) hx hb hr (qw_end hS hP hD ⟨h_this, hsm⟩) hS.2.2 dX7_lost_154
    · have hf := it_n c13 hf
      refine lv_iload hx hb dX7_lost_119 (lv_at hl 3 rfl) ?_
      refine lv_iload hx hb dX7_lost_121 (lv_at hl 4 rfl) ?_
      obtain ⟨z17, hf⟩ := ck_s hf
      refine lv_irem hx hb dX7_lost_123 (nz_s z17) ?_
      refine lv_istore (lv' := [(9, .int (x7 - x7 / x8 * x8)), (3, .int x3), (5, .int x5), (6, .int x6), (7, .int x7), (8, .int x8)]) hx hb dX7_lost_124 hl (by decide) rfl (fun ls hl => ?_)
      refine lv_iload hx hb dX7_lost_126 (lv_at hl 5 rfl) ?_
      refine lv_istore (lv' := [(7, .int x8), (9, .int (x7 - x7 / x8 * x8)), (3, .int x3), (5, .int x5), (6, .int x6), (8, .int x8)]) hx hb dX7_lost_128 hl (by decide) rfl (fun ls hl => ?_)
      refine lv_iload hx hb dX7_lost_130 (lv_at hl 1 rfl) ?_
      refine lv_istore (lv' := [(8, .int (x7 - x7 / x8 * x8)), (7, .int x8), (9, .int (x7 - x7 / x8 * x8)), (3, .int x3), (5, .int x5), (6, .int x6)]) hx hb dX7_lost_132 hl (by decide) rfl (fun ls hl => ?_)
      refine lv_goto (tgt := 114) hx hb dX7_lost_134 (by decide) ?_
      exact ih x8 (x7 - x7 / x8 * x8) _ _ _ _ hf h_this hsm hP hD hS (lv_sub hl [3, 4, 5, 1, 0] rfl)

set_option maxHeartbeats 4000000 in
set_option maxRecDepth 100000 in
theorem wl_X7_lost_49 {p : Program} {e : Env} {s : State} {m : MethodId} {args : Array Value} {below : List Frame} {meth : Method} {c : Code} (l : Launch) (D : va_G) (k : kt_T) (A : Nat → Nat) (ws : va_W) (q : Nat)  (out : Int32 × (Nat → Int32)) (hK : kk_P D k s) (C0 : cx_P p s m meth c args cX7_lost 10 wsX7_lost RX7 (some .int))  (st : Nat → Int32) (past : Nat → Int32) (image : Nat → Int32) (imagePast : Nat → Int32) (tape : Nat → Int32) (laneOf : Nat → Int32) (sizeOf : Nat → Int32) (items : Nat → Int64) (least : Nat → Int32) (costs : Nat → Int32) (hops : Nat → Int32) (comes : Nat → Int32) (told : Nat → Int32) (acts : Int32) (imageActs : Int32) (tapeMany : Int32) (readAt : Int32) (x1 : Int32) (x2 : Int32) (x3 : Int32)    : ∀ (n : Nat) (chain : Nat → Int32) (x4 : Int32) (x5 : Int32) (x6 : Int32) (w : va_W) (H : Heap) (locs : List Loc) (ls : Array Slot), lp_X7_lost_49 st x1 x2 x3 n chain x4 x5 x6 = some out → is_Y k A w q st past image imagePast tape laneOf sizeOf items least costs hops comes chain told acts imageActs tapeMany readAt → sm_W ws w q (q + 15) → va_P D vwCl w H → va_D (va_A ws s.heap.size) w → va_S (va_A ws s.heap.size) s.heap H locs → lv_has ls 10 [(0, .ref (A q)), (1, .int x1), (2, .int x2), (3, .int x3), (4, .int x4), (5, .int x5), (6, .int x6)] → W p l e (headSpec wsX7_lost { frames := 3, cells := 0, slots := 0, locals := 79 }).room s m args below meth c H locs 0 0 (MQ below (qw_Q D ws s.heap.size (some (.int out.1)) (fun u => is_Y k A u q st past image imagePast tape laneOf sizeOf items least costs hops comes out.2 told acts imageActs tapeMany readAt ∧ sm_W ws u q (q + 15))) args s 0 0 (va_A ws s.heap.size)) (F0 m 49 ls []) := by
  obtain ⟨hx, hb, hml, hown, hts, hr, hlocks⟩ := id C0
  have hcf : CallFix p m c cX7_lost 10 s args wsX7_lost RX7 := ⟨hx, hb, hml, hown, hts⟩
  have hA : ∀ q, s.heap.size ≤ q → va_A ws s.heap.size q := fun q h => Or.inr h
  have w_2 := hts (.fieldLink RX7 7 "LeastRoutesModel" "st" "[I") (List.mem_of_getElem? (i := 3) rfl)
  have w_3 := hts (.fieldLink RX7 51 "LeastRoutesModel" "chain" "[I") (List.mem_of_getElem? (i := 4) rfl)
  intro n
  induction n with
  | zero =>
    intro chain x4 x5 x6 w H locs ls hf h_this hsm hP hD hS hl
    exact (no_s hf).elim
  | succ n ih =>
    intro chain x4 x5 x6 w H locs ls hf h_this hsm hP hD hS hl
    rw [lp_X7_lost_49] at hf
    refine lv_iload hx hb dX7_lost_49 (lv_at hl 6 rfl) ?_
    refine lv_if_le (tgt := 96) hx hb dX7_lost_51 (by decide) (fun c10 => ?_) (fun c10 => ?_)
    · have hf := it_p c10 hf
      refine lv_aload_n hx hb dX7_lost_96 rfl (lv_at hl 0 rfl) ?_
      refine lv_iload_n hx hb dX7_lost_97 rfl (lv_at hl 1 rfl) ?_
      refine lv_iload_n hx hb dX7_lost_98 rfl (lv_at hl 2 rfl) ?_
      refine lv_iload hx hb dX7_lost_99 (lv_at hl 4 rfl) ?_
      obtain ⟨r11, h12, hf⟩ := bd_s hf
      refine ks_i (va_runV (As := [.int x1, .int x2, .int x4]) (rest := []) hcf (cz_X7_chances l D k A w (q) st past image imagePast tape laneOf sizeOf items least costs hops comes chain told acts imageActs tapeMany readAt x1 x2 x4 r11 h12 h_this) (cwV 3 hts gX7_lost_X7_chances rfl rfl rfl (by decide +kernel) ⟨Nat.le_of_ble_eq_true rfl, Nat.le_of_ble_eq_true rfl⟩) (pw_V hP hK hD (ci := 7) h_this.1 rfl) rfl rfl hl.1 rfl (lv_room (Nat.le_of_ble_eq_true rfl)) dX7_lost_101 ⟨Nat.zero_le _, Nat.zero_le _⟩) ?_
      refine lv_istore (lv' := [(6, .int r11), (0, .ref (A q)), (1, .int x1), (2, .int x2), (3, .int x3), (4, .int x4), (5, .int x5)]) hx hb dX7_lost_104 hl (by decide) rfl (fun ls hl => ?_)
      refine lv_iload hx hb dX7_lost_106 (lv_at hl 0 rfl) ?_
      refine lv_istore (lv' := [(7, .int r11), (6, .int r11), (0, .ref (A q)), (1, .int x1), (2, .int x2), (3, .int x3), (4, .int x4), (5, .int x5)]) hx hb dX7_lost_108 hl (by decide) rfl (fun ls hl => ?_)
      refine lv_iload hx hb dX7_lost_110 (lv_at hl 7 rfl) ?_
      refine lv_istore (lv' := [(8, .int x5), (7, .int r11), (6, .int r11), (0, .ref (A q)), (1, .int x1), (2, .int x2), (3, .int x3), (4, .int x4), (5, .int x5)]) hx hb dX7_lost_112 hl (by decide) rfl (fun ls hl => ?_)
      exact wl_X7_lost_114 l D k A ws q _ hK C0 st past image imagePast tape laneOf sizeOf items least costs hops comes chain told acts imageActs tapeMany readAt x3 x5 r11 fu_N r11 x5 _ _ _ _ hf h_this hsm hP hD hS (lv_sub hl [6, 8, 2, 1, 0] rfl)
    · have hf := it_n c10 hf
      refine lv_aload_n hx hb dX7_lost_54 rfl (lv_at hl 0 rfl) ?_
      obtain ⟨h18, h19, h20, h21, h22, h23, h24, h25, h26, h27, h28, h29, h30, h31, h32⟩ := h_this
      refine va_get (D := D) (ci := 7) (v := .ref (A (q + 1))) (C := RX7) (T := TX7) (N := 18) hx hb hts in_X7_lost_X7 hown hK.1 hP (q) h18 rfl 0 (by decide) w_2 (fun _ h9 => h9) rfl dX7_lost_55 ?_
      refine lv_iconst (v := 0) hx hb dX7_lost_58 (by decide) ?_
      refine lv_iload hx hb dX7_lost_59 (lv_at hl 6 rfl) ?_
      refine lv_iadd hx hb dX7_lost_61 ?_
      obtain ⟨z33, hf⟩ := ck_s hf
      refine va_iald hx hb hK.1 hP (q + 1) 0 h19 rfl (in_s z33) dX7_lost_62 ?_
      refine lv_bipush (v := 8) hx hb dX7_lost_63 (by decide) ?_
      refine lv_icmp_eq (tgt := 87) hx hb dX7_lost_65 (by decide) (fun c34 => ?_) (fun c34 => ?_)
      · have hf := it_p c34 hf
        refine lv_iload hx hb dX7_lost_87 (lv_at hl 6 rfl) ?_
        refine lv_iconst (v := 2) hx hb dX7_lost_89 (by decide) ?_
        refine lv_idiv hx hb dX7_lost_90 (by decide) ?_
        refine lv_istore (lv' := [(6, .int (x6 / 2)), (0, .ref (A q)), (1, .int x1), (2, .int x2), (3, .int x3), (4, .int x4), (5, .int x5)]) hx hb dX7_lost_91 hl (by decide) rfl (fun ls hl => ?_)
        refine lv_goto (tgt := 49) hx hb dX7_lost_93 (by decide) ?_
        have h35 : is_Y k A w (q) st past image imagePast tape laneOf sizeOf items least costs hops comes chain told acts imageActs tapeMany readAt := ⟨h18, h19, h20, h21, h22, h23, h24, h25, h26, h27, h28, h29, h30, h31, h32⟩
        exact ih chain x4 x5 (x6 / 2) _ _ _ _ hf h35 hsm hP hD hS (lv_sub hl [1, 2, 3, 4, 5, 6, 0] rfl)
      · have hf := it_n c34 hf
        refine lv_aload_n hx hb dX7_lost_68 rfl (lv_at hl 0 rfl) ?_
        refine va_get (D := D) (ci := 7) (v := .ref (A (q + 13))) (C := RX7) (T := TX7) (N := 18) hx hb hts in_X7_lost_X7 hown hK.1 hP (q) h18 rfl 15 (by decide) w_3 (fun _ h9 => h9) rfl dX7_lost_69 ?_
        refine lv_iload hx hb dX7_lost_72 (lv_at hl 4 rfl) ?_
        refine lv_iload hx hb dX7_lost_74 (lv_at hl 6 rfl) ?_
        obtain ⟨z36, hf⟩ := ck_s hf
        refine va_iast hx hb hK.1 hP hD hS (q + 13) 0 h31 rfl (in_s z36) dX7_lost_76 (fun _ _ hP hD hS => ?_)
        obtain ⟨u37, h38, m39, hP, hD⟩ := wd_put hP hD h31
        have hsm := sm_tr hsm m39 (by omega) (by omega)
        refine lv_iinc (v := (x4 + 1)) (lv' := [(4, .int (x4 + 1)), (0, .ref (A q)), (1, .int x1), (2, .int x2), (3, .int x3), (5, .int x5), (6, .int x6)]) hx hb dX7_lost_77 hl (k := 4) rfl rfl (by decide) rfl (fun ls hl => ?_)
        refine lv_iload hx hb dX7_lost_80 (lv_at hl 5 rfl) ?_
        refine lv_bipush (v := 10) hx hb dX7_lost_82 (by decide) ?_
        refine lv_imul hx hb dX7_lost_84 ?_
        refine lv_istore (lv' := [(5, .int (x5 * 10)), (4, .int (x4 + 1)), (0, .ref (A q)), (1, .int x1), (2, .int x2), (3, .int x3), (6, .int x6)]) hx hb dX7_lost_85 hl (by decide) rfl (fun ls hl => ?_)
        refine lv_iload hx hb dX7_lost_87 (lv_at hl 6 rfl) ?_
        refine lv_iconst (v := 2) hx hb dX7_lost_89 (by decide) ?_
        refine lv_idiv hx hb dX7_lost_90 (by decide) ?_
        refine lv_istore (lv' := [(6, .int (x6 / 2)), (5, .int (x5 * 10)), (4, .int (x4 + 1)), (0, .ref (A q)), (1, .int x1), (2, .int x2), (3, .int x3)]) hx hb dX7_lost_91 hl (by decide) rfl (fun ls hl => ?_)
        refine lv_goto (tgt := 49) hx hb dX7_lost_93 (by decide) ?_
        have h40 := sm_at m39 (by omega) h18
        have h41 := sm_at m39 (by omega) h19
        have h42 := sm_at m39 (by omega) h20
        have h43 := sm_at m39 (by omega) h21
        have h44 := sm_at m39 (by omega) h22
        have h45 := sm_at m39 (by omega) h23
        have h46 := sm_at m39 (by omega) h24
        have h47 := sm_at m39 (by omega) h25
        have h48 := sm_at m39 (by omega) h26
        have h49 := sm_at m39 (by omega) h27
        have h50 := sm_at m39 (by omega) h28
        have h51 := sm_at m39 (by omega) h29
        have h52 := sm_at m39 (by omega) h30
        have h53 := sm_at m39 (by omega) h32
        have h54 : is_Y k A u37 (q) st past image imagePast tape laneOf sizeOf items least costs hops comes (upd chain (Int32.toNatClampNeg x4) x6) told acts imageActs tapeMany readAt := ⟨h40, h41, h42, h43, h44, h45, h46, h47, h48, h49, h50, h51, h52, h38, h53⟩
        exact ih (upd chain (Int32.toNatClampNeg x4) x6) (x4 + 1) (x5 * 10) (x6 / 2) _ _ _ _ hf h54 hsm hP hD hS (lv_sub hl [3, 4, 5, 6, 2, 1, 0] rfl)

set_option maxHeartbeats 4000000 in
set_option maxRecDepth 100000 in
theorem cz_X7_lost (l : Launch) (D : va_G) (k : kt_T) (A : Nat → Nat) (ws : va_W) (q : Nat)  (st : Nat → Int32) (past : Nat → Int32) (image : Nat → Int32) (imagePast : Nat → Int32) (tape : Nat → Int32) (laneOf : Nat → Int32) (sizeOf : Nat → Int32) (items : Nat → Int64) (least : Nat → Int32) (costs : Nat → Int32) (hops : Nat → Int32) (comes : Nat → Int32) (chain : Nat → Int32) (told : Nat → Int32) (acts : Int32) (imageActs : Int32) (tapeMany : Int32) (readAt : Int32) (p1 : Int32) (p2 : Int32) (p3 : Int32) (out : Int32 × (Nat → Int32)) (hf : pf_X7_lost st chain p1 p2 p3 = some out) (h_this : is_Y k A ws q st past image imagePast tape laneOf sizeOf items least costs hops comes chain told acts imageActs tapeMany readAt)  (sz0 : Nat) : Met l yX7_lost wsX7_lost { frames := 3, cells := 0, slots := 0, locals := 79 } (va_Pc [.ref (A q), .int p1, .int p2, .int p3] (px_P D k ws sz0)) (qw_Q D ws sz0 (some (.int out.1)) (fun u => is_Y k A u q st past image imagePast tape laneOf sizeOf items least costs hops comes out.2 told acts imageActs tapeMany readAt ∧ sm_W ws u q (q + 15))) 0 0 (va_A ws sz0) := by
  refine Met.ofW (cc := cX7_lost) (maxL := 10) (ret := (some .int)) (by decide) rfl ?_
  intro p e s m args below meth c s₁ B hml hv
  obtain ⟨rfl, hsz, hP, hK, hD0⟩ := hv
  subst hsz
  have hD := hD0.self (sz := s.heap.size)
  have C0 : cx_P p s m meth c [.ref (A q), .int p1, .int p2, .int p3].toArray cX7_lost 10 wsX7_lost RX7 (some .int) := ⟨B.exec, B.bytes, hml, findClass_of_methodNamed B.named, atoms_spec (ws := wsX7_lost) B.pre, B.returns, B.notSynchronized⟩
  obtain ⟨hx, hb, hml, hown, hts, hr, hlocks⟩ := id C0
  have hcf : CallFix p m c cX7_lost 10 s [.ref (A q), .int p1, .int p2, .int p3].toArray wsX7_lost RX7 := ⟨hx, hb, hml, hown, hts⟩
  have hA : ∀ q, s.heap.size ≤ q → va_A ws s.heap.size q := fun q h => Or.inr h
  have hS : va_S (va_A ws s.heap.size) s.heap s.heap [] := va_S.rf
  have hsm : sm_W ws ws q (q + 15) := sm_rf
  have w_0 := hts (.constantLong RX7 88 (255)) (List.mem_of_getElem? (i := 1) rfl)
  have w_1 := hts (.constantLong RX7 155 (10)) (List.mem_of_getElem? (i := 2) rfl)
  have hl := lv_entry ([.ref (A q), .int p1, .int p2, .int p3]) (n := 10) (Nat.le_of_ble_eq_true rfl)
  rw [lg_entry_eq]
  generalize (lg_sl ([.ref (A q), .int p1, .int p2, .int p3]) ++ List.replicate (10 - (lg_sl ([.ref (A q), .int p1, .int p2, .int p3])).length) Slot.unset).toArray = ls at hl ⊢
  have hl : lv_has ls 10 [(0, .ref (A q)), (1, .int p1), (2, .int p2), (3, .int p3)] := hl
  unfold pf_X7_lost at hf
  refine lv_iload_n hx hb dX7_lost_0 rfl (lv_at hl 1 rfl) ?_
  refine lv_i2l hx hb dX7_lost_1 rfl ?_
  refine lv_lconst (v := 0) hx hb dX7_lost_2 (by decide) ?_
  refine lv_ldc2 hx hb hown w_0 dX7_lost_3 ?_
  obtain ⟨r1, h2, hf⟩ := bd_s hf
  refine ks_i (va_runS (As := [.long (Int32.toInt64 p1), .long 0, .long 255]) (rest := []) hcf (cz_X7_in l D k A ws (Int32.toInt64 p1) 0 255 r1 h2) (va_cwS 3 hts gX7_lost_X7_in rfl rfl rfl (by decide +kernel) ⟨Nat.le_of_ble_eq_true rfl, Nat.le_of_ble_eq_true rfl⟩) (pw_S hP hK hD) rfl rfl hl.1 rfl (lv_room (Nat.le_of_ble_eq_true rfl)) dX7_lost_6 ⟨Nat.zero_le _, Nat.zero_le _⟩) ?_
  refine lv_if_eq (tgt := 34) hx hb dX7_lost_9 (by decide) (fun c3 => ?_) (fun c3 => ?_)
  · have hf := it_p c3 hf
    refine lv_iconst (v := (-1)) hx hb dX7_lost_34 (by decide) ?_
    obtain rfl := so_i hf
    exact W.iret (v := (-1)) hx hb hr (qw_end hS hP hD ⟨h_this, hsm⟩) hS.2.2 dX7_lost_35
  · have hf := it_n c3 hf
    refine lv_iload_n hx hb dX7_lost_12 rfl (lv_at hl 2 rfl) ?_
    refine lv_i2l hx hb dX7_lost_13 rfl ?_
    refine lv_lconst (v := 0) hx hb dX7_lost_14 (by decide) ?_
    refine lv_ldc2 hx hb hown w_1 dX7_lost_15 ?_
    obtain ⟨r4, h5, hf⟩ := bd_s hf
    refine ks_i (va_runS (As := [.long (Int32.toInt64 p2), .long 0, .long 10]) (rest := []) hcf (cz_X7_in l D k A ws (Int32.toInt64 p2) 0 10 r4 h5) (va_cwS 3 hts gX7_lost_X7_in rfl rfl rfl (by decide +kernel) ⟨Nat.le_of_ble_eq_true rfl, Nat.le_of_ble_eq_true rfl⟩) (pw_S hP hK hD) rfl rfl hl.1 rfl (lv_room (Nat.le_of_ble_eq_true rfl)) dX7_lost_18 ⟨Nat.zero_le _, Nat.zero_le _⟩) ?_
    refine lv_if_eq (tgt := 34) hx hb dX7_lost_21 (by decide) (fun c6 => ?_) (fun c6 => ?_)
    · have hf := it_p c6 hf
      refine lv_iconst (v := (-1)) hx hb dX7_lost_34 (by decide) ?_
      obtain rfl := so_i hf
      exact W.iret (v := (-1)) hx hb hr (qw_end hS hP hD ⟨h_this, hsm⟩) hS.2.2 dX7_lost_35
    · have hf := it_n c6 hf
      refine lv_iload_n hx hb dX7_lost_24 rfl (lv_at hl 3 rfl) ?_
      refine lv_i2l hx hb dX7_lost_25 rfl ?_
      refine lv_lconst (v := 0) hx hb dX7_lost_26 (by decide) ?_
      refine lv_lconst (v := 1) hx hb dX7_lost_27 (by decide) ?_
      obtain ⟨r7, h8, hf⟩ := bd_s hf
      refine ks_i (va_runS (As := [.long (Int32.toInt64 p3), .long 0, .long 1]) (rest := []) hcf (cz_X7_in l D k A ws (Int32.toInt64 p3) 0 1 r7 h8) (va_cwS 3 hts gX7_lost_X7_in rfl rfl rfl (by decide +kernel) ⟨Nat.le_of_ble_eq_true rfl, Nat.le_of_ble_eq_true rfl⟩) (pw_S hP hK hD) rfl rfl hl.1 rfl (lv_room (Nat.le_of_ble_eq_true rfl)) dX7_lost_28 ⟨Nat.zero_le _, Nat.zero_le _⟩) ?_
      refine lv_if_ne (tgt := 36) hx hb dX7_lost_31 (by decide) (fun c9 => ?_) (fun c9 => ?_)
      · have hf := it_n c9 hf
        refine lv_iconst (v := 0) hx hb dX7_lost_36 (by decide) ?_
        refine lv_istore (lv' := [(4, .int 0), (0, .ref (A q)), (1, .int p1), (2, .int p2), (3, .int p3)]) hx hb dX7_lost_37 hl (by decide) rfl (fun ls hl => ?_)
        refine lv_iconst (v := 1) hx hb dX7_lost_39 (by decide) ?_
        refine lv_istore (lv' := [(5, .int 1), (4, .int 0), (0, .ref (A q)), (1, .int p1), (2, .int p2), (3, .int p3)]) hx hb dX7_lost_40 hl (by decide) rfl (fun ls hl => ?_)
        refine lv_sipush (v := 256) hx hb dX7_lost_42 (by decide) ?_
        refine lv_iload_n hx hb dX7_lost_45 rfl (lv_at hl 3 rfl) ?_
        refine lv_iadd hx hb dX7_lost_46 ?_
        refine lv_istore (lv' := [(6, .int (256 + p1)), (5, .int 1), (4, .int 0), (0, .ref (A q)), (1, .int p1), (2, .int p2), (3, .int p3)]) hx hb dX7_lost_47 hl (by decide) rfl (fun ls hl => ?_)
        exact wl_X7_lost_49 l D k A ws q _ hK C0 st past image imagePast tape laneOf sizeOf items least costs hops comes told acts imageActs tapeMany readAt p1 p2 p3 fu_N chain 0 1 (256 + p1) _ _ _ _ hf h_this hsm hP hD hS (lv_sub hl [3, 4, 5, 6, 2, 1, 0] rfl)
      · have hf := it_p c9 hf
        refine lv_iconst (v := (-1)) hx hb dX7_lost_34 (by decide) ?_
        obtain rfl := so_i hf
        exact W.iret (v := (-1)) hx hb hr (qw_end hS hP hD ⟨h_this, hsm⟩) hS.2.2 dX7_lost_35

