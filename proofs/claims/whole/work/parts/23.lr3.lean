theorem in_X6_type_X6 : ∀ w ∈ u_ws RX6 TX6 7, w ∈ wsX6_type := fun w h => List.mem_cons_of_mem _ (List.mem_append_left _ (List.mem_append_right _ h))
def pf_X6_type (t_letters : Nat → Int32) (t_size : Int32)  (p1 : Int32) : Option (Int32 × (Nat → Int32) × Int32) :=
  if p1 < 32 then
    some ((-1), t_letters, t_size)
  else
    if p1 ≤ 126 then
      (pf_X4_addLetter t_letters t_size p1).bind (fun r9 =>
        some (r9.1, r9.2.1, r9.2.2))
    else
      some ((-1), t_letters, t_size)

set_option maxHeartbeats 4000000 in
set_option maxRecDepth 100000 in
theorem cz_X6_type (l : Launch) (D : va_G) (k : kt_T) (A : Nat → Nat) (ws : va_W) (q : Nat)  (h_now_told_pl : Nat → Int64) (h_now_told_sz : Int32) (h_now_inUse_pl : Nat → Int64) (h_now_inUse_sz : Int32) (h_now_draw : Int32) (h_kn : Nat → mm_T) (h_size : Int32) (k_now_told_pl : Nat → Int64) (k_now_told_sz : Int32) (k_now_inUse_pl : Nat → Int64) (k_now_inUse_sz : Int32) (k_now_draw : Int32) (k_kn : Nat → mm_T) (k_size : Int32) (v_sent : Nat → Int32) (v_sentI : Nat → Int32) (v_best : Nat → Int32) (v_ease : Nat → Int32) (v_fromA : Nat → Int32) (v_vi_pl : Nat → Int64) (v_vi_sz : Int32) (v_vl_pl : Nat → Int64) (v_vl_sz : Int32) (t_letters : Nat → Int32) (t_tt_pl : Nat → Int64) (t_tt_sz : Int32) (t_size : Int32) (t_place : Int32) (t_number : Int32) (sh : Nat → ss_T) (hasImage : Int32) (viewIsOld : Int32) (p1 : Int32) (out : Int32 × (Nat → Int32) × Int32) (hf : pf_X6_type t_letters t_size p1 = some out) (h_this : is_X k A ws q h_now_told_pl h_now_told_sz h_now_inUse_pl h_now_inUse_sz h_now_draw h_kn h_size k_now_told_pl k_now_told_sz k_now_inUse_pl k_now_inUse_sz k_now_draw k_kn k_size v_sent v_sentI v_best v_ease v_fromA v_vi_pl v_vi_sz v_vl_pl v_vl_sz t_letters t_tt_pl t_tt_sz t_size t_place t_number sh hasImage viewIsOld)  (sz0 : Nat) : Met l yX6_type wsX6_type { frames := 1, cells := 0, slots := 0, locals := 21 } (va_Pc [.ref (A q), .int p1] (px_P D k ws sz0)) (qw_Q D ws sz0 (some (.int out.1)) (fun u => is_X k A u q h_now_told_pl h_now_told_sz h_now_inUse_pl h_now_inUse_sz h_now_draw h_kn h_size k_now_told_pl k_now_told_sz k_now_inUse_pl k_now_inUse_sz k_now_draw k_kn k_size v_sent v_sentI v_best v_ease v_fromA v_vi_pl v_vi_sz v_vl_pl v_vl_sz out.2.1 t_tt_pl t_tt_sz out.2.2 t_place t_number sh hasImage viewIsOld ∧ sm_W ws u q (q + 98))) 0 0 (va_A ws sz0) := by
  refine Met.ofW (cc := cX6_type) (maxL := 2) (ret := (some .int)) (by decide) rfl ?_
  intro p e s m args below meth c s₁ B hml hv
  obtain ⟨rfl, hsz, hP, hK, hD0⟩ := hv
  subst hsz
  have hD := hD0.self (sz := s.heap.size)
  have C0 : cx_P p s m meth c [.ref (A q), .int p1].toArray cX6_type 2 wsX6_type RX6 (some .int) := ⟨B.exec, B.bytes, hml, findClass_of_methodNamed B.named, atoms_spec (ws := wsX6_type) B.pre, B.returns, B.notSynchronized⟩
  obtain ⟨hx, hb, hml, hown, hts, hr, hlocks⟩ := id C0
  have hcf : CallFix p m c cX6_type 2 s [.ref (A q), .int p1].toArray wsX6_type RX6 := ⟨hx, hb, hml, hown, hts⟩
  have hA : ∀ q, s.heap.size ≤ q → va_A ws s.heap.size q := fun q h => Or.inr h
  have hS : va_S (va_A ws s.heap.size) s.heap s.heap [] := va_S.rf
  have hsm : sm_W ws ws q (q + 98) := sm_rf
  have w_0 := hts (.fieldLink RX6 29 "LeastRoutes" "tape" "LLeastRoutes$Tape;") (List.mem_of_getElem? (i := 1) rfl)
  have hl := lv_entry ([.ref (A q), .int p1]) (n := 2) (Nat.le_of_ble_eq_true rfl)
  rw [lg_entry_eq]
  generalize (lg_sl ([.ref (A q), .int p1]) ++ List.replicate (2 - (lg_sl ([.ref (A q), .int p1])).length) Slot.unset).toArray = ls at hl ⊢
  have hl : lv_has ls 2 [(0, .ref (A q)), (1, .int p1)] := hl
  unfold pf_X6_type at hf
  refine lv_iload_n hx hb dX6_type_0 rfl (lv_at hl 1 rfl) ?_
  refine lv_bipush (v := 32) hx hb dX6_type_1 (by decide) ?_
  refine lv_icmp_lt (tgt := 12) hx hb dX6_type_3 (by decide) (fun c1 => ?_) (fun c1 => ?_)
  · have hf := it_p c1 hf
    refine lv_iconst (v := (-1)) hx hb dX6_type_12 (by decide) ?_
    obtain rfl := so_i hf
    exact W.iret (v := (-1)) hx hb hr (qw_end hS hP hD ⟨h_this, hsm⟩) hS.2.2 dX6_type_13
  · have hf := it_n c1 hf
    refine lv_iload_n hx hb dX6_type_6 rfl (lv_at hl 1 rfl) ?_
    refine lv_bipush (v := 126) hx hb dX6_type_7 (by decide) ?_
    refine lv_icmp_le (tgt := 14) hx hb dX6_type_9 (by decide) (fun c2 => ?_) (fun c2 => ?_)
    · have hf := it_p c2 hf
      refine lv_aload_n hx hb dX6_type_14 rfl (lv_at hl 0 rfl) ?_
      obtain ⟨h3, h4, h5, h6, h7, h8⟩ := h_this
      refine va_get (D := D) (ci := 6) (v := .ref (A (q + 85))) (C := RX6) (T := TX6) (N := 7) hx hb hts in_X6_type_X6 hown hK.1 hP (q) h3 rfl 3 (by decide) w_0 (fun _ h9 => h9) rfl dX6_type_15 ?_
      refine lv_iload_n hx hb dX6_type_18 rfl (lv_at hl 1 rfl) ?_
      obtain ⟨r9, h10, hf⟩ := bd_s hf
      refine kw_i (va_runV (As := [.int p1]) (rest := []) hcf (cz_X4_addLetter l D k A ws (q + 85) t_letters t_tt_pl t_tt_sz t_size t_place t_number p1 r9 h10 h7 _) (cwV 1 hts gX6_type_X4_addLetter rfl rfl rfl (by decide +kernel) ⟨Nat.le_of_ble_eq_true rfl, Nat.le_of_ble_eq_true rfl⟩) (px_V hP hK hD (ci := 4) h7.1 rfl) rfl rfl hl.1 rfl (lv_room (Nat.le_of_ble_eq_true rfl)) dX6_type_19 ⟨Nat.zero_le _, Nat.zero_le _⟩) hD hS hA (fun u11 _ _ h12 hP hD hS => ?_)
      obtain ⟨h14, m13⟩ := h12
      have hsm := sm_tr hsm m13 (by omega) (by omega)
      obtain rfl := so_i hf
      have h15 := sm_at m13 (by omega) h3
      have h16 := is_H_tr h4 m13 (by omega)
      have h17 := is_H_tr h5 m13 (by omega)
      have h18 := is_V_tr h6 m13 (by omega)
      have h19 := is_Z_tr h8 m13 (by omega)
      have h20 : is_X k A u11 (q) h_now_told_pl h_now_told_sz h_now_inUse_pl h_now_inUse_sz h_now_draw h_kn h_size k_now_told_pl k_now_told_sz k_now_inUse_pl k_now_inUse_sz k_now_draw k_kn k_size v_sent v_sentI v_best v_ease v_fromA v_vi_pl v_vi_sz v_vl_pl v_vl_sz r9.2.1 t_tt_pl t_tt_sz r9.2.2 t_place t_number sh hasImage viewIsOld := ⟨h15, h16, h17, h18, h14, h19⟩
      exact W.iret (v := r9.1) hx hb hr (qw_end hS hP hD ⟨h20, hsm⟩) hS.2.2 dX6_type_22
    · have hf := it_n c2 hf
      refine lv_iconst (v := (-1)) hx hb dX6_type_12 (by decide) ?_
      obtain rfl := so_i hf
      exact W.iret (v := (-1)) hx hb hr (qw_end hS hP hD ⟨h_this, hsm⟩) hS.2.2 dX6_type_13

theorem in_X6_read_X6 : ∀ w ∈ u_ws RX6 TX6 7, w ∈ wsX6_read := fun w h => List.mem_cons_of_mem _ (List.mem_append_left _ (List.mem_append_left _ (List.mem_append_left _ (List.mem_append_left _ (List.mem_append_right _ h)))))
def pf_X6_read (h_now_told_pl : Nat → Int64) (h_now_told_sz : Int32) (h_now_inUse_pl : Nat → Int64) (h_now_inUse_sz : Int32) (h_now_draw : Int32) (h_kn : Nat → mm_T) (h_size : Int32) (t_letters : Nat → Int32) (t_tt_pl : Nat → Int64) (t_tt_sz : Int32) (t_size : Int32) (t_place : Int32) (t_number : Int32) (viewIsOld : Int32)   : Option (Int32 × (Nat → Int64) × Int32 × (Nat → mm_T) × Int32 × (Nat → Int64) × Int32 × Int32 × Int32 × Int32 × Int32) :=
  (pf_X4_parse t_letters t_tt_pl t_tt_sz t_size t_place t_number).bind (fun r7 =>
    (pf_X4_makeEmpty t_size).bind (fun r14 =>
      if r7.1 = (-4) then
        (pf_X6_beginStep h_now_told_pl h_now_told_sz h_now_inUse_pl h_now_inUse_sz h_now_draw h_kn h_size viewIsOld).bind (fun r31 =>
          (pf_X3_takeFrom h_now_told_pl h_now_told_sz r7.2.1 r7.2.2.1).bind (fun r56 =>
            (pf_X3_howMany r56.2).bind (fun r67 =>
              some (r67, r56.1, r56.2, r31.1, r31.2.1, r7.2.1, r7.2.2.1, r14, r7.2.2.2.1, r7.2.2.2.2, r31.2.2))))
      else
        some (((-20) - r7.1), h_now_told_pl, h_now_told_sz, h_kn, h_size, r7.2.1, r7.2.2.1, r14, r7.2.2.2.1, r7.2.2.2.2, viewIsOld)))

set_option maxHeartbeats 4000000 in
set_option maxRecDepth 100000 in
theorem cz_X6_read (l : Launch) (D : va_G) (k : kt_T) (A : Nat → Nat) (ws : va_W) (q : Nat)  (h_now_told_pl : Nat → Int64) (h_now_told_sz : Int32) (h_now_inUse_pl : Nat → Int64) (h_now_inUse_sz : Int32) (h_now_draw : Int32) (h_kn : Nat → mm_T) (h_size : Int32) (k_now_told_pl : Nat → Int64) (k_now_told_sz : Int32) (k_now_inUse_pl : Nat → Int64) (k_now_inUse_sz : Int32) (k_now_draw : Int32) (k_kn : Nat → mm_T) (k_size : Int32) (v_sent : Nat → Int32) (v_sentI : Nat → Int32) (v_best : Nat → Int32) (v_ease : Nat → Int32) (v_fromA : Nat → Int32) (v_vi_pl : Nat → Int64) (v_vi_sz : Int32) (v_vl_pl : Nat → Int64) (v_vl_sz : Int32) (t_letters : Nat → Int32) (t_tt_pl : Nat → Int64) (t_tt_sz : Int32) (t_size : Int32) (t_place : Int32) (t_number : Int32) (sh : Nat → ss_T) (hasImage : Int32) (viewIsOld : Int32)  (out : Int32 × (Nat → Int64) × Int32 × (Nat → mm_T) × Int32 × (Nat → Int64) × Int32 × Int32 × Int32 × Int32 × Int32) (hf : pf_X6_read h_now_told_pl h_now_told_sz h_now_inUse_pl h_now_inUse_sz h_now_draw h_kn h_size t_letters t_tt_pl t_tt_sz t_size t_place t_number viewIsOld = some out) (h_this : is_X k A ws q h_now_told_pl h_now_told_sz h_now_inUse_pl h_now_inUse_sz h_now_draw h_kn h_size k_now_told_pl k_now_told_sz k_now_inUse_pl k_now_inUse_sz k_now_draw k_kn k_size v_sent v_sentI v_best v_ease v_fromA v_vi_pl v_vi_sz v_vl_pl v_vl_sz t_letters t_tt_pl t_tt_sz t_size t_place t_number sh hasImage viewIsOld)  (sz0 : Nat) : Met l yX6_read wsX6_read { frames := 5, cells := 0, slots := 0, locals := 142 } (va_Pc [.ref (A q)] (px_P D k ws sz0)) (qw_Q D ws sz0 (some (.int out.1)) (fun u => is_X k A u q out.2.1 out.2.2.1 h_now_inUse_pl h_now_inUse_sz h_now_draw out.2.2.2.1 out.2.2.2.2.1 k_now_told_pl k_now_told_sz k_now_inUse_pl k_now_inUse_sz k_now_draw k_kn k_size v_sent v_sentI v_best v_ease v_fromA v_vi_pl v_vi_sz v_vl_pl v_vl_sz t_letters out.2.2.2.2.2.1 out.2.2.2.2.2.2.1 out.2.2.2.2.2.2.2.1 out.2.2.2.2.2.2.2.2.1 out.2.2.2.2.2.2.2.2.2.1 sh hasImage out.2.2.2.2.2.2.2.2.2.2 ∧ sm_W ws u q (q + 98))) 0 0 (va_A ws sz0) := by
  refine Met.ofW (cc := cX6_read) (maxL := 2) (ret := (some .int)) (by decide) rfl ?_
  intro p e s m args below meth c s₁ B hml hv
  obtain ⟨rfl, hsz, hP, hK, hD0⟩ := hv
  subst hsz
  have hD := hD0.self (sz := s.heap.size)
  have C0 : cx_P p s m meth c [.ref (A q)].toArray cX6_read 2 wsX6_read RX6 (some .int) := ⟨B.exec, B.bytes, hml, findClass_of_methodNamed B.named, atoms_spec (ws := wsX6_read) B.pre, B.returns, B.notSynchronized⟩
  obtain ⟨hx, hb, hml, hown, hts, hr, hlocks⟩ := id C0
  have hcf : CallFix p m c cX6_read 2 s [.ref (A q)].toArray wsX6_read RX6 := ⟨hx, hb, hml, hown, hts⟩
  have hA : ∀ q, s.heap.size ≤ q → va_A ws s.heap.size q := fun q h => Or.inr h
  have hS : va_S (va_A ws s.heap.size) s.heap s.heap [] := va_S.rf
  have hsm : sm_W ws ws q (q + 98) := sm_rf
  have w_0 := hts (.fieldLink RX6 29 "LeastRoutes" "tape" "LLeastRoutes$Tape;") (List.mem_of_getElem? (i := 1) rfl)
  have hl := lv_entry ([.ref (A q)]) (n := 2) (Nat.le_of_ble_eq_true rfl)
  rw [lg_entry_eq]
  generalize (lg_sl ([.ref (A q)]) ++ List.replicate (2 - (lg_sl ([.ref (A q)])).length) Slot.unset).toArray = ls at hl ⊢
  have hl : lv_has ls 2 [(0, .ref (A q))] := hl
  unfold pf_X6_read at hf
  refine lv_aload_n hx hb dX6_read_0 rfl (lv_at hl 0 rfl) ?_
  obtain ⟨h1, h2, h3, h4, h5, h6⟩ := h_this
  refine va_get (D := D) (ci := 6) (v := .ref (A (q + 85))) (C := RX6) (T := TX6) (N := 7) hx hb hts in_X6_read_X6 hown hK.1 hP (q) h1 rfl 3 (by decide) w_0 (fun _ h9 => h9) rfl dX6_read_1 ?_
  obtain ⟨r7, h8, hf⟩ := bd_s hf
  refine kw_i (va_runV (As := []) (rest := []) hcf (cz_X4_parse l D k A ws (q + 85) t_letters t_tt_pl t_tt_sz t_size t_place t_number r7 h8 h5 _) (cwV 0 hts gX6_read_X4_parse rfl rfl rfl (by decide +kernel) ⟨Nat.le_of_ble_eq_true rfl, Nat.le_of_ble_eq_true rfl⟩) (px_V hP hK hD (ci := 4) h5.1 rfl) rfl rfl hl.1 rfl (lv_room (Nat.le_of_ble_eq_true rfl)) dX6_read_4 ⟨Nat.zero_le _, Nat.zero_le _⟩) hD hS hA (fun u9 _ _ h10 hP hD hS => ?_)
  obtain ⟨h12, m11⟩ := h10
  have hsm := sm_tr hsm m11 (by omega) (by omega)
  refine lv_istore_n (lv' := [(1, .int r7.1), (0, .ref (A q))]) hx hb dX6_read_7 rfl hl (by decide) rfl (fun ls hl => ?_)
  refine lv_aload_n hx hb dX6_read_8 rfl (lv_at hl 1 rfl) ?_
  have h13 := sm_at m11 (by omega) h1
  refine va_get (D := D) (ci := 6) (v := .ref (A (q + 85))) (C := RX6) (T := TX6) (N := 7) hx hb hts in_X6_read_X6 hown hK.1 hP (q) h13 rfl 3 (by decide) w_0 (fun _ h9 => h9) rfl dX6_read_9 ?_
  obtain ⟨r14, h15, hf⟩ := bd_s hf
  refine kw_v (va_runV (As := []) (rest := []) hcf (cz_X4_makeEmpty l D k A u9 (q + 85) t_letters r7.2.1 r7.2.2.1 t_size r7.2.2.2.1 r7.2.2.2.2 r14 h15 h12 _) (cwV 0 hts gX6_read_X4_makeEmpty rfl rfl rfl (by decide +kernel) ⟨Nat.le_of_ble_eq_true rfl, Nat.le_of_ble_eq_true rfl⟩) (px_V hP hK hD (ci := 4) h12.1 rfl) rfl rfl hl.1 rfl (lv_room (Nat.le_of_ble_eq_true rfl)) dX6_read_12 ⟨Nat.zero_le _, Nat.zero_le _⟩) hD hS hA (fun u16 _ _ h17 hP hD hS => ?_)
  obtain ⟨h19, m18⟩ := h17
  have hsm := sm_tr hsm m18 (by omega) (by omega)
  refine lv_iload_n hx hb dX6_read_15 rfl (lv_at hl 0 rfl) ?_
  refine lv_bipush (v := (-4)) hx hb dX6_read_16 (by decide) ?_
  refine lv_icmp_eq (tgt := 26) hx hb dX6_read_18 (by decide) (fun c20 => ?_) (fun c20 => ?_)
  · have hf := it_p c20 hf
    refine lv_aload_n hx hb dX6_read_26 rfl (lv_at hl 1 rfl) ?_
    have h21 := sm_at m18 (by omega) h13
    have h22 := is_H_tr h2 m11 (by omega)
    have h23 := is_H_tr h22 m18 (by omega)
    have h24 := is_H_tr h3 m11 (by omega)
    have h25 := is_H_tr h24 m18 (by omega)
    have h26 := is_V_tr h4 m11 (by omega)
    have h27 := is_V_tr h26 m18 (by omega)
    have h28 := is_Z_tr h6 m11 (by omega)
    have h29 := is_Z_tr h28 m18 (by omega)
    have h30 : is_X k A u16 (q) h_now_told_pl h_now_told_sz h_now_inUse_pl h_now_inUse_sz h_now_draw h_kn h_size k_now_told_pl k_now_told_sz k_now_inUse_pl k_now_inUse_sz k_now_draw k_kn k_size v_sent v_sentI v_best v_ease v_fromA v_vi_pl v_vi_sz v_vl_pl v_vl_sz t_letters r7.2.1 r7.2.2.1 r14 r7.2.2.2.1 r7.2.2.2.2 sh hasImage viewIsOld := ⟨h21, h23, h25, h27, h19, h29⟩
    obtain ⟨r31, h32, hf⟩ := bd_s hf
    refine kw_v (va_runV (As := []) (rest := []) hcf (cz_X6_beginStep l D k A u16 (q) h_now_told_pl h_now_told_sz h_now_inUse_pl h_now_inUse_sz h_now_draw h_kn h_size k_now_told_pl k_now_told_sz k_now_inUse_pl k_now_inUse_sz k_now_draw k_kn k_size v_sent v_sentI v_best v_ease v_fromA v_vi_pl v_vi_sz v_vl_pl v_vl_sz t_letters r7.2.1 r7.2.2.1 r14 r7.2.2.2.1 r7.2.2.2.2 sh hasImage viewIsOld r31 h32 h30 _) (cwV 0 hts gX6_read_X6_beginStep rfl rfl rfl (by decide +kernel) ⟨Nat.le_of_ble_eq_true rfl, Nat.le_of_ble_eq_true rfl⟩) (px_V hP hK hD (ci := 6) h30.1 rfl) rfl rfl hl.1 rfl (lv_room (Nat.le_of_ble_eq_true rfl)) dX6_read_27 ⟨Nat.zero_le _, Nat.zero_le _⟩) hD hS hA (fun u33 _ _ h34 hP hD hS => ?_)
    obtain ⟨h36, m35⟩ := h34
    have hsm := sm_tr hsm m35 (by omega) (by omega)
    refine lv_aload_n hx hb dX6_read_30 rfl (lv_at hl 1 rfl) ?_
    obtain ⟨h37, h38, h39, h40, h41, h42⟩ := h36
    obtain ⟨h43, h44, h45⟩ := h38
    obtain ⟨h46, h47, h48⟩ := h44
    refine ks_r (va_runV (As := []) (rest := []) hcf (cz_X6_table l D k A u33 (q) hasImage r31.2.2 r31.2.1 h_now_draw h37 h43 h46) (cwV 0 hts gX6_read_X6_table rfl rfl rfl (by decide +kernel) ⟨Nat.le_of_ble_eq_true rfl, Nat.le_of_ble_eq_true rfl⟩) (pw_V hP hK hD (ci := 6) h37 rfl) rfl rfl hl.1 rfl (lv_room (Nat.le_of_ble_eq_true rfl)) dX6_read_31 ⟨Nat.zero_le _, Nat.zero_le _⟩) ?_
    refine lv_aload_n hx hb dX6_read_34 rfl (lv_at hl 1 rfl) ?_
    refine va_get (D := D) (ci := 6) (v := .ref (A (q + 85))) (C := RX6) (T := TX6) (N := 7) hx hb hts in_X6_read_X6 hown hK.1 hP (q) h37 rfl 3 (by decide) w_0 (fun _ h9 => h9) rfl dX6_read_35 ?_
    obtain ⟨h51, h52, h53⟩ := h41
    refine ks_r (va_runV (As := []) (rest := [.ref (A (q + 1 + 1 + 1))]) hcf (cz_X4_toldTable l D k A u33 (q + 85) r14 r7.2.2.2.1 r7.2.2.2.2 h51) (cwV 0 hts gX6_read_X4_toldTable rfl rfl rfl (by decide +kernel) ⟨Nat.le_of_ble_eq_true rfl, Nat.le_of_ble_eq_true rfl⟩) (pw_V hP hK hD (ci := 4) h51 rfl) rfl rfl hl.1 rfl (lv_room (Nat.le_of_ble_eq_true rfl)) dX6_read_38 ⟨Nat.zero_le _, Nat.zero_le _⟩) ?_
    obtain ⟨r56, h57, hf⟩ := bd_s hf
    refine kw_v (va_runV (As := [.ref (A (q + 85 + 2))]) (rest := []) hcf (cz_X3_takeFrom l D k A u33 (q + 1 + 1 + 1) (q + 85 + 2) h_now_told_pl h_now_told_sz r7.2.1 r7.2.2.1 r56 h57 h47 h53 (by omega) _) (cwV 1 hts gX6_read_X3_takeFrom rfl rfl rfl (by decide +kernel) ⟨Nat.le_of_ble_eq_true rfl, Nat.le_of_ble_eq_true rfl⟩) (px_V hP hK hD (ci := 3) h47.1 rfl) rfl rfl hl.1 rfl (lv_room (Nat.le_of_ble_eq_true rfl)) dX6_read_41 ⟨Nat.zero_le _, Nat.zero_le _⟩) hD hS hA (fun u58 _ _ h59 hP hD hS => ?_)
    obtain ⟨h61, m60⟩ := h59
    have hsm := sm_tr hsm m60 (by omega) (by omega)
    refine lv_aload_n hx hb dX6_read_44 rfl (lv_at hl 1 rfl) ?_
    have h62 := sm_at m60 (by omega) h37
    have h63 := sm_at m60 (by omega) h43
    have h64 := sm_at m60 (by omega) h46
    refine ks_r (va_runV (As := []) (rest := []) hcf (cz_X6_table l D k A u58 (q) hasImage r31.2.2 r31.2.1 h_now_draw h62 h63 h64) (cwV 0 hts gX6_read_X6_table rfl rfl rfl (by decide +kernel) ⟨Nat.le_of_ble_eq_true rfl, Nat.le_of_ble_eq_true rfl⟩) (pw_V hP hK hD (ci := 6) h62 rfl) rfl rfl hl.1 rfl (lv_room (Nat.le_of_ble_eq_true rfl)) dX6_read_45 ⟨Nat.zero_le _, Nat.zero_le _⟩) ?_
    obtain ⟨r67, h68, hf⟩ := bd_s hf
    refine ks_i (va_runV (As := []) (rest := []) hcf (cz_X3_howMany l D k A u58 (q + 1 + 1 + 1) r56.1 r56.2 r67 h68 h61) (cwV 0 hts gX6_read_X3_howMany rfl rfl rfl (by decide +kernel) ⟨Nat.le_of_ble_eq_true rfl, Nat.le_of_ble_eq_true rfl⟩) (pw_V hP hK hD (ci := 3) h61.1 rfl) rfl rfl hl.1 rfl (lv_room (Nat.le_of_ble_eq_true rfl)) dX6_read_48 ⟨Nat.zero_le _, Nat.zero_le _⟩) ?_
    obtain rfl := so_i hf
    have h69 := is_T_tr h48 m60 (by omega)
    have h70 : is_M k A u58 (q + 1 + 1) r56.1 r56.2 h_now_inUse_pl h_now_inUse_sz h_now_draw := ⟨h64, h61, h69⟩
    have h71 := is_K_tr h45 m60 (by omega)
    have h72 : is_H k A u58 (q + 1) r56.1 r56.2 h_now_inUse_pl h_now_inUse_sz h_now_draw r31.1 r31.2.1 := ⟨h63, h70, h71⟩
    have h73 := is_H_tr h39 m60 (by omega)
    have h74 := is_V_tr h40 m60 (by omega)
    have h75 := sm_at m60 (by omega) h51
    have h76 := sm_at m60 (by omega) h52
    have h77 := is_T_tr h53 m60 (by omega)
    have h78 : is_P k A u58 (q + 85) t_letters r7.2.1 r7.2.2.1 r14 r7.2.2.2.1 r7.2.2.2.2 := ⟨h75, h76, h77⟩
    have h79 := is_Z_tr h42 m60 (by omega)
    have h80 : is_X k A u58 (q) r56.1 r56.2 h_now_inUse_pl h_now_inUse_sz h_now_draw r31.1 r31.2.1 k_now_told_pl k_now_told_sz k_now_inUse_pl k_now_inUse_sz k_now_draw k_kn k_size v_sent v_sentI v_best v_ease v_fromA v_vi_pl v_vi_sz v_vl_pl v_vl_sz t_letters r7.2.1 r7.2.2.1 r14 r7.2.2.2.1 r7.2.2.2.2 sh hasImage r31.2.2 := ⟨h62, h72, h73, h74, h78, h79⟩
    exact W.iret (v := r67) hx hb hr (qw_end hS hP hD ⟨h80, hsm⟩) hS.2.2 dX6_read_51
  · have hf := it_n c20 hf
    refine lv_bipush (v := (-20)) hx hb dX6_read_21 (by decide) ?_
    refine lv_iload_n hx hb dX6_read_23 rfl (lv_at hl 0 rfl) ?_
    refine lv_isub hx hb dX6_read_24 ?_
    obtain rfl := so_i hf
    have h81 := sm_at m18 (by omega) h13
    have h82 := is_H_tr h2 m11 (by omega)
    have h83 := is_H_tr h82 m18 (by omega)
    have h84 := is_H_tr h3 m11 (by omega)
    have h85 := is_H_tr h84 m18 (by omega)
    have h86 := is_V_tr h4 m11 (by omega)
    have h87 := is_V_tr h86 m18 (by omega)
    have h88 := is_Z_tr h6 m11 (by omega)
    have h89 := is_Z_tr h88 m18 (by omega)
    have h90 : is_X k A u16 (q) h_now_told_pl h_now_told_sz h_now_inUse_pl h_now_inUse_sz h_now_draw h_kn h_size k_now_told_pl k_now_told_sz k_now_inUse_pl k_now_inUse_sz k_now_draw k_kn k_size v_sent v_sentI v_best v_ease v_fromA v_vi_pl v_vi_sz v_vl_pl v_vl_sz t_letters r7.2.1 r7.2.2.1 r14 r7.2.2.2.1 r7.2.2.2.2 sh hasImage viewIsOld := ⟨h81, h83, h85, h87, h19, h89⟩
    exact W.iret (v := ((-20) - r7.1)) hx hb hr (qw_end hS hP hD ⟨h90, hsm⟩) hS.2.2 dX6_read_25

def lp_X6_drift_15  (h_now_inUse_pl : Nat → Int64) (h_now_inUse_sz : Int32) (x1 : Int32) : Nat → (Nat → Int64) → Int32 → Int32 → (Nat → mm_T) → Int32 → Int32 → Int32 → Option (Int32 × (Nat → Int64) × Int32 × Int32 × (Nat → mm_T) × Int32 × Int32)
  | 0, _, _, _, _, _, _, _ => none
  | n + 1, h_now_told_pl, h_now_told_sz, h_now_draw, h_kn, h_size, viewIsOld, x2 =>
    if x1 ≤ x2 then
      (pf_X3_howMany h_now_told_sz).bind (fun r18 =>
        some (r18, h_now_told_pl, h_now_told_sz, h_now_draw, h_kn, h_size, viewIsOld))
    else
      (pf_X6_beginStep h_now_told_pl h_now_told_sz h_now_inUse_pl h_now_inUse_sz h_now_draw h_kn h_size viewIsOld).bind (fun r23 =>
        (pf_X6_takeTurn h_now_told_pl h_now_told_sz h_now_draw).bind (fun r29 =>
          lp_X6_drift_15 h_now_inUse_pl h_now_inUse_sz x1 n r29.1 r29.2.1 r29.2.2 r23.1 r23.2.1 r23.2.2 (x2 + 1)))

def pf_X6_drift (h_now_told_pl : Nat → Int64) (h_now_told_sz : Int32) (h_now_inUse_pl : Nat → Int64) (h_now_inUse_sz : Int32) (h_now_draw : Int32) (h_kn : Nat → mm_T) (h_size : Int32) (viewIsOld : Int32)  (p1 : Int32) : Option (Int32 × (Nat → Int64) × Int32 × Int32 × (Nat → mm_T) × Int32 × Int32) :=
  if p1 < 1 then
    some ((-1), h_now_told_pl, h_now_told_sz, h_now_draw, h_kn, h_size, viewIsOld)
  else
    if p1 ≤ 40 then
      lp_X6_drift_15 h_now_inUse_pl h_now_inUse_sz p1 fu_N h_now_told_pl h_now_told_sz h_now_draw h_kn h_size viewIsOld 0
    else
      some ((-1), h_now_told_pl, h_now_told_sz, h_now_draw, h_kn, h_size, viewIsOld)

set_option maxHeartbeats 4000000 in
set_option maxRecDepth 100000 in
theorem wl_X6_drift_15 {p : Program} {e : Env} {s : State} {m : MethodId} {args : Array Value} {below : List Frame} {meth : Method} {c : Code} (l : Launch) (D : va_G) (k : kt_T) (A : Nat → Nat) (ws : va_W) (q : Nat)  (out : Int32 × (Nat → Int64) × Int32 × Int32 × (Nat → mm_T) × Int32 × Int32) (hK : kk_P D k s) (C0 : cx_P p s m meth c args cX6_drift 3 wsX6_drift RX6 (some .int))  (h_now_inUse_pl : Nat → Int64) (h_now_inUse_sz : Int32) (k_now_told_pl : Nat → Int64) (k_now_told_sz : Int32) (k_now_inUse_pl : Nat → Int64) (k_now_inUse_sz : Int32) (k_now_draw : Int32) (k_kn : Nat → mm_T) (k_size : Int32) (v_sent : Nat → Int32) (v_sentI : Nat → Int32) (v_best : Nat → Int32) (v_ease : Nat → Int32) (v_fromA : Nat → Int32) (v_vi_pl : Nat → Int64) (v_vi_sz : Int32) (v_vl_pl : Nat → Int64) (v_vl_sz : Int32) (t_letters : Nat → Int32) (t_tt_pl : Nat → Int64) (t_tt_sz : Int32) (t_size : Int32) (t_place : Int32) (t_number : Int32) (sh : Nat → ss_T) (hasImage : Int32) (x1 : Int32)    : ∀ (n : Nat) (h_now_told_pl : Nat → Int64) (h_now_told_sz : Int32) (h_now_draw : Int32) (h_kn : Nat → mm_T) (h_size : Int32) (viewIsOld : Int32) (x2 : Int32) (w : va_W) (H : Heap) (locs : List Loc) (ls : Array Slot), lp_X6_drift_15 h_now_inUse_pl h_now_inUse_sz x1 n h_now_told_pl h_now_told_sz h_now_draw h_kn h_size viewIsOld x2 = some out → is_X k A w q h_now_told_pl h_now_told_sz h_now_inUse_pl h_now_inUse_sz h_now_draw h_kn h_size k_now_told_pl k_now_told_sz k_now_inUse_pl k_now_inUse_sz k_now_draw k_kn k_size v_sent v_sentI v_best v_ease v_fromA v_vi_pl v_vi_sz v_vl_pl v_vl_sz t_letters t_tt_pl t_tt_sz t_size t_place t_number sh hasImage viewIsOld → sm_W ws w q (q + 98) → va_P D vwCl w H → va_D (va_A ws s.heap.size) w → va_S (va_A ws s.heap.size) s.heap H locs → lv_has ls 3 [(0, .ref (A q)), (1, .int x1), (2, .int x2)] → W p l e (headSpec wsX6_drift { frames := 5, cells := 0, slots := 0, locals := 142 }).room s m args below meth c H locs 0 0 (MQ below (qw_Q D ws s.heap.size (some (.int out.1)) (fun u => is_X k A u q out.2.1 out.2.2.1 h_now_inUse_pl h_now_inUse_sz out.2.2.2.1 out.2.2.2.2.1 out.2.2.2.2.2.1 k_now_told_pl k_now_told_sz k_now_inUse_pl k_now_inUse_sz k_now_draw k_kn k_size v_sent v_sentI v_best v_ease v_fromA v_vi_pl v_vi_sz v_vl_pl v_vl_sz t_letters t_tt_pl t_tt_sz t_size t_place t_number sh hasImage out.2.2.2.2.2.2 ∧ sm_W ws u q (q + 98))) args s 0 0 (va_A ws s.heap.size)) (F0 m 15 ls []) := by
  obtain ⟨hx, hb, hml, hown, hts, hr, hlocks⟩ := id C0
  have hcf : CallFix p m c cX6_drift 3 s args wsX6_drift RX6 := ⟨hx, hb, hml, hown, hts⟩
  have hA : ∀ q, s.heap.size ≤ q → va_A ws s.heap.size q := fun q h => Or.inr h
  intro n
  induction n with
  | zero =>
    intro h_now_told_pl h_now_told_sz h_now_draw h_kn h_size viewIsOld x2 w H locs ls hf h_this hsm hP hD hS hl
    exact (no_s hf).elim
  | succ n ih =>
    intro h_now_told_pl h_now_told_sz h_now_draw h_kn h_size viewIsOld x2 w H locs ls hf h_this hsm hP hD hS hl
    rw [lp_X6_drift_15] at hf
    refine lv_iload_n hx hb dX6_drift_15 rfl (lv_at hl 2 rfl) ?_
    refine lv_iload_n hx hb dX6_drift_16 rfl (lv_at hl 1 rfl) ?_
    refine lv_icmp_ge (tgt := 34) hx hb dX6_drift_17 (by decide) (fun c3 => ?_) (fun c3 => ?_)
    · have hf := it_p c3 hf
      refine lv_aload_n hx hb dX6_drift_34 rfl (lv_at hl 0 rfl) ?_
      obtain ⟨h4, h5, h6, h7, h8, h9⟩ := h_this
      obtain ⟨h10, h11, h12⟩ := h5
      obtain ⟨h13, h14, h15⟩ := h11
      refine ks_r (va_runV (As := []) (rest := []) hcf (cz_X6_table l D k A w (q) hasImage viewIsOld h_size h_now_draw h4 h10 h13) (cwV 0 hts gX6_drift_X6_table rfl rfl rfl (by decide +kernel) ⟨Nat.le_of_ble_eq_true rfl, Nat.le_of_ble_eq_true rfl⟩) (pw_V hP hK hD (ci := 6) h4 rfl) rfl rfl hl.1 rfl (lv_room (Nat.le_of_ble_eq_true rfl)) dX6_drift_35 ⟨Nat.zero_le _, Nat.zero_le _⟩) ?_
      obtain ⟨r18, h19, hf⟩ := bd_s hf
      refine ks_i (va_runV (As := []) (rest := []) hcf (cz_X3_howMany l D k A w (q + 1 + 1 + 1) h_now_told_pl h_now_told_sz r18 h19 h14) (cwV 0 hts gX6_drift_X3_howMany rfl rfl rfl (by decide +kernel) ⟨Nat.le_of_ble_eq_true rfl, Nat.le_of_ble_eq_true rfl⟩) (pw_V hP hK hD (ci := 3) h14.1 rfl) rfl rfl hl.1 rfl (lv_room (Nat.le_of_ble_eq_true rfl)) dX6_drift_38 ⟨Nat.zero_le _, Nat.zero_le _⟩) ?_
      obtain rfl := so_i hf
      have h20 : is_M k A w (q + 1 + 1) h_now_told_pl h_now_told_sz h_now_inUse_pl h_now_inUse_sz h_now_draw := ⟨h13, h14, h15⟩
      have h21 : is_H k A w (q + 1) h_now_told_pl h_now_told_sz h_now_inUse_pl h_now_inUse_sz h_now_draw h_kn h_size := ⟨h10, h20, h12⟩
      have h22 : is_X k A w (q) h_now_told_pl h_now_told_sz h_now_inUse_pl h_now_inUse_sz h_now_draw h_kn h_size k_now_told_pl k_now_told_sz k_now_inUse_pl k_now_inUse_sz k_now_draw k_kn k_size v_sent v_sentI v_best v_ease v_fromA v_vi_pl v_vi_sz v_vl_pl v_vl_sz t_letters t_tt_pl t_tt_sz t_size t_place t_number sh hasImage viewIsOld := ⟨h4, h21, h6, h7, h8, h9⟩
      exact W.iret (v := r18) hx hb hr (qw_end hS hP hD ⟨h22, hsm⟩) hS.2.2 dX6_drift_41
    · have hf := it_n c3 hf
      refine lv_aload_n hx hb dX6_drift_20 rfl (lv_at hl 0 rfl) ?_
      obtain ⟨r23, h24, hf⟩ := bd_s hf
      refine kw_v (va_runV (As := []) (rest := []) hcf (cz_X6_beginStep l D k A w (q) h_now_told_pl h_now_told_sz h_now_inUse_pl h_now_inUse_sz h_now_draw h_kn h_size k_now_told_pl k_now_told_sz k_now_inUse_pl k_now_inUse_sz k_now_draw k_kn k_size v_sent v_sentI v_best v_ease v_fromA v_vi_pl v_vi_sz v_vl_pl v_vl_sz t_letters t_tt_pl t_tt_sz t_size t_place t_number sh hasImage viewIsOld r23 h24 h_this _) (cwV 0 hts gX6_drift_X6_beginStep rfl rfl rfl (by decide +kernel) ⟨Nat.le_of_ble_eq_true rfl, Nat.le_of_ble_eq_true rfl⟩) (px_V hP hK hD (ci := 6) h_this.1 rfl) rfl rfl hl.1 rfl (lv_room (Nat.le_of_ble_eq_true rfl)) dX6_drift_21 ⟨Nat.zero_le _, Nat.zero_le _⟩) hD hS hA (fun u25 _ _ h26 hP hD hS => ?_)
      obtain ⟨h28, m27⟩ := h26
      have hsm := sm_tr hsm m27 (by omega) (by omega)
      refine lv_aload_n hx hb dX6_drift_24 rfl (lv_at hl 0 rfl) ?_
      obtain ⟨r29, h30, hf⟩ := bd_s hf
      refine kw_v (va_runV (As := []) (rest := []) hcf (cz_X6_takeTurn l D k A u25 (q) h_now_told_pl h_now_told_sz h_now_inUse_pl h_now_inUse_sz h_now_draw r23.1 r23.2.1 k_now_told_pl k_now_told_sz k_now_inUse_pl k_now_inUse_sz k_now_draw k_kn k_size v_sent v_sentI v_best v_ease v_fromA v_vi_pl v_vi_sz v_vl_pl v_vl_sz t_letters t_tt_pl t_tt_sz t_size t_place t_number sh hasImage r23.2.2 r29 h30 h28 _) (cwV 0 hts gX6_drift_X6_takeTurn rfl rfl rfl (by decide +kernel) ⟨Nat.le_of_ble_eq_true rfl, Nat.le_of_ble_eq_true rfl⟩) (px_V hP hK hD (ci := 6) h28.1 rfl) rfl rfl hl.1 rfl (lv_room (Nat.le_of_ble_eq_true rfl)) dX6_drift_25 ⟨Nat.zero_le _, Nat.zero_le _⟩) hD hS hA (fun u31 _ _ h32 hP hD hS => ?_)
      obtain ⟨h34, m33⟩ := h32
      have hsm := sm_tr hsm m33 (by omega) (by omega)
      refine lv_iinc (v := (x2 + 1)) (lv' := [(2, .int (x2 + 1)), (0, .ref (A q)), (1, .int x1)]) hx hb dX6_drift_28 hl (k := 2) rfl rfl (by decide) rfl (fun ls hl => ?_)
      refine lv_goto (tgt := 15) hx hb dX6_drift_31 (by decide) ?_
      exact ih r29.1 r29.2.1 r29.2.2 r23.1 r23.2.1 r23.2.2 (x2 + 1) _ _ _ _ hf h34 hsm hP hD hS (lv_sub hl [1, 2, 0] rfl)

set_option maxHeartbeats 4000000 in
set_option maxRecDepth 100000 in
theorem cz_X6_drift (l : Launch) (D : va_G) (k : kt_T) (A : Nat → Nat) (ws : va_W) (q : Nat)  (h_now_told_pl : Nat → Int64) (h_now_told_sz : Int32) (h_now_inUse_pl : Nat → Int64) (h_now_inUse_sz : Int32) (h_now_draw : Int32) (h_kn : Nat → mm_T) (h_size : Int32) (k_now_told_pl : Nat → Int64) (k_now_told_sz : Int32) (k_now_inUse_pl : Nat → Int64) (k_now_inUse_sz : Int32) (k_now_draw : Int32) (k_kn : Nat → mm_T) (k_size : Int32) (v_sent : Nat → Int32) (v_sentI : Nat → Int32) (v_best : Nat → Int32) (v_ease : Nat → Int32) (v_fromA : Nat → Int32) (v_vi_pl : Nat → Int64) (v_vi_sz : Int32) (v_vl_pl : Nat → Int64) (v_vl_sz : Int32) (t_letters : Nat → Int32) (t_tt_pl : Nat → Int64) (t_tt_sz : Int32) (t_size : Int32) (t_place : Int32) (t_number : Int32) (sh : Nat → ss_T) (hasImage : Int32) (viewIsOld : Int32) (p1 : Int32) (out : Int32 × (Nat → Int64) × Int32 × Int32 × (Nat → mm_T) × Int32 × Int32) (hf : pf_X6_drift h_now_told_pl h_now_told_sz h_now_inUse_pl h_now_inUse_sz h_now_draw h_kn h_size viewIsOld p1 = some out) (h_this : is_X k A ws q h_now_told_pl h_now_told_sz h_now_inUse_pl h_now_inUse_sz h_now_draw h_kn h_size k_now_told_pl k_now_told_sz k_now_inUse_pl k_now_inUse_sz k_now_draw k_kn k_size v_sent v_sentI v_best v_ease v_fromA v_vi_pl v_vi_sz v_vl_pl v_vl_sz t_letters t_tt_pl t_tt_sz t_size t_place t_number sh hasImage viewIsOld)  (sz0 : Nat) : Met l yX6_drift wsX6_drift { frames := 5, cells := 0, slots := 0, locals := 142 } (va_Pc [.ref (A q), .int p1] (px_P D k ws sz0)) (qw_Q D ws sz0 (some (.int out.1)) (fun u => is_X k A u q out.2.1 out.2.2.1 h_now_inUse_pl h_now_inUse_sz out.2.2.2.1 out.2.2.2.2.1 out.2.2.2.2.2.1 k_now_told_pl k_now_told_sz k_now_inUse_pl k_now_inUse_sz k_now_draw k_kn k_size v_sent v_sentI v_best v_ease v_fromA v_vi_pl v_vi_sz v_vl_pl v_vl_sz t_letters t_tt_pl t_tt_sz t_size t_place t_number sh hasImage out.2.2.2.2.2.2 ∧ sm_W ws u q (q + 98))) 0 0 (va_A ws sz0) := by
  refine Met.ofW (cc := cX6_drift) (maxL := 3) (ret := (some .int)) (by decide) rfl ?_
  intro p e s m args below meth c s₁ B hml hv
  obtain ⟨rfl, hsz, hP, hK, hD0⟩ := hv
  subst hsz
  have hD := hD0.self (sz := s.heap.size)
  have C0 : cx_P p s m meth c [.ref (A q), .int p1].toArray cX6_drift 3 wsX6_drift RX6 (some .int) := ⟨B.exec, B.bytes, hml, findClass_of_methodNamed B.named, atoms_spec (ws := wsX6_drift) B.pre, B.returns, B.notSynchronized⟩
  obtain ⟨hx, hb, hml, hown, hts, hr, hlocks⟩ := id C0
  have hcf : CallFix p m c cX6_drift 3 s [.ref (A q), .int p1].toArray wsX6_drift RX6 := ⟨hx, hb, hml, hown, hts⟩
  have hA : ∀ q, s.heap.size ≤ q → va_A ws s.heap.size q := fun q h => Or.inr h
  have hS : va_S (va_A ws s.heap.size) s.heap s.heap [] := va_S.rf
  have hsm : sm_W ws ws q (q + 98) := sm_rf
  have hl := lv_entry ([.ref (A q), .int p1]) (n := 3) (Nat.le_of_ble_eq_true rfl)
  rw [lg_entry_eq]
  generalize (lg_sl ([.ref (A q), .int p1]) ++ List.replicate (3 - (lg_sl ([.ref (A q), .int p1])).length) Slot.unset).toArray = ls at hl ⊢
  have hl : lv_has ls 3 [(0, .ref (A q)), (1, .int p1)] := hl
  unfold pf_X6_drift at hf
  refine lv_iload_n hx hb dX6_drift_0 rfl (lv_at hl 1 rfl) ?_
  refine lv_iconst (v := 1) hx hb dX6_drift_1 (by decide) ?_
  refine lv_icmp_lt (tgt := 11) hx hb dX6_drift_2 (by decide) (fun c1 => ?_) (fun c1 => ?_)
  · have hf := it_p c1 hf
    refine lv_iconst (v := (-1)) hx hb dX6_drift_11 (by decide) ?_
    obtain rfl := so_i hf
    exact W.iret (v := (-1)) hx hb hr (qw_end hS hP hD ⟨h_this, hsm⟩) hS.2.2 dX6_drift_12
  · have hf := it_n c1 hf
    refine lv_iload_n hx hb dX6_drift_5 rfl (lv_at hl 1 rfl) ?_
    refine lv_bipush (v := 40) hx hb dX6_drift_6 (by decide) ?_
    refine lv_icmp_le (tgt := 13) hx hb dX6_drift_8 (by decide) (fun c2 => ?_) (fun c2 => ?_)
    · have hf := it_p c2 hf
      refine lv_iconst (v := 0) hx hb dX6_drift_13 (by decide) ?_
      refine lv_istore_n (lv' := [(2, .int 0), (0, .ref (A q)), (1, .int p1)]) hx hb dX6_drift_14 rfl hl (by decide) rfl (fun ls hl => ?_)
      exact wl_X6_drift_15 l D k A ws q _ hK C0 h_now_inUse_pl h_now_inUse_sz k_now_told_pl k_now_told_sz k_now_inUse_pl k_now_inUse_sz k_now_draw k_kn k_size v_sent v_sentI v_best v_ease v_fromA v_vi_pl v_vi_sz v_vl_pl v_vl_sz t_letters t_tt_pl t_tt_sz t_size t_place t_number sh hasImage p1 fu_N h_now_told_pl h_now_told_sz h_now_draw h_kn h_size viewIsOld 0 _ _ _ _ hf h_this hsm hP hD hS (lv_sub hl [1, 2, 0] rfl)
    · have hf := it_n c2 hf
      refine lv_iconst (v := (-1)) hx hb dX6_drift_11 (by decide) ?_
      obtain rfl := so_i hf
      exact W.iret (v := (-1)) hx hb hr (qw_end hS hP hD ⟨h_this, hsm⟩) hS.2.2 dX6_drift_12

theorem in_X6_undo_X6 : ∀ w ∈ u_ws RX6 TX6 7, w ∈ wsX6_undo := fun w h => List.mem_cons_of_mem _ (List.mem_append_left _ (List.mem_append_left _ (List.mem_append_left _ (List.mem_append_right _ h))))
def pf_X6_undo (h_now_told_pl : Nat → Int64) (h_now_told_sz : Int32) (h_now_inUse_pl : Nat → Int64) (h_now_inUse_sz : Int32) (h_now_draw : Int32) (h_kn : Nat → mm_T) (h_size : Int32) (viewIsOld : Int32)   : Option (Int32 × (Nat → Int64) × Int32 × (Nat → Int64) × Int32 × Int32 × Int32 × Int32) :=
  (pf_X0_howManyKnown h_size).bind (fun r7 =>
    if r7 = 0 then
      some ((-4), h_now_told_pl, h_now_told_sz, h_now_inUse_pl, h_now_inUse_sz, h_now_draw, h_size, viewIsOld)
    else
      (pf_X0_goBack h_now_told_pl h_now_told_sz h_now_inUse_pl h_now_inUse_sz h_now_draw h_kn h_size).bind (fun r15 =>
        (pf_X0_howManyKnown r15.2.2.2.2.2).bind (fun r22 =>
          some (r22, r15.1, r15.2.1, r15.2.2.1, r15.2.2.2.1, r15.2.2.2.2.1, r15.2.2.2.2.2, 1))))

set_option maxHeartbeats 4000000 in
set_option maxRecDepth 100000 in
theorem cz_X6_undo (l : Launch) (D : va_G) (k : kt_T) (A : Nat → Nat) (ws : va_W) (q : Nat)  (h_now_told_pl : Nat → Int64) (h_now_told_sz : Int32) (h_now_inUse_pl : Nat → Int64) (h_now_inUse_sz : Int32) (h_now_draw : Int32) (h_kn : Nat → mm_T) (h_size : Int32) (k_now_told_pl : Nat → Int64) (k_now_told_sz : Int32) (k_now_inUse_pl : Nat → Int64) (k_now_inUse_sz : Int32) (k_now_draw : Int32) (k_kn : Nat → mm_T) (k_size : Int32) (v_sent : Nat → Int32) (v_sentI : Nat → Int32) (v_best : Nat → Int32) (v_ease : Nat → Int32) (v_fromA : Nat → Int32) (v_vi_pl : Nat → Int64) (v_vi_sz : Int32) (v_vl_pl : Nat → Int64) (v_vl_sz : Int32) (t_letters : Nat → Int32) (t_tt_pl : Nat → Int64) (t_tt_sz : Int32) (t_size : Int32) (t_place : Int32) (t_number : Int32) (sh : Nat → ss_T) (hasImage : Int32) (viewIsOld : Int32)  (out : Int32 × (Nat → Int64) × Int32 × (Nat → Int64) × Int32 × Int32 × Int32 × Int32) (hf : pf_X6_undo h_now_told_pl h_now_told_sz h_now_inUse_pl h_now_inUse_sz h_now_draw h_kn h_size viewIsOld = some out) (h_this : is_X k A ws q h_now_told_pl h_now_told_sz h_now_inUse_pl h_now_inUse_sz h_now_draw h_kn h_size k_now_told_pl k_now_told_sz k_now_inUse_pl k_now_inUse_sz k_now_draw k_kn k_size v_sent v_sentI v_best v_ease v_fromA v_vi_pl v_vi_sz v_vl_pl v_vl_sz t_letters t_tt_pl t_tt_sz t_size t_place t_number sh hasImage viewIsOld)  (sz0 : Nat) : Met l yX6_undo wsX6_undo { frames := 4, cells := 0, slots := 0, locals := 122 } (va_Pc [.ref (A q)] (px_P D k ws sz0)) (qw_Q D ws sz0 (some (.int out.1)) (fun u => is_X k A u q out.2.1 out.2.2.1 out.2.2.2.1 out.2.2.2.2.1 out.2.2.2.2.2.1 h_kn out.2.2.2.2.2.2.1 k_now_told_pl k_now_told_sz k_now_inUse_pl k_now_inUse_sz k_now_draw k_kn k_size v_sent v_sentI v_best v_ease v_fromA v_vi_pl v_vi_sz v_vl_pl v_vl_sz t_letters t_tt_pl t_tt_sz t_size t_place t_number sh hasImage out.2.2.2.2.2.2.2 ∧ sm_W ws u q (q + 98))) 0 0 (va_A ws sz0) := by
  refine Met.ofW (cc := cX6_undo) (maxL := 1) (ret := (some .int)) (by decide) rfl ?_
  intro p e s m args below meth c s₁ B hml hv
  obtain ⟨rfl, hsz, hP, hK, hD0⟩ := hv
  subst hsz
  have hD := hD0.self (sz := s.heap.size)
  have C0 : cx_P p s m meth c [.ref (A q)].toArray cX6_undo 1 wsX6_undo RX6 (some .int) := ⟨B.exec, B.bytes, hml, findClass_of_methodNamed B.named, atoms_spec (ws := wsX6_undo) B.pre, B.returns, B.notSynchronized⟩
  obtain ⟨hx, hb, hml, hown, hts, hr, hlocks⟩ := id C0
  have hcf : CallFix p m c cX6_undo 1 s [.ref (A q)].toArray wsX6_undo RX6 := ⟨hx, hb, hml, hown, hts⟩
  have hA : ∀ q, s.heap.size ≤ q → va_A ws s.heap.size q := fun q h => Or.inr h
  have hS : va_S (va_A ws s.heap.size) s.heap s.heap [] := va_S.rf
  have hsm : sm_W ws ws q (q + 98) := sm_rf
  have w_0 := hts (.fieldLink RX6 10 "LeastRoutes" "history" "LLeastRoutes$History;") (List.mem_of_getElem? (i := 1) rfl)
  have w_1 := hts (.fieldLink RX6 43 "LeastRoutes" "viewIsOld" "Z") (List.mem_of_getElem? (i := 2) rfl)
  have hl := lv_entry ([.ref (A q)]) (n := 1) (Nat.le_of_ble_eq_true rfl)
  rw [lg_entry_eq]
  generalize (lg_sl ([.ref (A q)]) ++ List.replicate (1 - (lg_sl ([.ref (A q)])).length) Slot.unset).toArray = ls at hl ⊢
  have hl : lv_has ls 1 [(0, .ref (A q))] := hl
  unfold pf_X6_undo at hf
  refine lv_aload_n hx hb dX6_undo_0 rfl (lv_at hl 0 rfl) ?_
  obtain ⟨h1, h2, h3, h4, h5, h6⟩ := h_this
  refine va_get (D := D) (ci := 6) (v := .ref (A (q + 1))) (C := RX6) (T := TX6) (N := 7) hx hb hts in_X6_undo_X6 hown hK.1 hP (q) h1 rfl 0 (by decide) w_0 (fun _ h9 => h9) rfl dX6_undo_1 ?_
  obtain ⟨r7, h8, hf⟩ := bd_s hf
  refine ks_i (va_runV (As := []) (rest := []) hcf (cz_X0_howManyKnown l D k A ws (q + 1) h_now_told_pl h_now_told_sz h_now_inUse_pl h_now_inUse_sz h_now_draw h_kn h_size r7 h8 h2) (cwV 0 hts gX6_undo_X0_howManyKnown rfl rfl rfl (by decide +kernel) ⟨Nat.le_of_ble_eq_true rfl, Nat.le_of_ble_eq_true rfl⟩) (pw_V hP hK hD (ci := 0) h2.1 rfl) rfl rfl hl.1 rfl (lv_room (Nat.le_of_ble_eq_true rfl)) dX6_undo_4 ⟨Nat.zero_le _, Nat.zero_le _⟩) ?_
  refine lv_if_ne (tgt := 13) hx hb dX6_undo_7 (by decide) (fun c9 => ?_) (fun c9 => ?_)
  · have hf := it_n c9 hf
    refine lv_aload_n hx hb dX6_undo_13 rfl (lv_at hl 0 rfl) ?_
    refine lv_iconst (v := 1) hx hb dX6_undo_14 (by decide) ?_
    refine va_put (D := D) (ci := 6) (v := .int 1) (ty := .boolean) (C := RX6) (T := TX6) (N := 7) hx hb hts in_X6_undo_X6 tyX6 tyX6_ok nmX6 hown hK.1 hP hD hS (q) h1 rfl 6 (by decide) w_1 (fun _ h9 => h9) rfl (by decide +kernel) rfl rfl (Nat.le_of_ble_eq_true rfl) dX6_undo_15 (fun _ _ hP hD hS => ?_)
    obtain ⟨u10, h11, m12, hP, hD⟩ := wd_put hP hD h1
    have hsm := sm_tr hsm m12 (by omega) (by omega)
    have h13 : u10[q]? = some (A (q), .inr (6, [.ref (A (q + 1)), .ref (A (q + 38)), .ref (A (q + 75)), .ref (A (q + 85)), .ref (A (q + 89)), .int hasImage, .int 1])) := h11
    refine lv_aload_n hx hb dX6_undo_18 rfl (lv_at hl 0 rfl) ?_
    refine va_get (D := D) (ci := 6) (v := .ref (A (q + 1))) (C := RX6) (T := TX6) (N := 7) hx hb hts in_X6_undo_X6 hown hK.1 hP (q) h13 rfl 0 (by decide) w_0 (fun _ h9 => h9) rfl dX6_undo_19 ?_
    have h14 := is_H_tr h2 m12 (by omega)
    obtain ⟨r15, h16, hf⟩ := bd_s hf
    refine kw_v (va_runV (As := []) (rest := []) hcf (cz_X0_goBack l D k A u10 (q + 1) h_now_told_pl h_now_told_sz h_now_inUse_pl h_now_inUse_sz h_now_draw h_kn h_size r15 h16 h14 _) (cwV 0 hts gX6_undo_X0_goBack rfl rfl rfl (by decide +kernel) ⟨Nat.le_of_ble_eq_true rfl, Nat.le_of_ble_eq_true rfl⟩) (px_V hP hK hD (ci := 0) h14.1 rfl) rfl rfl hl.1 rfl (lv_room (Nat.le_of_ble_eq_true rfl)) dX6_undo_22 ⟨Nat.zero_le _, Nat.zero_le _⟩) hD hS hA (fun u17 _ _ h18 hP hD hS => ?_)
    obtain ⟨h20, m19⟩ := h18
    have hsm := sm_tr hsm m19 (by omega) (by omega)
    refine lv_aload_n hx hb dX6_undo_25 rfl (lv_at hl 0 rfl) ?_
    have h21 := sm_at m19 (by omega) h13
    refine va_get (D := D) (ci := 6) (v := .ref (A (q + 1))) (C := RX6) (T := TX6) (N := 7) hx hb hts in_X6_undo_X6 hown hK.1 hP (q) h21 rfl 0 (by decide) w_0 (fun _ h9 => h9) rfl dX6_undo_26 ?_
    obtain ⟨r22, h23, hf⟩ := bd_s hf
    refine ks_i (va_runV (As := []) (rest := []) hcf (cz_X0_howManyKnown l D k A u17 (q + 1) r15.1 r15.2.1 r15.2.2.1 r15.2.2.2.1 r15.2.2.2.2.1 h_kn r15.2.2.2.2.2 r22 h23 h20) (cwV 0 hts gX6_undo_X0_howManyKnown rfl rfl rfl (by decide +kernel) ⟨Nat.le_of_ble_eq_true rfl, Nat.le_of_ble_eq_true rfl⟩) (pw_V hP hK hD (ci := 0) h20.1 rfl) rfl rfl hl.1 rfl (lv_room (Nat.le_of_ble_eq_true rfl)) dX6_undo_29 ⟨Nat.zero_le _, Nat.zero_le _⟩) ?_
    obtain rfl := so_i hf
    have h24 := is_H_tr h3 m12 (by omega)
    have h25 := is_H_tr h24 m19 (by omega)
    have h26 := is_V_tr h4 m12 (by omega)
    have h27 := is_V_tr h26 m19 (by omega)
    have h28 := is_P_tr h5 m12 (by omega)
    have h29 := is_P_tr h28 m19 (by omega)
    have h30 := is_Z_tr h6 m12 (by omega)
    have h31 := is_Z_tr h30 m19 (by omega)
    have h32 : is_X k A u17 (q) r15.1 r15.2.1 r15.2.2.1 r15.2.2.2.1 r15.2.2.2.2.1 h_kn r15.2.2.2.2.2 k_now_told_pl k_now_told_sz k_now_inUse_pl k_now_inUse_sz k_now_draw k_kn k_size v_sent v_sentI v_best v_ease v_fromA v_vi_pl v_vi_sz v_vl_pl v_vl_sz t_letters t_tt_pl t_tt_sz t_size t_place t_number sh hasImage 1 := ⟨h21, h20, h25, h27, h29, h31⟩
    exact W.iret (v := r22) hx hb hr (qw_end hS hP hD ⟨h32, hsm⟩) hS.2.2 dX6_undo_32
  · have hf := it_p c9 hf
    refine lv_bipush (v := (-4)) hx hb dX6_undo_10 (by decide) ?_
    obtain rfl := so_i hf
    have h33 : is_X k A ws (q) h_now_told_pl h_now_told_sz h_now_inUse_pl h_now_inUse_sz h_now_draw h_kn h_size k_now_told_pl k_now_told_sz k_now_inUse_pl k_now_inUse_sz k_now_draw k_kn k_size v_sent v_sentI v_best v_ease v_fromA v_vi_pl v_vi_sz v_vl_pl v_vl_sz t_letters t_tt_pl t_tt_sz t_size t_place t_number sh hasImage viewIsOld := ⟨h1, h2, h3, h4, h5, h6⟩
    exact W.iret (v := (-4)) hx hb hr (qw_end hS hP hD ⟨h33, hsm⟩) hS.2.2 dX6_undo_12

theorem in_X6_seed_X6 : ∀ w ∈ u_ws RX6 TX6 7, w ∈ wsX6_seed := fun w h => List.mem_cons_of_mem _ (List.mem_append_left _ (List.mem_append_left _ (List.mem_append_right _ h)))
def pf_X6_seed (h_now_draw : Int32)  (p1 : Int32) : Option (Int32 × Int32) :=
  if 0 ≤ p1 then
    (pf_X1_drawNow h_now_draw).bind (fun r13 =>
      (pf_X1_setDraw h_now_draw p1).bind (fun r17 =>
        some (r13, r17)))
  else
    some ((-1), h_now_draw)

set_option maxHeartbeats 4000000 in
set_option maxRecDepth 100000 in
theorem cz_X6_seed (l : Launch) (D : va_G) (k : kt_T) (A : Nat → Nat) (ws : va_W) (q : Nat)  (h_now_told_pl : Nat → Int64) (h_now_told_sz : Int32) (h_now_inUse_pl : Nat → Int64) (h_now_inUse_sz : Int32) (h_now_draw : Int32) (h_kn : Nat → mm_T) (h_size : Int32) (k_now_told_pl : Nat → Int64) (k_now_told_sz : Int32) (k_now_inUse_pl : Nat → Int64) (k_now_inUse_sz : Int32) (k_now_draw : Int32) (k_kn : Nat → mm_T) (k_size : Int32) (v_sent : Nat → Int32) (v_sentI : Nat → Int32) (v_best : Nat → Int32) (v_ease : Nat → Int32) (v_fromA : Nat → Int32) (v_vi_pl : Nat → Int64) (v_vi_sz : Int32) (v_vl_pl : Nat → Int64) (v_vl_sz : Int32) (t_letters : Nat → Int32) (t_tt_pl : Nat → Int64) (t_tt_sz : Int32) (t_size : Int32) (t_place : Int32) (t_number : Int32) (sh : Nat → ss_T) (hasImage : Int32) (viewIsOld : Int32) (p1 : Int32) (out : Int32 × Int32) (hf : pf_X6_seed h_now_draw p1 = some out) (h_this : is_X k A ws q h_now_told_pl h_now_told_sz h_now_inUse_pl h_now_inUse_sz h_now_draw h_kn h_size k_now_told_pl k_now_told_sz k_now_inUse_pl k_now_inUse_sz k_now_draw k_kn k_size v_sent v_sentI v_best v_ease v_fromA v_vi_pl v_vi_sz v_vl_pl v_vl_sz t_letters t_tt_pl t_tt_sz t_size t_place t_number sh hasImage viewIsOld)  (sz0 : Nat) : Met l yX6_seed wsX6_seed { frames := 1, cells := 0, slots := 0, locals := 21 } (va_Pc [.ref (A q), .int p1] (px_P D k ws sz0)) (qw_Q D ws sz0 (some (.int out.1)) (fun u => is_X k A u q h_now_told_pl h_now_told_sz h_now_inUse_pl h_now_inUse_sz out.2 h_kn h_size k_now_told_pl k_now_told_sz k_now_inUse_pl k_now_inUse_sz k_now_draw k_kn k_size v_sent v_sentI v_best v_ease v_fromA v_vi_pl v_vi_sz v_vl_pl v_vl_sz t_letters t_tt_pl t_tt_sz t_size t_place t_number sh hasImage viewIsOld ∧ sm_W ws u q (q + 98))) 0 0 (va_A ws sz0) := by
  refine Met.ofW (cc := cX6_seed) (maxL := 3) (ret := (some .int)) (by decide) rfl ?_
  intro p e s m args below meth c s₁ B hml hv
  obtain ⟨rfl, hsz, hP, hK, hD0⟩ := hv
  subst hsz
  have hD := hD0.self (sz := s.heap.size)
  have C0 : cx_P p s m meth c [.ref (A q), .int p1].toArray cX6_seed 3 wsX6_seed RX6 (some .int) := ⟨B.exec, B.bytes, hml, findClass_of_methodNamed B.named, atoms_spec (ws := wsX6_seed) B.pre, B.returns, B.notSynchronized⟩
  obtain ⟨hx, hb, hml, hown, hts, hr, hlocks⟩ := id C0
  have hcf : CallFix p m c cX6_seed 3 s [.ref (A q), .int p1].toArray wsX6_seed RX6 := ⟨hx, hb, hml, hown, hts⟩
  have hA : ∀ q, s.heap.size ≤ q → va_A ws s.heap.size q := fun q h => Or.inr h
  have hS : va_S (va_A ws s.heap.size) s.heap s.heap [] := va_S.rf
  have hsm : sm_W ws ws q (q + 98) := sm_rf
  have w_0 := hts (.fieldLink RX6 10 "LeastRoutes" "history" "LLeastRoutes$History;") (List.mem_of_getElem? (i := 1) rfl)
  have hl := lv_entry ([.ref (A q), .int p1]) (n := 3) (Nat.le_of_ble_eq_true rfl)
  rw [lg_entry_eq]
  generalize (lg_sl ([.ref (A q), .int p1]) ++ List.replicate (3 - (lg_sl ([.ref (A q), .int p1])).length) Slot.unset).toArray = ls at hl ⊢
  have hl : lv_has ls 3 [(0, .ref (A q)), (1, .int p1)] := hl
  unfold pf_X6_seed at hf
  refine lv_iload_n hx hb dX6_seed_0 rfl (lv_at hl 1 rfl) ?_
  refine lv_if_ge (tgt := 6) hx hb dX6_seed_1 (by decide) (fun c1 => ?_) (fun c1 => ?_)
  · have hf := it_p c1 hf
    refine lv_aload_n hx hb dX6_seed_6 rfl (lv_at hl 0 rfl) ?_
    obtain ⟨h2, h3, h4, h5, h6, h7⟩ := h_this
    refine va_get (D := D) (ci := 6) (v := .ref (A (q + 1))) (C := RX6) (T := TX6) (N := 7) hx hb hts in_X6_seed_X6 hown hK.1 hP (q) h2 rfl 0 (by decide) w_0 (fun _ h9 => h9) rfl dX6_seed_7 ?_
    obtain ⟨h8, h9, h10⟩ := h3
    refine ks_r (va_runV (As := []) (rest := []) hcf (cz_X0_present l D k A ws (q + 1) h_size h8) (cwV 0 hts gX6_seed_X0_present rfl rfl rfl (by decide +kernel) ⟨Nat.le_of_ble_eq_true rfl, Nat.le_of_ble_eq_true rfl⟩) (pw_V hP hK hD (ci := 0) h8 rfl) rfl rfl hl.1 rfl (lv_room (Nat.le_of_ble_eq_true rfl)) dX6_seed_10 ⟨Nat.zero_le _, Nat.zero_le _⟩) ?_
    obtain ⟨r13, h14, hf⟩ := bd_s hf
    refine ks_i (va_runV (As := []) (rest := []) hcf (cz_X1_drawNow l D k A ws (q + 1 + 1) h_now_told_pl h_now_told_sz h_now_inUse_pl h_now_inUse_sz h_now_draw r13 h14 h9) (cwV 0 hts gX6_seed_X1_drawNow rfl rfl rfl (by decide +kernel) ⟨Nat.le_of_ble_eq_true rfl, Nat.le_of_ble_eq_true rfl⟩) (pw_V hP hK hD (ci := 1) h9.1 rfl) rfl rfl hl.1 rfl (lv_room (Nat.le_of_ble_eq_true rfl)) dX6_seed_13 ⟨Nat.zero_le _, Nat.zero_le _⟩) ?_
    refine lv_istore_n (lv' := [(2, .int r13), (0, .ref (A q)), (1, .int p1)]) hx hb dX6_seed_16 rfl hl (by decide) rfl (fun ls hl => ?_)
    refine lv_aload_n hx hb dX6_seed_17 rfl (lv_at hl 1 rfl) ?_
    refine va_get (D := D) (ci := 6) (v := .ref (A (q + 1))) (C := RX6) (T := TX6) (N := 7) hx hb hts in_X6_seed_X6 hown hK.1 hP (q) h2 rfl 0 (by decide) w_0 (fun _ h9 => h9) rfl dX6_seed_18 ?_
    refine ks_r (va_runV (As := []) (rest := []) hcf (cz_X0_present l D k A ws (q + 1) h_size h8) (cwV 0 hts gX6_seed_X0_present rfl rfl rfl (by decide +kernel) ⟨Nat.le_of_ble_eq_true rfl, Nat.le_of_ble_eq_true rfl⟩) (pw_V hP hK hD (ci := 0) h8 rfl) rfl rfl hl.1 rfl (lv_room (Nat.le_of_ble_eq_true rfl)) dX6_seed_21 ⟨Nat.zero_le _, Nat.zero_le _⟩) ?_
    refine lv_iload_n hx hb dX6_seed_24 rfl (lv_at hl 2 rfl) ?_
    obtain ⟨r17, h18, hf⟩ := bd_s hf
    refine kw_v (va_runV (As := [.int p1]) (rest := []) hcf (cz_X1_setDraw l D k A ws (q + 1 + 1) h_now_told_pl h_now_told_sz h_now_inUse_pl h_now_inUse_sz h_now_draw p1 r17 h18 h9 _) (cwV 1 hts gX6_seed_X1_setDraw rfl rfl rfl (by decide +kernel) ⟨Nat.le_of_ble_eq_true rfl, Nat.le_of_ble_eq_true rfl⟩) (px_V hP hK hD (ci := 1) h9.1 rfl) rfl rfl hl.1 rfl (lv_room (Nat.le_of_ble_eq_true rfl)) dX6_seed_25 ⟨Nat.zero_le _, Nat.zero_le _⟩) hD hS hA (fun u19 _ _ h20 hP hD hS => ?_)
    obtain ⟨h22, m21⟩ := h20
    have hsm := sm_tr hsm m21 (by omega) (by omega)
    refine lv_iload_n hx hb dX6_seed_28 rfl (lv_at hl 0 rfl) ?_
    obtain rfl := so_i hf
    have h23 := sm_at m21 (by omega) h2
    have h24 := sm_at m21 (by omega) h8
    have h25 := is_K_tr h10 m21 (by omega)
    have h26 : is_H k A u19 (q + 1) h_now_told_pl h_now_told_sz h_now_inUse_pl h_now_inUse_sz r17 h_kn h_size := ⟨h24, h22, h25⟩
    have h27 := is_H_tr h4 m21 (by omega)
    have h28 := is_V_tr h5 m21 (by omega)
    have h29 := is_P_tr h6 m21 (by omega)
    have h30 := is_Z_tr h7 m21 (by omega)
    have h31 : is_X k A u19 (q) h_now_told_pl h_now_told_sz h_now_inUse_pl h_now_inUse_sz r17 h_kn h_size k_now_told_pl k_now_told_sz k_now_inUse_pl k_now_inUse_sz k_now_draw k_kn k_size v_sent v_sentI v_best v_ease v_fromA v_vi_pl v_vi_sz v_vl_pl v_vl_sz t_letters t_tt_pl t_tt_sz t_size t_place t_number sh hasImage viewIsOld := ⟨h23, h26, h27, h28, h29, h30⟩
    exact W.iret (v := r13) hx hb hr (qw_end hS hP hD ⟨h31, hsm⟩) hS.2.2 dX6_seed_29
  · have hf := it_n c1 hf
    refine lv_iconst (v := (-1)) hx hb dX6_seed_4 (by decide) ?_
    obtain rfl := so_i hf
    exact W.iret (v := (-1)) hx hb hr (qw_end hS hP hD ⟨h_this, hsm⟩) hS.2.2 dX6_seed_5

theorem in_X6_image_X6 : ∀ w ∈ u_ws RX6 TX6 7, w ∈ wsX6_image := fun w h => List.mem_cons_of_mem _ (List.mem_append_left _ (List.mem_append_left _ (List.mem_append_left _ (List.mem_append_right _ h))))
def pf_X6_image (h_now_told_pl : Nat → Int64) (h_now_told_sz : Int32) (h_now_inUse_pl : Nat → Int64) (h_now_inUse_sz : Int32) (h_now_draw : Int32) (h_kn : Nat → mm_T) (h_size : Int32) (k_now_told_pl : Nat → Int64) (k_now_told_sz : Int32) (k_now_inUse_pl : Nat → Int64) (k_now_inUse_sz : Int32) (k_now_draw : Int32) (k_kn : Nat → mm_T) (k_size : Int32) (hasImage : Int32)   : Option (Int32 × (Nat → Int64) × Int32 × (Nat → Int64) × Int32 × Int32 × (Nat → mm_T) × Int32 × Int32) :=
  (pf_X0_takeAllFrom k_now_told_pl k_now_told_sz k_now_inUse_pl k_now_inUse_sz k_now_draw k_kn k_size h_now_told_pl h_now_told_sz h_now_inUse_pl h_now_inUse_sz h_now_draw h_kn h_size).bind (fun r7 =>
    some (1, r7.1, r7.2.1, r7.2.2.1, r7.2.2.2.1, r7.2.2.2.2.1, r7.2.2.2.2.2.1, r7.2.2.2.2.2.2, 1))

set_option maxHeartbeats 4000000 in
set_option maxRecDepth 100000 in
theorem cz_X6_image (l : Launch) (D : va_G) (k : kt_T) (A : Nat → Nat) (ws : va_W) (q : Nat)  (h_now_told_pl : Nat → Int64) (h_now_told_sz : Int32) (h_now_inUse_pl : Nat → Int64) (h_now_inUse_sz : Int32) (h_now_draw : Int32) (h_kn : Nat → mm_T) (h_size : Int32) (k_now_told_pl : Nat → Int64) (k_now_told_sz : Int32) (k_now_inUse_pl : Nat → Int64) (k_now_inUse_sz : Int32) (k_now_draw : Int32) (k_kn : Nat → mm_T) (k_size : Int32) (v_sent : Nat → Int32) (v_sentI : Nat → Int32) (v_best : Nat → Int32) (v_ease : Nat → Int32) (v_fromA : Nat → Int32) (v_vi_pl : Nat → Int64) (v_vi_sz : Int32) (v_vl_pl : Nat → Int64) (v_vl_sz : Int32) (t_letters : Nat → Int32) (t_tt_pl : Nat → Int64) (t_tt_sz : Int32) (t_size : Int32) (t_place : Int32) (t_number : Int32) (sh : Nat → ss_T) (hasImage : Int32) (viewIsOld : Int32)  (out : Int32 × (Nat → Int64) × Int32 × (Nat → Int64) × Int32 × Int32 × (Nat → mm_T) × Int32 × Int32) (hf : pf_X6_image h_now_told_pl h_now_told_sz h_now_inUse_pl h_now_inUse_sz h_now_draw h_kn h_size k_now_told_pl k_now_told_sz k_now_inUse_pl k_now_inUse_sz k_now_draw k_kn k_size hasImage = some out) (h_this : is_X k A ws q h_now_told_pl h_now_told_sz h_now_inUse_pl h_now_inUse_sz h_now_draw h_kn h_size k_now_told_pl k_now_told_sz k_now_inUse_pl k_now_inUse_sz k_now_draw k_kn k_size v_sent v_sentI v_best v_ease v_fromA v_vi_pl v_vi_sz v_vl_pl v_vl_sz t_letters t_tt_pl t_tt_sz t_size t_place t_number sh hasImage viewIsOld)  (sz0 : Nat) : Met l yX6_image wsX6_image { frames := 4, cells := 0, slots := 0, locals := 124 } (va_Pc [.ref (A q)] (px_P D k ws sz0)) (qw_Q D ws sz0 (some (.int out.1)) (fun u => is_X k A u q h_now_told_pl h_now_told_sz h_now_inUse_pl h_now_inUse_sz h_now_draw h_kn h_size out.2.1 out.2.2.1 out.2.2.2.1 out.2.2.2.2.1 out.2.2.2.2.2.1 out.2.2.2.2.2.2.1 out.2.2.2.2.2.2.2.1 v_sent v_sentI v_best v_ease v_fromA v_vi_pl v_vi_sz v_vl_pl v_vl_sz t_letters t_tt_pl t_tt_sz t_size t_place t_number sh out.2.2.2.2.2.2.2.2 viewIsOld ∧ sm_W ws u q (q + 98))) 0 0 (va_A ws sz0) := by
  refine Met.ofW (cc := cX6_image) (maxL := 1) (ret := (some .int)) (by decide) rfl ?_
  intro p e s m args below meth c s₁ B hml hv
  obtain ⟨rfl, hsz, hP, hK, hD0⟩ := hv
  subst hsz
  have hD := hD0.self (sz := s.heap.size)
  have C0 : cx_P p s m meth c [.ref (A q)].toArray cX6_image 1 wsX6_image RX6 (some .int) := ⟨B.exec, B.bytes, hml, findClass_of_methodNamed B.named, atoms_spec (ws := wsX6_image) B.pre, B.returns, B.notSynchronized⟩
  obtain ⟨hx, hb, hml, hown, hts, hr, hlocks⟩ := id C0
  have hcf : CallFix p m c cX6_image 1 s [.ref (A q)].toArray wsX6_image RX6 := ⟨hx, hb, hml, hown, hts⟩
  have hA : ∀ q, s.heap.size ≤ q → va_A ws s.heap.size q := fun q h => Or.inr h
  have hS : va_S (va_A ws s.heap.size) s.heap s.heap [] := va_S.rf
  have hsm : sm_W ws ws q (q + 98) := sm_rf
  have w_0 := hts (.fieldLink RX6 16 "LeastRoutes" "kept" "LLeastRoutes$History;") (List.mem_of_getElem? (i := 1) rfl)
  have w_1 := hts (.fieldLink RX6 10 "LeastRoutes" "history" "LLeastRoutes$History;") (List.mem_of_getElem? (i := 2) rfl)
  have w_2 := hts (.fieldLink RX6 39 "LeastRoutes" "hasImage" "Z") (List.mem_of_getElem? (i := 3) rfl)
  have hl := lv_entry ([.ref (A q)]) (n := 1) (Nat.le_of_ble_eq_true rfl)
  rw [lg_entry_eq]
  generalize (lg_sl ([.ref (A q)]) ++ List.replicate (1 - (lg_sl ([.ref (A q)])).length) Slot.unset).toArray = ls at hl ⊢
  have hl : lv_has ls 1 [(0, .ref (A q))] := hl
  unfold pf_X6_image at hf
  refine lv_aload_n hx hb dX6_image_0 rfl (lv_at hl 0 rfl) ?_
  obtain ⟨h1, h2, h3, h4, h5, h6⟩ := h_this
  refine va_get (D := D) (ci := 6) (v := .ref (A (q + 38))) (C := RX6) (T := TX6) (N := 7) hx hb hts in_X6_image_X6 hown hK.1 hP (q) h1 rfl 1 (by decide) w_0 (fun _ h9 => h9) rfl dX6_image_1 ?_
  refine lv_aload_n hx hb dX6_image_4 rfl (lv_at hl 0 rfl) ?_
  refine va_get (D := D) (ci := 6) (v := .ref (A (q + 1))) (C := RX6) (T := TX6) (N := 7) hx hb hts in_X6_image_X6 hown hK.1 hP (q) h1 rfl 0 (by decide) w_1 (fun _ h9 => h9) rfl dX6_image_5 ?_
  obtain ⟨r7, h8, hf⟩ := bd_s hf
  refine kw_v (va_runV (As := [.ref (A (q + 1))]) (rest := []) hcf (cz_X0_takeAllFrom l D k A ws (q + 38) (q + 1) k_now_told_pl k_now_told_sz k_now_inUse_pl k_now_inUse_sz k_now_draw k_kn k_size h_now_told_pl h_now_told_sz h_now_inUse_pl h_now_inUse_sz h_now_draw h_kn h_size r7 h8 h3 h2 (by omega) _) (cwV 1 hts gX6_image_X0_takeAllFrom rfl rfl rfl (by decide +kernel) ⟨Nat.le_of_ble_eq_true rfl, Nat.le_of_ble_eq_true rfl⟩) (px_V hP hK hD (ci := 0) h3.1 rfl) rfl rfl hl.1 rfl (lv_room (Nat.le_of_ble_eq_true rfl)) dX6_image_8 ⟨Nat.zero_le _, Nat.zero_le _⟩) hD hS hA (fun u9 _ _ h10 hP hD hS => ?_)
  obtain ⟨h12, m11⟩ := h10
  have hsm := sm_tr hsm m11 (by omega) (by omega)
  refine lv_aload_n hx hb dX6_image_11 rfl (lv_at hl 0 rfl) ?_
  refine lv_iconst (v := 1) hx hb dX6_image_12 (by decide) ?_
  have h13 := sm_at m11 (by omega) h1
  refine va_put (D := D) (ci := 6) (v := .int 1) (ty := .boolean) (C := RX6) (T := TX6) (N := 7) hx hb hts in_X6_image_X6 tyX6 tyX6_ok nmX6 hown hK.1 hP hD hS (q) h13 rfl 5 (by decide) w_2 (fun _ h9 => h9) rfl (by decide +kernel) rfl rfl (Nat.le_of_ble_eq_true rfl) dX6_image_13 (fun _ _ hP hD hS => ?_)
  obtain ⟨u14, h15, m16, hP, hD⟩ := wd_put hP hD h13
  have hsm := sm_tr hsm m16 (by omega) (by omega)
  have h17 : u14[q]? = some (A (q), .inr (6, [.ref (A (q + 1)), .ref (A (q + 38)), .ref (A (q + 75)), .ref (A (q + 85)), .ref (A (q + 89)), .int 1, .int viewIsOld])) := h15
  refine lv_iconst (v := 1) hx hb dX6_image_16 (by decide) ?_
  obtain rfl := so_i hf
  have h18 := is_H_tr h2 m11 (by omega)
  have h19 := is_H_tr h18 m16 (by omega)
  have h20 := is_H_tr h12 m16 (by omega)
  have h21 := is_V_tr h4 m11 (by omega)
  have h22 := is_V_tr h21 m16 (by omega)
  have h23 := is_P_tr h5 m11 (by omega)
  have h24 := is_P_tr h23 m16 (by omega)
  have h25 := is_Z_tr h6 m11 (by omega)
  have h26 := is_Z_tr h25 m16 (by omega)
  have h27 : is_X k A u14 (q) h_now_told_pl h_now_told_sz h_now_inUse_pl h_now_inUse_sz h_now_draw h_kn h_size r7.1 r7.2.1 r7.2.2.1 r7.2.2.2.1 r7.2.2.2.2.1 r7.2.2.2.2.2.1 r7.2.2.2.2.2.2 v_sent v_sentI v_best v_ease v_fromA v_vi_pl v_vi_sz v_vl_pl v_vl_sz t_letters t_tt_pl t_tt_sz t_size t_place t_number sh 1 viewIsOld := ⟨h17, h19, h20, h22, h24, h26⟩
  exact W.iret (v := 1) hx hb hr (qw_end hS hP hD ⟨h27, hsm⟩) hS.2.2 dX6_image_17

theorem in_X6_restore_X6 : ∀ w ∈ u_ws RX6 TX6 7, w ∈ wsX6_restore := fun w h => List.mem_cons_of_mem _ (List.mem_append_left _ (List.mem_append_left _ (List.mem_append_left _ (List.mem_append_right _ h))))
def pf_X6_restore (h_now_told_pl : Nat → Int64) (h_now_told_sz : Int32) (h_now_inUse_pl : Nat → Int64) (h_now_inUse_sz : Int32) (h_now_draw : Int32) (h_kn : Nat → mm_T) (h_size : Int32) (k_now_told_pl : Nat → Int64) (k_now_told_sz : Int32) (k_now_inUse_pl : Nat → Int64) (k_now_inUse_sz : Int32) (k_now_draw : Int32) (k_kn : Nat → mm_T) (k_size : Int32) (hasImage : Int32) (viewIsOld : Int32)   : Option (Int32 × (Nat → Int64) × Int32 × (Nat → Int64) × Int32 × Int32 × (Nat → mm_T) × Int32 × Int32) :=
  if hasImage = 0 then
    some ((-4), h_now_told_pl, h_now_told_sz, h_now_inUse_pl, h_now_inUse_sz, h_now_draw, h_kn, h_size, viewIsOld)
  else
    (pf_X0_takeAllFrom h_now_told_pl h_now_told_sz h_now_inUse_pl h_now_inUse_sz h_now_draw h_kn h_size k_now_told_pl k_now_told_sz k_now_inUse_pl k_now_inUse_sz k_now_draw k_kn k_size).bind (fun r14 =>
      some (1, r14.1, r14.2.1, r14.2.2.1, r14.2.2.2.1, r14.2.2.2.2.1, r14.2.2.2.2.2.1, r14.2.2.2.2.2.2, 1))

set_option maxHeartbeats 4000000 in
set_option maxRecDepth 100000 in
theorem cz_X6_restore (l : Launch) (D : va_G) (k : kt_T) (A : Nat → Nat) (ws : va_W) (q : Nat)  (h_now_told_pl : Nat → Int64) (h_now_told_sz : Int32) (h_now_inUse_pl : Nat → Int64) (h_now_inUse_sz : Int32) (h_now_draw : Int32) (h_kn : Nat → mm_T) (h_size : Int32) (k_now_told_pl : Nat → Int64) (k_now_told_sz : Int32) (k_now_inUse_pl : Nat → Int64) (k_now_inUse_sz : Int32) (k_now_draw : Int32) (k_kn : Nat → mm_T) (k_size : Int32) (v_sent : Nat → Int32) (v_sentI : Nat → Int32) (v_best : Nat → Int32) (v_ease : Nat → Int32) (v_fromA : Nat → Int32) (v_vi_pl : Nat → Int64) (v_vi_sz : Int32) (v_vl_pl : Nat → Int64) (v_vl_sz : Int32) (t_letters : Nat → Int32) (t_tt_pl : Nat → Int64) (t_tt_sz : Int32) (t_size : Int32) (t_place : Int32) (t_number : Int32) (sh : Nat → ss_T) (hasImage : Int32) (viewIsOld : Int32)  (out : Int32 × (Nat → Int64) × Int32 × (Nat → Int64) × Int32 × Int32 × (Nat → mm_T) × Int32 × Int32) (hf : pf_X6_restore h_now_told_pl h_now_told_sz h_now_inUse_pl h_now_inUse_sz h_now_draw h_kn h_size k_now_told_pl k_now_told_sz k_now_inUse_pl k_now_inUse_sz k_now_draw k_kn k_size hasImage viewIsOld = some out) (h_this : is_X k A ws q h_now_told_pl h_now_told_sz h_now_inUse_pl h_now_inUse_sz h_now_draw h_kn h_size k_now_told_pl k_now_told_sz k_now_inUse_pl k_now_inUse_sz k_now_draw k_kn k_size v_sent v_sentI v_best v_ease v_fromA v_vi_pl v_vi_sz v_vl_pl v_vl_sz t_letters t_tt_pl t_tt_sz t_size t_place t_number sh hasImage viewIsOld)  (sz0 : Nat) : Met l yX6_restore wsX6_restore { frames := 4, cells := 0, slots := 0, locals := 124 } (va_Pc [.ref (A q)] (px_P D k ws sz0)) (qw_Q D ws sz0 (some (.int out.1)) (fun u => is_X k A u q out.2.1 out.2.2.1 out.2.2.2.1 out.2.2.2.2.1 out.2.2.2.2.2.1 out.2.2.2.2.2.2.1 out.2.2.2.2.2.2.2.1 k_now_told_pl k_now_told_sz k_now_inUse_pl k_now_inUse_sz k_now_draw k_kn k_size v_sent v_sentI v_best v_ease v_fromA v_vi_pl v_vi_sz v_vl_pl v_vl_sz t_letters t_tt_pl t_tt_sz t_size t_place t_number sh hasImage out.2.2.2.2.2.2.2.2 ∧ sm_W ws u q (q + 98))) 0 0 (va_A ws sz0) := by
  refine Met.ofW (cc := cX6_restore) (maxL := 1) (ret := (some .int)) (by decide) rfl ?_
  intro p e s m args below meth c s₁ B hml hv
  obtain ⟨rfl, hsz, hP, hK, hD0⟩ := hv
  subst hsz
  have hD := hD0.self (sz := s.heap.size)
  have C0 : cx_P p s m meth c [.ref (A q)].toArray cX6_restore 1 wsX6_restore RX6 (some .int) := ⟨B.exec, B.bytes, hml, findClass_of_methodNamed B.named, atoms_spec (ws := wsX6_restore) B.pre, B.returns, B.notSynchronized⟩
  obtain ⟨hx, hb, hml, hown, hts, hr, hlocks⟩ := id C0
  have hcf : CallFix p m c cX6_restore 1 s [.ref (A q)].toArray wsX6_restore RX6 := ⟨hx, hb, hml, hown, hts⟩
  have hA : ∀ q, s.heap.size ≤ q → va_A ws s.heap.size q := fun q h => Or.inr h
  have hS : va_S (va_A ws s.heap.size) s.heap s.heap [] := va_S.rf
  have hsm : sm_W ws ws q (q + 98) := sm_rf
  have w_0 := hts (.fieldLink RX6 39 "LeastRoutes" "hasImage" "Z") (List.mem_of_getElem? (i := 1) rfl)
  have w_1 := hts (.fieldLink RX6 43 "LeastRoutes" "viewIsOld" "Z") (List.mem_of_getElem? (i := 2) rfl)
  have w_2 := hts (.fieldLink RX6 10 "LeastRoutes" "history" "LLeastRoutes$History;") (List.mem_of_getElem? (i := 3) rfl)
  have w_3 := hts (.fieldLink RX6 16 "LeastRoutes" "kept" "LLeastRoutes$History;") (List.mem_of_getElem? (i := 4) rfl)
  have hl := lv_entry ([.ref (A q)]) (n := 1) (Nat.le_of_ble_eq_true rfl)
  rw [lg_entry_eq]
  generalize (lg_sl ([.ref (A q)]) ++ List.replicate (1 - (lg_sl ([.ref (A q)])).length) Slot.unset).toArray = ls at hl ⊢
  have hl : lv_has ls 1 [(0, .ref (A q))] := hl
  unfold pf_X6_restore at hf
  refine lv_aload_n hx hb dX6_restore_0 rfl (lv_at hl 0 rfl) ?_
  obtain ⟨h1, h2, h3, h4, h5, h6⟩ := h_this
  refine va_get (D := D) (ci := 6) (v := .int hasImage) (C := RX6) (T := TX6) (N := 7) hx hb hts in_X6_restore_X6 hown hK.1 hP (q) h1 rfl 5 (by decide) w_0 (fun _ h9 => h9) rfl dX6_restore_1 ?_
  refine lv_if_ne (tgt := 10) hx hb dX6_restore_4 (by decide) (fun c7 => ?_) (fun c7 => ?_)
  · have hf := it_n c7 hf
    refine lv_aload_n hx hb dX6_restore_10 rfl (lv_at hl 0 rfl) ?_
    refine lv_iconst (v := 1) hx hb dX6_restore_11 (by decide) ?_
    refine va_put (D := D) (ci := 6) (v := .int 1) (ty := .boolean) (C := RX6) (T := TX6) (N := 7) hx hb hts in_X6_restore_X6 tyX6 tyX6_ok nmX6 hown hK.1 hP hD hS (q) h1 rfl 6 (by decide) w_1 (fun _ h9 => h9) rfl (by decide +kernel) rfl rfl (Nat.le_of_ble_eq_true rfl) dX6_restore_12 (fun _ _ hP hD hS => ?_)
    obtain ⟨u8, h9, m10, hP, hD⟩ := wd_put hP hD h1
    have hsm := sm_tr hsm m10 (by omega) (by omega)
    have h11 : u8[q]? = some (A (q), .inr (6, [.ref (A (q + 1)), .ref (A (q + 38)), .ref (A (q + 75)), .ref (A (q + 85)), .ref (A (q + 89)), .int hasImage, .int 1])) := h9
    refine lv_aload_n hx hb dX6_restore_15 rfl (lv_at hl 0 rfl) ?_
    refine va_get (D := D) (ci := 6) (v := .ref (A (q + 1))) (C := RX6) (T := TX6) (N := 7) hx hb hts in_X6_restore_X6 hown hK.1 hP (q) h11 rfl 0 (by decide) w_2 (fun _ h9 => h9) rfl dX6_restore_16 ?_
    refine lv_aload_n hx hb dX6_restore_19 rfl (lv_at hl 0 rfl) ?_
    refine va_get (D := D) (ci := 6) (v := .ref (A (q + 38))) (C := RX6) (T := TX6) (N := 7) hx hb hts in_X6_restore_X6 hown hK.1 hP (q) h11 rfl 1 (by decide) w_3 (fun _ h9 => h9) rfl dX6_restore_20 ?_
    have h12 := is_H_tr h2 m10 (by omega)
    have h13 := is_H_tr h3 m10 (by omega)
    obtain ⟨r14, h15, hf⟩ := bd_s hf
    refine kw_v (va_runV (As := [.ref (A (q + 38))]) (rest := []) hcf (cz_X0_takeAllFrom l D k A u8 (q + 1) (q + 38) h_now_told_pl h_now_told_sz h_now_inUse_pl h_now_inUse_sz h_now_draw h_kn h_size k_now_told_pl k_now_told_sz k_now_inUse_pl k_now_inUse_sz k_now_draw k_kn k_size r14 h15 h12 h13 (by omega) _) (cwV 1 hts gX6_restore_X0_takeAllFrom rfl rfl rfl (by decide +kernel) ⟨Nat.le_of_ble_eq_true rfl, Nat.le_of_ble_eq_true rfl⟩) (px_V hP hK hD (ci := 0) h12.1 rfl) rfl rfl hl.1 rfl (lv_room (Nat.le_of_ble_eq_true rfl)) dX6_restore_23 ⟨Nat.zero_le _, Nat.zero_le _⟩) hD hS hA (fun u16 _ _ h17 hP hD hS => ?_)
    obtain ⟨h19, m18⟩ := h17
    have hsm := sm_tr hsm m18 (by omega) (by omega)
    refine lv_iconst (v := 1) hx hb dX6_restore_26 (by decide) ?_
    obtain rfl := so_i hf
    have h20 := sm_at m18 (by omega) h11
    have h21 := is_H_tr h13 m18 (by omega)
    have h22 := is_V_tr h4 m10 (by omega)
    have h23 := is_V_tr h22 m18 (by omega)
    have h24 := is_P_tr h5 m10 (by omega)
    have h25 := is_P_tr h24 m18 (by omega)
    have h26 := is_Z_tr h6 m10 (by omega)
    have h27 := is_Z_tr h26 m18 (by omega)
    have h28 : is_X k A u16 (q) r14.1 r14.2.1 r14.2.2.1 r14.2.2.2.1 r14.2.2.2.2.1 r14.2.2.2.2.2.1 r14.2.2.2.2.2.2 k_now_told_pl k_now_told_sz k_now_inUse_pl k_now_inUse_sz k_now_draw k_kn k_size v_sent v_sentI v_best v_ease v_fromA v_vi_pl v_vi_sz v_vl_pl v_vl_sz t_letters t_tt_pl t_tt_sz t_size t_place t_number sh hasImage 1 := ⟨h20, h19, h21, h23, h25, h27⟩
    exact W.iret (v := 1) hx hb hr (qw_end hS hP hD ⟨h28, hsm⟩) hS.2.2 dX6_restore_27
  · have hf := it_p c7 hf
    refine lv_bipush (v := (-4)) hx hb dX6_restore_7 (by decide) ?_
    obtain rfl := so_i hf
    have h29 : is_X k A ws (q) h_now_told_pl h_now_told_sz h_now_inUse_pl h_now_inUse_sz h_now_draw h_kn h_size k_now_told_pl k_now_told_sz k_now_inUse_pl k_now_inUse_sz k_now_draw k_kn k_size v_sent v_sentI v_best v_ease v_fromA v_vi_pl v_vi_sz v_vl_pl v_vl_sz t_letters t_tt_pl t_tt_sz t_size t_place t_number sh hasImage viewIsOld := ⟨h1, h2, h3, h4, h5, h6⟩
    exact W.iret (v := (-4)) hx hb hr (qw_end hS hP hD ⟨h29, hsm⟩) hS.2.2 dX6_restore_9

