theorem in_X6_count_X6 : ∀ w ∈ u_ws RX6 TX6 7, w ∈ wsX6_count := fun w h => List.mem_cons_of_mem _ (List.mem_append_left _ (List.mem_append_left _ (List.mem_append_left _ (List.mem_append_left _ (List.mem_append_right _ h)))))
def pf_X6_count (h_now_told_pl : Nat → Int64) (h_now_told_sz : Int32) (h_now_inUse_pl : Nat → Int64) (h_now_inUse_sz : Int32) (h_size : Int32) (v_sent : Nat → Int32) (v_sentI : Nat → Int32) (v_best : Nat → Int32) (v_ease : Nat → Int32) (v_fromA : Nat → Int32) (v_vi_pl : Nat → Int64) (v_vi_sz : Int32) (v_vl_pl : Nat → Int64) (v_vl_sz : Int32) (viewIsOld : Int32)  (p1 : Int32) : Option (Int32 × (Nat → Int32) × (Nat → Int32) × (Nat → Int32) × (Nat → Int32) × (Nat → Int32) × (Nat → Int64) × Int32 × (Nat → Int64) × Int32 × Int32) :=
  if p1 = 0 then
    (pf_X3_howMany h_now_told_sz).bind (fun r16 =>
      some (r16, v_sent, v_sentI, v_best, v_ease, v_fromA, v_vi_pl, v_vi_sz, v_vl_pl, v_vl_sz, viewIsOld))
  else if p1 = 1 then
    (pf_X6_freshView h_now_told_pl h_now_inUse_pl h_now_inUse_sz v_sent v_sentI v_best v_ease v_fromA v_vi_pl v_vi_sz v_vl_pl v_vl_sz viewIsOld).bind (fun r22 =>
      (pf_X3_howMany r22.2.2.2.2.2.2.2.2.1).bind (fun r44 =>
        some (r44, r22.1, r22.2.1, r22.2.2.1, r22.2.2.2.1, r22.2.2.2.2.1, r22.2.2.2.2.2.1, r22.2.2.2.2.2.2.1, r22.2.2.2.2.2.2.2.1, r22.2.2.2.2.2.2.2.2.1, r22.2.2.2.2.2.2.2.2.2)))
  else if p1 = 2 then
    (pf_X3_howMany h_now_inUse_sz).bind (fun r63 =>
      some (r63, v_sent, v_sentI, v_best, v_ease, v_fromA, v_vi_pl, v_vi_sz, v_vl_pl, v_vl_sz, viewIsOld))
  else if p1 = 3 then
    (pf_X6_freshView h_now_told_pl h_now_inUse_pl h_now_inUse_sz v_sent v_sentI v_best v_ease v_fromA v_vi_pl v_vi_sz v_vl_pl v_vl_sz viewIsOld).bind (fun r69 =>
      (pf_X5_countChanges r69.2.2.2.2.2.1 r69.2.2.2.2.2.2.2.1).bind (fun r81 =>
        some (r81, r69.1, r69.2.1, r69.2.2.1, r69.2.2.2.1, r69.2.2.2.2.1, r69.2.2.2.2.2.1, r69.2.2.2.2.2.2.1, r69.2.2.2.2.2.2.2.1, r69.2.2.2.2.2.2.2.2.1, r69.2.2.2.2.2.2.2.2.2)))
  else if p1 = 4 then
    (pf_X6_freshView h_now_told_pl h_now_inUse_pl h_now_inUse_sz v_sent v_sentI v_best v_ease v_fromA v_vi_pl v_vi_sz v_vl_pl v_vl_sz viewIsOld).bind (fun r85 =>
      (pf_X5_countProof r85.1 r85.2.1).bind (fun r97 =>
        some (r97, r85.1, r85.2.1, r85.2.2.1, r85.2.2.2.1, r85.2.2.2.2.1, r85.2.2.2.2.2.1, r85.2.2.2.2.2.2.1, r85.2.2.2.2.2.2.2.1, r85.2.2.2.2.2.2.2.2.1, r85.2.2.2.2.2.2.2.2.2)))
  else if p1 = 5 then
    (pf_X3_countRedundant h_now_told_pl).bind (fun r115 =>
      some (r115, v_sent, v_sentI, v_best, v_ease, v_fromA, v_vi_pl, v_vi_sz, v_vl_pl, v_vl_sz, viewIsOld))
  else if p1 = 6 then
    (pf_X6_freshView h_now_told_pl h_now_inUse_pl h_now_inUse_sz v_sent v_sentI v_best v_ease v_fromA v_vi_pl v_vi_sz v_vl_pl v_vl_sz viewIsOld).bind (fun r121 =>
      (pf_X5_firstSentElsewhere r121.1 r121.2.1).bind (fun r133 =>
        some (r133, r121.1, r121.2.1, r121.2.2.1, r121.2.2.2.1, r121.2.2.2.2.1, r121.2.2.2.2.2.1, r121.2.2.2.2.2.2.1, r121.2.2.2.2.2.2.2.1, r121.2.2.2.2.2.2.2.2.1, r121.2.2.2.2.2.2.2.2.2)))
  else if p1 = 7 then
    (pf_X0_howManyKnown h_size).bind (fun r143 =>
      some (r143, v_sent, v_sentI, v_best, v_ease, v_fromA, v_vi_pl, v_vi_sz, v_vl_pl, v_vl_sz, viewIsOld))
  else some ((-1), v_sent, v_sentI, v_best, v_ease, v_fromA, v_vi_pl, v_vi_sz, v_vl_pl, v_vl_sz, viewIsOld)

set_option maxHeartbeats 4000000 in
set_option maxRecDepth 100000 in
theorem cz_X6_count (l : Launch) (D : va_G) (k : kt_T) (A : Nat → Nat) (ws : va_W) (q : Nat)  (h_now_told_pl : Nat → Int64) (h_now_told_sz : Int32) (h_now_inUse_pl : Nat → Int64) (h_now_inUse_sz : Int32) (h_now_draw : Int32) (h_kn : Nat → mm_T) (h_size : Int32) (k_now_told_pl : Nat → Int64) (k_now_told_sz : Int32) (k_now_inUse_pl : Nat → Int64) (k_now_inUse_sz : Int32) (k_now_draw : Int32) (k_kn : Nat → mm_T) (k_size : Int32) (v_sent : Nat → Int32) (v_sentI : Nat → Int32) (v_best : Nat → Int32) (v_ease : Nat → Int32) (v_fromA : Nat → Int32) (v_vi_pl : Nat → Int64) (v_vi_sz : Int32) (v_vl_pl : Nat → Int64) (v_vl_sz : Int32) (t_letters : Nat → Int32) (t_tt_pl : Nat → Int64) (t_tt_sz : Int32) (t_size : Int32) (t_place : Int32) (t_number : Int32) (sh : Nat → ss_T) (hasImage : Int32) (viewIsOld : Int32) (p1 : Int32) (out : Int32 × (Nat → Int32) × (Nat → Int32) × (Nat → Int32) × (Nat → Int32) × (Nat → Int32) × (Nat → Int64) × Int32 × (Nat → Int64) × Int32 × Int32) (hf : pf_X6_count h_now_told_pl h_now_told_sz h_now_inUse_pl h_now_inUse_sz h_size v_sent v_sentI v_best v_ease v_fromA v_vi_pl v_vi_sz v_vl_pl v_vl_sz viewIsOld p1 = some out) (h_this : is_X k A ws q h_now_told_pl h_now_told_sz h_now_inUse_pl h_now_inUse_sz h_now_draw h_kn h_size k_now_told_pl k_now_told_sz k_now_inUse_pl k_now_inUse_sz k_now_draw k_kn k_size v_sent v_sentI v_best v_ease v_fromA v_vi_pl v_vi_sz v_vl_pl v_vl_sz t_letters t_tt_pl t_tt_sz t_size t_place t_number sh hasImage viewIsOld)  (sz0 : Nat) : Met l yX6_count wsX6_count { frames := 6, cells := 0, slots := 0, locals := 129 } (va_Pc [.ref (A q), .int p1] (px_P D k ws sz0)) (qw_Q D ws sz0 (some (.int out.1)) (fun u => is_X k A u q h_now_told_pl h_now_told_sz h_now_inUse_pl h_now_inUse_sz h_now_draw h_kn h_size k_now_told_pl k_now_told_sz k_now_inUse_pl k_now_inUse_sz k_now_draw k_kn k_size out.2.1 out.2.2.1 out.2.2.2.1 out.2.2.2.2.1 out.2.2.2.2.2.1 out.2.2.2.2.2.2.1 out.2.2.2.2.2.2.2.1 out.2.2.2.2.2.2.2.2.1 out.2.2.2.2.2.2.2.2.2.1 t_letters t_tt_pl t_tt_sz t_size t_place t_number sh hasImage out.2.2.2.2.2.2.2.2.2.2 ∧ sm_W ws u q (q + 98))) 0 0 (va_A ws sz0) := by
  refine Met.ofW (cc := cX6_count) (maxL := 2) (ret := (some .int)) (by decide) rfl ?_
  intro p e s m args below meth c s₁ B hml hv
  obtain ⟨rfl, hsz, hP, hK, hD0⟩ := hv
  subst hsz
  have hD := hD0.self (sz := s.heap.size)
  have C0 : cx_P p s m meth c [.ref (A q), .int p1].toArray cX6_count 2 wsX6_count RX6 (some .int) := ⟨B.exec, B.bytes, hml, findClass_of_methodNamed B.named, atoms_spec (ws := wsX6_count) B.pre, B.returns, B.notSynchronized⟩
  obtain ⟨hx, hb, hml, hown, hts, hr, hlocks⟩ := id C0
  have hcf : CallFix p m c cX6_count 2 s [.ref (A q), .int p1].toArray wsX6_count RX6 := ⟨hx, hb, hml, hown, hts⟩
  have hA : ∀ q, s.heap.size ≤ q → va_A ws s.heap.size q := fun q h => Or.inr h
  have hS : va_S (va_A ws s.heap.size) s.heap s.heap [] := va_S.rf
  have hsm : sm_W ws ws q (q + 98) := sm_rf
  have w_0 := hts (.fieldLink RX6 10 "LeastRoutes" "history" "LLeastRoutes$History;") (List.mem_of_getElem? (i := 1) rfl)
  have hl := lv_entry ([.ref (A q), .int p1]) (n := 2) (Nat.le_of_ble_eq_true rfl)
  rw [lg_entry_eq]
  generalize (lg_sl ([.ref (A q), .int p1]) ++ List.replicate (2 - (lg_sl ([.ref (A q), .int p1])).length) Slot.unset).toArray = ls at hl ⊢
  have hl : lv_has ls 2 [(0, .ref (A q)), (1, .int p1)] := hl
  unfold pf_X6_count at hf
  refine lv_iload_n hx hb dX6_count_0 rfl (lv_at hl 1 rfl) ?_
  by_cases c1 : p1 = 0
  · have hf := it_p c1 hf
    refine lv_tableIn (tgt := 48) hx hb dX6_count_1 (by rw [c1]; decide) (by rw [c1]; decide) (by rw [c1]; rfl) (by decide) ?_
    refine lv_aload_n hx hb dX6_count_48 rfl (lv_at hl 0 rfl) ?_
    obtain ⟨h2, h3, h4, h5, h6, h7⟩ := h_this
    obtain ⟨h8, h9, h10⟩ := h3
    obtain ⟨h11, h12, h13⟩ := h9
    refine ks_r (va_runV (As := []) (rest := []) hcf (cz_X6_table l D k A ws (q) hasImage viewIsOld h_size h_now_draw h2 h8 h11) (cwV 0 hts gX6_count_X6_table rfl rfl rfl (by decide +kernel) ⟨Nat.le_of_ble_eq_true rfl, Nat.le_of_ble_eq_true rfl⟩) (pw_V hP hK hD (ci := 6) h2 rfl) rfl rfl hl.1 rfl (lv_room (Nat.le_of_ble_eq_true rfl)) dX6_count_49 ⟨Nat.zero_le _, Nat.zero_le _⟩) ?_
    obtain ⟨r16, h17, hf⟩ := bd_s hf
    refine ks_i (va_runV (As := []) (rest := []) hcf (cz_X3_howMany l D k A ws (q + 1 + 1 + 1) h_now_told_pl h_now_told_sz r16 h17 h12) (cwV 0 hts gX6_count_X3_howMany rfl rfl rfl (by decide +kernel) ⟨Nat.le_of_ble_eq_true rfl, Nat.le_of_ble_eq_true rfl⟩) (pw_V hP hK hD (ci := 3) h12.1 rfl) rfl rfl hl.1 rfl (lv_room (Nat.le_of_ble_eq_true rfl)) dX6_count_52 ⟨Nat.zero_le _, Nat.zero_le _⟩) ?_
    obtain rfl := so_i hf
    have h18 : is_M k A ws (q + 1 + 1) h_now_told_pl h_now_told_sz h_now_inUse_pl h_now_inUse_sz h_now_draw := ⟨h11, h12, h13⟩
    have h19 : is_H k A ws (q + 1) h_now_told_pl h_now_told_sz h_now_inUse_pl h_now_inUse_sz h_now_draw h_kn h_size := ⟨h8, h18, h10⟩
    have h20 : is_X k A ws (q) h_now_told_pl h_now_told_sz h_now_inUse_pl h_now_inUse_sz h_now_draw h_kn h_size k_now_told_pl k_now_told_sz k_now_inUse_pl k_now_inUse_sz k_now_draw k_kn k_size v_sent v_sentI v_best v_ease v_fromA v_vi_pl v_vi_sz v_vl_pl v_vl_sz t_letters t_tt_pl t_tt_sz t_size t_place t_number sh hasImage viewIsOld := ⟨h2, h19, h4, h5, h6, h7⟩
    exact W.iret (v := r16) hx hb hr (qw_end hS hP hD ⟨h20, hsm⟩) hS.2.2 dX6_count_55
  have hf := it_n c1 hf
  by_cases c21 : p1 = 1
  · have hf := it_p c21 hf
    refine lv_tableIn (tgt := 56) hx hb dX6_count_1 (by rw [c21]; decide) (by rw [c21]; decide) (by rw [c21]; rfl) (by decide) ?_
    refine lv_aload_n hx hb dX6_count_56 rfl (lv_at hl 0 rfl) ?_
    obtain ⟨r22, h23, hf⟩ := bd_s hf
    refine kw_r (va_runV (As := []) (rest := []) hcf (cz_X6_freshView l D k A ws (q) h_now_told_pl h_now_told_sz h_now_inUse_pl h_now_inUse_sz h_now_draw h_kn h_size k_now_told_pl k_now_told_sz k_now_inUse_pl k_now_inUse_sz k_now_draw k_kn k_size v_sent v_sentI v_best v_ease v_fromA v_vi_pl v_vi_sz v_vl_pl v_vl_sz t_letters t_tt_pl t_tt_sz t_size t_place t_number sh hasImage viewIsOld r22 h23 h_this _) (cwV 0 hts gX6_count_X6_freshView rfl rfl rfl (by decide +kernel) ⟨Nat.le_of_ble_eq_true rfl, Nat.le_of_ble_eq_true rfl⟩) (px_V hP hK hD (ci := 6) h_this.1 rfl) rfl rfl hl.1 rfl (lv_room (Nat.le_of_ble_eq_true rfl)) dX6_count_57 ⟨Nat.zero_le _, Nat.zero_le _⟩) hD hS hA (fun u24 _ _ h25 hP hD hS => ?_)
    obtain ⟨h27, m26⟩ := h25
    have hsm := sm_tr hsm m26 (by omega) (by omega)
    obtain ⟨h28, h29, h30, h31, h32, h33⟩ := h27
    obtain ⟨h34, h35, h36, h37, h38, h39, h40, h41⟩ := h31
    refine ks_r (va_runV (As := []) (rest := []) hcf (cz_X5_leastTable l D k A u24 (q + 75) h34) (cwV 0 hts gX6_count_X5_leastTable rfl rfl rfl (by decide +kernel) ⟨Nat.le_of_ble_eq_true rfl, Nat.le_of_ble_eq_true rfl⟩) (pw_V hP hK hD (ci := 5) h34 rfl) rfl rfl hl.1 rfl (lv_room (Nat.le_of_ble_eq_true rfl)) dX6_count_60 ⟨Nat.zero_le _, Nat.zero_le _⟩) ?_
    obtain ⟨r44, h45, hf⟩ := bd_s hf
    refine ks_i (va_runV (As := []) (rest := []) hcf (cz_X3_howMany l D k A u24 (q + 75 + 8) r22.2.2.2.2.2.2.2.1 r22.2.2.2.2.2.2.2.2.1 r44 h45 h41) (cwV 0 hts gX6_count_X3_howMany rfl rfl rfl (by decide +kernel) ⟨Nat.le_of_ble_eq_true rfl, Nat.le_of_ble_eq_true rfl⟩) (pw_V hP hK hD (ci := 3) h41.1 rfl) rfl rfl hl.1 rfl (lv_room (Nat.le_of_ble_eq_true rfl)) dX6_count_63 ⟨Nat.zero_le _, Nat.zero_le _⟩) ?_
    obtain rfl := so_i hf
    have h46 : is_V k A u24 (q + 75) r22.1 r22.2.1 r22.2.2.1 r22.2.2.2.1 r22.2.2.2.2.1 r22.2.2.2.2.2.1 r22.2.2.2.2.2.2.1 r22.2.2.2.2.2.2.2.1 r22.2.2.2.2.2.2.2.2.1 := ⟨h34, h35, h36, h37, h38, h39, h40, h41⟩
    have h47 : is_X k A u24 (q) h_now_told_pl h_now_told_sz h_now_inUse_pl h_now_inUse_sz h_now_draw h_kn h_size k_now_told_pl k_now_told_sz k_now_inUse_pl k_now_inUse_sz k_now_draw k_kn k_size r22.1 r22.2.1 r22.2.2.1 r22.2.2.2.1 r22.2.2.2.2.1 r22.2.2.2.2.2.1 r22.2.2.2.2.2.2.1 r22.2.2.2.2.2.2.2.1 r22.2.2.2.2.2.2.2.2.1 t_letters t_tt_pl t_tt_sz t_size t_place t_number sh hasImage r22.2.2.2.2.2.2.2.2.2 := ⟨h28, h29, h30, h46, h32, h33⟩
    exact W.iret (v := r44) hx hb hr (qw_end hS hP hD ⟨h47, hsm⟩) hS.2.2 dX6_count_66
  have hf := it_n c21 hf
  by_cases c48 : p1 = 2
  · have hf := it_p c48 hf
    refine lv_tableIn (tgt := 67) hx hb dX6_count_1 (by rw [c48]; decide) (by rw [c48]; decide) (by rw [c48]; rfl) (by decide) ?_
    refine lv_aload_n hx hb dX6_count_67 rfl (lv_at hl 0 rfl) ?_
    obtain ⟨h49, h50, h51, h52, h53, h54⟩ := h_this
    obtain ⟨h55, h56, h57⟩ := h50
    obtain ⟨h58, h59, h60⟩ := h56
    refine ks_r (va_runV (As := []) (rest := []) hcf (cz_X6_installed l D k A ws (q) hasImage viewIsOld h_size h_now_draw h49 h55 h58) (cwV 0 hts gX6_count_X6_installed rfl rfl rfl (by decide +kernel) ⟨Nat.le_of_ble_eq_true rfl, Nat.le_of_ble_eq_true rfl⟩) (pw_V hP hK hD (ci := 6) h49 rfl) rfl rfl hl.1 rfl (lv_room (Nat.le_of_ble_eq_true rfl)) dX6_count_68 ⟨Nat.zero_le _, Nat.zero_le _⟩) ?_
    obtain ⟨r63, h64, hf⟩ := bd_s hf
    refine ks_i (va_runV (As := []) (rest := []) hcf (cz_X3_howMany l D k A ws (q + 1 + 1 + 3) h_now_inUse_pl h_now_inUse_sz r63 h64 h60) (cwV 0 hts gX6_count_X3_howMany rfl rfl rfl (by decide +kernel) ⟨Nat.le_of_ble_eq_true rfl, Nat.le_of_ble_eq_true rfl⟩) (pw_V hP hK hD (ci := 3) h60.1 rfl) rfl rfl hl.1 rfl (lv_room (Nat.le_of_ble_eq_true rfl)) dX6_count_71 ⟨Nat.zero_le _, Nat.zero_le _⟩) ?_
    obtain rfl := so_i hf
    have h65 : is_M k A ws (q + 1 + 1) h_now_told_pl h_now_told_sz h_now_inUse_pl h_now_inUse_sz h_now_draw := ⟨h58, h59, h60⟩
    have h66 : is_H k A ws (q + 1) h_now_told_pl h_now_told_sz h_now_inUse_pl h_now_inUse_sz h_now_draw h_kn h_size := ⟨h55, h65, h57⟩
    have h67 : is_X k A ws (q) h_now_told_pl h_now_told_sz h_now_inUse_pl h_now_inUse_sz h_now_draw h_kn h_size k_now_told_pl k_now_told_sz k_now_inUse_pl k_now_inUse_sz k_now_draw k_kn k_size v_sent v_sentI v_best v_ease v_fromA v_vi_pl v_vi_sz v_vl_pl v_vl_sz t_letters t_tt_pl t_tt_sz t_size t_place t_number sh hasImage viewIsOld := ⟨h49, h66, h51, h52, h53, h54⟩
    exact W.iret (v := r63) hx hb hr (qw_end hS hP hD ⟨h67, hsm⟩) hS.2.2 dX6_count_74
  have hf := it_n c48 hf
  by_cases c68 : p1 = 3
  · have hf := it_p c68 hf
    refine lv_tableIn (tgt := 75) hx hb dX6_count_1 (by rw [c68]; decide) (by rw [c68]; decide) (by rw [c68]; rfl) (by decide) ?_
    refine lv_aload_n hx hb dX6_count_75 rfl (lv_at hl 0 rfl) ?_
    obtain ⟨r69, h70, hf⟩ := bd_s hf
    refine kw_r (va_runV (As := []) (rest := []) hcf (cz_X6_freshView l D k A ws (q) h_now_told_pl h_now_told_sz h_now_inUse_pl h_now_inUse_sz h_now_draw h_kn h_size k_now_told_pl k_now_told_sz k_now_inUse_pl k_now_inUse_sz k_now_draw k_kn k_size v_sent v_sentI v_best v_ease v_fromA v_vi_pl v_vi_sz v_vl_pl v_vl_sz t_letters t_tt_pl t_tt_sz t_size t_place t_number sh hasImage viewIsOld r69 h70 h_this _) (cwV 0 hts gX6_count_X6_freshView rfl rfl rfl (by decide +kernel) ⟨Nat.le_of_ble_eq_true rfl, Nat.le_of_ble_eq_true rfl⟩) (px_V hP hK hD (ci := 6) h_this.1 rfl) rfl rfl hl.1 rfl (lv_room (Nat.le_of_ble_eq_true rfl)) dX6_count_76 ⟨Nat.zero_le _, Nat.zero_le _⟩) hD hS hA (fun u71 _ _ h72 hP hD hS => ?_)
    obtain ⟨h74, m73⟩ := h72
    have hsm := sm_tr hsm m73 (by omega) (by omega)
    obtain ⟨h75, h76, h77, h78, h79, h80⟩ := h74
    obtain ⟨r81, h82, hf⟩ := bd_s hf
    refine ks_i (va_runV (As := []) (rest := []) hcf (cz_X5_countChanges l D k A u71 (q + 75) r69.1 r69.2.1 r69.2.2.1 r69.2.2.2.1 r69.2.2.2.2.1 r69.2.2.2.2.2.1 r69.2.2.2.2.2.2.1 r69.2.2.2.2.2.2.2.1 r69.2.2.2.2.2.2.2.2.1 r81 h82 h78) (cwV 0 hts gX6_count_X5_countChanges rfl rfl rfl (by decide +kernel) ⟨Nat.le_of_ble_eq_true rfl, Nat.le_of_ble_eq_true rfl⟩) (pw_V hP hK hD (ci := 5) h78.1 rfl) rfl rfl hl.1 rfl (lv_room (Nat.le_of_ble_eq_true rfl)) dX6_count_79 ⟨Nat.zero_le _, Nat.zero_le _⟩) ?_
    obtain rfl := so_i hf
    have h83 : is_X k A u71 (q) h_now_told_pl h_now_told_sz h_now_inUse_pl h_now_inUse_sz h_now_draw h_kn h_size k_now_told_pl k_now_told_sz k_now_inUse_pl k_now_inUse_sz k_now_draw k_kn k_size r69.1 r69.2.1 r69.2.2.1 r69.2.2.2.1 r69.2.2.2.2.1 r69.2.2.2.2.2.1 r69.2.2.2.2.2.2.1 r69.2.2.2.2.2.2.2.1 r69.2.2.2.2.2.2.2.2.1 t_letters t_tt_pl t_tt_sz t_size t_place t_number sh hasImage r69.2.2.2.2.2.2.2.2.2 := ⟨h75, h76, h77, h78, h79, h80⟩
    exact W.iret (v := r81) hx hb hr (qw_end hS hP hD ⟨h83, hsm⟩) hS.2.2 dX6_count_82
  have hf := it_n c68 hf
  by_cases c84 : p1 = 4
  · have hf := it_p c84 hf
    refine lv_tableIn (tgt := 83) hx hb dX6_count_1 (by rw [c84]; decide) (by rw [c84]; decide) (by rw [c84]; rfl) (by decide) ?_
    refine lv_aload_n hx hb dX6_count_83 rfl (lv_at hl 0 rfl) ?_
    obtain ⟨r85, h86, hf⟩ := bd_s hf
    refine kw_r (va_runV (As := []) (rest := []) hcf (cz_X6_freshView l D k A ws (q) h_now_told_pl h_now_told_sz h_now_inUse_pl h_now_inUse_sz h_now_draw h_kn h_size k_now_told_pl k_now_told_sz k_now_inUse_pl k_now_inUse_sz k_now_draw k_kn k_size v_sent v_sentI v_best v_ease v_fromA v_vi_pl v_vi_sz v_vl_pl v_vl_sz t_letters t_tt_pl t_tt_sz t_size t_place t_number sh hasImage viewIsOld r85 h86 h_this _) (cwV 0 hts gX6_count_X6_freshView rfl rfl rfl (by decide +kernel) ⟨Nat.le_of_ble_eq_true rfl, Nat.le_of_ble_eq_true rfl⟩) (px_V hP hK hD (ci := 6) h_this.1 rfl) rfl rfl hl.1 rfl (lv_room (Nat.le_of_ble_eq_true rfl)) dX6_count_84 ⟨Nat.zero_le _, Nat.zero_le _⟩) hD hS hA (fun u87 _ _ h88 hP hD hS => ?_)
    obtain ⟨h90, m89⟩ := h88
    have hsm := sm_tr hsm m89 (by omega) (by omega)
    obtain ⟨h91, h92, h93, h94, h95, h96⟩ := h90
    obtain ⟨r97, h98, hf⟩ := bd_s hf
    refine ks_i (va_runV (As := []) (rest := []) hcf (cz_X5_countProof l D k A u87 (q + 75) r85.1 r85.2.1 r85.2.2.1 r85.2.2.2.1 r85.2.2.2.2.1 r85.2.2.2.2.2.1 r85.2.2.2.2.2.2.1 r85.2.2.2.2.2.2.2.1 r85.2.2.2.2.2.2.2.2.1 r97 h98 h94) (cwV 0 hts gX6_count_X5_countProof rfl rfl rfl (by decide +kernel) ⟨Nat.le_of_ble_eq_true rfl, Nat.le_of_ble_eq_true rfl⟩) (pw_V hP hK hD (ci := 5) h94.1 rfl) rfl rfl hl.1 rfl (lv_room (Nat.le_of_ble_eq_true rfl)) dX6_count_87 ⟨Nat.zero_le _, Nat.zero_le _⟩) ?_
    obtain rfl := so_i hf
    have h99 : is_X k A u87 (q) h_now_told_pl h_now_told_sz h_now_inUse_pl h_now_inUse_sz h_now_draw h_kn h_size k_now_told_pl k_now_told_sz k_now_inUse_pl k_now_inUse_sz k_now_draw k_kn k_size r85.1 r85.2.1 r85.2.2.1 r85.2.2.2.1 r85.2.2.2.2.1 r85.2.2.2.2.2.1 r85.2.2.2.2.2.2.1 r85.2.2.2.2.2.2.2.1 r85.2.2.2.2.2.2.2.2.1 t_letters t_tt_pl t_tt_sz t_size t_place t_number sh hasImage r85.2.2.2.2.2.2.2.2.2 := ⟨h91, h92, h93, h94, h95, h96⟩
    exact W.iret (v := r97) hx hb hr (qw_end hS hP hD ⟨h99, hsm⟩) hS.2.2 dX6_count_90
  have hf := it_n c84 hf
  by_cases c100 : p1 = 5
  · have hf := it_p c100 hf
    refine lv_tableIn (tgt := 91) hx hb dX6_count_1 (by rw [c100]; decide) (by rw [c100]; decide) (by rw [c100]; rfl) (by decide) ?_
    refine lv_aload_n hx hb dX6_count_91 rfl (lv_at hl 0 rfl) ?_
    obtain ⟨h101, h102, h103, h104, h105, h106⟩ := h_this
    obtain ⟨h107, h108, h109⟩ := h102
    obtain ⟨h110, h111, h112⟩ := h108
    refine ks_r (va_runV (As := []) (rest := []) hcf (cz_X6_table l D k A ws (q) hasImage viewIsOld h_size h_now_draw h101 h107 h110) (cwV 0 hts gX6_count_X6_table rfl rfl rfl (by decide +kernel) ⟨Nat.le_of_ble_eq_true rfl, Nat.le_of_ble_eq_true rfl⟩) (pw_V hP hK hD (ci := 6) h101 rfl) rfl rfl hl.1 rfl (lv_room (Nat.le_of_ble_eq_true rfl)) dX6_count_92 ⟨Nat.zero_le _, Nat.zero_le _⟩) ?_
    obtain ⟨r115, h116, hf⟩ := bd_s hf
    refine ks_i (va_runV (As := []) (rest := []) hcf (cz_X3_countRedundant l D k A ws (q + 1 + 1 + 1) h_now_told_pl h_now_told_sz r115 h116 h111) (cwV 0 hts gX6_count_X3_countRedundant rfl rfl rfl (by decide +kernel) ⟨Nat.le_of_ble_eq_true rfl, Nat.le_of_ble_eq_true rfl⟩) (pw_V hP hK hD (ci := 3) h111.1 rfl) rfl rfl hl.1 rfl (lv_room (Nat.le_of_ble_eq_true rfl)) dX6_count_95 ⟨Nat.zero_le _, Nat.zero_le _⟩) ?_
    obtain rfl := so_i hf
    have h117 : is_M k A ws (q + 1 + 1) h_now_told_pl h_now_told_sz h_now_inUse_pl h_now_inUse_sz h_now_draw := ⟨h110, h111, h112⟩
    have h118 : is_H k A ws (q + 1) h_now_told_pl h_now_told_sz h_now_inUse_pl h_now_inUse_sz h_now_draw h_kn h_size := ⟨h107, h117, h109⟩
    have h119 : is_X k A ws (q) h_now_told_pl h_now_told_sz h_now_inUse_pl h_now_inUse_sz h_now_draw h_kn h_size k_now_told_pl k_now_told_sz k_now_inUse_pl k_now_inUse_sz k_now_draw k_kn k_size v_sent v_sentI v_best v_ease v_fromA v_vi_pl v_vi_sz v_vl_pl v_vl_sz t_letters t_tt_pl t_tt_sz t_size t_place t_number sh hasImage viewIsOld := ⟨h101, h118, h103, h104, h105, h106⟩
    exact W.iret (v := r115) hx hb hr (qw_end hS hP hD ⟨h119, hsm⟩) hS.2.2 dX6_count_98
  have hf := it_n c100 hf
  by_cases c120 : p1 = 6
  · have hf := it_p c120 hf
    refine lv_tableIn (tgt := 99) hx hb dX6_count_1 (by rw [c120]; decide) (by rw [c120]; decide) (by rw [c120]; rfl) (by decide) ?_
    refine lv_aload_n hx hb dX6_count_99 rfl (lv_at hl 0 rfl) ?_
    obtain ⟨r121, h122, hf⟩ := bd_s hf
    refine kw_r (va_runV (As := []) (rest := []) hcf (cz_X6_freshView l D k A ws (q) h_now_told_pl h_now_told_sz h_now_inUse_pl h_now_inUse_sz h_now_draw h_kn h_size k_now_told_pl k_now_told_sz k_now_inUse_pl k_now_inUse_sz k_now_draw k_kn k_size v_sent v_sentI v_best v_ease v_fromA v_vi_pl v_vi_sz v_vl_pl v_vl_sz t_letters t_tt_pl t_tt_sz t_size t_place t_number sh hasImage viewIsOld r121 h122 h_this _) (cwV 0 hts gX6_count_X6_freshView rfl rfl rfl (by decide +kernel) ⟨Nat.le_of_ble_eq_true rfl, Nat.le_of_ble_eq_true rfl⟩) (px_V hP hK hD (ci := 6) h_this.1 rfl) rfl rfl hl.1 rfl (lv_room (Nat.le_of_ble_eq_true rfl)) dX6_count_100 ⟨Nat.zero_le _, Nat.zero_le _⟩) hD hS hA (fun u123 _ _ h124 hP hD hS => ?_)
    obtain ⟨h126, m125⟩ := h124
    have hsm := sm_tr hsm m125 (by omega) (by omega)
    obtain ⟨h127, h128, h129, h130, h131, h132⟩ := h126
    obtain ⟨r133, h134, hf⟩ := bd_s hf
    refine ks_i (va_runV (As := []) (rest := []) hcf (cz_X5_firstSentElsewhere l D k A u123 (q + 75) r121.1 r121.2.1 r121.2.2.1 r121.2.2.2.1 r121.2.2.2.2.1 r121.2.2.2.2.2.1 r121.2.2.2.2.2.2.1 r121.2.2.2.2.2.2.2.1 r121.2.2.2.2.2.2.2.2.1 r133 h134 h130) (cwV 0 hts gX6_count_X5_firstSentElsewhere rfl rfl rfl (by decide +kernel) ⟨Nat.le_of_ble_eq_true rfl, Nat.le_of_ble_eq_true rfl⟩) (pw_V hP hK hD (ci := 5) h130.1 rfl) rfl rfl hl.1 rfl (lv_room (Nat.le_of_ble_eq_true rfl)) dX6_count_103 ⟨Nat.zero_le _, Nat.zero_le _⟩) ?_
    obtain rfl := so_i hf
    have h135 : is_X k A u123 (q) h_now_told_pl h_now_told_sz h_now_inUse_pl h_now_inUse_sz h_now_draw h_kn h_size k_now_told_pl k_now_told_sz k_now_inUse_pl k_now_inUse_sz k_now_draw k_kn k_size r121.1 r121.2.1 r121.2.2.1 r121.2.2.2.1 r121.2.2.2.2.1 r121.2.2.2.2.2.1 r121.2.2.2.2.2.2.1 r121.2.2.2.2.2.2.2.1 r121.2.2.2.2.2.2.2.2.1 t_letters t_tt_pl t_tt_sz t_size t_place t_number sh hasImage r121.2.2.2.2.2.2.2.2.2 := ⟨h127, h128, h129, h130, h131, h132⟩
    exact W.iret (v := r133) hx hb hr (qw_end hS hP hD ⟨h135, hsm⟩) hS.2.2 dX6_count_106
  have hf := it_n c120 hf
  by_cases c136 : p1 = 7
  · have hf := it_p c136 hf
    refine lv_tableIn (tgt := 107) hx hb dX6_count_1 (by rw [c136]; decide) (by rw [c136]; decide) (by rw [c136]; rfl) (by decide) ?_
    refine lv_aload_n hx hb dX6_count_107 rfl (lv_at hl 0 rfl) ?_
    obtain ⟨h137, h138, h139, h140, h141, h142⟩ := h_this
    refine va_get (D := D) (ci := 6) (v := .ref (A (q + 1))) (C := RX6) (T := TX6) (N := 7) hx hb hts in_X6_count_X6 hown hK.1 hP (q) h137 rfl 0 (by decide) w_0 (fun _ h9 => h9) rfl dX6_count_108 ?_
    obtain ⟨r143, h144, hf⟩ := bd_s hf
    refine ks_i (va_runV (As := []) (rest := []) hcf (cz_X0_howManyKnown l D k A ws (q + 1) h_now_told_pl h_now_told_sz h_now_inUse_pl h_now_inUse_sz h_now_draw h_kn h_size r143 h144 h138) (cwV 0 hts gX6_count_X0_howManyKnown rfl rfl rfl (by decide +kernel) ⟨Nat.le_of_ble_eq_true rfl, Nat.le_of_ble_eq_true rfl⟩) (pw_V hP hK hD (ci := 0) h138.1 rfl) rfl rfl hl.1 rfl (lv_room (Nat.le_of_ble_eq_true rfl)) dX6_count_111 ⟨Nat.zero_le _, Nat.zero_le _⟩) ?_
    obtain rfl := so_i hf
    have h145 : is_X k A ws (q) h_now_told_pl h_now_told_sz h_now_inUse_pl h_now_inUse_sz h_now_draw h_kn h_size k_now_told_pl k_now_told_sz k_now_inUse_pl k_now_inUse_sz k_now_draw k_kn k_size v_sent v_sentI v_best v_ease v_fromA v_vi_pl v_vi_sz v_vl_pl v_vl_sz t_letters t_tt_pl t_tt_sz t_size t_place t_number sh hasImage viewIsOld := ⟨h137, h138, h139, h140, h141, h142⟩
    exact W.iret (v := r143) hx hb hr (qw_end hS hP hD ⟨h145, hsm⟩) hS.2.2 dX6_count_114
  have hf := it_n c136 hf
  refine lv_tableOut (tgt := 115) hx hb dX6_count_1 (sw_0_7 c1 c21 c48 c68 c84 c100 c120 c136) (by decide) ?_
  refine lv_iconst (v := (-1)) hx hb dX6_count_115 (by decide) ?_
  obtain rfl := so_i hf
  exact W.iret (v := (-1)) hx hb hr (qw_end hS hP hD ⟨h_this, hsm⟩) hS.2.2 dX6_count_116

def pf_X6_change (h_now_told_pl : Nat → Int64) (h_now_inUse_pl : Nat → Int64) (h_now_inUse_sz : Int32) (v_sent : Nat → Int32) (v_sentI : Nat → Int32) (v_best : Nat → Int32) (v_ease : Nat → Int32) (v_fromA : Nat → Int32) (v_vi_pl : Nat → Int64) (v_vi_sz : Int32) (v_vl_pl : Nat → Int64) (v_vl_sz : Int32) (viewIsOld : Int32)  (p1 : Int32) (p2 : Int32) : Option (Int32 × (Nat → Int32) × (Nat → Int32) × (Nat → Int32) × (Nat → Int32) × (Nat → Int32) × (Nat → Int64) × Int32 × (Nat → Int64) × Int32 × Int32) :=
  if p1 < 0 then
    some ((-1), v_sent, v_sentI, v_best, v_ease, v_fromA, v_vi_pl, v_vi_sz, v_vl_pl, v_vl_sz, viewIsOld)
  else
    if p2 < 0 then
      some ((-1), v_sent, v_sentI, v_best, v_ease, v_fromA, v_vi_pl, v_vi_sz, v_vl_pl, v_vl_sz, viewIsOld)
    else
      if p2 ≤ 3 then
        (pf_X6_freshView h_now_told_pl h_now_inUse_pl h_now_inUse_sz v_sent v_sentI v_best v_ease v_fromA v_vi_pl v_vi_sz v_vl_pl v_vl_sz viewIsOld).bind (fun r4 =>
          (pf_X5_changeNumber r4.2.2.2.2.2.1 r4.2.2.2.2.2.2.2.1 p1).bind (fun r16 =>
            if r16 = (-4) then
              some ((-4), r4.1, r4.2.1, r4.2.2.1, r4.2.2.2.1, r4.2.2.2.2.1, r4.2.2.2.2.2.1, r4.2.2.2.2.2.2.1, r4.2.2.2.2.2.2.2.1, r4.2.2.2.2.2.2.2.2.1, r4.2.2.2.2.2.2.2.2.2)
            else
              if p2 = 0 then
                some (r16, r4.1, r4.2.1, r4.2.2.1, r4.2.2.2.1, r4.2.2.2.2.1, r4.2.2.2.2.2.1, r4.2.2.2.2.2.2.1, r4.2.2.2.2.2.2.2.1, r4.2.2.2.2.2.2.2.2.1, r4.2.2.2.2.2.2.2.2.2)
              else if p2 = 1 then
                (pf_X3_hopAt h_now_inUse_pl r16).bind (fun r30 =>
                  some (r30, r4.1, r4.2.1, r4.2.2.1, r4.2.2.2.1, r4.2.2.2.2.1, r4.2.2.2.2.2.1, r4.2.2.2.2.2.2.1, r4.2.2.2.2.2.2.2.1, r4.2.2.2.2.2.2.2.2.1, r4.2.2.2.2.2.2.2.2.2))
              else if p2 = 2 then
                (pf_X3_hopAt r4.2.2.2.2.2.2.2.1 r16).bind (fun r46 =>
                  some (r46, r4.1, r4.2.1, r4.2.2.1, r4.2.2.2.1, r4.2.2.2.2.1, r4.2.2.2.2.2.1, r4.2.2.2.2.2.2.1, r4.2.2.2.2.2.2.2.1, r4.2.2.2.2.2.2.2.2.1, r4.2.2.2.2.2.2.2.2.2))
              else (pf_X5_kindOfChange r4.2.2.2.2.2.1 r4.2.2.2.2.2.2.2.1 r16).bind (fun r50 =>
                some (r50, r4.1, r4.2.1, r4.2.2.1, r4.2.2.2.1, r4.2.2.2.2.1, r4.2.2.2.2.2.1, r4.2.2.2.2.2.2.1, r4.2.2.2.2.2.2.2.1, r4.2.2.2.2.2.2.2.2.1, r4.2.2.2.2.2.2.2.2.2))))
      else
        some ((-1), v_sent, v_sentI, v_best, v_ease, v_fromA, v_vi_pl, v_vi_sz, v_vl_pl, v_vl_sz, viewIsOld)

set_option maxHeartbeats 4000000 in
set_option maxRecDepth 100000 in
theorem cz_X6_change (l : Launch) (D : va_G) (k : kt_T) (A : Nat → Nat) (ws : va_W) (q : Nat)  (h_now_told_pl : Nat → Int64) (h_now_told_sz : Int32) (h_now_inUse_pl : Nat → Int64) (h_now_inUse_sz : Int32) (h_now_draw : Int32) (h_kn : Nat → mm_T) (h_size : Int32) (k_now_told_pl : Nat → Int64) (k_now_told_sz : Int32) (k_now_inUse_pl : Nat → Int64) (k_now_inUse_sz : Int32) (k_now_draw : Int32) (k_kn : Nat → mm_T) (k_size : Int32) (v_sent : Nat → Int32) (v_sentI : Nat → Int32) (v_best : Nat → Int32) (v_ease : Nat → Int32) (v_fromA : Nat → Int32) (v_vi_pl : Nat → Int64) (v_vi_sz : Int32) (v_vl_pl : Nat → Int64) (v_vl_sz : Int32) (t_letters : Nat → Int32) (t_tt_pl : Nat → Int64) (t_tt_sz : Int32) (t_size : Int32) (t_place : Int32) (t_number : Int32) (sh : Nat → ss_T) (hasImage : Int32) (viewIsOld : Int32) (p1 : Int32) (p2 : Int32) (out : Int32 × (Nat → Int32) × (Nat → Int32) × (Nat → Int32) × (Nat → Int32) × (Nat → Int32) × (Nat → Int64) × Int32 × (Nat → Int64) × Int32 × Int32) (hf : pf_X6_change h_now_told_pl h_now_inUse_pl h_now_inUse_sz v_sent v_sentI v_best v_ease v_fromA v_vi_pl v_vi_sz v_vl_pl v_vl_sz viewIsOld p1 p2 = some out) (h_this : is_X k A ws q h_now_told_pl h_now_told_sz h_now_inUse_pl h_now_inUse_sz h_now_draw h_kn h_size k_now_told_pl k_now_told_sz k_now_inUse_pl k_now_inUse_sz k_now_draw k_kn k_size v_sent v_sentI v_best v_ease v_fromA v_vi_pl v_vi_sz v_vl_pl v_vl_sz t_letters t_tt_pl t_tt_sz t_size t_place t_number sh hasImage viewIsOld)  (sz0 : Nat) : Met l yX6_change wsX6_change { frames := 5, cells := 0, slots := 0, locals := 123 } (va_Pc [.ref (A q), .int p1, .int p2] (px_P D k ws sz0)) (qw_Q D ws sz0 (some (.int out.1)) (fun u => is_X k A u q h_now_told_pl h_now_told_sz h_now_inUse_pl h_now_inUse_sz h_now_draw h_kn h_size k_now_told_pl k_now_told_sz k_now_inUse_pl k_now_inUse_sz k_now_draw k_kn k_size out.2.1 out.2.2.1 out.2.2.2.1 out.2.2.2.2.1 out.2.2.2.2.2.1 out.2.2.2.2.2.2.1 out.2.2.2.2.2.2.2.1 out.2.2.2.2.2.2.2.2.1 out.2.2.2.2.2.2.2.2.2.1 t_letters t_tt_pl t_tt_sz t_size t_place t_number sh hasImage out.2.2.2.2.2.2.2.2.2.2 ∧ sm_W ws u q (q + 98))) 0 0 (va_A ws sz0) := by
  refine Met.ofW (cc := cX6_change) (maxL := 5) (ret := (some .int)) (by decide) rfl ?_
  intro p e s m args below meth c s₁ B hml hv
  obtain ⟨rfl, hsz, hP, hK, hD0⟩ := hv
  subst hsz
  have hD := hD0.self (sz := s.heap.size)
  have C0 : cx_P p s m meth c [.ref (A q), .int p1, .int p2].toArray cX6_change 5 wsX6_change RX6 (some .int) := ⟨B.exec, B.bytes, hml, findClass_of_methodNamed B.named, atoms_spec (ws := wsX6_change) B.pre, B.returns, B.notSynchronized⟩
  obtain ⟨hx, hb, hml, hown, hts, hr, hlocks⟩ := id C0
  have hcf : CallFix p m c cX6_change 5 s [.ref (A q), .int p1, .int p2].toArray wsX6_change RX6 := ⟨hx, hb, hml, hown, hts⟩
  have hA : ∀ q, s.heap.size ≤ q → va_A ws s.heap.size q := fun q h => Or.inr h
  have hS : va_S (va_A ws s.heap.size) s.heap s.heap [] := va_S.rf
  have hsm : sm_W ws ws q (q + 98) := sm_rf
  have hl := lv_entry ([.ref (A q), .int p1, .int p2]) (n := 5) (Nat.le_of_ble_eq_true rfl)
  rw [lg_entry_eq]
  generalize (lg_sl ([.ref (A q), .int p1, .int p2]) ++ List.replicate (5 - (lg_sl ([.ref (A q), .int p1, .int p2])).length) Slot.unset).toArray = ls at hl ⊢
  have hl : lv_has ls 5 [(0, .ref (A q)), (1, .int p1), (2, .int p2)] := hl
  unfold pf_X6_change at hf
  refine lv_iload_n hx hb dX6_change_0 rfl (lv_at hl 1 rfl) ?_
  refine lv_if_lt (tgt := 13) hx hb dX6_change_1 (by decide) (fun c1 => ?_) (fun c1 => ?_)
  · have hf := it_p c1 hf
    refine lv_iconst (v := (-1)) hx hb dX6_change_13 (by decide) ?_
    obtain rfl := so_i hf
    exact W.iret (v := (-1)) hx hb hr (qw_end hS hP hD ⟨h_this, hsm⟩) hS.2.2 dX6_change_14
  · have hf := it_n c1 hf
    refine lv_iload_n hx hb dX6_change_4 rfl (lv_at hl 2 rfl) ?_
    refine lv_if_lt (tgt := 13) hx hb dX6_change_5 (by decide) (fun c2 => ?_) (fun c2 => ?_)
    · have hf := it_p c2 hf
      refine lv_iconst (v := (-1)) hx hb dX6_change_13 (by decide) ?_
      obtain rfl := so_i hf
      exact W.iret (v := (-1)) hx hb hr (qw_end hS hP hD ⟨h_this, hsm⟩) hS.2.2 dX6_change_14
    · have hf := it_n c2 hf
      refine lv_iload_n hx hb dX6_change_8 rfl (lv_at hl 2 rfl) ?_
      refine lv_iconst (v := 3) hx hb dX6_change_9 (by decide) ?_
      refine lv_icmp_le (tgt := 15) hx hb dX6_change_10 (by decide) (fun c3 => ?_) (fun c3 => ?_)
      · have hf := it_p c3 hf
        refine lv_aload_n hx hb dX6_change_15 rfl (lv_at hl 0 rfl) ?_
        obtain ⟨r4, h5, hf⟩ := bd_s hf
        refine kw_r (va_runV (As := []) (rest := []) hcf (cz_X6_freshView l D k A ws (q) h_now_told_pl h_now_told_sz h_now_inUse_pl h_now_inUse_sz h_now_draw h_kn h_size k_now_told_pl k_now_told_sz k_now_inUse_pl k_now_inUse_sz k_now_draw k_kn k_size v_sent v_sentI v_best v_ease v_fromA v_vi_pl v_vi_sz v_vl_pl v_vl_sz t_letters t_tt_pl t_tt_sz t_size t_place t_number sh hasImage viewIsOld r4 h5 h_this _) (cwV 0 hts gX6_change_X6_freshView rfl rfl rfl (by decide +kernel) ⟨Nat.le_of_ble_eq_true rfl, Nat.le_of_ble_eq_true rfl⟩) (px_V hP hK hD (ci := 6) h_this.1 rfl) rfl rfl hl.1 rfl (lv_room (Nat.le_of_ble_eq_true rfl)) dX6_change_16 ⟨Nat.zero_le _, Nat.zero_le _⟩) hD hS hA (fun u6 _ _ h7 hP hD hS => ?_)
        obtain ⟨h9, m8⟩ := h7
        have hsm := sm_tr hsm m8 (by omega) (by omega)
        refine lv_astore_n (lv' := [(3, .ref (A (q + 75))), (0, .ref (A q)), (1, .int p1), (2, .int p2)]) hx hb dX6_change_19 rfl hl (by decide) rfl (fun ls hl => ?_)
        refine lv_aload_n hx hb dX6_change_20 rfl (lv_at hl 0 rfl) ?_
        refine lv_iload_n hx hb dX6_change_21 rfl (lv_at hl 2 rfl) ?_
        obtain ⟨h10, h11, h12, h13, h14, h15⟩ := h9
        obtain ⟨r16, h17, hf⟩ := bd_s hf
        refine ks_i (va_runV (As := [.int p1]) (rest := []) hcf (cz_X5_changeNumber l D k A u6 (q + 75) r4.1 r4.2.1 r4.2.2.1 r4.2.2.2.1 r4.2.2.2.2.1 r4.2.2.2.2.2.1 r4.2.2.2.2.2.2.1 r4.2.2.2.2.2.2.2.1 r4.2.2.2.2.2.2.2.2.1 p1 r16 h17 h13) (cwV 1 hts gX6_change_X5_changeNumber rfl rfl rfl (by decide +kernel) ⟨Nat.le_of_ble_eq_true rfl, Nat.le_of_ble_eq_true rfl⟩) (pw_V hP hK hD (ci := 5) h13.1 rfl) rfl rfl hl.1 rfl (lv_room (Nat.le_of_ble_eq_true rfl)) dX6_change_22 ⟨Nat.zero_le _, Nat.zero_le _⟩) ?_
        refine lv_istore (lv' := [(4, .int r16), (3, .ref (A (q + 75))), (0, .ref (A q)), (1, .int p1), (2, .int p2)]) hx hb dX6_change_25 hl (by decide) rfl (fun ls hl => ?_)
        refine lv_iload hx hb dX6_change_27 (lv_at hl 0 rfl) ?_
        refine lv_bipush (v := (-4)) hx hb dX6_change_29 (by decide) ?_
        refine lv_icmp_ne (tgt := 37) hx hb dX6_change_31 (by decide) (fun c18 => ?_) (fun c18 => ?_)
        · have hf := it_n c18 hf
          refine lv_iload_n hx hb dX6_change_37 rfl (lv_at hl 4 rfl) ?_
          by_cases c19 : p2 = 0
          · have hf := it_p c19 hf
            refine lv_tableIn (tgt := 64) hx hb dX6_change_38 (by rw [c19]; decide) (by rw [c19]; decide) (by rw [c19]; rfl) (by decide) ?_
            refine lv_iload hx hb dX6_change_64 (lv_at hl 0 rfl) ?_
            obtain rfl := so_i hf
            have h20 : is_X k A u6 (q) h_now_told_pl h_now_told_sz h_now_inUse_pl h_now_inUse_sz h_now_draw h_kn h_size k_now_told_pl k_now_told_sz k_now_inUse_pl k_now_inUse_sz k_now_draw k_kn k_size r4.1 r4.2.1 r4.2.2.1 r4.2.2.2.1 r4.2.2.2.2.1 r4.2.2.2.2.2.1 r4.2.2.2.2.2.2.1 r4.2.2.2.2.2.2.2.1 r4.2.2.2.2.2.2.2.2.1 t_letters t_tt_pl t_tt_sz t_size t_place t_number sh hasImage r4.2.2.2.2.2.2.2.2.2 := ⟨h10, h11, h12, h13, h14, h15⟩
            exact W.iret (v := r16) hx hb hr (qw_end hS hP hD ⟨h20, hsm⟩) hS.2.2 dX6_change_66
          have hf := it_n c19 hf
          by_cases c21 : p2 = 1
          · have hf := it_p c21 hf
            refine lv_tableIn (tgt := 67) hx hb dX6_change_38 (by rw [c21]; decide) (by rw [c21]; decide) (by rw [c21]; rfl) (by decide) ?_
            refine lv_aload_n hx hb dX6_change_67 rfl (lv_at hl 2 rfl) ?_
            obtain ⟨h22, h23, h24⟩ := h11
            obtain ⟨h25, h26, h27⟩ := h23
            refine ks_r (va_runV (As := []) (rest := []) hcf (cz_X6_installed l D k A u6 (q) hasImage r4.2.2.2.2.2.2.2.2.2 h_size h_now_draw h10 h22 h25) (cwV 0 hts gX6_change_X6_installed rfl rfl rfl (by decide +kernel) ⟨Nat.le_of_ble_eq_true rfl, Nat.le_of_ble_eq_true rfl⟩) (pw_V hP hK hD (ci := 6) h10 rfl) rfl rfl hl.1 rfl (lv_room (Nat.le_of_ble_eq_true rfl)) dX6_change_68 ⟨Nat.zero_le _, Nat.zero_le _⟩) ?_
            refine lv_iload hx hb dX6_change_71 (lv_at hl 0 rfl) ?_
            obtain ⟨r30, h31, hf⟩ := bd_s hf
            refine ks_i (va_runV (As := [.int r16]) (rest := []) hcf (cz_X3_hopAt l D k A u6 (q + 1 + 1 + 3) h_now_inUse_pl h_now_inUse_sz r16 r30 h31 h27) (cwV 1 hts gX6_change_X3_hopAt rfl rfl rfl (by decide +kernel) ⟨Nat.le_of_ble_eq_true rfl, Nat.le_of_ble_eq_true rfl⟩) (pw_V hP hK hD (ci := 3) h27.1 rfl) rfl rfl hl.1 rfl (lv_room (Nat.le_of_ble_eq_true rfl)) dX6_change_73 ⟨Nat.zero_le _, Nat.zero_le _⟩) ?_
            obtain rfl := so_i hf
            have h32 : is_M k A u6 (q + 1 + 1) h_now_told_pl h_now_told_sz h_now_inUse_pl h_now_inUse_sz h_now_draw := ⟨h25, h26, h27⟩
            have h33 : is_H k A u6 (q + 1) h_now_told_pl h_now_told_sz h_now_inUse_pl h_now_inUse_sz h_now_draw h_kn h_size := ⟨h22, h32, h24⟩
            have h34 : is_X k A u6 (q) h_now_told_pl h_now_told_sz h_now_inUse_pl h_now_inUse_sz h_now_draw h_kn h_size k_now_told_pl k_now_told_sz k_now_inUse_pl k_now_inUse_sz k_now_draw k_kn k_size r4.1 r4.2.1 r4.2.2.1 r4.2.2.2.1 r4.2.2.2.2.1 r4.2.2.2.2.2.1 r4.2.2.2.2.2.2.1 r4.2.2.2.2.2.2.2.1 r4.2.2.2.2.2.2.2.2.1 t_letters t_tt_pl t_tt_sz t_size t_place t_number sh hasImage r4.2.2.2.2.2.2.2.2.2 := ⟨h10, h33, h12, h13, h14, h15⟩
            exact W.iret (v := r30) hx hb hr (qw_end hS hP hD ⟨h34, hsm⟩) hS.2.2 dX6_change_76
          have hf := it_n c21 hf
          by_cases c35 : p2 = 2
          · have hf := it_p c35 hf
            refine lv_tableIn (tgt := 77) hx hb dX6_change_38 (by rw [c35]; decide) (by rw [c35]; decide) (by rw [c35]; rfl) (by decide) ?_
            refine lv_aload_n hx hb dX6_change_77 rfl (lv_at hl 1 rfl) ?_
            obtain ⟨h36, h37, h38, h39, h40, h41, h42, h43⟩ := h13
            refine ks_r (va_runV (As := []) (rest := []) hcf (cz_X5_leastTable l D k A u6 (q + 75) h36) (cwV 0 hts gX6_change_X5_leastTable rfl rfl rfl (by decide +kernel) ⟨Nat.le_of_ble_eq_true rfl, Nat.le_of_ble_eq_true rfl⟩) (pw_V hP hK hD (ci := 5) h36 rfl) rfl rfl hl.1 rfl (lv_room (Nat.le_of_ble_eq_true rfl)) dX6_change_78 ⟨Nat.zero_le _, Nat.zero_le _⟩) ?_
            refine lv_iload hx hb dX6_change_81 (lv_at hl 0 rfl) ?_
            obtain ⟨r46, h47, hf⟩ := bd_s hf
            refine ks_i (va_runV (As := [.int r16]) (rest := []) hcf (cz_X3_hopAt l D k A u6 (q + 75 + 8) r4.2.2.2.2.2.2.2.1 r4.2.2.2.2.2.2.2.2.1 r16 r46 h47 h43) (cwV 1 hts gX6_change_X3_hopAt rfl rfl rfl (by decide +kernel) ⟨Nat.le_of_ble_eq_true rfl, Nat.le_of_ble_eq_true rfl⟩) (pw_V hP hK hD (ci := 3) h43.1 rfl) rfl rfl hl.1 rfl (lv_room (Nat.le_of_ble_eq_true rfl)) dX6_change_83 ⟨Nat.zero_le _, Nat.zero_le _⟩) ?_
            obtain rfl := so_i hf
            have h48 : is_V k A u6 (q + 75) r4.1 r4.2.1 r4.2.2.1 r4.2.2.2.1 r4.2.2.2.2.1 r4.2.2.2.2.2.1 r4.2.2.2.2.2.2.1 r4.2.2.2.2.2.2.2.1 r4.2.2.2.2.2.2.2.2.1 := ⟨h36, h37, h38, h39, h40, h41, h42, h43⟩
            have h49 : is_X k A u6 (q) h_now_told_pl h_now_told_sz h_now_inUse_pl h_now_inUse_sz h_now_draw h_kn h_size k_now_told_pl k_now_told_sz k_now_inUse_pl k_now_inUse_sz k_now_draw k_kn k_size r4.1 r4.2.1 r4.2.2.1 r4.2.2.2.1 r4.2.2.2.2.1 r4.2.2.2.2.2.1 r4.2.2.2.2.2.2.1 r4.2.2.2.2.2.2.2.1 r4.2.2.2.2.2.2.2.2.1 t_letters t_tt_pl t_tt_sz t_size t_place t_number sh hasImage r4.2.2.2.2.2.2.2.2.2 := ⟨h10, h11, h12, h48, h14, h15⟩
            exact W.iret (v := r46) hx hb hr (qw_end hS hP hD ⟨h49, hsm⟩) hS.2.2 dX6_change_86
          have hf := it_n c35 hf
          refine lv_tableOut (tgt := 87) hx hb dX6_change_38 (sw_0_2 c19 c21 c35) (by decide) ?_
          refine lv_aload_n hx hb dX6_change_87 rfl (lv_at hl 1 rfl) ?_
          refine lv_iload hx hb dX6_change_88 (lv_at hl 0 rfl) ?_
          obtain ⟨r50, h51, hf⟩ := bd_s hf
          refine ks_i (va_runV (As := [.int r16]) (rest := []) hcf (cz_X5_kindOfChange l D k A u6 (q + 75) r4.1 r4.2.1 r4.2.2.1 r4.2.2.2.1 r4.2.2.2.2.1 r4.2.2.2.2.2.1 r4.2.2.2.2.2.2.1 r4.2.2.2.2.2.2.2.1 r4.2.2.2.2.2.2.2.2.1 r16 r50 h51 h13) (cwV 1 hts gX6_change_X5_kindOfChange rfl rfl rfl (by decide +kernel) ⟨Nat.le_of_ble_eq_true rfl, Nat.le_of_ble_eq_true rfl⟩) (pw_V hP hK hD (ci := 5) h13.1 rfl) rfl rfl hl.1 rfl (lv_room (Nat.le_of_ble_eq_true rfl)) dX6_change_90 ⟨Nat.zero_le _, Nat.zero_le _⟩) ?_
          obtain rfl := so_i hf
          have h52 : is_X k A u6 (q) h_now_told_pl h_now_told_sz h_now_inUse_pl h_now_inUse_sz h_now_draw h_kn h_size k_now_told_pl k_now_told_sz k_now_inUse_pl k_now_inUse_sz k_now_draw k_kn k_size r4.1 r4.2.1 r4.2.2.1 r4.2.2.2.1 r4.2.2.2.2.1 r4.2.2.2.2.2.1 r4.2.2.2.2.2.2.1 r4.2.2.2.2.2.2.2.1 r4.2.2.2.2.2.2.2.2.1 t_letters t_tt_pl t_tt_sz t_size t_place t_number sh hasImage r4.2.2.2.2.2.2.2.2.2 := ⟨h10, h11, h12, h13, h14, h15⟩
          exact W.iret (v := r50) hx hb hr (qw_end hS hP hD ⟨h52, hsm⟩) hS.2.2 dX6_change_93
        · have hf := it_p c18 hf
          refine lv_bipush (v := (-4)) hx hb dX6_change_34 (by decide) ?_
          obtain rfl := so_i hf
          have h53 : is_X k A u6 (q) h_now_told_pl h_now_told_sz h_now_inUse_pl h_now_inUse_sz h_now_draw h_kn h_size k_now_told_pl k_now_told_sz k_now_inUse_pl k_now_inUse_sz k_now_draw k_kn k_size r4.1 r4.2.1 r4.2.2.1 r4.2.2.2.1 r4.2.2.2.2.1 r4.2.2.2.2.2.1 r4.2.2.2.2.2.2.1 r4.2.2.2.2.2.2.2.1 r4.2.2.2.2.2.2.2.2.1 t_letters t_tt_pl t_tt_sz t_size t_place t_number sh hasImage r4.2.2.2.2.2.2.2.2.2 := ⟨h10, h11, h12, h13, h14, h15⟩
          exact W.iret (v := (-4)) hx hb hr (qw_end hS hP hD ⟨h53, hsm⟩) hS.2.2 dX6_change_36
      · have hf := it_n c3 hf
        refine lv_iconst (v := (-1)) hx hb dX6_change_13 (by decide) ?_
        obtain rfl := so_i hf
        exact W.iret (v := (-1)) hx hb hr (qw_end hS hP hD ⟨h_this, hsm⟩) hS.2.2 dX6_change_14

def pf_X6_proof (h_now_told_pl : Nat → Int64) (h_now_inUse_pl : Nat → Int64) (h_now_inUse_sz : Int32) (v_sent : Nat → Int32) (v_sentI : Nat → Int32) (v_best : Nat → Int32) (v_ease : Nat → Int32) (v_fromA : Nat → Int32) (v_vi_pl : Nat → Int64) (v_vi_sz : Int32) (v_vl_pl : Nat → Int64) (v_vl_sz : Int32) (viewIsOld : Int32)  (p1 : Int32) (p2 : Int32) : Option (Int32 × (Nat → Int32) × (Nat → Int32) × (Nat → Int32) × (Nat → Int32) × (Nat → Int32) × (Nat → Int64) × Int32 × (Nat → Int64) × Int32 × Int32) :=
  if p1 < 0 then
    some ((-1), v_sent, v_sentI, v_best, v_ease, v_fromA, v_vi_pl, v_vi_sz, v_vl_pl, v_vl_sz, viewIsOld)
  else
    if p2 < 0 then
      some ((-1), v_sent, v_sentI, v_best, v_ease, v_fromA, v_vi_pl, v_vi_sz, v_vl_pl, v_vl_sz, viewIsOld)
    else
      if p2 ≤ 2 then
        (pf_X6_freshView h_now_told_pl h_now_inUse_pl h_now_inUse_sz v_sent v_sentI v_best v_ease v_fromA v_vi_pl v_vi_sz v_vl_pl v_vl_sz viewIsOld).bind (fun r4 =>
          (pf_X5_proofNumber r4.1 r4.2.1 p1).bind (fun r16 =>
            if r16 = (-4) then
              some ((-4), r4.1, r4.2.1, r4.2.2.1, r4.2.2.2.1, r4.2.2.2.2.1, r4.2.2.2.2.2.1, r4.2.2.2.2.2.2.1, r4.2.2.2.2.2.2.2.1, r4.2.2.2.2.2.2.2.2.1, r4.2.2.2.2.2.2.2.2.2)
            else
              if p2 = 0 then
                some (r16, r4.1, r4.2.1, r4.2.2.1, r4.2.2.2.1, r4.2.2.2.2.1, r4.2.2.2.2.2.1, r4.2.2.2.2.2.2.1, r4.2.2.2.2.2.2.2.1, r4.2.2.2.2.2.2.2.2.1, r4.2.2.2.2.2.2.2.2.2)
              else if p2 = 1 then
                (pf_X5_hopsBeneath r4.1 r16).bind (fun r22 =>
                  (pf_X6_lowestHop r22).bind (fun r24 =>
                    some (r24, r4.1, r4.2.1, r4.2.2.1, r4.2.2.2.1, r4.2.2.2.2.1, r4.2.2.2.2.2.1, r4.2.2.2.2.2.2.1, r4.2.2.2.2.2.2.2.1, r4.2.2.2.2.2.2.2.2.1, r4.2.2.2.2.2.2.2.2.2)))
              else (pf_X5_installedHopsBeneath r4.2.1 r16).bind (fun r27 =>
                (pf_X6_lowestHop r27).bind (fun r29 =>
                  some (r29, r4.1, r4.2.1, r4.2.2.1, r4.2.2.2.1, r4.2.2.2.2.1, r4.2.2.2.2.2.1, r4.2.2.2.2.2.2.1, r4.2.2.2.2.2.2.2.1, r4.2.2.2.2.2.2.2.2.1, r4.2.2.2.2.2.2.2.2.2)))))
      else
        some ((-1), v_sent, v_sentI, v_best, v_ease, v_fromA, v_vi_pl, v_vi_sz, v_vl_pl, v_vl_sz, viewIsOld)

set_option maxHeartbeats 4000000 in
set_option maxRecDepth 100000 in
theorem cz_X6_proof (l : Launch) (D : va_G) (k : kt_T) (A : Nat → Nat) (ws : va_W) (q : Nat)  (h_now_told_pl : Nat → Int64) (h_now_told_sz : Int32) (h_now_inUse_pl : Nat → Int64) (h_now_inUse_sz : Int32) (h_now_draw : Int32) (h_kn : Nat → mm_T) (h_size : Int32) (k_now_told_pl : Nat → Int64) (k_now_told_sz : Int32) (k_now_inUse_pl : Nat → Int64) (k_now_inUse_sz : Int32) (k_now_draw : Int32) (k_kn : Nat → mm_T) (k_size : Int32) (v_sent : Nat → Int32) (v_sentI : Nat → Int32) (v_best : Nat → Int32) (v_ease : Nat → Int32) (v_fromA : Nat → Int32) (v_vi_pl : Nat → Int64) (v_vi_sz : Int32) (v_vl_pl : Nat → Int64) (v_vl_sz : Int32) (t_letters : Nat → Int32) (t_tt_pl : Nat → Int64) (t_tt_sz : Int32) (t_size : Int32) (t_place : Int32) (t_number : Int32) (sh : Nat → ss_T) (hasImage : Int32) (viewIsOld : Int32) (p1 : Int32) (p2 : Int32) (out : Int32 × (Nat → Int32) × (Nat → Int32) × (Nat → Int32) × (Nat → Int32) × (Nat → Int32) × (Nat → Int64) × Int32 × (Nat → Int64) × Int32 × Int32) (hf : pf_X6_proof h_now_told_pl h_now_inUse_pl h_now_inUse_sz v_sent v_sentI v_best v_ease v_fromA v_vi_pl v_vi_sz v_vl_pl v_vl_sz viewIsOld p1 p2 = some out) (h_this : is_X k A ws q h_now_told_pl h_now_told_sz h_now_inUse_pl h_now_inUse_sz h_now_draw h_kn h_size k_now_told_pl k_now_told_sz k_now_inUse_pl k_now_inUse_sz k_now_draw k_kn k_size v_sent v_sentI v_best v_ease v_fromA v_vi_pl v_vi_sz v_vl_pl v_vl_sz t_letters t_tt_pl t_tt_sz t_size t_place t_number sh hasImage viewIsOld)  (sz0 : Nat) : Met l yX6_proof wsX6_proof { frames := 5, cells := 0, slots := 0, locals := 123 } (va_Pc [.ref (A q), .int p1, .int p2] (px_P D k ws sz0)) (qw_Q D ws sz0 (some (.int out.1)) (fun u => is_X k A u q h_now_told_pl h_now_told_sz h_now_inUse_pl h_now_inUse_sz h_now_draw h_kn h_size k_now_told_pl k_now_told_sz k_now_inUse_pl k_now_inUse_sz k_now_draw k_kn k_size out.2.1 out.2.2.1 out.2.2.2.1 out.2.2.2.2.1 out.2.2.2.2.2.1 out.2.2.2.2.2.2.1 out.2.2.2.2.2.2.2.1 out.2.2.2.2.2.2.2.2.1 out.2.2.2.2.2.2.2.2.2.1 t_letters t_tt_pl t_tt_sz t_size t_place t_number sh hasImage out.2.2.2.2.2.2.2.2.2.2 ∧ sm_W ws u q (q + 98))) 0 0 (va_A ws sz0) := by
  refine Met.ofW (cc := cX6_proof) (maxL := 5) (ret := (some .int)) (by decide) rfl ?_
  intro p e s m args below meth c s₁ B hml hv
  obtain ⟨rfl, hsz, hP, hK, hD0⟩ := hv
  subst hsz
  have hD := hD0.self (sz := s.heap.size)
  have C0 : cx_P p s m meth c [.ref (A q), .int p1, .int p2].toArray cX6_proof 5 wsX6_proof RX6 (some .int) := ⟨B.exec, B.bytes, hml, findClass_of_methodNamed B.named, atoms_spec (ws := wsX6_proof) B.pre, B.returns, B.notSynchronized⟩
  obtain ⟨hx, hb, hml, hown, hts, hr, hlocks⟩ := id C0
  have hcf : CallFix p m c cX6_proof 5 s [.ref (A q), .int p1, .int p2].toArray wsX6_proof RX6 := ⟨hx, hb, hml, hown, hts⟩
  have hA : ∀ q, s.heap.size ≤ q → va_A ws s.heap.size q := fun q h => Or.inr h
  have hS : va_S (va_A ws s.heap.size) s.heap s.heap [] := va_S.rf
  have hsm : sm_W ws ws q (q + 98) := sm_rf
  have hl := lv_entry ([.ref (A q), .int p1, .int p2]) (n := 5) (Nat.le_of_ble_eq_true rfl)
  rw [lg_entry_eq]
  generalize (lg_sl ([.ref (A q), .int p1, .int p2]) ++ List.replicate (5 - (lg_sl ([.ref (A q), .int p1, .int p2])).length) Slot.unset).toArray = ls at hl ⊢
  have hl : lv_has ls 5 [(0, .ref (A q)), (1, .int p1), (2, .int p2)] := hl
  unfold pf_X6_proof at hf
  refine lv_iload_n hx hb dX6_proof_0 rfl (lv_at hl 1 rfl) ?_
  refine lv_if_lt (tgt := 13) hx hb dX6_proof_1 (by decide) (fun c1 => ?_) (fun c1 => ?_)
  · have hf := it_p c1 hf
    refine lv_iconst (v := (-1)) hx hb dX6_proof_13 (by decide) ?_
    obtain rfl := so_i hf
    exact W.iret (v := (-1)) hx hb hr (qw_end hS hP hD ⟨h_this, hsm⟩) hS.2.2 dX6_proof_14
  · have hf := it_n c1 hf
    refine lv_iload_n hx hb dX6_proof_4 rfl (lv_at hl 2 rfl) ?_
    refine lv_if_lt (tgt := 13) hx hb dX6_proof_5 (by decide) (fun c2 => ?_) (fun c2 => ?_)
    · have hf := it_p c2 hf
      refine lv_iconst (v := (-1)) hx hb dX6_proof_13 (by decide) ?_
      obtain rfl := so_i hf
      exact W.iret (v := (-1)) hx hb hr (qw_end hS hP hD ⟨h_this, hsm⟩) hS.2.2 dX6_proof_14
    · have hf := it_n c2 hf
      refine lv_iload_n hx hb dX6_proof_8 rfl (lv_at hl 2 rfl) ?_
      refine lv_iconst (v := 2) hx hb dX6_proof_9 (by decide) ?_
      refine lv_icmp_le (tgt := 15) hx hb dX6_proof_10 (by decide) (fun c3 => ?_) (fun c3 => ?_)
      · have hf := it_p c3 hf
        refine lv_aload_n hx hb dX6_proof_15 rfl (lv_at hl 0 rfl) ?_
        obtain ⟨r4, h5, hf⟩ := bd_s hf
        refine kw_r (va_runV (As := []) (rest := []) hcf (cz_X6_freshView l D k A ws (q) h_now_told_pl h_now_told_sz h_now_inUse_pl h_now_inUse_sz h_now_draw h_kn h_size k_now_told_pl k_now_told_sz k_now_inUse_pl k_now_inUse_sz k_now_draw k_kn k_size v_sent v_sentI v_best v_ease v_fromA v_vi_pl v_vi_sz v_vl_pl v_vl_sz t_letters t_tt_pl t_tt_sz t_size t_place t_number sh hasImage viewIsOld r4 h5 h_this _) (cwV 0 hts gX6_proof_X6_freshView rfl rfl rfl (by decide +kernel) ⟨Nat.le_of_ble_eq_true rfl, Nat.le_of_ble_eq_true rfl⟩) (px_V hP hK hD (ci := 6) h_this.1 rfl) rfl rfl hl.1 rfl (lv_room (Nat.le_of_ble_eq_true rfl)) dX6_proof_16 ⟨Nat.zero_le _, Nat.zero_le _⟩) hD hS hA (fun u6 _ _ h7 hP hD hS => ?_)
        obtain ⟨h9, m8⟩ := h7
        have hsm := sm_tr hsm m8 (by omega) (by omega)
        refine lv_astore_n (lv' := [(3, .ref (A (q + 75))), (0, .ref (A q)), (1, .int p1), (2, .int p2)]) hx hb dX6_proof_19 rfl hl (by decide) rfl (fun ls hl => ?_)
        refine lv_aload_n hx hb dX6_proof_20 rfl (lv_at hl 0 rfl) ?_
        refine lv_iload_n hx hb dX6_proof_21 rfl (lv_at hl 2 rfl) ?_
        obtain ⟨h10, h11, h12, h13, h14, h15⟩ := h9
        obtain ⟨r16, h17, hf⟩ := bd_s hf
        refine ks_i (va_runV (As := [.int p1]) (rest := []) hcf (cz_X5_proofNumber l D k A u6 (q + 75) r4.1 r4.2.1 r4.2.2.1 r4.2.2.2.1 r4.2.2.2.2.1 r4.2.2.2.2.2.1 r4.2.2.2.2.2.2.1 r4.2.2.2.2.2.2.2.1 r4.2.2.2.2.2.2.2.2.1 p1 r16 h17 h13) (cwV 1 hts gX6_proof_X5_proofNumber rfl rfl rfl (by decide +kernel) ⟨Nat.le_of_ble_eq_true rfl, Nat.le_of_ble_eq_true rfl⟩) (pw_V hP hK hD (ci := 5) h13.1 rfl) rfl rfl hl.1 rfl (lv_room (Nat.le_of_ble_eq_true rfl)) dX6_proof_22 ⟨Nat.zero_le _, Nat.zero_le _⟩) ?_
        refine lv_istore (lv' := [(4, .int r16), (3, .ref (A (q + 75))), (0, .ref (A q)), (1, .int p1), (2, .int p2)]) hx hb dX6_proof_25 hl (by decide) rfl (fun ls hl => ?_)
        refine lv_iload hx hb dX6_proof_27 (lv_at hl 0 rfl) ?_
        refine lv_bipush (v := (-4)) hx hb dX6_proof_29 (by decide) ?_
        refine lv_icmp_ne (tgt := 37) hx hb dX6_proof_31 (by decide) (fun c18 => ?_) (fun c18 => ?_)
        · have hf := it_n c18 hf
          refine lv_iload_n hx hb dX6_proof_37 rfl (lv_at hl 4 rfl) ?_
          by_cases c19 : p2 = 0
          · have hf := it_p c19 hf
            refine lv_lookup (tgt := 64) (off := 26) hx hb dX6_proof_38 (by decide) (by rw [c19] <;> rfl) (by decide) ?_
            refine lv_iload hx hb dX6_proof_64 (lv_at hl 0 rfl) ?_
            obtain rfl := so_i hf
            have h20 : is_X k A u6 (q) h_now_told_pl h_now_told_sz h_now_inUse_pl h_now_inUse_sz h_now_draw h_kn h_size k_now_told_pl k_now_told_sz k_now_inUse_pl k_now_inUse_sz k_now_draw k_kn k_size r4.1 r4.2.1 r4.2.2.1 r4.2.2.2.1 r4.2.2.2.2.1 r4.2.2.2.2.2.1 r4.2.2.2.2.2.2.1 r4.2.2.2.2.2.2.2.1 r4.2.2.2.2.2.2.2.2.1 t_letters t_tt_pl t_tt_sz t_size t_place t_number sh hasImage r4.2.2.2.2.2.2.2.2.2 := ⟨h10, h11, h12, h13, h14, h15⟩
            exact W.iret (v := r16) hx hb hr (qw_end hS hP hD ⟨h20, hsm⟩) hS.2.2 dX6_proof_66
          have hf := it_n c19 hf
          by_cases c21 : p2 = 1
          · have hf := it_p c21 hf
            refine lv_lookup (tgt := 67) (off := 29) hx hb dX6_proof_38 (by decide) (by rw [c21] <;> rfl) (by decide) ?_
            refine lv_aload_n hx hb dX6_proof_67 rfl (lv_at hl 1 rfl) ?_
            refine lv_iload hx hb dX6_proof_68 (lv_at hl 0 rfl) ?_
            obtain ⟨r22, h23, hf⟩ := bd_s hf
            refine ks_i (va_runV (As := [.int r16]) (rest := []) hcf (cz_X5_hopsBeneath l D k A u6 (q + 75) r4.1 r4.2.1 r4.2.2.1 r4.2.2.2.1 r4.2.2.2.2.1 r4.2.2.2.2.2.1 r4.2.2.2.2.2.2.1 r4.2.2.2.2.2.2.2.1 r4.2.2.2.2.2.2.2.2.1 r16 r22 h23 h13) (cwV 1 hts gX6_proof_X5_hopsBeneath rfl rfl rfl (by decide +kernel) ⟨Nat.le_of_ble_eq_true rfl, Nat.le_of_ble_eq_true rfl⟩) (pw_V hP hK hD (ci := 5) h13.1 rfl) rfl rfl hl.1 rfl (lv_room (Nat.le_of_ble_eq_true rfl)) dX6_proof_70 ⟨Nat.zero_le _, Nat.zero_le _⟩) ?_
            obtain ⟨r24, h25, hf⟩ := bd_s hf
            refine ks_i (va_runS (As := [.int r22]) (rest := []) hcf (cz_X6_lowestHop l D k A u6 r22 r24 h25) (va_cwS 1 hts gX6_proof_X6_lowestHop rfl rfl rfl (by decide +kernel) ⟨Nat.le_of_ble_eq_true rfl, Nat.le_of_ble_eq_true rfl⟩) (pw_S hP hK hD) rfl rfl hl.1 rfl (lv_room (Nat.le_of_ble_eq_true rfl)) dX6_proof_73 ⟨Nat.zero_le _, Nat.zero_le _⟩) ?_
            obtain rfl := so_i hf
            have h26 : is_X k A u6 (q) h_now_told_pl h_now_told_sz h_now_inUse_pl h_now_inUse_sz h_now_draw h_kn h_size k_now_told_pl k_now_told_sz k_now_inUse_pl k_now_inUse_sz k_now_draw k_kn k_size r4.1 r4.2.1 r4.2.2.1 r4.2.2.2.1 r4.2.2.2.2.1 r4.2.2.2.2.2.1 r4.2.2.2.2.2.2.1 r4.2.2.2.2.2.2.2.1 r4.2.2.2.2.2.2.2.2.1 t_letters t_tt_pl t_tt_sz t_size t_place t_number sh hasImage r4.2.2.2.2.2.2.2.2.2 := ⟨h10, h11, h12, h13, h14, h15⟩
            exact W.iret (v := r24) hx hb hr (qw_end hS hP hD ⟨h26, hsm⟩) hS.2.2 dX6_proof_76
          have hf := it_n c21 hf
          refine lv_lookup (tgt := 77) (off := 39) hx hb dX6_proof_38 (by decide) ((lv_osw c19 (by decide)).trans ((lv_osw c21 (by decide)).trans rfl)) (by decide) ?_
          refine lv_aload_n hx hb dX6_proof_77 rfl (lv_at hl 1 rfl) ?_
          refine lv_iload hx hb dX6_proof_78 (lv_at hl 0 rfl) ?_
          obtain ⟨r27, h28, hf⟩ := bd_s hf
          refine ks_i (va_runV (As := [.int r16]) (rest := []) hcf (cz_X5_installedHopsBeneath l D k A u6 (q + 75) r4.1 r4.2.1 r4.2.2.1 r4.2.2.2.1 r4.2.2.2.2.1 r4.2.2.2.2.2.1 r4.2.2.2.2.2.2.1 r4.2.2.2.2.2.2.2.1 r4.2.2.2.2.2.2.2.2.1 r16 r27 h28 h13) (cwV 1 hts gX6_proof_X5_installedHopsBeneath rfl rfl rfl (by decide +kernel) ⟨Nat.le_of_ble_eq_true rfl, Nat.le_of_ble_eq_true rfl⟩) (pw_V hP hK hD (ci := 5) h13.1 rfl) rfl rfl hl.1 rfl (lv_room (Nat.le_of_ble_eq_true rfl)) dX6_proof_80 ⟨Nat.zero_le _, Nat.zero_le _⟩) ?_
          obtain ⟨r29, h30, hf⟩ := bd_s hf
          refine ks_i (va_runS (As := [.int r27]) (rest := []) hcf (cz_X6_lowestHop l D k A u6 r27 r29 h30) (va_cwS 1 hts gX6_proof_X6_lowestHop rfl rfl rfl (by decide +kernel) ⟨Nat.le_of_ble_eq_true rfl, Nat.le_of_ble_eq_true rfl⟩) (pw_S hP hK hD) rfl rfl hl.1 rfl (lv_room (Nat.le_of_ble_eq_true rfl)) dX6_proof_83 ⟨Nat.zero_le _, Nat.zero_le _⟩) ?_
          obtain rfl := so_i hf
          have h31 : is_X k A u6 (q) h_now_told_pl h_now_told_sz h_now_inUse_pl h_now_inUse_sz h_now_draw h_kn h_size k_now_told_pl k_now_told_sz k_now_inUse_pl k_now_inUse_sz k_now_draw k_kn k_size r4.1 r4.2.1 r4.2.2.1 r4.2.2.2.1 r4.2.2.2.2.1 r4.2.2.2.2.2.1 r4.2.2.2.2.2.2.1 r4.2.2.2.2.2.2.2.1 r4.2.2.2.2.2.2.2.2.1 t_letters t_tt_pl t_tt_sz t_size t_place t_number sh hasImage r4.2.2.2.2.2.2.2.2.2 := ⟨h10, h11, h12, h13, h14, h15⟩
          exact W.iret (v := r29) hx hb hr (qw_end hS hP hD ⟨h31, hsm⟩) hS.2.2 dX6_proof_86
        · have hf := it_p c18 hf
          refine lv_bipush (v := (-4)) hx hb dX6_proof_34 (by decide) ?_
          obtain rfl := so_i hf
          have h32 : is_X k A u6 (q) h_now_told_pl h_now_told_sz h_now_inUse_pl h_now_inUse_sz h_now_draw h_kn h_size k_now_told_pl k_now_told_sz k_now_inUse_pl k_now_inUse_sz k_now_draw k_kn k_size r4.1 r4.2.1 r4.2.2.1 r4.2.2.2.1 r4.2.2.2.2.1 r4.2.2.2.2.2.1 r4.2.2.2.2.2.2.1 r4.2.2.2.2.2.2.2.1 r4.2.2.2.2.2.2.2.2.1 t_letters t_tt_pl t_tt_sz t_size t_place t_number sh hasImage r4.2.2.2.2.2.2.2.2.2 := ⟨h10, h11, h12, h13, h14, h15⟩
          exact W.iret (v := (-4)) hx hb hr (qw_end hS hP hD ⟨h32, hsm⟩) hS.2.2 dX6_proof_36
      · have hf := it_n c3 hf
        refine lv_iconst (v := (-1)) hx hb dX6_proof_13 (by decide) ?_
        obtain rfl := so_i hf
        exact W.iret (v := (-1)) hx hb hr (qw_end hS hP hD ⟨h_this, hsm⟩) hS.2.2 dX6_proof_14

def lp_X6_lost_56  (h_now_told_pl : Nat → Int64) (x1 : Int32) (x2 : Int32) (x3 : Int32) (x4 : Int32) : Nat → Int64 → Int64 → Int32 → Option (Int32)
  | 0, _, _, _ => none
  | n + 1, x5, x7, x9 =>
    if 8 < x9 then
      (pf_X6_greatestDivisor x5 x7).bind (fun r26 =>
        if 0 < (lg_cmp r26 0) then
          if x3 = 0 then
            ck_O (nz_c r26) (
              some (Int64.toInt32 (x5 / r26)))
          else
            ck_O (nz_c r26) (
              some (Int64.toInt32 (x7 / r26)))
        else
          some (-1))
    else
      (pf_X3_hopAt h_now_told_pl ((256 + x1) >>> ((8 - x9) &&& 31))).bind (fun r46 =>
        if r46 = (-4) then
          lp_X6_lost_56 h_now_told_pl x1 x2 x3 x4 n x5 x7 (x9 + 1)
        else
          if r46 = x4 then
            lt_O (((Int32.toInt64 x2) * x5) + ((Int32.toInt64 (10 - x2)) * x7)) (fun y52 =>
              lp_X6_lost_56 h_now_told_pl x1 x2 x3 x4 n y52 (10 * x7) (x9 + 1))
          else
            lt_O (((Int32.toInt64 x2) * x5) + 0) (fun y50 =>
              lp_X6_lost_56 h_now_told_pl x1 x2 x3 x4 n y50 (10 * x7) (x9 + 1)))

def pf_X6_lost (h_now_told_pl : Nat → Int64)  (p1 : Int32) (p2 : Int32) (p3 : Int32) : Option (Int32) :=
  (pf_X6_isAddress p1).bind (fun r1 =>
    if r1 = 0 then
      some (-1)
    else
      if p2 < 0 then
        some (-1)
      else
        if 10 < p2 then
          some (-1)
        else
          if p3 < 0 then
            some (-1)
          else
            if p3 ≤ 1 then
              (pf_X3_hopOfAddress h_now_told_pl p1).bind (fun r22 =>
                if r22 = 0 then
                  lp_X6_lost_56 h_now_told_pl p1 p2 p3 r22 fu_N 1 1 0
                else
                  lp_X6_lost_56 h_now_told_pl p1 p2 p3 r22 fu_N 0 1 0)
            else
              some (-1))

set_option maxHeartbeats 4000000 in
set_option maxRecDepth 100000 in
theorem wl_X6_lost_56 {p : Program} {e : Env} {s : State} {m : MethodId} {args : Array Value} {below : List Frame} {meth : Method} {c : Code} (l : Launch) (D : va_G) (k : kt_T) (A : Nat → Nat) (ws : va_W) (q : Nat)  (out : Int32) (hK : kk_P D k s) (C0 : cx_P p s m meth c args cX6_lost 11 wsX6_lost RX6 (some .int))  (h_now_told_pl : Nat → Int64) (h_now_told_sz : Int32) (h_now_inUse_pl : Nat → Int64) (h_now_inUse_sz : Int32) (h_now_draw : Int32) (h_kn : Nat → mm_T) (h_size : Int32) (k_now_told_pl : Nat → Int64) (k_now_told_sz : Int32) (k_now_inUse_pl : Nat → Int64) (k_now_inUse_sz : Int32) (k_now_draw : Int32) (k_kn : Nat → mm_T) (k_size : Int32) (v_sent : Nat → Int32) (v_sentI : Nat → Int32) (v_best : Nat → Int32) (v_ease : Nat → Int32) (v_fromA : Nat → Int32) (v_vi_pl : Nat → Int64) (v_vi_sz : Int32) (v_vl_pl : Nat → Int64) (v_vl_sz : Int32) (t_letters : Nat → Int32) (t_tt_pl : Nat → Int64) (t_tt_sz : Int32) (t_size : Int32) (t_place : Int32) (t_number : Int32) (sh : Nat → ss_T) (hasImage : Int32) (viewIsOld : Int32) (x1 : Int32) (x2 : Int32) (x3 : Int32) (x4 : Int32)   (h_this : is_X k A ws q h_now_told_pl h_now_told_sz h_now_inUse_pl h_now_inUse_sz h_now_draw h_kn h_size k_now_told_pl k_now_told_sz k_now_inUse_pl k_now_inUse_sz k_now_draw k_kn k_size v_sent v_sentI v_best v_ease v_fromA v_vi_pl v_vi_sz v_vl_pl v_vl_sz t_letters t_tt_pl t_tt_sz t_size t_place t_number sh hasImage viewIsOld) (hP : va_P D vwCl ws s.heap) (hD : va_D (fun _ => True) ws) : ∀ (n : Nat) (x5 : Int64) (x7 : Int64) (x9 : Int32) (ls : Array Slot), lp_X6_lost_56 h_now_told_pl x1 x2 x3 x4 n x5 x7 x9 = some out → lv_has ls 11 [(0, .ref (A q)), (1, .int x1), (2, .int x2), (3, .int x3), (4, .int x4), (5, .long x5), (7, .long x7), (9, .int x9)] → W p l e (headSpec wsX6_lost { frames := 3, cells := 0, slots := 0, locals := 67 }).room s m args below meth c s.heap [] 0 0 (MQ below (qs_Q (some (.int out))) args s 0 0 (fun _ => False)) (F0 m 56 ls []) := by
  obtain ⟨hx, hb, hml, hown, hts, hr, hlocks⟩ := id C0
  have hcf : CallFix p m c cX6_lost 11 s args wsX6_lost RX6 := ⟨hx, hb, hml, hown, hts⟩
  have w_0 := hts (.constantLong RX6 136 (10)) (List.mem_of_getElem? (i := 1) rfl)
  intro n
  induction n with
  | zero =>
    intro x5 x7 x9 ls hf hl
    exact (no_s hf).elim
  | succ n ih =>
    intro x5 x7 x9 ls hf hl
    rw [lp_X6_lost_56] at hf
    refine lv_iload hx hb dX6_lost_56 (lv_at hl 7 rfl) ?_
    refine lv_bipush (v := 8) hx hb dX6_lost_58 (by decide) ?_
    refine lv_icmp_gt (tgt := 131) hx hb dX6_lost_60 (by decide) (fun c25 => ?_) (fun c25 => ?_)
    · have hf := it_p c25 hf
      refine lv_lload hx hb dX6_lost_131 (lv_at hl 5 rfl) ?_
      refine lv_lload hx hb dX6_lost_133 (lv_at hl 6 rfl) ?_
      obtain ⟨r26, h27, hf⟩ := bd_s hf
      refine ks_l (va_runS (As := [.long x5, .long x7]) (rest := []) hcf (cz_X6_greatestDivisor l D k A ws x5 x7 r26 h27) (va_cwS 2 hts gX6_lost_X6_greatestDivisor rfl rfl rfl (by decide +kernel) ⟨Nat.le_of_ble_eq_true rfl, Nat.le_of_ble_eq_true rfl⟩) (pw_S hP hK hD) rfl rfl hl.1 rfl (lv_room (Nat.le_of_ble_eq_true rfl)) dX6_lost_135 ⟨Nat.zero_le _, Nat.zero_le _⟩) ?_
      refine lv_lstore (lv' := [(9, .long r26), (0, .ref (A q)), (1, .int x1), (2, .int x2), (3, .int x3), (4, .int x4), (5, .long x5), (7, .long x7)]) hx hb dX6_lost_138 hl (by decide) rfl (fun ls hl => ?_)
      refine lv_lload hx hb dX6_lost_140 (lv_at hl 0 rfl) ?_
      refine lv_lconst (v := 0) hx hb dX6_lost_142 (by decide) ?_
      refine W.lcmp hx hb dX6_lost_143 ?_
      refine lv_if_gt (tgt := 149) hx hb dX6_lost_144 (by decide) (fun c28 => ?_) (fun c28 => ?_)
      · have hf := it_p c28 hf
        refine lv_iload_n hx hb dX6_lost_149 rfl (lv_at hl 4 rfl) ?_
        refine lv_if_ne (tgt := 158) hx hb dX6_lost_150 (by decide) (fun c29 => ?_) (fun c29 => ?_)
        · have hf := it_n c29 hf
          refine lv_lload hx hb dX6_lost_158 (lv_at hl 7 rfl) ?_
          refine lv_lload hx hb dX6_lost_160 (lv_at hl 0 rfl) ?_
          obtain ⟨z30, hf⟩ := ck_s hf
          refine lv_ldiv hx hb dX6_lost_162 (nz_t z30) ?_
          refine lv_l2i hx hb dX6_lost_163 rfl ?_
          obtain rfl := so_i hf
          exact W.iret (v := (Int64.toInt32 (x7 / r26))) hx hb hr (fun t ht _ => ⟨rfl, ht⟩) (fun _ h => absurd h List.not_mem_nil) dX6_lost_164
        · have hf := it_p c29 hf
          refine lv_lload hx hb dX6_lost_153 (lv_at hl 6 rfl) ?_
          refine lv_goto (tgt := 160) hx hb dX6_lost_155 (by decide) ?_
          refine lv_lload hx hb dX6_lost_160 (lv_at hl 0 rfl) ?_
          obtain ⟨z31, hf⟩ := ck_s hf
          refine lv_ldiv hx hb dX6_lost_162 (nz_t z31) ?_
          refine lv_l2i hx hb dX6_lost_163 rfl ?_
          obtain rfl := so_i hf
          exact W.iret (v := (Int64.toInt32 (x5 / r26))) hx hb hr (fun t ht _ => ⟨rfl, ht⟩) (fun _ h => absurd h List.not_mem_nil) dX6_lost_164
      · have hf := it_n c28 hf
        refine lv_iconst (v := (-1)) hx hb dX6_lost_147 (by decide) ?_
        obtain rfl := so_i hf
        exact W.iret (v := (-1)) hx hb hr (fun t ht _ => ⟨rfl, ht⟩) (fun _ h => absurd h List.not_mem_nil) dX6_lost_148
    · have hf := it_n c25 hf
      refine lv_aload_n hx hb dX6_lost_63 rfl (lv_at hl 0 rfl) ?_
      obtain ⟨h32, h33, h34, h35, h36, h37⟩ := h_this
      obtain ⟨h38, h39, h40⟩ := h33
      obtain ⟨h41, h42, h43⟩ := h39
      refine ks_r (va_runV (As := []) (rest := []) hcf (cz_X6_table l D k A ws (q) hasImage viewIsOld h_size h_now_draw h32 h38 h41) (cwV 0 hts gX6_lost_X6_table rfl rfl rfl (by decide +kernel) ⟨Nat.le_of_ble_eq_true rfl, Nat.le_of_ble_eq_true rfl⟩) (pw_V hP hK hD (ci := 6) h32 rfl) rfl rfl hl.1 rfl (lv_room (Nat.le_of_ble_eq_true rfl)) dX6_lost_64 ⟨Nat.zero_le _, Nat.zero_le _⟩) ?_
      refine lv_sipush (v := 256) hx hb dX6_lost_67 (by decide) ?_
      refine lv_iload_n hx hb dX6_lost_70 rfl (lv_at hl 1 rfl) ?_
      refine lv_iadd hx hb dX6_lost_71 ?_
      refine lv_bipush (v := 8) hx hb dX6_lost_72 (by decide) ?_
      refine lv_iload hx hb dX6_lost_74 (lv_at hl 7 rfl) ?_
      refine lv_isub hx hb dX6_lost_76 ?_
      refine lv_ishr hx hb dX6_lost_77 ?_
      obtain ⟨r46, h47, hf⟩ := bd_s hf
      refine ks_i (va_runV (As := [.int ((256 + x1) >>> ((8 - x9) &&& 31))]) (rest := []) hcf (cz_X3_hopAt l D k A ws (q + 1 + 1 + 1) h_now_told_pl h_now_told_sz ((256 + x1) >>> ((8 - x9) &&& 31)) r46 h47 h42) (cwV 1 hts gX6_lost_X3_hopAt rfl rfl rfl (by decide +kernel) ⟨Nat.le_of_ble_eq_true rfl, Nat.le_of_ble_eq_true rfl⟩) (pw_V hP hK hD (ci := 3) h42.1 rfl) rfl rfl hl.1 rfl (lv_room (Nat.le_of_ble_eq_true rfl)) dX6_lost_78 ⟨Nat.zero_le _, Nat.zero_le _⟩) ?_
      refine lv_istore (lv' := [(10, .int r46), (0, .ref (A q)), (1, .int x1), (2, .int x2), (3, .int x3), (4, .int x4), (5, .long x5), (7, .long x7), (9, .int x9)]) hx hb dX6_lost_81 hl (by decide) rfl (fun ls hl => ?_)
      refine lv_iload hx hb dX6_lost_83 (lv_at hl 0 rfl) ?_
      refine lv_bipush (v := (-4)) hx hb dX6_lost_85 (by decide) ?_
      refine lv_icmp_eq (tgt := 125) hx hb dX6_lost_87 (by decide) (fun c48 => ?_) (fun c48 => ?_)
      · have hf := it_p c48 hf
        refine lv_iinc (v := (x9 + 1)) (lv' := [(9, .int (x9 + 1)), (10, .int r46), (0, .ref (A q)), (1, .int x1), (2, .int x2), (3, .int x3), (4, .int x4), (5, .long x5), (7, .long x7)]) hx hb dX6_lost_125 hl (k := 8) rfl rfl (by decide) rfl (fun ls hl => ?_)
        refine lv_goto (tgt := 56) hx hb dX6_lost_128 (by decide) ?_
        exact ih x5 x7 (x9 + 1) _ hf (lv_sub hl [2, 3, 4, 5, 6, 7, 8, 0] rfl)
      · have hf := it_n c48 hf
        refine lv_iload_n hx hb dX6_lost_90 rfl (lv_at hl 3 rfl) ?_
        refine lv_i2l hx hb dX6_lost_91 rfl ?_
        refine lv_lload hx hb dX6_lost_92 (lv_at hl 6 rfl) ?_
        refine lv_lmul hx hb dX6_lost_94 ?_
        refine lv_iload hx hb dX6_lost_95 (lv_at hl 0 rfl) ?_
        refine lv_iload hx hb dX6_lost_97 (lv_at hl 5 rfl) ?_
        refine lv_icmp_ne (tgt := 113) hx hb dX6_lost_99 (by decide) (fun c49 => ?_) (fun c49 => ?_)
        · have hf := it_n c49 hf
          refine lv_lconst (v := 0) hx hb dX6_lost_113 (by decide) ?_
          refine lv_ladd hx hb dX6_lost_114 ?_
          refine lv_topl (fun y50 e51 => ?_)
          have hf := lt_s' e51 hf
          refine lv_lstore (lv' := [(5, .long y50), (10, .int r46), (0, .ref (A q)), (1, .int x1), (2, .int x2), (3, .int x3), (4, .int x4), (7, .long x7), (9, .int x9)]) hx hb dX6_lost_115 hl (by decide) rfl (fun ls hl => ?_)
          refine lv_ldc2 hx hb hown w_0 dX6_lost_117 ?_
          refine lv_lload hx hb dX6_lost_120 (lv_at hl 7 rfl) ?_
          refine lv_lmul hx hb dX6_lost_122 ?_
          refine lv_lstore (lv' := [(7, .long (10 * x7)), (5, .long y50), (10, .int r46), (0, .ref (A q)), (1, .int x1), (2, .int x2), (3, .int x3), (4, .int x4), (9, .int x9)]) hx hb dX6_lost_123 hl (by decide) rfl (fun ls hl => ?_)
          refine lv_iinc (v := (x9 + 1)) (lv' := [(9, .int (x9 + 1)), (7, .long (10 * x7)), (5, .long y50), (10, .int r46), (0, .ref (A q)), (1, .int x1), (2, .int x2), (3, .int x3), (4, .int x4)]) hx hb dX6_lost_125 hl (k := 8) rfl rfl (by decide) rfl (fun ls hl => ?_)
          refine lv_goto (tgt := 56) hx hb dX6_lost_128 (by decide) ?_
          exact ih y50 (10 * x7) (x9 + 1) _ hf (lv_sub hl [4, 5, 6, 7, 8, 2, 1, 0] rfl)
        · have hf := it_p c49 hf
          refine lv_bipush (v := 10) hx hb dX6_lost_102 (by decide) ?_
          refine lv_iload_n hx hb dX6_lost_104 rfl (lv_at hl 3 rfl) ?_
          refine lv_isub hx hb dX6_lost_105 ?_
          refine lv_i2l hx hb dX6_lost_106 rfl ?_
          refine lv_lload hx hb dX6_lost_107 (lv_at hl 7 rfl) ?_
          refine lv_lmul hx hb dX6_lost_109 ?_
          refine lv_goto (tgt := 114) hx hb dX6_lost_110 (by decide) ?_
          refine lv_ladd hx hb dX6_lost_114 ?_
          refine lv_topl (fun y52 e53 => ?_)
          have hf := lt_s' e53 hf
          refine lv_lstore (lv' := [(5, .long y52), (10, .int r46), (0, .ref (A q)), (1, .int x1), (2, .int x2), (3, .int x3), (4, .int x4), (7, .long x7), (9, .int x9)]) hx hb dX6_lost_115 hl (by decide) rfl (fun ls hl => ?_)
          refine lv_ldc2 hx hb hown w_0 dX6_lost_117 ?_
          refine lv_lload hx hb dX6_lost_120 (lv_at hl 7 rfl) ?_
          refine lv_lmul hx hb dX6_lost_122 ?_
          refine lv_lstore (lv' := [(7, .long (10 * x7)), (5, .long y52), (10, .int r46), (0, .ref (A q)), (1, .int x1), (2, .int x2), (3, .int x3), (4, .int x4), (9, .int x9)]) hx hb dX6_lost_123 hl (by decide) rfl (fun ls hl => ?_)
          refine lv_iinc (v := (x9 + 1)) (lv' := [(9, .int (x9 + 1)), (7, .long (10 * x7)), (5, .long y52), (10, .int r46), (0, .ref (A q)), (1, .int x1), (2, .int x2), (3, .int x3), (4, .int x4)]) hx hb dX6_lost_125 hl (k := 8) rfl rfl (by decide) rfl (fun ls hl => ?_)
          refine lv_goto (tgt := 56) hx hb dX6_lost_128 (by decide) ?_
          exact ih y52 (10 * x7) (x9 + 1) _ hf (lv_sub hl [4, 5, 6, 7, 8, 2, 1, 0] rfl)

set_option maxHeartbeats 4000000 in
set_option maxRecDepth 100000 in
theorem cz_X6_lost (l : Launch) (D : va_G) (k : kt_T) (A : Nat → Nat) (ws : va_W) (q : Nat)  (h_now_told_pl : Nat → Int64) (h_now_told_sz : Int32) (h_now_inUse_pl : Nat → Int64) (h_now_inUse_sz : Int32) (h_now_draw : Int32) (h_kn : Nat → mm_T) (h_size : Int32) (k_now_told_pl : Nat → Int64) (k_now_told_sz : Int32) (k_now_inUse_pl : Nat → Int64) (k_now_inUse_sz : Int32) (k_now_draw : Int32) (k_kn : Nat → mm_T) (k_size : Int32) (v_sent : Nat → Int32) (v_sentI : Nat → Int32) (v_best : Nat → Int32) (v_ease : Nat → Int32) (v_fromA : Nat → Int32) (v_vi_pl : Nat → Int64) (v_vi_sz : Int32) (v_vl_pl : Nat → Int64) (v_vl_sz : Int32) (t_letters : Nat → Int32) (t_tt_pl : Nat → Int64) (t_tt_sz : Int32) (t_size : Int32) (t_place : Int32) (t_number : Int32) (sh : Nat → ss_T) (hasImage : Int32) (viewIsOld : Int32) (p1 : Int32) (p2 : Int32) (p3 : Int32) (out : Int32) (hf : pf_X6_lost h_now_told_pl p1 p2 p3 = some out) (h_this : is_X k A ws q h_now_told_pl h_now_told_sz h_now_inUse_pl h_now_inUse_sz h_now_draw h_kn h_size k_now_told_pl k_now_told_sz k_now_inUse_pl k_now_inUse_sz k_now_draw k_kn k_size v_sent v_sentI v_best v_ease v_fromA v_vi_pl v_vi_sz v_vl_pl v_vl_sz t_letters t_tt_pl t_tt_sz t_size t_place t_number sh hasImage viewIsOld)  : Met l yX6_lost wsX6_lost { frames := 3, cells := 0, slots := 0, locals := 67 } (va_Pc [.ref (A q), .int p1, .int p2, .int p3] (pw_P D k ws)) (qs_Q (some (.int out))) 0 0 (fun _ => False) := by
  refine Met.ofW (cc := cX6_lost) (maxL := 11) (ret := (some .int)) (by decide) rfl ?_
  intro p e s m args below meth c s₁ B hml hv
  obtain ⟨rfl, hP, hK, hD⟩ := hv
  have C0 : cx_P p s m meth c [.ref (A q), .int p1, .int p2, .int p3].toArray cX6_lost 11 wsX6_lost RX6 (some .int) := ⟨B.exec, B.bytes, hml, findClass_of_methodNamed B.named, atoms_spec (ws := wsX6_lost) B.pre, B.returns, B.notSynchronized⟩
  obtain ⟨hx, hb, hml, hown, hts, hr, hlocks⟩ := id C0
  have hcf : CallFix p m c cX6_lost 11 s [.ref (A q), .int p1, .int p2, .int p3].toArray wsX6_lost RX6 := ⟨hx, hb, hml, hown, hts⟩
  have hl := lv_entry ([.ref (A q), .int p1, .int p2, .int p3]) (n := 11) (Nat.le_of_ble_eq_true rfl)
  rw [lg_entry_eq]
  generalize (lg_sl ([.ref (A q), .int p1, .int p2, .int p3]) ++ List.replicate (11 - (lg_sl ([.ref (A q), .int p1, .int p2, .int p3])).length) Slot.unset).toArray = ls at hl ⊢
  have hl : lv_has ls 11 [(0, .ref (A q)), (1, .int p1), (2, .int p2), (3, .int p3)] := hl
  unfold pf_X6_lost at hf
  refine lv_iload_n hx hb dX6_lost_0 rfl (lv_at hl 1 rfl) ?_
  obtain ⟨r1, h2, hf⟩ := bd_s hf
  refine ks_i (va_runS (As := [.int p1]) (rest := []) hcf (cz_X6_isAddress l D k A ws p1 r1 h2) (va_cwS 1 hts gX6_lost_X6_isAddress rfl rfl rfl (by decide +kernel) ⟨Nat.le_of_ble_eq_true rfl, Nat.le_of_ble_eq_true rfl⟩) (pw_S hP hK hD) rfl rfl hl.1 rfl (lv_room (Nat.le_of_ble_eq_true rfl)) dX6_lost_1 ⟨Nat.zero_le _, Nat.zero_le _⟩) ?_
  refine lv_if_eq (tgt := 26) hx hb dX6_lost_4 (by decide) (fun c3 => ?_) (fun c3 => ?_)
  · have hf := it_p c3 hf
    refine lv_iconst (v := (-1)) hx hb dX6_lost_26 (by decide) ?_
    obtain rfl := so_i hf
    exact W.iret (v := (-1)) hx hb hr (fun t ht _ => ⟨rfl, ht⟩) (fun _ h => absurd h List.not_mem_nil) dX6_lost_27
  · have hf := it_n c3 hf
    refine lv_iload_n hx hb dX6_lost_7 rfl (lv_at hl 2 rfl) ?_
    refine lv_if_lt (tgt := 26) hx hb dX6_lost_8 (by decide) (fun c4 => ?_) (fun c4 => ?_)
    · have hf := it_p c4 hf
      refine lv_iconst (v := (-1)) hx hb dX6_lost_26 (by decide) ?_
      obtain rfl := so_i hf
      exact W.iret (v := (-1)) hx hb hr (fun t ht _ => ⟨rfl, ht⟩) (fun _ h => absurd h List.not_mem_nil) dX6_lost_27
    · have hf := it_n c4 hf
      refine lv_iload_n hx hb dX6_lost_11 rfl (lv_at hl 2 rfl) ?_
      refine lv_bipush (v := 10) hx hb dX6_lost_12 (by decide) ?_
      refine lv_icmp_gt (tgt := 26) hx hb dX6_lost_14 (by decide) (fun c5 => ?_) (fun c5 => ?_)
      · have hf := it_p c5 hf
        refine lv_iconst (v := (-1)) hx hb dX6_lost_26 (by decide) ?_
        obtain rfl := so_i hf
        exact W.iret (v := (-1)) hx hb hr (fun t ht _ => ⟨rfl, ht⟩) (fun _ h => absurd h List.not_mem_nil) dX6_lost_27
      · have hf := it_n c5 hf
        refine lv_iload_n hx hb dX6_lost_17 rfl (lv_at hl 3 rfl) ?_
        refine lv_if_lt (tgt := 26) hx hb dX6_lost_18 (by decide) (fun c6 => ?_) (fun c6 => ?_)
        · have hf := it_p c6 hf
          refine lv_iconst (v := (-1)) hx hb dX6_lost_26 (by decide) ?_
          obtain rfl := so_i hf
          exact W.iret (v := (-1)) hx hb hr (fun t ht _ => ⟨rfl, ht⟩) (fun _ h => absurd h List.not_mem_nil) dX6_lost_27
        · have hf := it_n c6 hf
          refine lv_iload_n hx hb dX6_lost_21 rfl (lv_at hl 3 rfl) ?_
          refine lv_iconst (v := 1) hx hb dX6_lost_22 (by decide) ?_
          refine lv_icmp_le (tgt := 28) hx hb dX6_lost_23 (by decide) (fun c7 => ?_) (fun c7 => ?_)
          · have hf := it_p c7 hf
            refine lv_aload_n hx hb dX6_lost_28 rfl (lv_at hl 0 rfl) ?_
            obtain ⟨h8, h9, h10, h11, h12, h13⟩ := h_this
            obtain ⟨h14, h15, h16⟩ := h9
            obtain ⟨h17, h18, h19⟩ := h15
            refine ks_r (va_runV (As := []) (rest := []) hcf (cz_X6_table l D k A ws (q) hasImage viewIsOld h_size h_now_draw h8 h14 h17) (cwV 0 hts gX6_lost_X6_table rfl rfl rfl (by decide +kernel) ⟨Nat.le_of_ble_eq_true rfl, Nat.le_of_ble_eq_true rfl⟩) (pw_V hP hK hD (ci := 6) h8 rfl) rfl rfl hl.1 rfl (lv_room (Nat.le_of_ble_eq_true rfl)) dX6_lost_29 ⟨Nat.zero_le _, Nat.zero_le _⟩) ?_
            refine lv_iload_n hx hb dX6_lost_32 rfl (lv_at hl 1 rfl) ?_
            obtain ⟨r22, h23, hf⟩ := bd_s hf
            refine ks_i (va_runV (As := [.int p1]) (rest := []) hcf (cz_X3_hopOfAddress l D k A ws (q + 1 + 1 + 1) h_now_told_pl h_now_told_sz p1 r22 h23 h18) (cwV 1 hts gX6_lost_X3_hopOfAddress rfl rfl rfl (by decide +kernel) ⟨Nat.le_of_ble_eq_true rfl, Nat.le_of_ble_eq_true rfl⟩) (pw_V hP hK hD (ci := 3) h18.1 rfl) rfl rfl hl.1 rfl (lv_room (Nat.le_of_ble_eq_true rfl)) dX6_lost_33 ⟨Nat.zero_le _, Nat.zero_le _⟩) ?_
            refine lv_istore (lv' := [(4, .int r22), (0, .ref (A q)), (1, .int p1), (2, .int p2), (3, .int p3)]) hx hb dX6_lost_36 hl (by decide) rfl (fun ls hl => ?_)
            refine lv_iload hx hb dX6_lost_38 (lv_at hl 0 rfl) ?_
            refine lv_if_ne (tgt := 47) hx hb dX6_lost_40 (by decide) (fun c24 => ?_) (fun c24 => ?_)
            · have hf := it_n c24 hf
              refine lv_lconst (v := 0) hx hb dX6_lost_47 (by decide) ?_
              refine lv_lstore (lv' := [(5, .long 0), (4, .int r22), (0, .ref (A q)), (1, .int p1), (2, .int p2), (3, .int p3)]) hx hb dX6_lost_48 hl (by decide) rfl (fun ls hl => ?_)
              refine lv_lconst (v := 1) hx hb dX6_lost_50 (by decide) ?_
              refine lv_lstore (lv' := [(7, .long 1), (5, .long 0), (4, .int r22), (0, .ref (A q)), (1, .int p1), (2, .int p2), (3, .int p3)]) hx hb dX6_lost_51 hl (by decide) rfl (fun ls hl => ?_)
              refine lv_iconst (v := 0) hx hb dX6_lost_53 (by decide) ?_
              refine lv_istore (lv' := [(9, .int 0), (7, .long 1), (5, .long 0), (4, .int r22), (0, .ref (A q)), (1, .int p1), (2, .int p2), (3, .int p3)]) hx hb dX6_lost_54 hl (by decide) rfl (fun ls hl => ?_)
              have h54 : is_M k A ws (q + 1 + 1) h_now_told_pl h_now_told_sz h_now_inUse_pl h_now_inUse_sz h_now_draw := ⟨h17, h18, h19⟩
              have h55 : is_H k A ws (q + 1) h_now_told_pl h_now_told_sz h_now_inUse_pl h_now_inUse_sz h_now_draw h_kn h_size := ⟨h14, h54, h16⟩
              have h56 : is_X k A ws (q) h_now_told_pl h_now_told_sz h_now_inUse_pl h_now_inUse_sz h_now_draw h_kn h_size k_now_told_pl k_now_told_sz k_now_inUse_pl k_now_inUse_sz k_now_draw k_kn k_size v_sent v_sentI v_best v_ease v_fromA v_vi_pl v_vi_sz v_vl_pl v_vl_sz t_letters t_tt_pl t_tt_sz t_size t_place t_number sh hasImage viewIsOld := ⟨h8, h55, h10, h11, h12, h13⟩
              exact wl_X6_lost_56 l D k A ws q _ hK C0 h_now_told_pl h_now_told_sz h_now_inUse_pl h_now_inUse_sz h_now_draw h_kn h_size k_now_told_pl k_now_told_sz k_now_inUse_pl k_now_inUse_sz k_now_draw k_kn k_size v_sent v_sentI v_best v_ease v_fromA v_vi_pl v_vi_sz v_vl_pl v_vl_sz t_letters t_tt_pl t_tt_sz t_size t_place t_number sh hasImage viewIsOld p1 p2 p3 r22 h56 hP hD fu_N 0 1 0 _ hf (lv_sub hl [4, 5, 6, 7, 3, 2, 1, 0] rfl)
            · have hf := it_p c24 hf
              refine lv_lconst (v := 1) hx hb dX6_lost_43 (by decide) ?_
              refine lv_goto (tgt := 48) hx hb dX6_lost_44 (by decide) ?_
              refine lv_lstore (lv' := [(5, .long 1), (4, .int r22), (0, .ref (A q)), (1, .int p1), (2, .int p2), (3, .int p3)]) hx hb dX6_lost_48 hl (by decide) rfl (fun ls hl => ?_)
              refine lv_lconst (v := 1) hx hb dX6_lost_50 (by decide) ?_
              refine lv_lstore (lv' := [(7, .long 1), (5, .long 1), (4, .int r22), (0, .ref (A q)), (1, .int p1), (2, .int p2), (3, .int p3)]) hx hb dX6_lost_51 hl (by decide) rfl (fun ls hl => ?_)
              refine lv_iconst (v := 0) hx hb dX6_lost_53 (by decide) ?_
              refine lv_istore (lv' := [(9, .int 0), (7, .long 1), (5, .long 1), (4, .int r22), (0, .ref (A q)), (1, .int p1), (2, .int p2), (3, .int p3)]) hx hb dX6_lost_54 hl (by decide) rfl (fun ls hl => ?_)
              have h57 : is_M k A ws (q + 1 + 1) h_now_told_pl h_now_told_sz h_now_inUse_pl h_now_inUse_sz h_now_draw := ⟨h17, h18, h19⟩
              have h58 : is_H k A ws (q + 1) h_now_told_pl h_now_told_sz h_now_inUse_pl h_now_inUse_sz h_now_draw h_kn h_size := ⟨h14, h57, h16⟩
              have h59 : is_X k A ws (q) h_now_told_pl h_now_told_sz h_now_inUse_pl h_now_inUse_sz h_now_draw h_kn h_size k_now_told_pl k_now_told_sz k_now_inUse_pl k_now_inUse_sz k_now_draw k_kn k_size v_sent v_sentI v_best v_ease v_fromA v_vi_pl v_vi_sz v_vl_pl v_vl_sz t_letters t_tt_pl t_tt_sz t_size t_place t_number sh hasImage viewIsOld := ⟨h8, h58, h10, h11, h12, h13⟩
              exact wl_X6_lost_56 l D k A ws q _ hK C0 h_now_told_pl h_now_told_sz h_now_inUse_pl h_now_inUse_sz h_now_draw h_kn h_size k_now_told_pl k_now_told_sz k_now_inUse_pl k_now_inUse_sz k_now_draw k_kn k_size v_sent v_sentI v_best v_ease v_fromA v_vi_pl v_vi_sz v_vl_pl v_vl_sz t_letters t_tt_pl t_tt_sz t_size t_place t_number sh hasImage viewIsOld p1 p2 p3 r22 h59 hP hD fu_N 1 1 0 _ hf (lv_sub hl [4, 5, 6, 7, 3, 2, 1, 0] rfl)
          · have hf := it_n c7 hf
            refine lv_iconst (v := (-1)) hx hb dX6_lost_26 (by decide) ?_
            obtain rfl := so_i hf
            exact W.iret (v := (-1)) hx hb hr (fun t ht _ => ⟨rfl, ht⟩) (fun _ h => absurd h List.not_mem_nil) dX6_lost_27

def pf_X6_tell (h_now_told_pl : Nat → Int64) (h_now_told_sz : Int32) (h_now_inUse_pl : Nat → Int64) (h_now_inUse_sz : Int32) (h_now_draw : Int32) (h_kn : Nat → mm_T) (h_size : Int32) (viewIsOld : Int32)  (p1 : Int32) (p2 : Int32) : Option (Int32 × (Nat → Int64) × Int32 × (Nat → mm_T) × Int32 × Int32) :=
  (pf_X6_isPrefix p1).bind (fun r1 =>
    if r1 = 0 then
      some ((-1), h_now_told_pl, h_now_told_sz, h_kn, h_size, viewIsOld)
    else
      (pf_X6_isHop p2).bind (fun r4 =>
        if r4 = 0 then
          some ((-1), h_now_told_pl, h_now_told_sz, h_kn, h_size, viewIsOld)
        else
          (pf_X3_hopAt h_now_told_pl p1).bind (fun r21 =>
            if r21 = p2 then
              some ((-2), h_now_told_pl, h_now_told_sz, h_kn, h_size, viewIsOld)
            else
              if r21 = (-4) then
                (pf_X3_howMany h_now_told_sz).bind (fun r81 =>
                  if r81 < 40 then
                    (pf_X6_beginStep h_now_told_pl h_now_told_sz h_now_inUse_pl h_now_inUse_sz h_now_draw h_kn h_size viewIsOld).bind (fun r87 =>
                      (pf_X3_put h_now_told_pl h_now_told_sz p1 p2).bind (fun r107 =>
                        if r21 = (-4) then
                          some (8, r107.1, r107.2, r87.1, r87.2.1, r87.2.2)
                        else
                          some (r21, r107.1, r107.2, r87.1, r87.2.1, r87.2.2)))
                  else
                    some ((-3), h_now_told_pl, h_now_told_sz, h_kn, h_size, viewIsOld))
              else
                (pf_X6_beginStep h_now_told_pl h_now_told_sz h_now_inUse_pl h_now_inUse_sz h_now_draw h_kn h_size viewIsOld).bind (fun r28 =>
                  (pf_X3_put h_now_told_pl h_now_told_sz p1 p2).bind (fun r48 =>
                    if r21 = (-4) then
                      some (8, r48.1, r48.2, r28.1, r28.2.1, r28.2.2)
                    else
                      some (r21, r48.1, r48.2, r28.1, r28.2.1, r28.2.2))))))

set_option maxHeartbeats 4000000 in
set_option maxRecDepth 100000 in
theorem cz_X6_tell (l : Launch) (D : va_G) (k : kt_T) (A : Nat → Nat) (ws : va_W) (q : Nat)  (h_now_told_pl : Nat → Int64) (h_now_told_sz : Int32) (h_now_inUse_pl : Nat → Int64) (h_now_inUse_sz : Int32) (h_now_draw : Int32) (h_kn : Nat → mm_T) (h_size : Int32) (k_now_told_pl : Nat → Int64) (k_now_told_sz : Int32) (k_now_inUse_pl : Nat → Int64) (k_now_inUse_sz : Int32) (k_now_draw : Int32) (k_kn : Nat → mm_T) (k_size : Int32) (v_sent : Nat → Int32) (v_sentI : Nat → Int32) (v_best : Nat → Int32) (v_ease : Nat → Int32) (v_fromA : Nat → Int32) (v_vi_pl : Nat → Int64) (v_vi_sz : Int32) (v_vl_pl : Nat → Int64) (v_vl_sz : Int32) (t_letters : Nat → Int32) (t_tt_pl : Nat → Int64) (t_tt_sz : Int32) (t_size : Int32) (t_place : Int32) (t_number : Int32) (sh : Nat → ss_T) (hasImage : Int32) (viewIsOld : Int32) (p1 : Int32) (p2 : Int32) (out : Int32 × (Nat → Int64) × Int32 × (Nat → mm_T) × Int32 × Int32) (hf : pf_X6_tell h_now_told_pl h_now_told_sz h_now_inUse_pl h_now_inUse_sz h_now_draw h_kn h_size viewIsOld p1 p2 = some out) (h_this : is_X k A ws q h_now_told_pl h_now_told_sz h_now_inUse_pl h_now_inUse_sz h_now_draw h_kn h_size k_now_told_pl k_now_told_sz k_now_inUse_pl k_now_inUse_sz k_now_draw k_kn k_size v_sent v_sentI v_best v_ease v_fromA v_vi_pl v_vi_sz v_vl_pl v_vl_sz t_letters t_tt_pl t_tt_sz t_size t_place t_number sh hasImage viewIsOld)  (sz0 : Nat) : Met l yX6_tell wsX6_tell { frames := 5, cells := 0, slots := 0, locals := 142 } (va_Pc [.ref (A q), .int p1, .int p2] (px_P D k ws sz0)) (qw_Q D ws sz0 (some (.int out.1)) (fun u => is_X k A u q out.2.1 out.2.2.1 h_now_inUse_pl h_now_inUse_sz h_now_draw out.2.2.2.1 out.2.2.2.2.1 k_now_told_pl k_now_told_sz k_now_inUse_pl k_now_inUse_sz k_now_draw k_kn k_size v_sent v_sentI v_best v_ease v_fromA v_vi_pl v_vi_sz v_vl_pl v_vl_sz t_letters t_tt_pl t_tt_sz t_size t_place t_number sh hasImage out.2.2.2.2.2 ∧ sm_W ws u q (q + 98))) 0 0 (va_A ws sz0) := by
  refine Met.ofW (cc := cX6_tell) (maxL := 4) (ret := (some .int)) (by decide) rfl ?_
  intro p e s m args below meth c s₁ B hml hv
  obtain ⟨rfl, hsz, hP, hK, hD0⟩ := hv
  subst hsz
  have hD := hD0.self (sz := s.heap.size)
  have C0 : cx_P p s m meth c [.ref (A q), .int p1, .int p2].toArray cX6_tell 4 wsX6_tell RX6 (some .int) := ⟨B.exec, B.bytes, hml, findClass_of_methodNamed B.named, atoms_spec (ws := wsX6_tell) B.pre, B.returns, B.notSynchronized⟩
  obtain ⟨hx, hb, hml, hown, hts, hr, hlocks⟩ := id C0
  have hcf : CallFix p m c cX6_tell 4 s [.ref (A q), .int p1, .int p2].toArray wsX6_tell RX6 := ⟨hx, hb, hml, hown, hts⟩
  have hA : ∀ q, s.heap.size ≤ q → va_A ws s.heap.size q := fun q h => Or.inr h
  have hS : va_S (va_A ws s.heap.size) s.heap s.heap [] := va_S.rf
  have hsm : sm_W ws ws q (q + 98) := sm_rf
  have hl := lv_entry ([.ref (A q), .int p1, .int p2]) (n := 4) (Nat.le_of_ble_eq_true rfl)
  rw [lg_entry_eq]
  generalize (lg_sl ([.ref (A q), .int p1, .int p2]) ++ List.replicate (4 - (lg_sl ([.ref (A q), .int p1, .int p2])).length) Slot.unset).toArray = ls at hl ⊢
  have hl : lv_has ls 4 [(0, .ref (A q)), (1, .int p1), (2, .int p2)] := hl
  unfold pf_X6_tell at hf
  refine lv_iload_n hx hb dX6_tell_0 rfl (lv_at hl 1 rfl) ?_
  obtain ⟨r1, h2, hf⟩ := bd_s hf
  refine ks_i (va_runS (As := [.int p1]) (rest := []) hcf (cz_X6_isPrefix l D k A ws p1 r1 h2) (va_cwS 1 hts gX6_tell_X6_isPrefix rfl rfl rfl (by decide +kernel) ⟨Nat.le_of_ble_eq_true rfl, Nat.le_of_ble_eq_true rfl⟩) (pw_S hP hK hD) rfl rfl hl.1 rfl (lv_room (Nat.le_of_ble_eq_true rfl)) dX6_tell_1 ⟨Nat.zero_le _, Nat.zero_le _⟩) ?_
  refine lv_if_eq (tgt := 14) hx hb dX6_tell_4 (by decide) (fun c3 => ?_) (fun c3 => ?_)
  · have hf := it_p c3 hf
    refine lv_iconst (v := (-1)) hx hb dX6_tell_14 (by decide) ?_
    obtain rfl := so_i hf
    exact W.iret (v := (-1)) hx hb hr (qw_end hS hP hD ⟨h_this, hsm⟩) hS.2.2 dX6_tell_15
  · have hf := it_n c3 hf
    refine lv_iload_n hx hb dX6_tell_7 rfl (lv_at hl 2 rfl) ?_
    obtain ⟨r4, h5, hf⟩ := bd_s hf
    refine ks_i (va_runS (As := [.int p2]) (rest := []) hcf (cz_X6_isHop l D k A ws p2 r4 h5) (va_cwS 1 hts gX6_tell_X6_isHop rfl rfl rfl (by decide +kernel) ⟨Nat.le_of_ble_eq_true rfl, Nat.le_of_ble_eq_true rfl⟩) (pw_S hP hK hD) rfl rfl hl.1 rfl (lv_room (Nat.le_of_ble_eq_true rfl)) dX6_tell_8 ⟨Nat.zero_le _, Nat.zero_le _⟩) ?_
    refine lv_if_ne (tgt := 16) hx hb dX6_tell_11 (by decide) (fun c6 => ?_) (fun c6 => ?_)
    · have hf := it_n c6 hf
      refine lv_aload_n hx hb dX6_tell_16 rfl (lv_at hl 0 rfl) ?_
      obtain ⟨h7, h8, h9, h10, h11, h12⟩ := h_this
      obtain ⟨h13, h14, h15⟩ := h8
      obtain ⟨h16, h17, h18⟩ := h14
      refine ks_r (va_runV (As := []) (rest := []) hcf (cz_X6_table l D k A ws (q) hasImage viewIsOld h_size h_now_draw h7 h13 h16) (cwV 0 hts gX6_tell_X6_table rfl rfl rfl (by decide +kernel) ⟨Nat.le_of_ble_eq_true rfl, Nat.le_of_ble_eq_true rfl⟩) (pw_V hP hK hD (ci := 6) h7 rfl) rfl rfl hl.1 rfl (lv_room (Nat.le_of_ble_eq_true rfl)) dX6_tell_17 ⟨Nat.zero_le _, Nat.zero_le _⟩) ?_
      refine lv_iload_n hx hb dX6_tell_20 rfl (lv_at hl 1 rfl) ?_
      obtain ⟨r21, h22, hf⟩ := bd_s hf
      refine ks_i (va_runV (As := [.int p1]) (rest := []) hcf (cz_X3_hopAt l D k A ws (q + 1 + 1 + 1) h_now_told_pl h_now_told_sz p1 r21 h22 h17) (cwV 1 hts gX6_tell_X3_hopAt rfl rfl rfl (by decide +kernel) ⟨Nat.le_of_ble_eq_true rfl, Nat.le_of_ble_eq_true rfl⟩) (pw_V hP hK hD (ci := 3) h17.1 rfl) rfl rfl hl.1 rfl (lv_room (Nat.le_of_ble_eq_true rfl)) dX6_tell_21 ⟨Nat.zero_le _, Nat.zero_le _⟩) ?_
      refine lv_istore_n (lv' := [(3, .int r21), (0, .ref (A q)), (1, .int p1), (2, .int p2)]) hx hb dX6_tell_24 rfl hl (by decide) rfl (fun ls hl => ?_)
      refine lv_iload_n hx hb dX6_tell_25 rfl (lv_at hl 0 rfl) ?_
      refine lv_iload_n hx hb dX6_tell_26 rfl (lv_at hl 3 rfl) ?_
      refine lv_icmp_ne (tgt := 33) hx hb dX6_tell_27 (by decide) (fun c23 => ?_) (fun c23 => ?_)
      · have hf := it_n c23 hf
        refine lv_iload_n hx hb dX6_tell_33 rfl (lv_at hl 0 rfl) ?_
        refine lv_bipush (v := (-4)) hx hb dX6_tell_34 (by decide) ?_
        refine lv_icmp_ne (tgt := 54) hx hb dX6_tell_36 (by decide) (fun c24 => ?_) (fun c24 => ?_)
        · have hf := it_n c24 hf
          refine lv_aload_n hx hb dX6_tell_54 rfl (lv_at hl 1 rfl) ?_
          have h25 : is_M k A ws (q + 1 + 1) h_now_told_pl h_now_told_sz h_now_inUse_pl h_now_inUse_sz h_now_draw := ⟨h16, h17, h18⟩
          have h26 : is_H k A ws (q + 1) h_now_told_pl h_now_told_sz h_now_inUse_pl h_now_inUse_sz h_now_draw h_kn h_size := ⟨h13, h25, h15⟩
          have h27 : is_X k A ws (q) h_now_told_pl h_now_told_sz h_now_inUse_pl h_now_inUse_sz h_now_draw h_kn h_size k_now_told_pl k_now_told_sz k_now_inUse_pl k_now_inUse_sz k_now_draw k_kn k_size v_sent v_sentI v_best v_ease v_fromA v_vi_pl v_vi_sz v_vl_pl v_vl_sz t_letters t_tt_pl t_tt_sz t_size t_place t_number sh hasImage viewIsOld := ⟨h7, h26, h9, h10, h11, h12⟩
          obtain ⟨r28, h29, hf⟩ := bd_s hf
          refine kw_v (va_runV (As := []) (rest := []) hcf (cz_X6_beginStep l D k A ws (q) h_now_told_pl h_now_told_sz h_now_inUse_pl h_now_inUse_sz h_now_draw h_kn h_size k_now_told_pl k_now_told_sz k_now_inUse_pl k_now_inUse_sz k_now_draw k_kn k_size v_sent v_sentI v_best v_ease v_fromA v_vi_pl v_vi_sz v_vl_pl v_vl_sz t_letters t_tt_pl t_tt_sz t_size t_place t_number sh hasImage viewIsOld r28 h29 h27 _) (cwV 0 hts gX6_tell_X6_beginStep rfl rfl rfl (by decide +kernel) ⟨Nat.le_of_ble_eq_true rfl, Nat.le_of_ble_eq_true rfl⟩) (px_V hP hK hD (ci := 6) h27.1 rfl) rfl rfl hl.1 rfl (lv_room (Nat.le_of_ble_eq_true rfl)) dX6_tell_55 ⟨Nat.zero_le _, Nat.zero_le _⟩) hD hS hA (fun u30 _ _ h31 hP hD hS => ?_)
          obtain ⟨h33, m32⟩ := h31
          have hsm := sm_tr hsm m32 (by omega) (by omega)
          refine lv_aload_n hx hb dX6_tell_58 rfl (lv_at hl 1 rfl) ?_
          obtain ⟨h34, h35, h36, h37, h38, h39⟩ := h33
          obtain ⟨h40, h41, h42⟩ := h35
          obtain ⟨h43, h44, h45⟩ := h41
          refine ks_r (va_runV (As := []) (rest := []) hcf (cz_X6_table l D k A u30 (q) hasImage r28.2.2 r28.2.1 h_now_draw h34 h40 h43) (cwV 0 hts gX6_tell_X6_table rfl rfl rfl (by decide +kernel) ⟨Nat.le_of_ble_eq_true rfl, Nat.le_of_ble_eq_true rfl⟩) (pw_V hP hK hD (ci := 6) h34 rfl) rfl rfl hl.1 rfl (lv_room (Nat.le_of_ble_eq_true rfl)) dX6_tell_59 ⟨Nat.zero_le _, Nat.zero_le _⟩) ?_
          refine lv_iload_n hx hb dX6_tell_62 rfl (lv_at hl 2 rfl) ?_
          refine lv_iload_n hx hb dX6_tell_63 rfl (lv_at hl 3 rfl) ?_
          obtain ⟨r48, h49, hf⟩ := bd_s hf
          refine kw_v (va_runV (As := [.int p1, .int p2]) (rest := []) hcf (cz_X3_put l D k A u30 (q + 1 + 1 + 1) h_now_told_pl h_now_told_sz p1 p2 r48 h49 h44 _) (cwV 2 hts gX6_tell_X3_put rfl rfl rfl (by decide +kernel) ⟨Nat.le_of_ble_eq_true rfl, Nat.le_of_ble_eq_true rfl⟩) (px_V hP hK hD (ci := 3) h44.1 rfl) rfl rfl hl.1 rfl (lv_room (Nat.le_of_ble_eq_true rfl)) dX6_tell_64 ⟨Nat.zero_le _, Nat.zero_le _⟩) hD hS hA (fun u50 _ _ h51 hP hD hS => ?_)
          obtain ⟨h53, m52⟩ := h51
          have hsm := sm_tr hsm m52 (by omega) (by omega)
          refine lv_iload_n hx hb dX6_tell_67 rfl (lv_at hl 0 rfl) ?_
          refine lv_bipush (v := (-4)) hx hb dX6_tell_68 (by decide) ?_
          refine lv_icmp_ne (tgt := 78) hx hb dX6_tell_70 (by decide) (fun c54 => ?_) (fun c54 => ?_)
          · have hf := it_n c54 hf
            refine lv_iload_n hx hb dX6_tell_78 rfl (lv_at hl 0 rfl) ?_
            obtain rfl := so_i hf
            have h55 := sm_at m52 (by omega) h34
            have h56 := sm_at m52 (by omega) h40
            have h57 := sm_at m52 (by omega) h43
            have h58 := is_T_tr h45 m52 (by omega)
            have h59 : is_M k A u50 (q + 1 + 1) r48.1 r48.2 h_now_inUse_pl h_now_inUse_sz h_now_draw := ⟨h57, h53, h58⟩
            have h60 := is_K_tr h42 m52 (by omega)
            have h61 : is_H k A u50 (q + 1) r48.1 r48.2 h_now_inUse_pl h_now_inUse_sz h_now_draw r28.1 r28.2.1 := ⟨h56, h59, h60⟩
            have h62 := is_H_tr h36 m52 (by omega)
            have h63 := is_V_tr h37 m52 (by omega)
            have h64 := is_P_tr h38 m52 (by omega)
            have h65 := is_Z_tr h39 m52 (by omega)
            have h66 : is_X k A u50 (q) r48.1 r48.2 h_now_inUse_pl h_now_inUse_sz h_now_draw r28.1 r28.2.1 k_now_told_pl k_now_told_sz k_now_inUse_pl k_now_inUse_sz k_now_draw k_kn k_size v_sent v_sentI v_best v_ease v_fromA v_vi_pl v_vi_sz v_vl_pl v_vl_sz t_letters t_tt_pl t_tt_sz t_size t_place t_number sh hasImage r28.2.2 := ⟨h55, h61, h62, h63, h64, h65⟩
            exact W.iret (v := r21) hx hb hr (qw_end hS hP hD ⟨h66, hsm⟩) hS.2.2 dX6_tell_79
          · have hf := it_p c54 hf
            refine lv_bipush (v := 8) hx hb dX6_tell_73 (by decide) ?_
            refine lv_goto (tgt := 79) hx hb dX6_tell_75 (by decide) ?_
            obtain rfl := so_i hf
            have h67 := sm_at m52 (by omega) h34
            have h68 := sm_at m52 (by omega) h40
            have h69 := sm_at m52 (by omega) h43
            have h70 := is_T_tr h45 m52 (by omega)
            have h71 : is_M k A u50 (q + 1 + 1) r48.1 r48.2 h_now_inUse_pl h_now_inUse_sz h_now_draw := ⟨h69, h53, h70⟩
            have h72 := is_K_tr h42 m52 (by omega)
            have h73 : is_H k A u50 (q + 1) r48.1 r48.2 h_now_inUse_pl h_now_inUse_sz h_now_draw r28.1 r28.2.1 := ⟨h68, h71, h72⟩
            have h74 := is_H_tr h36 m52 (by omega)
            have h75 := is_V_tr h37 m52 (by omega)
            have h76 := is_P_tr h38 m52 (by omega)
            have h77 := is_Z_tr h39 m52 (by omega)
            have h78 : is_X k A u50 (q) r48.1 r48.2 h_now_inUse_pl h_now_inUse_sz h_now_draw r28.1 r28.2.1 k_now_told_pl k_now_told_sz k_now_inUse_pl k_now_inUse_sz k_now_draw k_kn k_size v_sent v_sentI v_best v_ease v_fromA v_vi_pl v_vi_sz v_vl_pl v_vl_sz t_letters t_tt_pl t_tt_sz t_size t_place t_number sh hasImage r28.2.2 := ⟨h67, h73, h74, h75, h76, h77⟩
            exact W.iret (v := 8) hx hb hr (qw_end hS hP hD ⟨h78, hsm⟩) hS.2.2 dX6_tell_79
        · have hf := it_p c24 hf
          refine lv_aload_n hx hb dX6_tell_39 rfl (lv_at hl 1 rfl) ?_
          refine ks_r (va_runV (As := []) (rest := []) hcf (cz_X6_table l D k A ws (q) hasImage viewIsOld h_size h_now_draw h7 h13 h16) (cwV 0 hts gX6_tell_X6_table rfl rfl rfl (by decide +kernel) ⟨Nat.le_of_ble_eq_true rfl, Nat.le_of_ble_eq_true rfl⟩) (pw_V hP hK hD (ci := 6) h7 rfl) rfl rfl hl.1 rfl (lv_room (Nat.le_of_ble_eq_true rfl)) dX6_tell_40 ⟨Nat.zero_le _, Nat.zero_le _⟩) ?_
          obtain ⟨r81, h82, hf⟩ := bd_s hf
          refine ks_i (va_runV (As := []) (rest := []) hcf (cz_X3_howMany l D k A ws (q + 1 + 1 + 1) h_now_told_pl h_now_told_sz r81 h82 h17) (cwV 0 hts gX6_tell_X3_howMany rfl rfl rfl (by decide +kernel) ⟨Nat.le_of_ble_eq_true rfl, Nat.le_of_ble_eq_true rfl⟩) (pw_V hP hK hD (ci := 3) h17.1 rfl) rfl rfl hl.1 rfl (lv_room (Nat.le_of_ble_eq_true rfl)) dX6_tell_43 ⟨Nat.zero_le _, Nat.zero_le _⟩) ?_
          refine lv_bipush (v := 40) hx hb dX6_tell_46 (by decide) ?_
          refine lv_icmp_lt (tgt := 54) hx hb dX6_tell_48 (by decide) (fun c83 => ?_) (fun c83 => ?_)
          · have hf := it_p c83 hf
            refine lv_aload_n hx hb dX6_tell_54 rfl (lv_at hl 1 rfl) ?_
            have h84 : is_M k A ws (q + 1 + 1) h_now_told_pl h_now_told_sz h_now_inUse_pl h_now_inUse_sz h_now_draw := ⟨h16, h17, h18⟩
            have h85 : is_H k A ws (q + 1) h_now_told_pl h_now_told_sz h_now_inUse_pl h_now_inUse_sz h_now_draw h_kn h_size := ⟨h13, h84, h15⟩
            have h86 : is_X k A ws (q) h_now_told_pl h_now_told_sz h_now_inUse_pl h_now_inUse_sz h_now_draw h_kn h_size k_now_told_pl k_now_told_sz k_now_inUse_pl k_now_inUse_sz k_now_draw k_kn k_size v_sent v_sentI v_best v_ease v_fromA v_vi_pl v_vi_sz v_vl_pl v_vl_sz t_letters t_tt_pl t_tt_sz t_size t_place t_number sh hasImage viewIsOld := ⟨h7, h85, h9, h10, h11, h12⟩
            obtain ⟨r87, h88, hf⟩ := bd_s hf
            refine kw_v (va_runV (As := []) (rest := []) hcf (cz_X6_beginStep l D k A ws (q) h_now_told_pl h_now_told_sz h_now_inUse_pl h_now_inUse_sz h_now_draw h_kn h_size k_now_told_pl k_now_told_sz k_now_inUse_pl k_now_inUse_sz k_now_draw k_kn k_size v_sent v_sentI v_best v_ease v_fromA v_vi_pl v_vi_sz v_vl_pl v_vl_sz t_letters t_tt_pl t_tt_sz t_size t_place t_number sh hasImage viewIsOld r87 h88 h86 _) (cwV 0 hts gX6_tell_X6_beginStep rfl rfl rfl (by decide +kernel) ⟨Nat.le_of_ble_eq_true rfl, Nat.le_of_ble_eq_true rfl⟩) (px_V hP hK hD (ci := 6) h86.1 rfl) rfl rfl hl.1 rfl (lv_room (Nat.le_of_ble_eq_true rfl)) dX6_tell_55 ⟨Nat.zero_le _, Nat.zero_le _⟩) hD hS hA (fun u89 _ _ h90 hP hD hS => ?_)
            obtain ⟨h92, m91⟩ := h90
            have hsm := sm_tr hsm m91 (by omega) (by omega)
            refine lv_aload_n hx hb dX6_tell_58 rfl (lv_at hl 1 rfl) ?_
            obtain ⟨h93, h94, h95, h96, h97, h98⟩ := h92
            obtain ⟨h99, h100, h101⟩ := h94
            obtain ⟨h102, h103, h104⟩ := h100
            refine ks_r (va_runV (As := []) (rest := []) hcf (cz_X6_table l D k A u89 (q) hasImage r87.2.2 r87.2.1 h_now_draw h93 h99 h102) (cwV 0 hts gX6_tell_X6_table rfl rfl rfl (by decide +kernel) ⟨Nat.le_of_ble_eq_true rfl, Nat.le_of_ble_eq_true rfl⟩) (pw_V hP hK hD (ci := 6) h93 rfl) rfl rfl hl.1 rfl (lv_room (Nat.le_of_ble_eq_true rfl)) dX6_tell_59 ⟨Nat.zero_le _, Nat.zero_le _⟩) ?_
            refine lv_iload_n hx hb dX6_tell_62 rfl (lv_at hl 2 rfl) ?_
            refine lv_iload_n hx hb dX6_tell_63 rfl (lv_at hl 3 rfl) ?_
            obtain ⟨r107, h108, hf⟩ := bd_s hf
            refine kw_v (va_runV (As := [.int p1, .int p2]) (rest := []) hcf (cz_X3_put l D k A u89 (q + 1 + 1 + 1) h_now_told_pl h_now_told_sz p1 p2 r107 h108 h103 _) (cwV 2 hts gX6_tell_X3_put rfl rfl rfl (by decide +kernel) ⟨Nat.le_of_ble_eq_true rfl, Nat.le_of_ble_eq_true rfl⟩) (px_V hP hK hD (ci := 3) h103.1 rfl) rfl rfl hl.1 rfl (lv_room (Nat.le_of_ble_eq_true rfl)) dX6_tell_64 ⟨Nat.zero_le _, Nat.zero_le _⟩) hD hS hA (fun u109 _ _ h110 hP hD hS => ?_)
            obtain ⟨h112, m111⟩ := h110
            have hsm := sm_tr hsm m111 (by omega) (by omega)
            refine lv_iload_n hx hb dX6_tell_67 rfl (lv_at hl 0 rfl) ?_
            refine lv_bipush (v := (-4)) hx hb dX6_tell_68 (by decide) ?_
            refine lv_icmp_ne (tgt := 78) hx hb dX6_tell_70 (by decide) (fun c113 => ?_) (fun c113 => ?_)
            · have hf := it_n c113 hf
              refine lv_iload_n hx hb dX6_tell_78 rfl (lv_at hl 0 rfl) ?_
              obtain rfl := so_i hf
              have h114 := sm_at m111 (by omega) h93
              have h115 := sm_at m111 (by omega) h99
              have h116 := sm_at m111 (by omega) h102
              have h117 := is_T_tr h104 m111 (by omega)
              have h118 : is_M k A u109 (q + 1 + 1) r107.1 r107.2 h_now_inUse_pl h_now_inUse_sz h_now_draw := ⟨h116, h112, h117⟩
              have h119 := is_K_tr h101 m111 (by omega)
              have h120 : is_H k A u109 (q + 1) r107.1 r107.2 h_now_inUse_pl h_now_inUse_sz h_now_draw r87.1 r87.2.1 := ⟨h115, h118, h119⟩
              have h121 := is_H_tr h95 m111 (by omega)
              have h122 := is_V_tr h96 m111 (by omega)
              have h123 := is_P_tr h97 m111 (by omega)
              have h124 := is_Z_tr h98 m111 (by omega)
              have h125 : is_X k A u109 (q) r107.1 r107.2 h_now_inUse_pl h_now_inUse_sz h_now_draw r87.1 r87.2.1 k_now_told_pl k_now_told_sz k_now_inUse_pl k_now_inUse_sz k_now_draw k_kn k_size v_sent v_sentI v_best v_ease v_fromA v_vi_pl v_vi_sz v_vl_pl v_vl_sz t_letters t_tt_pl t_tt_sz t_size t_place t_number sh hasImage r87.2.2 := ⟨h114, h120, h121, h122, h123, h124⟩
              exact W.iret (v := r21) hx hb hr (qw_end hS hP hD ⟨h125, hsm⟩) hS.2.2 dX6_tell_79
            · have hf := it_p c113 hf
              refine lv_bipush (v := 8) hx hb dX6_tell_73 (by decide) ?_
              refine lv_goto (tgt := 79) hx hb dX6_tell_75 (by decide) ?_
              obtain rfl := so_i hf
              have h126 := sm_at m111 (by omega) h93
              have h127 := sm_at m111 (by omega) h99
              have h128 := sm_at m111 (by omega) h102
              have h129 := is_T_tr h104 m111 (by omega)
              have h130 : is_M k A u109 (q + 1 + 1) r107.1 r107.2 h_now_inUse_pl h_now_inUse_sz h_now_draw := ⟨h128, h112, h129⟩
              have h131 := is_K_tr h101 m111 (by omega)
              have h132 : is_H k A u109 (q + 1) r107.1 r107.2 h_now_inUse_pl h_now_inUse_sz h_now_draw r87.1 r87.2.1 := ⟨h127, h130, h131⟩
              have h133 := is_H_tr h95 m111 (by omega)
              have h134 := is_V_tr h96 m111 (by omega)
              have h135 := is_P_tr h97 m111 (by omega)
              have h136 := is_Z_tr h98 m111 (by omega)
              have h137 : is_X k A u109 (q) r107.1 r107.2 h_now_inUse_pl h_now_inUse_sz h_now_draw r87.1 r87.2.1 k_now_told_pl k_now_told_sz k_now_inUse_pl k_now_inUse_sz k_now_draw k_kn k_size v_sent v_sentI v_best v_ease v_fromA v_vi_pl v_vi_sz v_vl_pl v_vl_sz t_letters t_tt_pl t_tt_sz t_size t_place t_number sh hasImage r87.2.2 := ⟨h126, h132, h133, h134, h135, h136⟩
              exact W.iret (v := 8) hx hb hr (qw_end hS hP hD ⟨h137, hsm⟩) hS.2.2 dX6_tell_79
          · have hf := it_n c83 hf
            refine lv_bipush (v := (-3)) hx hb dX6_tell_51 (by decide) ?_
            obtain rfl := so_i hf
            have h138 : is_M k A ws (q + 1 + 1) h_now_told_pl h_now_told_sz h_now_inUse_pl h_now_inUse_sz h_now_draw := ⟨h16, h17, h18⟩
            have h139 : is_H k A ws (q + 1) h_now_told_pl h_now_told_sz h_now_inUse_pl h_now_inUse_sz h_now_draw h_kn h_size := ⟨h13, h138, h15⟩
            have h140 : is_X k A ws (q) h_now_told_pl h_now_told_sz h_now_inUse_pl h_now_inUse_sz h_now_draw h_kn h_size k_now_told_pl k_now_told_sz k_now_inUse_pl k_now_inUse_sz k_now_draw k_kn k_size v_sent v_sentI v_best v_ease v_fromA v_vi_pl v_vi_sz v_vl_pl v_vl_sz t_letters t_tt_pl t_tt_sz t_size t_place t_number sh hasImage viewIsOld := ⟨h7, h139, h9, h10, h11, h12⟩
            exact W.iret (v := (-3)) hx hb hr (qw_end hS hP hD ⟨h140, hsm⟩) hS.2.2 dX6_tell_53
      · have hf := it_p c23 hf
        refine lv_bipush (v := (-2)) hx hb dX6_tell_30 (by decide) ?_
        obtain rfl := so_i hf
        have h141 : is_M k A ws (q + 1 + 1) h_now_told_pl h_now_told_sz h_now_inUse_pl h_now_inUse_sz h_now_draw := ⟨h16, h17, h18⟩
        have h142 : is_H k A ws (q + 1) h_now_told_pl h_now_told_sz h_now_inUse_pl h_now_inUse_sz h_now_draw h_kn h_size := ⟨h13, h141, h15⟩
        have h143 : is_X k A ws (q) h_now_told_pl h_now_told_sz h_now_inUse_pl h_now_inUse_sz h_now_draw h_kn h_size k_now_told_pl k_now_told_sz k_now_inUse_pl k_now_inUse_sz k_now_draw k_kn k_size v_sent v_sentI v_best v_ease v_fromA v_vi_pl v_vi_sz v_vl_pl v_vl_sz t_letters t_tt_pl t_tt_sz t_size t_place t_number sh hasImage viewIsOld := ⟨h7, h142, h9, h10, h11, h12⟩
        exact W.iret (v := (-2)) hx hb hr (qw_end hS hP hD ⟨h143, hsm⟩) hS.2.2 dX6_tell_32
    · have hf := it_p c6 hf
      refine lv_iconst (v := (-1)) hx hb dX6_tell_14 (by decide) ?_
      obtain rfl := so_i hf
      exact W.iret (v := (-1)) hx hb hr (qw_end hS hP hD ⟨h_this, hsm⟩) hS.2.2 dX6_tell_15

def pf_X6_out (h_now_told_pl : Nat → Int64) (h_now_told_sz : Int32) (h_now_inUse_pl : Nat → Int64) (h_now_inUse_sz : Int32) (h_now_draw : Int32) (h_kn : Nat → mm_T) (h_size : Int32) (viewIsOld : Int32)  (p1 : Int32) : Option (Int32 × (Nat → Int64) × Int32 × (Nat → mm_T) × Int32 × Int32) :=
  (pf_X6_isPrefix p1).bind (fun r1 =>
    if r1 = 0 then
      some ((-1), h_now_told_pl, h_now_told_sz, h_kn, h_size, viewIsOld)
    else
      (pf_X3_hopAt h_now_told_pl p1).bind (fun r18 =>
        if r18 = (-4) then
          some ((-4), h_now_told_pl, h_now_told_sz, h_kn, h_size, viewIsOld)
        else
          (pf_X6_beginStep h_now_told_pl h_now_told_sz h_now_inUse_pl h_now_inUse_sz h_now_draw h_kn h_size viewIsOld).bind (fun r24 =>
            (pf_X3_takeOut h_now_told_pl h_now_told_sz p1).bind (fun r44 =>
              some (r18, r44.1, r44.2, r24.1, r24.2.1, r24.2.2)))))

set_option maxHeartbeats 4000000 in
set_option maxRecDepth 100000 in
theorem cz_X6_out (l : Launch) (D : va_G) (k : kt_T) (A : Nat → Nat) (ws : va_W) (q : Nat)  (h_now_told_pl : Nat → Int64) (h_now_told_sz : Int32) (h_now_inUse_pl : Nat → Int64) (h_now_inUse_sz : Int32) (h_now_draw : Int32) (h_kn : Nat → mm_T) (h_size : Int32) (k_now_told_pl : Nat → Int64) (k_now_told_sz : Int32) (k_now_inUse_pl : Nat → Int64) (k_now_inUse_sz : Int32) (k_now_draw : Int32) (k_kn : Nat → mm_T) (k_size : Int32) (v_sent : Nat → Int32) (v_sentI : Nat → Int32) (v_best : Nat → Int32) (v_ease : Nat → Int32) (v_fromA : Nat → Int32) (v_vi_pl : Nat → Int64) (v_vi_sz : Int32) (v_vl_pl : Nat → Int64) (v_vl_sz : Int32) (t_letters : Nat → Int32) (t_tt_pl : Nat → Int64) (t_tt_sz : Int32) (t_size : Int32) (t_place : Int32) (t_number : Int32) (sh : Nat → ss_T) (hasImage : Int32) (viewIsOld : Int32) (p1 : Int32) (out : Int32 × (Nat → Int64) × Int32 × (Nat → mm_T) × Int32 × Int32) (hf : pf_X6_out h_now_told_pl h_now_told_sz h_now_inUse_pl h_now_inUse_sz h_now_draw h_kn h_size viewIsOld p1 = some out) (h_this : is_X k A ws q h_now_told_pl h_now_told_sz h_now_inUse_pl h_now_inUse_sz h_now_draw h_kn h_size k_now_told_pl k_now_told_sz k_now_inUse_pl k_now_inUse_sz k_now_draw k_kn k_size v_sent v_sentI v_best v_ease v_fromA v_vi_pl v_vi_sz v_vl_pl v_vl_sz t_letters t_tt_pl t_tt_sz t_size t_place t_number sh hasImage viewIsOld)  (sz0 : Nat) : Met l yX6_out wsX6_out { frames := 5, cells := 0, slots := 0, locals := 142 } (va_Pc [.ref (A q), .int p1] (px_P D k ws sz0)) (qw_Q D ws sz0 (some (.int out.1)) (fun u => is_X k A u q out.2.1 out.2.2.1 h_now_inUse_pl h_now_inUse_sz h_now_draw out.2.2.2.1 out.2.2.2.2.1 k_now_told_pl k_now_told_sz k_now_inUse_pl k_now_inUse_sz k_now_draw k_kn k_size v_sent v_sentI v_best v_ease v_fromA v_vi_pl v_vi_sz v_vl_pl v_vl_sz t_letters t_tt_pl t_tt_sz t_size t_place t_number sh hasImage out.2.2.2.2.2 ∧ sm_W ws u q (q + 98))) 0 0 (va_A ws sz0) := by
  refine Met.ofW (cc := cX6_out) (maxL := 3) (ret := (some .int)) (by decide) rfl ?_
  intro p e s m args below meth c s₁ B hml hv
  obtain ⟨rfl, hsz, hP, hK, hD0⟩ := hv
  subst hsz
  have hD := hD0.self (sz := s.heap.size)
  have C0 : cx_P p s m meth c [.ref (A q), .int p1].toArray cX6_out 3 wsX6_out RX6 (some .int) := ⟨B.exec, B.bytes, hml, findClass_of_methodNamed B.named, atoms_spec (ws := wsX6_out) B.pre, B.returns, B.notSynchronized⟩
  obtain ⟨hx, hb, hml, hown, hts, hr, hlocks⟩ := id C0
  have hcf : CallFix p m c cX6_out 3 s [.ref (A q), .int p1].toArray wsX6_out RX6 := ⟨hx, hb, hml, hown, hts⟩
  have hA : ∀ q, s.heap.size ≤ q → va_A ws s.heap.size q := fun q h => Or.inr h
  have hS : va_S (va_A ws s.heap.size) s.heap s.heap [] := va_S.rf
  have hsm : sm_W ws ws q (q + 98) := sm_rf
  have hl := lv_entry ([.ref (A q), .int p1]) (n := 3) (Nat.le_of_ble_eq_true rfl)
  rw [lg_entry_eq]
  generalize (lg_sl ([.ref (A q), .int p1]) ++ List.replicate (3 - (lg_sl ([.ref (A q), .int p1])).length) Slot.unset).toArray = ls at hl ⊢
  have hl : lv_has ls 3 [(0, .ref (A q)), (1, .int p1)] := hl
  unfold pf_X6_out at hf
  refine lv_iload_n hx hb dX6_out_0 rfl (lv_at hl 1 rfl) ?_
  obtain ⟨r1, h2, hf⟩ := bd_s hf
  refine ks_i (va_runS (As := [.int p1]) (rest := []) hcf (cz_X6_isPrefix l D k A ws p1 r1 h2) (va_cwS 1 hts gX6_out_X6_isPrefix rfl rfl rfl (by decide +kernel) ⟨Nat.le_of_ble_eq_true rfl, Nat.le_of_ble_eq_true rfl⟩) (pw_S hP hK hD) rfl rfl hl.1 rfl (lv_room (Nat.le_of_ble_eq_true rfl)) dX6_out_1 ⟨Nat.zero_le _, Nat.zero_le _⟩) ?_
  refine lv_if_ne (tgt := 9) hx hb dX6_out_4 (by decide) (fun c3 => ?_) (fun c3 => ?_)
  · have hf := it_n c3 hf
    refine lv_aload_n hx hb dX6_out_9 rfl (lv_at hl 0 rfl) ?_
    obtain ⟨h4, h5, h6, h7, h8, h9⟩ := h_this
    obtain ⟨h10, h11, h12⟩ := h5
    obtain ⟨h13, h14, h15⟩ := h11
    refine ks_r (va_runV (As := []) (rest := []) hcf (cz_X6_table l D k A ws (q) hasImage viewIsOld h_size h_now_draw h4 h10 h13) (cwV 0 hts gX6_out_X6_table rfl rfl rfl (by decide +kernel) ⟨Nat.le_of_ble_eq_true rfl, Nat.le_of_ble_eq_true rfl⟩) (pw_V hP hK hD (ci := 6) h4 rfl) rfl rfl hl.1 rfl (lv_room (Nat.le_of_ble_eq_true rfl)) dX6_out_10 ⟨Nat.zero_le _, Nat.zero_le _⟩) ?_
    refine lv_iload_n hx hb dX6_out_13 rfl (lv_at hl 1 rfl) ?_
    obtain ⟨r18, h19, hf⟩ := bd_s hf
    refine ks_i (va_runV (As := [.int p1]) (rest := []) hcf (cz_X3_hopAt l D k A ws (q + 1 + 1 + 1) h_now_told_pl h_now_told_sz p1 r18 h19 h14) (cwV 1 hts gX6_out_X3_hopAt rfl rfl rfl (by decide +kernel) ⟨Nat.le_of_ble_eq_true rfl, Nat.le_of_ble_eq_true rfl⟩) (pw_V hP hK hD (ci := 3) h14.1 rfl) rfl rfl hl.1 rfl (lv_room (Nat.le_of_ble_eq_true rfl)) dX6_out_14 ⟨Nat.zero_le _, Nat.zero_le _⟩) ?_
    refine lv_istore_n (lv' := [(2, .int r18), (0, .ref (A q)), (1, .int p1)]) hx hb dX6_out_17 rfl hl (by decide) rfl (fun ls hl => ?_)
    refine lv_iload_n hx hb dX6_out_18 rfl (lv_at hl 0 rfl) ?_
    refine lv_bipush (v := (-4)) hx hb dX6_out_19 (by decide) ?_
    refine lv_icmp_ne (tgt := 27) hx hb dX6_out_21 (by decide) (fun c20 => ?_) (fun c20 => ?_)
    · have hf := it_n c20 hf
      refine lv_aload_n hx hb dX6_out_27 rfl (lv_at hl 1 rfl) ?_
      have h21 : is_M k A ws (q + 1 + 1) h_now_told_pl h_now_told_sz h_now_inUse_pl h_now_inUse_sz h_now_draw := ⟨h13, h14, h15⟩
      have h22 : is_H k A ws (q + 1) h_now_told_pl h_now_told_sz h_now_inUse_pl h_now_inUse_sz h_now_draw h_kn h_size := ⟨h10, h21, h12⟩
      have h23 : is_X k A ws (q) h_now_told_pl h_now_told_sz h_now_inUse_pl h_now_inUse_sz h_now_draw h_kn h_size k_now_told_pl k_now_told_sz k_now_inUse_pl k_now_inUse_sz k_now_draw k_kn k_size v_sent v_sentI v_best v_ease v_fromA v_vi_pl v_vi_sz v_vl_pl v_vl_sz t_letters t_tt_pl t_tt_sz t_size t_place t_number sh hasImage viewIsOld := ⟨h4, h22, h6, h7, h8, h9⟩
      obtain ⟨r24, h25, hf⟩ := bd_s hf
      refine kw_v (va_runV (As := []) (rest := []) hcf (cz_X6_beginStep l D k A ws (q) h_now_told_pl h_now_told_sz h_now_inUse_pl h_now_inUse_sz h_now_draw h_kn h_size k_now_told_pl k_now_told_sz k_now_inUse_pl k_now_inUse_sz k_now_draw k_kn k_size v_sent v_sentI v_best v_ease v_fromA v_vi_pl v_vi_sz v_vl_pl v_vl_sz t_letters t_tt_pl t_tt_sz t_size t_place t_number sh hasImage viewIsOld r24 h25 h23 _) (cwV 0 hts gX6_out_X6_beginStep rfl rfl rfl (by decide +kernel) ⟨Nat.le_of_ble_eq_true rfl, Nat.le_of_ble_eq_true rfl⟩) (px_V hP hK hD (ci := 6) h23.1 rfl) rfl rfl hl.1 rfl (lv_room (Nat.le_of_ble_eq_true rfl)) dX6_out_28 ⟨Nat.zero_le _, Nat.zero_le _⟩) hD hS hA (fun u26 _ _ h27 hP hD hS => ?_)
      obtain ⟨h29, m28⟩ := h27
      have hsm := sm_tr hsm m28 (by omega) (by omega)
      refine lv_aload_n hx hb dX6_out_31 rfl (lv_at hl 1 rfl) ?_
      obtain ⟨h30, h31, h32, h33, h34, h35⟩ := h29
      obtain ⟨h36, h37, h38⟩ := h31
      obtain ⟨h39, h40, h41⟩ := h37
      refine ks_r (va_runV (As := []) (rest := []) hcf (cz_X6_table l D k A u26 (q) hasImage r24.2.2 r24.2.1 h_now_draw h30 h36 h39) (cwV 0 hts gX6_out_X6_table rfl rfl rfl (by decide +kernel) ⟨Nat.le_of_ble_eq_true rfl, Nat.le_of_ble_eq_true rfl⟩) (pw_V hP hK hD (ci := 6) h30 rfl) rfl rfl hl.1 rfl (lv_room (Nat.le_of_ble_eq_true rfl)) dX6_out_32 ⟨Nat.zero_le _, Nat.zero_le _⟩) ?_
      refine lv_iload_n hx hb dX6_out_35 rfl (lv_at hl 2 rfl) ?_
      obtain ⟨r44, h45, hf⟩ := bd_s hf
      refine kw_v (va_runV (As := [.int p1]) (rest := []) hcf (cz_X3_takeOut l D k A u26 (q + 1 + 1 + 1) h_now_told_pl h_now_told_sz p1 r44 h45 h40 _) (cwV 1 hts gX6_out_X3_takeOut rfl rfl rfl (by decide +kernel) ⟨Nat.le_of_ble_eq_true rfl, Nat.le_of_ble_eq_true rfl⟩) (px_V hP hK hD (ci := 3) h40.1 rfl) rfl rfl hl.1 rfl (lv_room (Nat.le_of_ble_eq_true rfl)) dX6_out_36 ⟨Nat.zero_le _, Nat.zero_le _⟩) hD hS hA (fun u46 _ _ h47 hP hD hS => ?_)
      obtain ⟨h49, m48⟩ := h47
      have hsm := sm_tr hsm m48 (by omega) (by omega)
      refine lv_iload_n hx hb dX6_out_39 rfl (lv_at hl 0 rfl) ?_
      obtain rfl := so_i hf
      have h50 := sm_at m48 (by omega) h30
      have h51 := sm_at m48 (by omega) h36
      have h52 := sm_at m48 (by omega) h39
      have h53 := is_T_tr h41 m48 (by omega)
      have h54 : is_M k A u46 (q + 1 + 1) r44.1 r44.2 h_now_inUse_pl h_now_inUse_sz h_now_draw := ⟨h52, h49, h53⟩
      have h55 := is_K_tr h38 m48 (by omega)
      have h56 : is_H k A u46 (q + 1) r44.1 r44.2 h_now_inUse_pl h_now_inUse_sz h_now_draw r24.1 r24.2.1 := ⟨h51, h54, h55⟩
      have h57 := is_H_tr h32 m48 (by omega)
      have h58 := is_V_tr h33 m48 (by omega)
      have h59 := is_P_tr h34 m48 (by omega)
      have h60 := is_Z_tr h35 m48 (by omega)
      have h61 : is_X k A u46 (q) r44.1 r44.2 h_now_inUse_pl h_now_inUse_sz h_now_draw r24.1 r24.2.1 k_now_told_pl k_now_told_sz k_now_inUse_pl k_now_inUse_sz k_now_draw k_kn k_size v_sent v_sentI v_best v_ease v_fromA v_vi_pl v_vi_sz v_vl_pl v_vl_sz t_letters t_tt_pl t_tt_sz t_size t_place t_number sh hasImage r24.2.2 := ⟨h50, h56, h57, h58, h59, h60⟩
      exact W.iret (v := r18) hx hb hr (qw_end hS hP hD ⟨h61, hsm⟩) hS.2.2 dX6_out_40
    · have hf := it_p c20 hf
      refine lv_bipush (v := (-4)) hx hb dX6_out_24 (by decide) ?_
      obtain rfl := so_i hf
      have h62 : is_M k A ws (q + 1 + 1) h_now_told_pl h_now_told_sz h_now_inUse_pl h_now_inUse_sz h_now_draw := ⟨h13, h14, h15⟩
      have h63 : is_H k A ws (q + 1) h_now_told_pl h_now_told_sz h_now_inUse_pl h_now_inUse_sz h_now_draw h_kn h_size := ⟨h10, h62, h12⟩
      have h64 : is_X k A ws (q) h_now_told_pl h_now_told_sz h_now_inUse_pl h_now_inUse_sz h_now_draw h_kn h_size k_now_told_pl k_now_told_sz k_now_inUse_pl k_now_inUse_sz k_now_draw k_kn k_size v_sent v_sentI v_best v_ease v_fromA v_vi_pl v_vi_sz v_vl_pl v_vl_sz t_letters t_tt_pl t_tt_sz t_size t_place t_number sh hasImage viewIsOld := ⟨h4, h63, h6, h7, h8, h9⟩
      exact W.iret (v := (-4)) hx hb hr (qw_end hS hP hD ⟨h64, hsm⟩) hS.2.2 dX6_out_26
  · have hf := it_p c3 hf
    refine lv_iconst (v := (-1)) hx hb dX6_out_7 (by decide) ?_
    obtain rfl := so_i hf
    exact W.iret (v := (-1)) hx hb hr (qw_end hS hP hD ⟨h_this, hsm⟩) hS.2.2 dX6_out_8

def pf_X6_rename (h_now_told_pl : Nat → Int64) (h_now_told_sz : Int32) (h_now_inUse_pl : Nat → Int64) (h_now_inUse_sz : Int32) (h_now_draw : Int32) (h_kn : Nat → mm_T) (h_size : Int32) (viewIsOld : Int32)  (p1 : Int32) (p2 : Int32) : Option (Int32 × (Nat → Int64) × Int32 × (Nat → mm_T) × Int32 × Int32) :=
  (pf_X6_isHop p1).bind (fun r1 =>
    if r1 = 0 then
      some ((-1), h_now_told_pl, h_now_told_sz, h_kn, h_size, viewIsOld)
    else
      (pf_X6_isHop p2).bind (fun r4 =>
        if r4 = 0 then
          some ((-1), h_now_told_pl, h_now_told_sz, h_kn, h_size, viewIsOld)
        else
          if p1 = p2 then
            some ((-2), h_now_told_pl, h_now_told_sz, h_kn, h_size, viewIsOld)
          else
            (pf_X3_hasHop h_now_told_pl p1).bind (fun r22 =>
              if r22 = 0 then
                some ((-4), h_now_told_pl, h_now_told_sz, h_kn, h_size, viewIsOld)
              else
                (pf_X6_beginStep h_now_told_pl h_now_told_sz h_now_inUse_pl h_now_inUse_sz h_now_draw h_kn h_size viewIsOld).bind (fun r28 =>
                  (pf_X3_replaceHop h_now_told_pl h_now_told_sz p1 p2).bind (fun r48 =>
                    some (r48.1, r48.2.1, r48.2.2, r28.1, r28.2.1, r28.2.2))))))

set_option maxHeartbeats 4000000 in
set_option maxRecDepth 100000 in
theorem cz_X6_rename (l : Launch) (D : va_G) (k : kt_T) (A : Nat → Nat) (ws : va_W) (q : Nat)  (h_now_told_pl : Nat → Int64) (h_now_told_sz : Int32) (h_now_inUse_pl : Nat → Int64) (h_now_inUse_sz : Int32) (h_now_draw : Int32) (h_kn : Nat → mm_T) (h_size : Int32) (k_now_told_pl : Nat → Int64) (k_now_told_sz : Int32) (k_now_inUse_pl : Nat → Int64) (k_now_inUse_sz : Int32) (k_now_draw : Int32) (k_kn : Nat → mm_T) (k_size : Int32) (v_sent : Nat → Int32) (v_sentI : Nat → Int32) (v_best : Nat → Int32) (v_ease : Nat → Int32) (v_fromA : Nat → Int32) (v_vi_pl : Nat → Int64) (v_vi_sz : Int32) (v_vl_pl : Nat → Int64) (v_vl_sz : Int32) (t_letters : Nat → Int32) (t_tt_pl : Nat → Int64) (t_tt_sz : Int32) (t_size : Int32) (t_place : Int32) (t_number : Int32) (sh : Nat → ss_T) (hasImage : Int32) (viewIsOld : Int32) (p1 : Int32) (p2 : Int32) (out : Int32 × (Nat → Int64) × Int32 × (Nat → mm_T) × Int32 × Int32) (hf : pf_X6_rename h_now_told_pl h_now_told_sz h_now_inUse_pl h_now_inUse_sz h_now_draw h_kn h_size viewIsOld p1 p2 = some out) (h_this : is_X k A ws q h_now_told_pl h_now_told_sz h_now_inUse_pl h_now_inUse_sz h_now_draw h_kn h_size k_now_told_pl k_now_told_sz k_now_inUse_pl k_now_inUse_sz k_now_draw k_kn k_size v_sent v_sentI v_best v_ease v_fromA v_vi_pl v_vi_sz v_vl_pl v_vl_sz t_letters t_tt_pl t_tt_sz t_size t_place t_number sh hasImage viewIsOld)  (sz0 : Nat) : Met l yX6_rename wsX6_rename { frames := 5, cells := 0, slots := 0, locals := 142 } (va_Pc [.ref (A q), .int p1, .int p2] (px_P D k ws sz0)) (qw_Q D ws sz0 (some (.int out.1)) (fun u => is_X k A u q out.2.1 out.2.2.1 h_now_inUse_pl h_now_inUse_sz h_now_draw out.2.2.2.1 out.2.2.2.2.1 k_now_told_pl k_now_told_sz k_now_inUse_pl k_now_inUse_sz k_now_draw k_kn k_size v_sent v_sentI v_best v_ease v_fromA v_vi_pl v_vi_sz v_vl_pl v_vl_sz t_letters t_tt_pl t_tt_sz t_size t_place t_number sh hasImage out.2.2.2.2.2 ∧ sm_W ws u q (q + 98))) 0 0 (va_A ws sz0) := by
  refine Met.ofW (cc := cX6_rename) (maxL := 3) (ret := (some .int)) (by decide) rfl ?_
  intro p e s m args below meth c s₁ B hml hv
  obtain ⟨rfl, hsz, hP, hK, hD0⟩ := hv
  subst hsz
  have hD := hD0.self (sz := s.heap.size)
  have C0 : cx_P p s m meth c [.ref (A q), .int p1, .int p2].toArray cX6_rename 3 wsX6_rename RX6 (some .int) := ⟨B.exec, B.bytes, hml, findClass_of_methodNamed B.named, atoms_spec (ws := wsX6_rename) B.pre, B.returns, B.notSynchronized⟩
  obtain ⟨hx, hb, hml, hown, hts, hr, hlocks⟩ := id C0
  have hcf : CallFix p m c cX6_rename 3 s [.ref (A q), .int p1, .int p2].toArray wsX6_rename RX6 := ⟨hx, hb, hml, hown, hts⟩
  have hA : ∀ q, s.heap.size ≤ q → va_A ws s.heap.size q := fun q h => Or.inr h
  have hS : va_S (va_A ws s.heap.size) s.heap s.heap [] := va_S.rf
  have hsm : sm_W ws ws q (q + 98) := sm_rf
  have hl := lv_entry ([.ref (A q), .int p1, .int p2]) (n := 3) (Nat.le_of_ble_eq_true rfl)
  rw [lg_entry_eq]
  generalize (lg_sl ([.ref (A q), .int p1, .int p2]) ++ List.replicate (3 - (lg_sl ([.ref (A q), .int p1, .int p2])).length) Slot.unset).toArray = ls at hl ⊢
  have hl : lv_has ls 3 [(0, .ref (A q)), (1, .int p1), (2, .int p2)] := hl
  unfold pf_X6_rename at hf
  refine lv_iload_n hx hb dX6_rename_0 rfl (lv_at hl 1 rfl) ?_
  obtain ⟨r1, h2, hf⟩ := bd_s hf
  refine ks_i (va_runS (As := [.int p1]) (rest := []) hcf (cz_X6_isHop l D k A ws p1 r1 h2) (va_cwS 1 hts gX6_rename_X6_isHop rfl rfl rfl (by decide +kernel) ⟨Nat.le_of_ble_eq_true rfl, Nat.le_of_ble_eq_true rfl⟩) (pw_S hP hK hD) rfl rfl hl.1 rfl (lv_room (Nat.le_of_ble_eq_true rfl)) dX6_rename_1 ⟨Nat.zero_le _, Nat.zero_le _⟩) ?_
  refine lv_if_eq (tgt := 14) hx hb dX6_rename_4 (by decide) (fun c3 => ?_) (fun c3 => ?_)
  · have hf := it_p c3 hf
    refine lv_iconst (v := (-1)) hx hb dX6_rename_14 (by decide) ?_
    obtain rfl := so_i hf
    exact W.iret (v := (-1)) hx hb hr (qw_end hS hP hD ⟨h_this, hsm⟩) hS.2.2 dX6_rename_15
  · have hf := it_n c3 hf
    refine lv_iload_n hx hb dX6_rename_7 rfl (lv_at hl 2 rfl) ?_
    obtain ⟨r4, h5, hf⟩ := bd_s hf
    refine ks_i (va_runS (As := [.int p2]) (rest := []) hcf (cz_X6_isHop l D k A ws p2 r4 h5) (va_cwS 1 hts gX6_rename_X6_isHop rfl rfl rfl (by decide +kernel) ⟨Nat.le_of_ble_eq_true rfl, Nat.le_of_ble_eq_true rfl⟩) (pw_S hP hK hD) rfl rfl hl.1 rfl (lv_room (Nat.le_of_ble_eq_true rfl)) dX6_rename_8 ⟨Nat.zero_le _, Nat.zero_le _⟩) ?_
    refine lv_if_ne (tgt := 16) hx hb dX6_rename_11 (by decide) (fun c6 => ?_) (fun c6 => ?_)
    · have hf := it_n c6 hf
      refine lv_iload_n hx hb dX6_rename_16 rfl (lv_at hl 1 rfl) ?_
      refine lv_iload_n hx hb dX6_rename_17 rfl (lv_at hl 2 rfl) ?_
      refine lv_icmp_ne (tgt := 24) hx hb dX6_rename_18 (by decide) (fun c7 => ?_) (fun c7 => ?_)
      · have hf := it_n c7 hf
        refine lv_aload_n hx hb dX6_rename_24 rfl (lv_at hl 0 rfl) ?_
        obtain ⟨h8, h9, h10, h11, h12, h13⟩ := h_this
        obtain ⟨h14, h15, h16⟩ := h9
        obtain ⟨h17, h18, h19⟩ := h15
        refine ks_r (va_runV (As := []) (rest := []) hcf (cz_X6_table l D k A ws (q) hasImage viewIsOld h_size h_now_draw h8 h14 h17) (cwV 0 hts gX6_rename_X6_table rfl rfl rfl (by decide +kernel) ⟨Nat.le_of_ble_eq_true rfl, Nat.le_of_ble_eq_true rfl⟩) (pw_V hP hK hD (ci := 6) h8 rfl) rfl rfl hl.1 rfl (lv_room (Nat.le_of_ble_eq_true rfl)) dX6_rename_25 ⟨Nat.zero_le _, Nat.zero_le _⟩) ?_
        refine lv_iload_n hx hb dX6_rename_28 rfl (lv_at hl 1 rfl) ?_
        obtain ⟨r22, h23, hf⟩ := bd_s hf
        refine ks_i (va_runV (As := [.int p1]) (rest := []) hcf (cz_X3_hasHop l D k A ws (q + 1 + 1 + 1) h_now_told_pl h_now_told_sz p1 r22 h23 h18) (cwV 1 hts gX6_rename_X3_hasHop rfl rfl rfl (by decide +kernel) ⟨Nat.le_of_ble_eq_true rfl, Nat.le_of_ble_eq_true rfl⟩) (pw_V hP hK hD (ci := 3) h18.1 rfl) rfl rfl hl.1 rfl (lv_room (Nat.le_of_ble_eq_true rfl)) dX6_rename_29 ⟨Nat.zero_le _, Nat.zero_le _⟩) ?_
        refine lv_if_ne (tgt := 38) hx hb dX6_rename_32 (by decide) (fun c24 => ?_) (fun c24 => ?_)
        · have hf := it_n c24 hf
          refine lv_aload_n hx hb dX6_rename_38 rfl (lv_at hl 0 rfl) ?_
          have h25 : is_M k A ws (q + 1 + 1) h_now_told_pl h_now_told_sz h_now_inUse_pl h_now_inUse_sz h_now_draw := ⟨h17, h18, h19⟩
          have h26 : is_H k A ws (q + 1) h_now_told_pl h_now_told_sz h_now_inUse_pl h_now_inUse_sz h_now_draw h_kn h_size := ⟨h14, h25, h16⟩
          have h27 : is_X k A ws (q) h_now_told_pl h_now_told_sz h_now_inUse_pl h_now_inUse_sz h_now_draw h_kn h_size k_now_told_pl k_now_told_sz k_now_inUse_pl k_now_inUse_sz k_now_draw k_kn k_size v_sent v_sentI v_best v_ease v_fromA v_vi_pl v_vi_sz v_vl_pl v_vl_sz t_letters t_tt_pl t_tt_sz t_size t_place t_number sh hasImage viewIsOld := ⟨h8, h26, h10, h11, h12, h13⟩
          obtain ⟨r28, h29, hf⟩ := bd_s hf
          refine kw_v (va_runV (As := []) (rest := []) hcf (cz_X6_beginStep l D k A ws (q) h_now_told_pl h_now_told_sz h_now_inUse_pl h_now_inUse_sz h_now_draw h_kn h_size k_now_told_pl k_now_told_sz k_now_inUse_pl k_now_inUse_sz k_now_draw k_kn k_size v_sent v_sentI v_best v_ease v_fromA v_vi_pl v_vi_sz v_vl_pl v_vl_sz t_letters t_tt_pl t_tt_sz t_size t_place t_number sh hasImage viewIsOld r28 h29 h27 _) (cwV 0 hts gX6_rename_X6_beginStep rfl rfl rfl (by decide +kernel) ⟨Nat.le_of_ble_eq_true rfl, Nat.le_of_ble_eq_true rfl⟩) (px_V hP hK hD (ci := 6) h27.1 rfl) rfl rfl hl.1 rfl (lv_room (Nat.le_of_ble_eq_true rfl)) dX6_rename_39 ⟨Nat.zero_le _, Nat.zero_le _⟩) hD hS hA (fun u30 _ _ h31 hP hD hS => ?_)
          obtain ⟨h33, m32⟩ := h31
          have hsm := sm_tr hsm m32 (by omega) (by omega)
          refine lv_aload_n hx hb dX6_rename_42 rfl (lv_at hl 0 rfl) ?_
          obtain ⟨h34, h35, h36, h37, h38, h39⟩ := h33
          obtain ⟨h40, h41, h42⟩ := h35
          obtain ⟨h43, h44, h45⟩ := h41
          refine ks_r (va_runV (As := []) (rest := []) hcf (cz_X6_table l D k A u30 (q) hasImage r28.2.2 r28.2.1 h_now_draw h34 h40 h43) (cwV 0 hts gX6_rename_X6_table rfl rfl rfl (by decide +kernel) ⟨Nat.le_of_ble_eq_true rfl, Nat.le_of_ble_eq_true rfl⟩) (pw_V hP hK hD (ci := 6) h34 rfl) rfl rfl hl.1 rfl (lv_room (Nat.le_of_ble_eq_true rfl)) dX6_rename_43 ⟨Nat.zero_le _, Nat.zero_le _⟩) ?_
          refine lv_iload_n hx hb dX6_rename_46 rfl (lv_at hl 1 rfl) ?_
          refine lv_iload_n hx hb dX6_rename_47 rfl (lv_at hl 2 rfl) ?_
          obtain ⟨r48, h49, hf⟩ := bd_s hf
          refine kw_i (va_runV (As := [.int p1, .int p2]) (rest := []) hcf (cz_X3_replaceHop l D k A u30 (q + 1 + 1 + 1) h_now_told_pl h_now_told_sz p1 p2 r48 h49 h44 _) (cwV 2 hts gX6_rename_X3_replaceHop rfl rfl rfl (by decide +kernel) ⟨Nat.le_of_ble_eq_true rfl, Nat.le_of_ble_eq_true rfl⟩) (px_V hP hK hD (ci := 3) h44.1 rfl) rfl rfl hl.1 rfl (lv_room (Nat.le_of_ble_eq_true rfl)) dX6_rename_48 ⟨Nat.zero_le _, Nat.zero_le _⟩) hD hS hA (fun u50 _ _ h51 hP hD hS => ?_)
          obtain ⟨h53, m52⟩ := h51
          have hsm := sm_tr hsm m52 (by omega) (by omega)
          obtain rfl := so_i hf
          have h54 := sm_at m52 (by omega) h34
          have h55 := sm_at m52 (by omega) h40
          have h56 := sm_at m52 (by omega) h43
          have h57 := is_T_tr h45 m52 (by omega)
          have h58 : is_M k A u50 (q + 1 + 1) r48.2.1 r48.2.2 h_now_inUse_pl h_now_inUse_sz h_now_draw := ⟨h56, h53, h57⟩
          have h59 := is_K_tr h42 m52 (by omega)
          have h60 : is_H k A u50 (q + 1) r48.2.1 r48.2.2 h_now_inUse_pl h_now_inUse_sz h_now_draw r28.1 r28.2.1 := ⟨h55, h58, h59⟩
          have h61 := is_H_tr h36 m52 (by omega)
          have h62 := is_V_tr h37 m52 (by omega)
          have h63 := is_P_tr h38 m52 (by omega)
          have h64 := is_Z_tr h39 m52 (by omega)
          have h65 : is_X k A u50 (q) r48.2.1 r48.2.2 h_now_inUse_pl h_now_inUse_sz h_now_draw r28.1 r28.2.1 k_now_told_pl k_now_told_sz k_now_inUse_pl k_now_inUse_sz k_now_draw k_kn k_size v_sent v_sentI v_best v_ease v_fromA v_vi_pl v_vi_sz v_vl_pl v_vl_sz t_letters t_tt_pl t_tt_sz t_size t_place t_number sh hasImage r28.2.2 := ⟨h54, h60, h61, h62, h63, h64⟩
          exact W.iret (v := r48.1) hx hb hr (qw_end hS hP hD ⟨h65, hsm⟩) hS.2.2 dX6_rename_51
        · have hf := it_p c24 hf
          refine lv_bipush (v := (-4)) hx hb dX6_rename_35 (by decide) ?_
          obtain rfl := so_i hf
          have h66 : is_M k A ws (q + 1 + 1) h_now_told_pl h_now_told_sz h_now_inUse_pl h_now_inUse_sz h_now_draw := ⟨h17, h18, h19⟩
          have h67 : is_H k A ws (q + 1) h_now_told_pl h_now_told_sz h_now_inUse_pl h_now_inUse_sz h_now_draw h_kn h_size := ⟨h14, h66, h16⟩
          have h68 : is_X k A ws (q) h_now_told_pl h_now_told_sz h_now_inUse_pl h_now_inUse_sz h_now_draw h_kn h_size k_now_told_pl k_now_told_sz k_now_inUse_pl k_now_inUse_sz k_now_draw k_kn k_size v_sent v_sentI v_best v_ease v_fromA v_vi_pl v_vi_sz v_vl_pl v_vl_sz t_letters t_tt_pl t_tt_sz t_size t_place t_number sh hasImage viewIsOld := ⟨h8, h67, h10, h11, h12, h13⟩
          exact W.iret (v := (-4)) hx hb hr (qw_end hS hP hD ⟨h68, hsm⟩) hS.2.2 dX6_rename_37
      · have hf := it_p c7 hf
        refine lv_bipush (v := (-2)) hx hb dX6_rename_21 (by decide) ?_
        obtain rfl := so_i hf
        exact W.iret (v := (-2)) hx hb hr (qw_end hS hP hD ⟨h_this, hsm⟩) hS.2.2 dX6_rename_23
    · have hf := it_p c6 hf
      refine lv_iconst (v := (-1)) hx hb dX6_rename_14 (by decide) ?_
      obtain rfl := so_i hf
      exact W.iret (v := (-1)) hx hb hr (qw_end hS hP hD ⟨h_this, hsm⟩) hS.2.2 dX6_rename_15

def pf_X6_install (h_now_told_pl : Nat → Int64) (h_now_told_sz : Int32) (h_now_inUse_pl : Nat → Int64) (h_now_inUse_sz : Int32) (h_now_draw : Int32) (h_kn : Nat → mm_T) (h_size : Int32) (v_sent : Nat → Int32) (v_sentI : Nat → Int32) (v_best : Nat → Int32) (v_ease : Nat → Int32) (v_fromA : Nat → Int32) (v_vi_pl : Nat → Int64) (v_vi_sz : Int32) (v_vl_pl : Nat → Int64) (v_vl_sz : Int32) (viewIsOld : Int32)   : Option (Int32 × (Nat → Int64) × Int32 × (Nat → mm_T) × Int32 × (Nat → Int32) × (Nat → Int32) × (Nat → Int32) × (Nat → Int32) × (Nat → Int32) × (Nat → Int64) × Int32 × (Nat → Int64) × Int32 × Int32) :=
  (pf_X6_freshView h_now_told_pl h_now_inUse_pl h_now_inUse_sz v_sent v_sentI v_best v_ease v_fromA v_vi_pl v_vi_sz v_vl_pl v_vl_sz viewIsOld).bind (fun r1 =>
    (pf_X5_countChanges r1.2.2.2.2.2.1 r1.2.2.2.2.2.2.2.1).bind (fun r13 =>
      if r13 = 0 then
        some ((-2), h_now_inUse_pl, h_now_inUse_sz, h_kn, h_size, r1.1, r1.2.1, r1.2.2.1, r1.2.2.2.1, r1.2.2.2.2.1, r1.2.2.2.2.2.1, r1.2.2.2.2.2.2.1, r1.2.2.2.2.2.2.2.1, r1.2.2.2.2.2.2.2.2.1, r1.2.2.2.2.2.2.2.2.2)
      else
        (pf_X6_beginStep h_now_told_pl h_now_told_sz h_now_inUse_pl h_now_inUse_sz h_now_draw h_kn h_size r1.2.2.2.2.2.2.2.2.2).bind (fun r17 =>
          (pf_X3_takeFrom h_now_inUse_pl h_now_inUse_sz r1.2.2.2.2.2.2.2.1 r1.2.2.2.2.2.2.2.2.1).bind (fun r47 =>
            some (r13, r47.1, r47.2, r17.1, r17.2.1, r1.1, r1.2.1, r1.2.2.1, r1.2.2.2.1, r1.2.2.2.2.1, r1.2.2.2.2.2.1, r1.2.2.2.2.2.2.1, r1.2.2.2.2.2.2.2.1, r1.2.2.2.2.2.2.2.2.1, r17.2.2)))))

set_option maxHeartbeats 4000000 in
set_option maxRecDepth 100000 in
theorem cz_X6_install (l : Launch) (D : va_G) (k : kt_T) (A : Nat → Nat) (ws : va_W) (q : Nat)  (h_now_told_pl : Nat → Int64) (h_now_told_sz : Int32) (h_now_inUse_pl : Nat → Int64) (h_now_inUse_sz : Int32) (h_now_draw : Int32) (h_kn : Nat → mm_T) (h_size : Int32) (k_now_told_pl : Nat → Int64) (k_now_told_sz : Int32) (k_now_inUse_pl : Nat → Int64) (k_now_inUse_sz : Int32) (k_now_draw : Int32) (k_kn : Nat → mm_T) (k_size : Int32) (v_sent : Nat → Int32) (v_sentI : Nat → Int32) (v_best : Nat → Int32) (v_ease : Nat → Int32) (v_fromA : Nat → Int32) (v_vi_pl : Nat → Int64) (v_vi_sz : Int32) (v_vl_pl : Nat → Int64) (v_vl_sz : Int32) (t_letters : Nat → Int32) (t_tt_pl : Nat → Int64) (t_tt_sz : Int32) (t_size : Int32) (t_place : Int32) (t_number : Int32) (sh : Nat → ss_T) (hasImage : Int32) (viewIsOld : Int32)  (out : Int32 × (Nat → Int64) × Int32 × (Nat → mm_T) × Int32 × (Nat → Int32) × (Nat → Int32) × (Nat → Int32) × (Nat → Int32) × (Nat → Int32) × (Nat → Int64) × Int32 × (Nat → Int64) × Int32 × Int32) (hf : pf_X6_install h_now_told_pl h_now_told_sz h_now_inUse_pl h_now_inUse_sz h_now_draw h_kn h_size v_sent v_sentI v_best v_ease v_fromA v_vi_pl v_vi_sz v_vl_pl v_vl_sz viewIsOld = some out) (h_this : is_X k A ws q h_now_told_pl h_now_told_sz h_now_inUse_pl h_now_inUse_sz h_now_draw h_kn h_size k_now_told_pl k_now_told_sz k_now_inUse_pl k_now_inUse_sz k_now_draw k_kn k_size v_sent v_sentI v_best v_ease v_fromA v_vi_pl v_vi_sz v_vl_pl v_vl_sz t_letters t_tt_pl t_tt_sz t_size t_place t_number sh hasImage viewIsOld)  (sz0 : Nat) : Met l yX6_install wsX6_install { frames := 5, cells := 0, slots := 0, locals := 142 } (va_Pc [.ref (A q)] (px_P D k ws sz0)) (qw_Q D ws sz0 (some (.int out.1)) (fun u => is_X k A u q h_now_told_pl h_now_told_sz out.2.1 out.2.2.1 h_now_draw out.2.2.2.1 out.2.2.2.2.1 k_now_told_pl k_now_told_sz k_now_inUse_pl k_now_inUse_sz k_now_draw k_kn k_size out.2.2.2.2.2.1 out.2.2.2.2.2.2.1 out.2.2.2.2.2.2.2.1 out.2.2.2.2.2.2.2.2.1 out.2.2.2.2.2.2.2.2.2.1 out.2.2.2.2.2.2.2.2.2.2.1 out.2.2.2.2.2.2.2.2.2.2.2.1 out.2.2.2.2.2.2.2.2.2.2.2.2.1 out.2.2.2.2.2.2.2.2.2.2.2.2.2.1 t_letters t_tt_pl t_tt_sz t_size t_place t_number sh hasImage out.2.2.2.2.2.2.2.2.2.2.2.2.2.2 ∧ sm_W ws u q (q + 98))) 0 0 (va_A ws sz0) := by
  refine Met.ofW (cc := cX6_install) (maxL := 3) (ret := (some .int)) (by decide) rfl ?_
  intro p e s m args below meth c s₁ B hml hv
  obtain ⟨rfl, hsz, hP, hK, hD0⟩ := hv
  subst hsz
  have hD := hD0.self (sz := s.heap.size)
  have C0 : cx_P p s m meth c [.ref (A q)].toArray cX6_install 3 wsX6_install RX6 (some .int) := ⟨B.exec, B.bytes, hml, findClass_of_methodNamed B.named, atoms_spec (ws := wsX6_install) B.pre, B.returns, B.notSynchronized⟩
  obtain ⟨hx, hb, hml, hown, hts, hr, hlocks⟩ := id C0
  have hcf : CallFix p m c cX6_install 3 s [.ref (A q)].toArray wsX6_install RX6 := ⟨hx, hb, hml, hown, hts⟩
  have hA : ∀ q, s.heap.size ≤ q → va_A ws s.heap.size q := fun q h => Or.inr h
  have hS : va_S (va_A ws s.heap.size) s.heap s.heap [] := va_S.rf
  have hsm : sm_W ws ws q (q + 98) := sm_rf
  have hl := lv_entry ([.ref (A q)]) (n := 3) (Nat.le_of_ble_eq_true rfl)
  rw [lg_entry_eq]
  generalize (lg_sl ([.ref (A q)]) ++ List.replicate (3 - (lg_sl ([.ref (A q)])).length) Slot.unset).toArray = ls at hl ⊢
  have hl : lv_has ls 3 [(0, .ref (A q))] := hl
  unfold pf_X6_install at hf
  refine lv_aload_n hx hb dX6_install_0 rfl (lv_at hl 0 rfl) ?_
  obtain ⟨r1, h2, hf⟩ := bd_s hf
  refine kw_r (va_runV (As := []) (rest := []) hcf (cz_X6_freshView l D k A ws (q) h_now_told_pl h_now_told_sz h_now_inUse_pl h_now_inUse_sz h_now_draw h_kn h_size k_now_told_pl k_now_told_sz k_now_inUse_pl k_now_inUse_sz k_now_draw k_kn k_size v_sent v_sentI v_best v_ease v_fromA v_vi_pl v_vi_sz v_vl_pl v_vl_sz t_letters t_tt_pl t_tt_sz t_size t_place t_number sh hasImage viewIsOld r1 h2 h_this _) (cwV 0 hts gX6_install_X6_freshView rfl rfl rfl (by decide +kernel) ⟨Nat.le_of_ble_eq_true rfl, Nat.le_of_ble_eq_true rfl⟩) (px_V hP hK hD (ci := 6) h_this.1 rfl) rfl rfl hl.1 rfl (lv_room (Nat.le_of_ble_eq_true rfl)) dX6_install_1 ⟨Nat.zero_le _, Nat.zero_le _⟩) hD hS hA (fun u3 _ _ h4 hP hD hS => ?_)
  obtain ⟨h6, m5⟩ := h4
  have hsm := sm_tr hsm m5 (by omega) (by omega)
  refine lv_astore_n (lv' := [(1, .ref (A (q + 75))), (0, .ref (A q))]) hx hb dX6_install_4 rfl hl (by decide) rfl (fun ls hl => ?_)
  refine lv_aload_n hx hb dX6_install_5 rfl (lv_at hl 0 rfl) ?_
  obtain ⟨h7, h8, h9, h10, h11, h12⟩ := h6
  obtain ⟨r13, h14, hf⟩ := bd_s hf
  refine ks_i (va_runV (As := []) (rest := []) hcf (cz_X5_countChanges l D k A u3 (q + 75) r1.1 r1.2.1 r1.2.2.1 r1.2.2.2.1 r1.2.2.2.2.1 r1.2.2.2.2.2.1 r1.2.2.2.2.2.2.1 r1.2.2.2.2.2.2.2.1 r1.2.2.2.2.2.2.2.2.1 r13 h14 h10) (cwV 0 hts gX6_install_X5_countChanges rfl rfl rfl (by decide +kernel) ⟨Nat.le_of_ble_eq_true rfl, Nat.le_of_ble_eq_true rfl⟩) (pw_V hP hK hD (ci := 5) h10.1 rfl) rfl rfl hl.1 rfl (lv_room (Nat.le_of_ble_eq_true rfl)) dX6_install_6 ⟨Nat.zero_le _, Nat.zero_le _⟩) ?_
  refine lv_istore_n (lv' := [(2, .int r13), (1, .ref (A (q + 75))), (0, .ref (A q))]) hx hb dX6_install_9 rfl hl (by decide) rfl (fun ls hl => ?_)
  refine lv_iload_n hx hb dX6_install_10 rfl (lv_at hl 0 rfl) ?_
  refine lv_if_ne (tgt := 17) hx hb dX6_install_11 (by decide) (fun c15 => ?_) (fun c15 => ?_)
  · have hf := it_n c15 hf
    refine lv_aload_n hx hb dX6_install_17 rfl (lv_at hl 2 rfl) ?_
    have h16 : is_X k A u3 (q) h_now_told_pl h_now_told_sz h_now_inUse_pl h_now_inUse_sz h_now_draw h_kn h_size k_now_told_pl k_now_told_sz k_now_inUse_pl k_now_inUse_sz k_now_draw k_kn k_size r1.1 r1.2.1 r1.2.2.1 r1.2.2.2.1 r1.2.2.2.2.1 r1.2.2.2.2.2.1 r1.2.2.2.2.2.2.1 r1.2.2.2.2.2.2.2.1 r1.2.2.2.2.2.2.2.2.1 t_letters t_tt_pl t_tt_sz t_size t_place t_number sh hasImage r1.2.2.2.2.2.2.2.2.2 := ⟨h7, h8, h9, h10, h11, h12⟩
    obtain ⟨r17, h18, hf⟩ := bd_s hf
    refine kw_v (va_runV (As := []) (rest := []) hcf (cz_X6_beginStep l D k A u3 (q) h_now_told_pl h_now_told_sz h_now_inUse_pl h_now_inUse_sz h_now_draw h_kn h_size k_now_told_pl k_now_told_sz k_now_inUse_pl k_now_inUse_sz k_now_draw k_kn k_size r1.1 r1.2.1 r1.2.2.1 r1.2.2.2.1 r1.2.2.2.2.1 r1.2.2.2.2.2.1 r1.2.2.2.2.2.2.1 r1.2.2.2.2.2.2.2.1 r1.2.2.2.2.2.2.2.2.1 t_letters t_tt_pl t_tt_sz t_size t_place t_number sh hasImage r1.2.2.2.2.2.2.2.2.2 r17 h18 h16 _) (cwV 0 hts gX6_install_X6_beginStep rfl rfl rfl (by decide +kernel) ⟨Nat.le_of_ble_eq_true rfl, Nat.le_of_ble_eq_true rfl⟩) (px_V hP hK hD (ci := 6) h16.1 rfl) rfl rfl hl.1 rfl (lv_room (Nat.le_of_ble_eq_true rfl)) dX6_install_18 ⟨Nat.zero_le _, Nat.zero_le _⟩) hD hS hA (fun u19 _ _ h20 hP hD hS => ?_)
    obtain ⟨h22, m21⟩ := h20
    have hsm := sm_tr hsm m21 (by omega) (by omega)
    refine lv_aload_n hx hb dX6_install_21 rfl (lv_at hl 2 rfl) ?_
    obtain ⟨h23, h24, h25, h26, h27, h28⟩ := h22
    obtain ⟨h29, h30, h31⟩ := h24
    obtain ⟨h32, h33, h34⟩ := h30
    refine ks_r (va_runV (As := []) (rest := []) hcf (cz_X6_installed l D k A u19 (q) hasImage r17.2.2 r17.2.1 h_now_draw h23 h29 h32) (cwV 0 hts gX6_install_X6_installed rfl rfl rfl (by decide +kernel) ⟨Nat.le_of_ble_eq_true rfl, Nat.le_of_ble_eq_true rfl⟩) (pw_V hP hK hD (ci := 6) h23 rfl) rfl rfl hl.1 rfl (lv_room (Nat.le_of_ble_eq_true rfl)) dX6_install_22 ⟨Nat.zero_le _, Nat.zero_le _⟩) ?_
    refine lv_aload_n hx hb dX6_install_25 rfl (lv_at hl 1 rfl) ?_
    obtain ⟨h37, h38, h39, h40, h41, h42, h43, h44⟩ := h26
    refine ks_r (va_runV (As := []) (rest := [.ref (A (q + 1 + 1 + 3))]) hcf (cz_X5_leastTable l D k A u19 (q + 75) h37) (cwV 0 hts gX6_install_X5_leastTable rfl rfl rfl (by decide +kernel) ⟨Nat.le_of_ble_eq_true rfl, Nat.le_of_ble_eq_true rfl⟩) (pw_V hP hK hD (ci := 5) h37 rfl) rfl rfl hl.1 rfl (lv_room (Nat.le_of_ble_eq_true rfl)) dX6_install_26 ⟨Nat.zero_le _, Nat.zero_le _⟩) ?_
    obtain ⟨r47, h48, hf⟩ := bd_s hf
    refine kw_v (va_runV (As := [.ref (A (q + 75 + 8))]) (rest := []) hcf (cz_X3_takeFrom l D k A u19 (q + 1 + 1 + 3) (q + 75 + 8) h_now_inUse_pl h_now_inUse_sz r1.2.2.2.2.2.2.2.1 r1.2.2.2.2.2.2.2.2.1 r47 h48 h34 h44 (by omega) _) (cwV 1 hts gX6_install_X3_takeFrom rfl rfl rfl (by decide +kernel) ⟨Nat.le_of_ble_eq_true rfl, Nat.le_of_ble_eq_true rfl⟩) (px_V hP hK hD (ci := 3) h34.1 rfl) rfl rfl hl.1 rfl (lv_room (Nat.le_of_ble_eq_true rfl)) dX6_install_29 ⟨Nat.zero_le _, Nat.zero_le _⟩) hD hS hA (fun u49 _ _ h50 hP hD hS => ?_)
    obtain ⟨h52, m51⟩ := h50
    have hsm := sm_tr hsm m51 (by omega) (by omega)
    refine lv_iload_n hx hb dX6_install_32 rfl (lv_at hl 0 rfl) ?_
    obtain rfl := so_i hf
    have h53 := sm_at m51 (by omega) h23
    have h54 := sm_at m51 (by omega) h29
    have h55 := sm_at m51 (by omega) h32
    have h56 := is_T_tr h33 m51 (by omega)
    have h57 : is_M k A u49 (q + 1 + 1) h_now_told_pl h_now_told_sz r47.1 r47.2 h_now_draw := ⟨h55, h56, h52⟩
    have h58 := is_K_tr h31 m51 (by omega)
    have h59 : is_H k A u49 (q + 1) h_now_told_pl h_now_told_sz r47.1 r47.2 h_now_draw r17.1 r17.2.1 := ⟨h54, h57, h58⟩
    have h60 := is_H_tr h25 m51 (by omega)
    have h61 := sm_at m51 (by omega) h37
    have h62 := sm_at m51 (by omega) h38
    have h63 := sm_at m51 (by omega) h39
    have h64 := sm_at m51 (by omega) h40
    have h65 := sm_at m51 (by omega) h41
    have h66 := sm_at m51 (by omega) h42
    have h67 := is_T_tr h43 m51 (by omega)
    have h68 := is_T_tr h44 m51 (by omega)
    have h69 : is_V k A u49 (q + 75) r1.1 r1.2.1 r1.2.2.1 r1.2.2.2.1 r1.2.2.2.2.1 r1.2.2.2.2.2.1 r1.2.2.2.2.2.2.1 r1.2.2.2.2.2.2.2.1 r1.2.2.2.2.2.2.2.2.1 := ⟨h61, h62, h63, h64, h65, h66, h67, h68⟩
    have h70 := is_P_tr h27 m51 (by omega)
    have h71 := is_Z_tr h28 m51 (by omega)
    have h72 : is_X k A u49 (q) h_now_told_pl h_now_told_sz r47.1 r47.2 h_now_draw r17.1 r17.2.1 k_now_told_pl k_now_told_sz k_now_inUse_pl k_now_inUse_sz k_now_draw k_kn k_size r1.1 r1.2.1 r1.2.2.1 r1.2.2.2.1 r1.2.2.2.2.1 r1.2.2.2.2.2.1 r1.2.2.2.2.2.2.1 r1.2.2.2.2.2.2.2.1 r1.2.2.2.2.2.2.2.2.1 t_letters t_tt_pl t_tt_sz t_size t_place t_number sh hasImage r17.2.2 := ⟨h53, h59, h60, h69, h70, h71⟩
    exact W.iret (v := r13) hx hb hr (qw_end hS hP hD ⟨h72, hsm⟩) hS.2.2 dX6_install_33
  · have hf := it_p c15 hf
    refine lv_bipush (v := (-2)) hx hb dX6_install_14 (by decide) ?_
    obtain rfl := so_i hf
    have h73 : is_X k A u3 (q) h_now_told_pl h_now_told_sz h_now_inUse_pl h_now_inUse_sz h_now_draw h_kn h_size k_now_told_pl k_now_told_sz k_now_inUse_pl k_now_inUse_sz k_now_draw k_kn k_size r1.1 r1.2.1 r1.2.2.1 r1.2.2.2.1 r1.2.2.2.2.1 r1.2.2.2.2.2.1 r1.2.2.2.2.2.2.1 r1.2.2.2.2.2.2.2.1 r1.2.2.2.2.2.2.2.2.1 t_letters t_tt_pl t_tt_sz t_size t_place t_number sh hasImage r1.2.2.2.2.2.2.2.2.2 := ⟨h7, h8, h9, h10, h11, h12⟩
    exact W.iret (v := (-2)) hx hb hr (qw_end hS hP hD ⟨h73, hsm⟩) hS.2.2 dX6_install_16

