theorem in_X6_table_X6 : ∀ w ∈ u_ws RX6 TX6 7, w ∈ wsX6_table := fun w h => List.mem_cons_of_mem _ (List.mem_append_left _ (List.mem_append_left _ (List.mem_append_right _ h)))
set_option maxHeartbeats 4000000 in
set_option maxRecDepth 100000 in
theorem cz_X6_table (l : Launch) (D : va_G) (k : kt_T) (A : Nat → Nat) (ws : va_W) (q : Nat)  (hasImage : Int32) (viewIsOld : Int32) (h_size : Int32) (h_now_draw : Int32)   (hc0 : ws[q]? = some (A (q), .inr (6, [.ref (A (q + 1)), .ref (A (q + 38)), .ref (A (q + 75)), .ref (A (q + 85)), .ref (A (q + 89)), .int hasImage, .int viewIsOld]))) (hc1 : ws[q + 1]? = some (A (q + 1), .inr (0, [.ref (A (q + 1 + 1)), .ref (A (q + 1 + 6)), .int h_size]))) (hc2 : ws[q + 1 + 1]? = some (A (q + 1 + 1), .inr (1, [.ref (A (q + 1 + 1 + 1)), .ref (A (q + 1 + 1 + 3)), .int h_now_draw])))  : Met l yX6_table wsX6_table { frames := 1, cells := 0, slots := 0, locals := 20 } (va_Pc [.ref (A q)] (pw_P D k ws)) (qs_Q (some (.ref (A (q + 1 + 1 + 1))))) 0 0 (fun _ => False) := by
  refine Met.ofW (cc := cX6_table) (maxL := 1) (ret := (some (.object "LeastRoutes$Table"))) (by decide) rfl ?_
  intro p e s m args below meth c s₁ B hml hv
  obtain ⟨rfl, hP, hK, hD⟩ := hv
  have C0 : cx_P p s m meth c [.ref (A q)].toArray cX6_table 1 wsX6_table RX6 (some (.object "LeastRoutes$Table")) := ⟨B.exec, B.bytes, hml, findClass_of_methodNamed B.named, atoms_spec (ws := wsX6_table) B.pre, B.returns, B.notSynchronized⟩
  obtain ⟨hx, hb, hml, hown, hts, hr, hlocks⟩ := id C0
  have hcf : CallFix p m c cX6_table 1 s [.ref (A q)].toArray wsX6_table RX6 := ⟨hx, hb, hml, hown, hts⟩
  have w_0 := hts (.fieldLink RX6 10 "LeastRoutes" "history" "LLeastRoutes$History;") (List.mem_of_getElem? (i := 1) rfl)
  have hl := lv_entry ([.ref (A q)]) (n := 1) (Nat.le_of_ble_eq_true rfl)
  rw [lg_entry_eq]
  generalize (lg_sl ([.ref (A q)]) ++ List.replicate (1 - (lg_sl ([.ref (A q)])).length) Slot.unset).toArray = ls at hl ⊢
  have hl : lv_has ls 1 [(0, .ref (A q))] := hl
  refine lv_aload_n hx hb dX6_table_0 rfl (lv_at hl 0 rfl) ?_
  refine va_get (D := D) (ci := 6) (v := .ref (A (q + 1))) (C := RX6) (T := TX6) (N := 7) hx hb hts in_X6_table_X6 hown hK.1 hP (q) hc0 rfl 0 (by decide) w_0 (fun _ h9 => h9) rfl dX6_table_1 ?_
  refine ks_r (va_runV (As := []) (rest := []) hcf (cz_X0_present l D k A ws (q + 1) h_size hc1) (cwV 0 hts gX6_table_X0_present rfl rfl rfl (by decide +kernel) ⟨Nat.le_of_ble_eq_true rfl, Nat.le_of_ble_eq_true rfl⟩) (pw_V hP hK hD (ci := 0) hc1 rfl) rfl rfl hl.1 rfl (lv_room (Nat.le_of_ble_eq_true rfl)) dX6_table_4 ⟨Nat.zero_le _, Nat.zero_le _⟩) ?_
  refine ks_r (va_runV (As := []) (rest := []) hcf (cz_X1_tableNow l D k A ws (q + 1 + 1) h_now_draw hc2) (cwV 0 hts gX6_table_X1_tableNow rfl rfl rfl (by decide +kernel) ⟨Nat.le_of_ble_eq_true rfl, Nat.le_of_ble_eq_true rfl⟩) (pw_V hP hK hD (ci := 1) hc2 rfl) rfl rfl hl.1 rfl (lv_room (Nat.le_of_ble_eq_true rfl)) dX6_table_7 ⟨Nat.zero_le _, Nat.zero_le _⟩) ?_
  exact W.aret (v := .ref (A (q + 1 + 1 + 1))) hx hb hr (Or.inl ⟨_, rfl⟩) (Or.inr ⟨_, rfl⟩) (fun t ht _ => ⟨rfl, ht⟩) (fun _ h => absurd h List.not_mem_nil) dX6_table_10

theorem in_X6_installed_X6 : ∀ w ∈ u_ws RX6 TX6 7, w ∈ wsX6_installed := fun w h => List.mem_cons_of_mem _ (List.mem_append_left _ (List.mem_append_left _ (List.mem_append_right _ h)))
set_option maxHeartbeats 4000000 in
set_option maxRecDepth 100000 in
theorem cz_X6_installed (l : Launch) (D : va_G) (k : kt_T) (A : Nat → Nat) (ws : va_W) (q : Nat)  (hasImage : Int32) (viewIsOld : Int32) (h_size : Int32) (h_now_draw : Int32)   (hc0 : ws[q]? = some (A (q), .inr (6, [.ref (A (q + 1)), .ref (A (q + 38)), .ref (A (q + 75)), .ref (A (q + 85)), .ref (A (q + 89)), .int hasImage, .int viewIsOld]))) (hc1 : ws[q + 1]? = some (A (q + 1), .inr (0, [.ref (A (q + 1 + 1)), .ref (A (q + 1 + 6)), .int h_size]))) (hc2 : ws[q + 1 + 1]? = some (A (q + 1 + 1), .inr (1, [.ref (A (q + 1 + 1 + 1)), .ref (A (q + 1 + 1 + 3)), .int h_now_draw])))  : Met l yX6_installed wsX6_installed { frames := 1, cells := 0, slots := 0, locals := 20 } (va_Pc [.ref (A q)] (pw_P D k ws)) (qs_Q (some (.ref (A (q + 1 + 1 + 3))))) 0 0 (fun _ => False) := by
  refine Met.ofW (cc := cX6_installed) (maxL := 1) (ret := (some (.object "LeastRoutes$Table"))) (by decide) rfl ?_
  intro p e s m args below meth c s₁ B hml hv
  obtain ⟨rfl, hP, hK, hD⟩ := hv
  have C0 : cx_P p s m meth c [.ref (A q)].toArray cX6_installed 1 wsX6_installed RX6 (some (.object "LeastRoutes$Table")) := ⟨B.exec, B.bytes, hml, findClass_of_methodNamed B.named, atoms_spec (ws := wsX6_installed) B.pre, B.returns, B.notSynchronized⟩
  obtain ⟨hx, hb, hml, hown, hts, hr, hlocks⟩ := id C0
  have hcf : CallFix p m c cX6_installed 1 s [.ref (A q)].toArray wsX6_installed RX6 := ⟨hx, hb, hml, hown, hts⟩
  have w_0 := hts (.fieldLink RX6 10 "LeastRoutes" "history" "LLeastRoutes$History;") (List.mem_of_getElem? (i := 1) rfl)
  have hl := lv_entry ([.ref (A q)]) (n := 1) (Nat.le_of_ble_eq_true rfl)
  rw [lg_entry_eq]
  generalize (lg_sl ([.ref (A q)]) ++ List.replicate (1 - (lg_sl ([.ref (A q)])).length) Slot.unset).toArray = ls at hl ⊢
  have hl : lv_has ls 1 [(0, .ref (A q))] := hl
  refine lv_aload_n hx hb dX6_installed_0 rfl (lv_at hl 0 rfl) ?_
  refine va_get (D := D) (ci := 6) (v := .ref (A (q + 1))) (C := RX6) (T := TX6) (N := 7) hx hb hts in_X6_installed_X6 hown hK.1 hP (q) hc0 rfl 0 (by decide) w_0 (fun _ h9 => h9) rfl dX6_installed_1 ?_
  refine ks_r (va_runV (As := []) (rest := []) hcf (cz_X0_present l D k A ws (q + 1) h_size hc1) (cwV 0 hts gX6_installed_X0_present rfl rfl rfl (by decide +kernel) ⟨Nat.le_of_ble_eq_true rfl, Nat.le_of_ble_eq_true rfl⟩) (pw_V hP hK hD (ci := 0) hc1 rfl) rfl rfl hl.1 rfl (lv_room (Nat.le_of_ble_eq_true rfl)) dX6_installed_4 ⟨Nat.zero_le _, Nat.zero_le _⟩) ?_
  refine ks_r (va_runV (As := []) (rest := []) hcf (cz_X1_installedNow l D k A ws (q + 1 + 1) h_now_draw hc2) (cwV 0 hts gX6_installed_X1_installedNow rfl rfl rfl (by decide +kernel) ⟨Nat.le_of_ble_eq_true rfl, Nat.le_of_ble_eq_true rfl⟩) (pw_V hP hK hD (ci := 1) hc2 rfl) rfl rfl hl.1 rfl (lv_room (Nat.le_of_ble_eq_true rfl)) dX6_installed_7 ⟨Nat.zero_le _, Nat.zero_le _⟩) ?_
  exact W.aret (v := .ref (A (q + 1 + 1 + 3))) hx hb hr (Or.inl ⟨_, rfl⟩) (Or.inr ⟨_, rfl⟩) (fun t ht _ => ⟨rfl, ht⟩) (fun _ h => absurd h List.not_mem_nil) dX6_installed_10

theorem in_X6_freshView_X6 : ∀ w ∈ u_ws RX6 TX6 7, w ∈ wsX6_freshView := fun w h => List.mem_cons_of_mem _ (List.mem_append_left _ (List.mem_append_left _ (List.mem_append_left _ (List.mem_append_left _ (List.mem_append_right _ h)))))
def pf_X6_freshView (h_now_told_pl : Nat → Int64) (h_now_inUse_pl : Nat → Int64) (h_now_inUse_sz : Int32) (v_sent : Nat → Int32) (v_sentI : Nat → Int32) (v_best : Nat → Int32) (v_ease : Nat → Int32) (v_fromA : Nat → Int32) (v_vi_pl : Nat → Int64) (v_vi_sz : Int32) (v_vl_pl : Nat → Int64) (v_vl_sz : Int32) (viewIsOld : Int32)   : Option ((Nat → Int32) × (Nat → Int32) × (Nat → Int32) × (Nat → Int32) × (Nat → Int32) × (Nat → Int64) × Int32 × (Nat → Int64) × Int32 × Int32) :=
  if viewIsOld = 0 then
    some (v_sent, v_sentI, v_best, v_ease, v_fromA, v_vi_pl, v_vi_sz, v_vl_pl, v_vl_sz, viewIsOld)
  else
    (pf_X5_make v_sent v_sentI v_best v_ease v_fromA v_vi_pl v_vi_sz v_vl_pl v_vl_sz h_now_told_pl h_now_inUse_pl h_now_inUse_sz).bind (fun r19 =>
      some (r19.1, r19.2.1, r19.2.2.1, r19.2.2.2.1, r19.2.2.2.2.1, r19.2.2.2.2.2.1, r19.2.2.2.2.2.2.1, r19.2.2.2.2.2.2.2.1, r19.2.2.2.2.2.2.2.2, 0))

set_option maxHeartbeats 4000000 in
set_option maxRecDepth 100000 in
theorem cz_X6_freshView (l : Launch) (D : va_G) (k : kt_T) (A : Nat → Nat) (ws : va_W) (q : Nat)  (h_now_told_pl : Nat → Int64) (h_now_told_sz : Int32) (h_now_inUse_pl : Nat → Int64) (h_now_inUse_sz : Int32) (h_now_draw : Int32) (h_kn : Nat → mm_T) (h_size : Int32) (k_now_told_pl : Nat → Int64) (k_now_told_sz : Int32) (k_now_inUse_pl : Nat → Int64) (k_now_inUse_sz : Int32) (k_now_draw : Int32) (k_kn : Nat → mm_T) (k_size : Int32) (v_sent : Nat → Int32) (v_sentI : Nat → Int32) (v_best : Nat → Int32) (v_ease : Nat → Int32) (v_fromA : Nat → Int32) (v_vi_pl : Nat → Int64) (v_vi_sz : Int32) (v_vl_pl : Nat → Int64) (v_vl_sz : Int32) (t_letters : Nat → Int32) (t_tt_pl : Nat → Int64) (t_tt_sz : Int32) (t_size : Int32) (t_place : Int32) (t_number : Int32) (sh : Nat → ss_T) (hasImage : Int32) (viewIsOld : Int32)  (out : (Nat → Int32) × (Nat → Int32) × (Nat → Int32) × (Nat → Int32) × (Nat → Int32) × (Nat → Int64) × Int32 × (Nat → Int64) × Int32 × Int32) (hf : pf_X6_freshView h_now_told_pl h_now_inUse_pl h_now_inUse_sz v_sent v_sentI v_best v_ease v_fromA v_vi_pl v_vi_sz v_vl_pl v_vl_sz viewIsOld = some out) (h_this : is_X k A ws q h_now_told_pl h_now_told_sz h_now_inUse_pl h_now_inUse_sz h_now_draw h_kn h_size k_now_told_pl k_now_told_sz k_now_inUse_pl k_now_inUse_sz k_now_draw k_kn k_size v_sent v_sentI v_best v_ease v_fromA v_vi_pl v_vi_sz v_vl_pl v_vl_sz t_letters t_tt_pl t_tt_sz t_size t_place t_number sh hasImage viewIsOld)  (sz0 : Nat) : Met l yX6_freshView wsX6_freshView { frames := 4, cells := 0, slots := 0, locals := 103 } (va_Pc [.ref (A q)] (px_P D k ws sz0)) (qw_Q D ws sz0 (some (.ref (A (q + 75)))) (fun u => is_X k A u q h_now_told_pl h_now_told_sz h_now_inUse_pl h_now_inUse_sz h_now_draw h_kn h_size k_now_told_pl k_now_told_sz k_now_inUse_pl k_now_inUse_sz k_now_draw k_kn k_size out.1 out.2.1 out.2.2.1 out.2.2.2.1 out.2.2.2.2.1 out.2.2.2.2.2.1 out.2.2.2.2.2.2.1 out.2.2.2.2.2.2.2.1 out.2.2.2.2.2.2.2.2.1 t_letters t_tt_pl t_tt_sz t_size t_place t_number sh hasImage out.2.2.2.2.2.2.2.2.2 ∧ sm_W ws u q (q + 98))) 0 0 (va_A ws sz0) := by
  refine Met.ofW (cc := cX6_freshView) (maxL := 1) (ret := (some (.object "LeastRoutes$View"))) (by decide) rfl ?_
  intro p e s m args below meth c s₁ B hml hv
  obtain ⟨rfl, hsz, hP, hK, hD0⟩ := hv
  subst hsz
  have hD := hD0.self (sz := s.heap.size)
  have C0 : cx_P p s m meth c [.ref (A q)].toArray cX6_freshView 1 wsX6_freshView RX6 (some (.object "LeastRoutes$View")) := ⟨B.exec, B.bytes, hml, findClass_of_methodNamed B.named, atoms_spec (ws := wsX6_freshView) B.pre, B.returns, B.notSynchronized⟩
  obtain ⟨hx, hb, hml, hown, hts, hr, hlocks⟩ := id C0
  have hcf : CallFix p m c cX6_freshView 1 s [.ref (A q)].toArray wsX6_freshView RX6 := ⟨hx, hb, hml, hown, hts⟩
  have hA : ∀ q, s.heap.size ≤ q → va_A ws s.heap.size q := fun q h => Or.inr h
  have hS : va_S (va_A ws s.heap.size) s.heap s.heap [] := va_S.rf
  have hsm : sm_W ws ws q (q + 98) := sm_rf
  have w_0 := hts (.fieldLink RX6 43 "LeastRoutes" "viewIsOld" "Z") (List.mem_of_getElem? (i := 1) rfl)
  have w_1 := hts (.fieldLink RX6 22 "LeastRoutes" "view" "LLeastRoutes$View;") (List.mem_of_getElem? (i := 2) rfl)
  have hl := lv_entry ([.ref (A q)]) (n := 1) (Nat.le_of_ble_eq_true rfl)
  rw [lg_entry_eq]
  generalize (lg_sl ([.ref (A q)]) ++ List.replicate (1 - (lg_sl ([.ref (A q)])).length) Slot.unset).toArray = ls at hl ⊢
  have hl : lv_has ls 1 [(0, .ref (A q))] := hl
  unfold pf_X6_freshView at hf
  refine lv_aload_n hx hb dX6_freshView_0 rfl (lv_at hl 0 rfl) ?_
  obtain ⟨h1, h2, h3, h4, h5, h6⟩ := h_this
  refine va_get (D := D) (ci := 6) (v := .int viewIsOld) (C := RX6) (T := TX6) (N := 7) hx hb hts in_X6_freshView_X6 hown hK.1 hP (q) h1 rfl 6 (by decide) w_0 (fun _ h9 => h9) rfl dX6_freshView_1 ?_
  refine lv_if_eq (tgt := 27) hx hb dX6_freshView_4 (by decide) (fun c7 => ?_) (fun c7 => ?_)
  · have hf := it_p c7 hf
    refine lv_aload_n hx hb dX6_freshView_27 rfl (lv_at hl 0 rfl) ?_
    refine va_get (D := D) (ci := 6) (v := .ref (A (q + 75))) (C := RX6) (T := TX6) (N := 7) hx hb hts in_X6_freshView_X6 hown hK.1 hP (q) h1 rfl 2 (by decide) w_1 (fun _ h9 => h9) rfl dX6_freshView_28 ?_
    obtain rfl := so_i hf
    have h8 : is_X k A ws (q) h_now_told_pl h_now_told_sz h_now_inUse_pl h_now_inUse_sz h_now_draw h_kn h_size k_now_told_pl k_now_told_sz k_now_inUse_pl k_now_inUse_sz k_now_draw k_kn k_size v_sent v_sentI v_best v_ease v_fromA v_vi_pl v_vi_sz v_vl_pl v_vl_sz t_letters t_tt_pl t_tt_sz t_size t_place t_number sh hasImage viewIsOld := ⟨h1, h2, h3, h4, h5, h6⟩
    exact W.aret (v := .ref (A (q + 75))) hx hb hr (Or.inl ⟨_, rfl⟩) (Or.inr ⟨_, rfl⟩) (qw_end hS hP hD ⟨h8, hsm⟩) hS.2.2 dX6_freshView_31
  · have hf := it_n c7 hf
    refine lv_aload_n hx hb dX6_freshView_7 rfl (lv_at hl 0 rfl) ?_
    refine va_get (D := D) (ci := 6) (v := .ref (A (q + 75))) (C := RX6) (T := TX6) (N := 7) hx hb hts in_X6_freshView_X6 hown hK.1 hP (q) h1 rfl 2 (by decide) w_1 (fun _ h9 => h9) rfl dX6_freshView_8 ?_
    refine lv_aload_n hx hb dX6_freshView_11 rfl (lv_at hl 0 rfl) ?_
    obtain ⟨h9, h10, h11⟩ := h2
    obtain ⟨h12, h13, h14⟩ := h10
    refine ks_r (va_runV (As := []) (rest := [.ref (A (q + 75))]) hcf (cz_X6_table l D k A ws (q) hasImage viewIsOld h_size h_now_draw h1 h9 h12) (cwV 0 hts gX6_freshView_X6_table rfl rfl rfl (by decide +kernel) ⟨Nat.le_of_ble_eq_true rfl, Nat.le_of_ble_eq_true rfl⟩) (pw_V hP hK hD (ci := 6) h1 rfl) rfl rfl hl.1 rfl (lv_room (Nat.le_of_ble_eq_true rfl)) dX6_freshView_12 ⟨Nat.zero_le _, Nat.zero_le _⟩) ?_
    refine lv_aload_n hx hb dX6_freshView_15 rfl (lv_at hl 0 rfl) ?_
    refine ks_r (va_runV (As := []) (rest := [.ref (A (q + 1 + 1 + 1)), .ref (A (q + 75))]) hcf (cz_X6_installed l D k A ws (q) hasImage viewIsOld h_size h_now_draw h1 h9 h12) (cwV 0 hts gX6_freshView_X6_installed rfl rfl rfl (by decide +kernel) ⟨Nat.le_of_ble_eq_true rfl, Nat.le_of_ble_eq_true rfl⟩) (pw_V hP hK hD (ci := 6) h1 rfl) rfl rfl hl.1 rfl (lv_room (Nat.le_of_ble_eq_true rfl)) dX6_freshView_16 ⟨Nat.zero_le _, Nat.zero_le _⟩) ?_
    obtain ⟨r19, h20, hf⟩ := bd_s hf
    refine kw_v (va_runV (As := [.ref (A (q + 1 + 1 + 1)), .ref (A (q + 1 + 1 + 3))]) (rest := []) hcf (cz_X5_make l D k A ws (q + 75) (q + 1 + 1 + 1) (q + 1 + 1 + 3) v_sent v_sentI v_best v_ease v_fromA v_vi_pl v_vi_sz v_vl_pl v_vl_sz h_now_told_pl h_now_told_sz h_now_inUse_pl h_now_inUse_sz r19 h20 h4 h13 h14 (by omega) _) (cwV 2 hts gX6_freshView_X5_make rfl rfl rfl (by decide +kernel) ⟨Nat.le_of_ble_eq_true rfl, Nat.le_of_ble_eq_true rfl⟩) (px_V hP hK hD (ci := 5) h4.1 rfl) rfl rfl hl.1 rfl (lv_room (Nat.le_of_ble_eq_true rfl)) dX6_freshView_19 ⟨Nat.zero_le _, Nat.zero_le _⟩) hD hS hA (fun u21 _ _ h22 hP hD hS => ?_)
    obtain ⟨h24, m23⟩ := h22
    have hsm := sm_tr hsm m23 (by omega) (by omega)
    refine lv_aload_n hx hb dX6_freshView_22 rfl (lv_at hl 0 rfl) ?_
    refine lv_iconst (v := 0) hx hb dX6_freshView_23 (by decide) ?_
    have h25 := sm_at m23 (by omega) h1
    refine va_put (D := D) (ci := 6) (v := .int 0) (ty := .boolean) (C := RX6) (T := TX6) (N := 7) hx hb hts in_X6_freshView_X6 tyX6 tyX6_ok nmX6 hown hK.1 hP hD hS (q) h25 rfl 6 (by decide) w_0 (fun _ h9 => h9) rfl (by decide +kernel) rfl rfl (Nat.le_of_ble_eq_true rfl) dX6_freshView_24 (fun _ _ hP hD hS => ?_)
    obtain ⟨u26, h27, m28, hP, hD⟩ := wd_put hP hD h25
    have hsm := sm_tr hsm m28 (by omega) (by omega)
    have h29 : u26[q]? = some (A (q), .inr (6, [.ref (A (q + 1)), .ref (A (q + 38)), .ref (A (q + 75)), .ref (A (q + 85)), .ref (A (q + 89)), .int hasImage, .int 0])) := h27
    refine lv_aload_n hx hb dX6_freshView_27 rfl (lv_at hl 0 rfl) ?_
    refine va_get (D := D) (ci := 6) (v := .ref (A (q + 75))) (C := RX6) (T := TX6) (N := 7) hx hb hts in_X6_freshView_X6 hown hK.1 hP (q) h29 rfl 2 (by decide) w_1 (fun _ h9 => h9) rfl dX6_freshView_28 ?_
    obtain rfl := so_i hf
    have h30 := sm_at m23 (by omega) h9
    have h31 := sm_at m28 (by omega) h30
    have h32 := sm_at m23 (by omega) h12
    have h33 := sm_at m28 (by omega) h32
    have h34 := is_T_tr h13 m23 (by omega)
    have h35 := is_T_tr h34 m28 (by omega)
    have h36 := is_T_tr h14 m23 (by omega)
    have h37 := is_T_tr h36 m28 (by omega)
    have h38 : is_M k A u26 (q + 1 + 1) h_now_told_pl h_now_told_sz h_now_inUse_pl h_now_inUse_sz h_now_draw := ⟨h33, h35, h37⟩
    have h39 := is_K_tr h11 m23 (by omega)
    have h40 := is_K_tr h39 m28 (by omega)
    have h41 : is_H k A u26 (q + 1) h_now_told_pl h_now_told_sz h_now_inUse_pl h_now_inUse_sz h_now_draw h_kn h_size := ⟨h31, h38, h40⟩
    have h42 := is_H_tr h3 m23 (by omega)
    have h43 := is_H_tr h42 m28 (by omega)
    have h44 := is_V_tr h24 m28 (by omega)
    have h45 := is_P_tr h5 m23 (by omega)
    have h46 := is_P_tr h45 m28 (by omega)
    have h47 := is_Z_tr h6 m23 (by omega)
    have h48 := is_Z_tr h47 m28 (by omega)
    have h49 : is_X k A u26 (q) h_now_told_pl h_now_told_sz h_now_inUse_pl h_now_inUse_sz h_now_draw h_kn h_size k_now_told_pl k_now_told_sz k_now_inUse_pl k_now_inUse_sz k_now_draw k_kn k_size r19.1 r19.2.1 r19.2.2.1 r19.2.2.2.1 r19.2.2.2.2.1 r19.2.2.2.2.2.1 r19.2.2.2.2.2.2.1 r19.2.2.2.2.2.2.2.1 r19.2.2.2.2.2.2.2.2 t_letters t_tt_pl t_tt_sz t_size t_place t_number sh hasImage 0 := ⟨h29, h41, h43, h44, h46, h48⟩
    exact W.aret (v := .ref (A (q + 75))) hx hb hr (Or.inl ⟨_, rfl⟩) (Or.inr ⟨_, rfl⟩) (qw_end hS hP hD ⟨h49, hsm⟩) hS.2.2 dX6_freshView_31

theorem in_X6_beginStep_X6 : ∀ w ∈ u_ws RX6 TX6 7, w ∈ wsX6_beginStep := fun w h => List.mem_cons_of_mem _ (List.mem_append_left _ (List.mem_append_left _ (List.mem_append_left _ (List.mem_append_right _ h))))
def pf_X6_beginStep (h_now_told_pl : Nat → Int64) (h_now_told_sz : Int32) (h_now_inUse_pl : Nat → Int64) (h_now_inUse_sz : Int32) (h_now_draw : Int32) (h_kn : Nat → mm_T) (h_size : Int32) (viewIsOld : Int32)   : Option ((Nat → mm_T) × Int32 × Int32) :=
  (pf_X0_remember h_now_told_pl h_now_told_sz h_now_inUse_pl h_now_inUse_sz h_now_draw h_kn h_size).bind (fun r7 =>
    some (r7.1, r7.2, 1))

set_option maxHeartbeats 4000000 in
set_option maxRecDepth 100000 in
theorem cz_X6_beginStep (l : Launch) (D : va_G) (k : kt_T) (A : Nat → Nat) (ws : va_W) (q : Nat)  (h_now_told_pl : Nat → Int64) (h_now_told_sz : Int32) (h_now_inUse_pl : Nat → Int64) (h_now_inUse_sz : Int32) (h_now_draw : Int32) (h_kn : Nat → mm_T) (h_size : Int32) (k_now_told_pl : Nat → Int64) (k_now_told_sz : Int32) (k_now_inUse_pl : Nat → Int64) (k_now_inUse_sz : Int32) (k_now_draw : Int32) (k_kn : Nat → mm_T) (k_size : Int32) (v_sent : Nat → Int32) (v_sentI : Nat → Int32) (v_best : Nat → Int32) (v_ease : Nat → Int32) (v_fromA : Nat → Int32) (v_vi_pl : Nat → Int64) (v_vi_sz : Int32) (v_vl_pl : Nat → Int64) (v_vl_sz : Int32) (t_letters : Nat → Int32) (t_tt_pl : Nat → Int64) (t_tt_sz : Int32) (t_size : Int32) (t_place : Int32) (t_number : Int32) (sh : Nat → ss_T) (hasImage : Int32) (viewIsOld : Int32)  (out : (Nat → mm_T) × Int32 × Int32) (hf : pf_X6_beginStep h_now_told_pl h_now_told_sz h_now_inUse_pl h_now_inUse_sz h_now_draw h_kn h_size viewIsOld = some out) (h_this : is_X k A ws q h_now_told_pl h_now_told_sz h_now_inUse_pl h_now_inUse_sz h_now_draw h_kn h_size k_now_told_pl k_now_told_sz k_now_inUse_pl k_now_inUse_sz k_now_draw k_kn k_size v_sent v_sentI v_best v_ease v_fromA v_vi_pl v_vi_sz v_vl_pl v_vl_sz t_letters t_tt_pl t_tt_sz t_size t_place t_number sh hasImage viewIsOld)  (sz0 : Nat) : Met l yX6_beginStep wsX6_beginStep { frames := 4, cells := 0, slots := 0, locals := 122 } (va_Pc [.ref (A q)] (px_P D k ws sz0)) (qw_Q D ws sz0 none (fun u => is_X k A u q h_now_told_pl h_now_told_sz h_now_inUse_pl h_now_inUse_sz h_now_draw out.1 out.2.1 k_now_told_pl k_now_told_sz k_now_inUse_pl k_now_inUse_sz k_now_draw k_kn k_size v_sent v_sentI v_best v_ease v_fromA v_vi_pl v_vi_sz v_vl_pl v_vl_sz t_letters t_tt_pl t_tt_sz t_size t_place t_number sh hasImage out.2.2 ∧ sm_W ws u q (q + 98))) 0 0 (va_A ws sz0) := by
  refine Met.ofW (cc := cX6_beginStep) (maxL := 1) (ret := none) (by decide) rfl ?_
  intro p e s m args below meth c s₁ B hml hv
  obtain ⟨rfl, hsz, hP, hK, hD0⟩ := hv
  subst hsz
  have hD := hD0.self (sz := s.heap.size)
  have C0 : cx_P p s m meth c [.ref (A q)].toArray cX6_beginStep 1 wsX6_beginStep RX6 none := ⟨B.exec, B.bytes, hml, findClass_of_methodNamed B.named, atoms_spec (ws := wsX6_beginStep) B.pre, B.returns, B.notSynchronized⟩
  obtain ⟨hx, hb, hml, hown, hts, hr, hlocks⟩ := id C0
  have hcf : CallFix p m c cX6_beginStep 1 s [.ref (A q)].toArray wsX6_beginStep RX6 := ⟨hx, hb, hml, hown, hts⟩
  have hA : ∀ q, s.heap.size ≤ q → va_A ws s.heap.size q := fun q h => Or.inr h
  have hS : va_S (va_A ws s.heap.size) s.heap s.heap [] := va_S.rf
  have hsm : sm_W ws ws q (q + 98) := sm_rf
  have w_0 := hts (.fieldLink RX6 10 "LeastRoutes" "history" "LLeastRoutes$History;") (List.mem_of_getElem? (i := 1) rfl)
  have w_1 := hts (.fieldLink RX6 43 "LeastRoutes" "viewIsOld" "Z") (List.mem_of_getElem? (i := 2) rfl)
  have hl := lv_entry ([.ref (A q)]) (n := 1) (Nat.le_of_ble_eq_true rfl)
  rw [lg_entry_eq]
  generalize (lg_sl ([.ref (A q)]) ++ List.replicate (1 - (lg_sl ([.ref (A q)])).length) Slot.unset).toArray = ls at hl ⊢
  have hl : lv_has ls 1 [(0, .ref (A q))] := hl
  unfold pf_X6_beginStep at hf
  refine lv_aload_n hx hb dX6_beginStep_0 rfl (lv_at hl 0 rfl) ?_
  obtain ⟨h1, h2, h3, h4, h5, h6⟩ := h_this
  refine va_get (D := D) (ci := 6) (v := .ref (A (q + 1))) (C := RX6) (T := TX6) (N := 7) hx hb hts in_X6_beginStep_X6 hown hK.1 hP (q) h1 rfl 0 (by decide) w_0 (fun _ h9 => h9) rfl dX6_beginStep_1 ?_
  obtain ⟨r7, h8, hf⟩ := bd_s hf
  refine kw_v (va_runV (As := []) (rest := []) hcf (cz_X0_remember l D k A ws (q + 1) h_now_told_pl h_now_told_sz h_now_inUse_pl h_now_inUse_sz h_now_draw h_kn h_size r7 h8 h2 _) (cwV 0 hts gX6_beginStep_X0_remember rfl rfl rfl (by decide +kernel) ⟨Nat.le_of_ble_eq_true rfl, Nat.le_of_ble_eq_true rfl⟩) (px_V hP hK hD (ci := 0) h2.1 rfl) rfl rfl hl.1 rfl (lv_room (Nat.le_of_ble_eq_true rfl)) dX6_beginStep_4 ⟨Nat.zero_le _, Nat.zero_le _⟩) hD hS hA (fun u9 _ _ h10 hP hD hS => ?_)
  obtain ⟨h12, m11⟩ := h10
  have hsm := sm_tr hsm m11 (by omega) (by omega)
  refine lv_aload_n hx hb dX6_beginStep_7 rfl (lv_at hl 0 rfl) ?_
  refine lv_iconst (v := 1) hx hb dX6_beginStep_8 (by decide) ?_
  have h13 := sm_at m11 (by omega) h1
  refine va_put (D := D) (ci := 6) (v := .int 1) (ty := .boolean) (C := RX6) (T := TX6) (N := 7) hx hb hts in_X6_beginStep_X6 tyX6 tyX6_ok nmX6 hown hK.1 hP hD hS (q) h13 rfl 6 (by decide) w_1 (fun _ h9 => h9) rfl (by decide +kernel) rfl rfl (Nat.le_of_ble_eq_true rfl) dX6_beginStep_9 (fun _ _ hP hD hS => ?_)
  obtain ⟨u14, h15, m16, hP, hD⟩ := wd_put hP hD h13
  have hsm := sm_tr hsm m16 (by omega) (by omega)
  have h17 : u14[q]? = some (A (q), .inr (6, [.ref (A (q + 1)), .ref (A (q + 38)), .ref (A (q + 75)), .ref (A (q + 85)), .ref (A (q + 89)), .int hasImage, .int 1])) := h15
  obtain rfl := so_i hf
  have h18 := is_H_tr h12 m16 (by omega)
  have h19 := is_H_tr h3 m11 (by omega)
  have h20 := is_H_tr h19 m16 (by omega)
  have h21 := is_V_tr h4 m11 (by omega)
  have h22 := is_V_tr h21 m16 (by omega)
  have h23 := is_P_tr h5 m11 (by omega)
  have h24 := is_P_tr h23 m16 (by omega)
  have h25 := is_Z_tr h6 m11 (by omega)
  have h26 := is_Z_tr h25 m16 (by omega)
  have h27 : is_X k A u14 (q) h_now_told_pl h_now_told_sz h_now_inUse_pl h_now_inUse_sz h_now_draw r7.1 r7.2 k_now_told_pl k_now_told_sz k_now_inUse_pl k_now_inUse_sz k_now_draw k_kn k_size v_sent v_sentI v_best v_ease v_fromA v_vi_pl v_vi_sz v_vl_pl v_vl_sz t_letters t_tt_pl t_tt_sz t_size t_place t_number sh hasImage 1 := ⟨h17, h18, h20, h22, h24, h26⟩
  exact W.vret hx hb hr (qw_end hS hP hD ⟨h27, hsm⟩) hS.2.2 dX6_beginStep_12

theorem in_X6_takeTurn_X6 : ∀ w ∈ u_ws RX6 TX6 7, w ∈ wsX6_takeTurn := fun w h => List.mem_cons_of_mem _ (List.mem_append_left _ (List.mem_append_left _ (List.mem_append_left _ (List.mem_append_right _ h))))
def pf_X6_takeTurn (h_now_told_pl : Nat → Int64) (h_now_told_sz : Int32) (h_now_draw : Int32)   : Option ((Nat → Int64) × Int32 × Int32) :=
  (pf_X1_nextDraw h_now_draw).bind (fun r12 =>
    lt_O ((r12.1 >>> (16 &&& 31)) - (r12.1 >>> (16 &&& 31)) / 9 * 9) (fun y18 =>
      lt_O (((1 : Int32) <<< (y18 &&& 31)) ||| (((r12.1 >>> (16 &&& 31)) >>> (4 &&& 31)) &&& (((1 : Int32) <<< (y18 &&& 31)) - 1))) (fun y20 =>
        lt_O ((r12.1 >>> (16 &&& 31)) >>> (12 &&& 31)) (fun y22 =>
          (pf_X3_hopAt h_now_told_pl y20).bind (fun r31 =>
            if r31 = y22 then
              (pf_X3_takeOut h_now_told_pl h_now_told_sz y20).bind (fun r100 =>
                some (r100.1, r100.2, r12.2))
            else
              if r31 = (-4) then
                (pf_X3_howMany h_now_told_sz).bind (fun r62 =>
                  if 40 ≤ r62 then
                    some (h_now_told_pl, h_now_told_sz, r12.2)
                  else
                    (pf_X3_put h_now_told_pl h_now_told_sz y20 y22).bind (fun r75 =>
                      some (r75.1, r75.2, r12.2)))
              else
                (pf_X3_put h_now_told_pl h_now_told_sz y20 y22).bind (fun r37 =>
                  some (r37.1, r37.2, r12.2)))))))

set_option maxHeartbeats 4000000 in
set_option maxRecDepth 100000 in
theorem cz_X6_takeTurn (l : Launch) (D : va_G) (k : kt_T) (A : Nat → Nat) (ws : va_W) (q : Nat)  (h_now_told_pl : Nat → Int64) (h_now_told_sz : Int32) (h_now_inUse_pl : Nat → Int64) (h_now_inUse_sz : Int32) (h_now_draw : Int32) (h_kn : Nat → mm_T) (h_size : Int32) (k_now_told_pl : Nat → Int64) (k_now_told_sz : Int32) (k_now_inUse_pl : Nat → Int64) (k_now_inUse_sz : Int32) (k_now_draw : Int32) (k_kn : Nat → mm_T) (k_size : Int32) (v_sent : Nat → Int32) (v_sentI : Nat → Int32) (v_best : Nat → Int32) (v_ease : Nat → Int32) (v_fromA : Nat → Int32) (v_vi_pl : Nat → Int64) (v_vi_sz : Int32) (v_vl_pl : Nat → Int64) (v_vl_sz : Int32) (t_letters : Nat → Int32) (t_tt_pl : Nat → Int64) (t_tt_sz : Int32) (t_size : Int32) (t_place : Int32) (t_number : Int32) (sh : Nat → ss_T) (hasImage : Int32) (viewIsOld : Int32)  (out : (Nat → Int64) × Int32 × Int32) (hf : pf_X6_takeTurn h_now_told_pl h_now_told_sz h_now_draw = some out) (h_this : is_X k A ws q h_now_told_pl h_now_told_sz h_now_inUse_pl h_now_inUse_sz h_now_draw h_kn h_size k_now_told_pl k_now_told_sz k_now_inUse_pl k_now_inUse_sz k_now_draw k_kn k_size v_sent v_sentI v_best v_ease v_fromA v_vi_pl v_vi_sz v_vl_pl v_vl_sz t_letters t_tt_pl t_tt_sz t_size t_place t_number sh hasImage viewIsOld)  (sz0 : Nat) : Met l yX6_takeTurn wsX6_takeTurn { frames := 2, cells := 0, slots := 0, locals := 45 } (va_Pc [.ref (A q)] (px_P D k ws sz0)) (qw_Q D ws sz0 none (fun u => is_X k A u q out.1 out.2.1 h_now_inUse_pl h_now_inUse_sz out.2.2 h_kn h_size k_now_told_pl k_now_told_sz k_now_inUse_pl k_now_inUse_sz k_now_draw k_kn k_size v_sent v_sentI v_best v_ease v_fromA v_vi_pl v_vi_sz v_vl_pl v_vl_sz t_letters t_tt_pl t_tt_sz t_size t_place t_number sh hasImage viewIsOld ∧ sm_W ws u q (q + 98))) 0 0 (va_A ws sz0) := by
  refine Met.ofW (cc := cX6_takeTurn) (maxL := 6) (ret := none) (by decide) rfl ?_
  intro p e s m args below meth c s₁ B hml hv
  obtain ⟨rfl, hsz, hP, hK, hD0⟩ := hv
  subst hsz
  have hD := hD0.self (sz := s.heap.size)
  have C0 : cx_P p s m meth c [.ref (A q)].toArray cX6_takeTurn 6 wsX6_takeTurn RX6 none := ⟨B.exec, B.bytes, hml, findClass_of_methodNamed B.named, atoms_spec (ws := wsX6_takeTurn) B.pre, B.returns, B.notSynchronized⟩
  obtain ⟨hx, hb, hml, hown, hts, hr, hlocks⟩ := id C0
  have hcf : CallFix p m c cX6_takeTurn 6 s [.ref (A q)].toArray wsX6_takeTurn RX6 := ⟨hx, hb, hml, hown, hts⟩
  have hA : ∀ q, s.heap.size ≤ q → va_A ws s.heap.size q := fun q h => Or.inr h
  have hS : va_S (va_A ws s.heap.size) s.heap s.heap [] := va_S.rf
  have hsm : sm_W ws ws q (q + 98) := sm_rf
  have w_0 := hts (.fieldLink RX6 10 "LeastRoutes" "history" "LLeastRoutes$History;") (List.mem_of_getElem? (i := 1) rfl)
  have hl := lv_entry ([.ref (A q)]) (n := 6) (Nat.le_of_ble_eq_true rfl)
  rw [lg_entry_eq]
  generalize (lg_sl ([.ref (A q)]) ++ List.replicate (6 - (lg_sl ([.ref (A q)])).length) Slot.unset).toArray = ls at hl ⊢
  have hl : lv_has ls 6 [(0, .ref (A q))] := hl
  unfold pf_X6_takeTurn at hf
  refine lv_aload_n hx hb dX6_takeTurn_0 rfl (lv_at hl 0 rfl) ?_
  obtain ⟨h1, h2, h3, h4, h5, h6⟩ := h_this
  refine va_get (D := D) (ci := 6) (v := .ref (A (q + 1))) (C := RX6) (T := TX6) (N := 7) hx hb hts in_X6_takeTurn_X6 hown hK.1 hP (q) h1 rfl 0 (by decide) w_0 (fun _ h9 => h9) rfl dX6_takeTurn_1 ?_
  obtain ⟨h7, h8, h9⟩ := h2
  refine ks_r (va_runV (As := []) (rest := []) hcf (cz_X0_present l D k A ws (q + 1) h_size h7) (cwV 0 hts gX6_takeTurn_X0_present rfl rfl rfl (by decide +kernel) ⟨Nat.le_of_ble_eq_true rfl, Nat.le_of_ble_eq_true rfl⟩) (pw_V hP hK hD (ci := 0) h7 rfl) rfl rfl hl.1 rfl (lv_room (Nat.le_of_ble_eq_true rfl)) dX6_takeTurn_4 ⟨Nat.zero_le _, Nat.zero_le _⟩) ?_
  obtain ⟨r12, h13, hf⟩ := bd_s hf
  refine kw_i (va_runV (As := []) (rest := []) hcf (cz_X1_nextDraw l D k A ws (q + 1 + 1) h_now_told_pl h_now_told_sz h_now_inUse_pl h_now_inUse_sz h_now_draw r12 h13 h8 _) (cwV 0 hts gX6_takeTurn_X1_nextDraw rfl rfl rfl (by decide +kernel) ⟨Nat.le_of_ble_eq_true rfl, Nat.le_of_ble_eq_true rfl⟩) (px_V hP hK hD (ci := 1) h8.1 rfl) rfl rfl hl.1 rfl (lv_room (Nat.le_of_ble_eq_true rfl)) dX6_takeTurn_7 ⟨Nat.zero_le _, Nat.zero_le _⟩) hD hS hA (fun u14 _ _ h15 hP hD hS => ?_)
  obtain ⟨h17, m16⟩ := h15
  have hsm := sm_tr hsm m16 (by omega) (by omega)
  refine lv_bipush (v := 16) hx hb dX6_takeTurn_10 (by decide) ?_
  refine lv_ishr hx hb dX6_takeTurn_12 ?_
  refine lv_istore_n (lv' := [(1, .int (r12.1 >>> (16 &&& 31))), (0, .ref (A q))]) hx hb dX6_takeTurn_13 rfl hl (by decide) rfl (fun ls hl => ?_)
  refine lv_iload_n hx hb dX6_takeTurn_14 rfl (lv_at hl 0 rfl) ?_
  refine lv_bipush (v := 9) hx hb dX6_takeTurn_15 (by decide) ?_
  refine lv_irem hx hb dX6_takeTurn_17 (by decide) ?_
  refine lv_topi (fun y18 e19 => ?_)
  have hf := lt_s' e19 hf
  refine lv_istore_n (lv' := [(2, .int y18), (1, .int (r12.1 >>> (16 &&& 31))), (0, .ref (A q))]) hx hb dX6_takeTurn_18 rfl hl (by decide) rfl (fun ls hl => ?_)
  refine lv_iconst (v := 1) hx hb dX6_takeTurn_19 (by decide) ?_
  refine lv_iload_n hx hb dX6_takeTurn_20 rfl (lv_at hl 0 rfl) ?_
  refine lv_ishl hx hb dX6_takeTurn_21 ?_
  refine lv_iload_n hx hb dX6_takeTurn_22 rfl (lv_at hl 1 rfl) ?_
  refine lv_iconst (v := 4) hx hb dX6_takeTurn_23 (by decide) ?_
  refine lv_ishr hx hb dX6_takeTurn_24 ?_
  refine lv_iconst (v := 1) hx hb dX6_takeTurn_25 (by decide) ?_
  refine lv_iload_n hx hb dX6_takeTurn_26 rfl (lv_at hl 0 rfl) ?_
  refine lv_ishl hx hb dX6_takeTurn_27 ?_
  refine lv_iconst (v := 1) hx hb dX6_takeTurn_28 (by decide) ?_
  refine lv_isub hx hb dX6_takeTurn_29 ?_
  refine lv_iand hx hb dX6_takeTurn_30 ?_
  refine lv_ior hx hb dX6_takeTurn_31 ?_
  refine lv_topi (fun y20 e21 => ?_)
  have hf := lt_s' e21 hf
  refine lv_istore_n (lv' := [(3, .int y20), (2, .int y18), (1, .int (r12.1 >>> (16 &&& 31))), (0, .ref (A q))]) hx hb dX6_takeTurn_32 rfl hl (by decide) rfl (fun ls hl => ?_)
  refine lv_iload_n hx hb dX6_takeTurn_33 rfl (lv_at hl 2 rfl) ?_
  refine lv_bipush (v := 12) hx hb dX6_takeTurn_34 (by decide) ?_
  refine lv_ishr hx hb dX6_takeTurn_36 ?_
  refine lv_topi (fun y22 e23 => ?_)
  have hf := lt_s' e23 hf
  refine lv_istore (lv' := [(4, .int y22), (3, .int y20), (2, .int y18), (1, .int (r12.1 >>> (16 &&& 31))), (0, .ref (A q))]) hx hb dX6_takeTurn_37 hl (by decide) rfl (fun ls hl => ?_)
  refine lv_aload_n hx hb dX6_takeTurn_39 rfl (lv_at hl 4 rfl) ?_
  have h24 := sm_at m16 (by omega) h1
  have h25 := sm_at m16 (by omega) h7
  obtain ⟨h26, h27, h28⟩ := h17
  refine ks_r (va_runV (As := []) (rest := []) hcf (cz_X6_table l D k A u14 (q) hasImage viewIsOld h_size r12.2 h24 h25 h26) (cwV 0 hts gX6_takeTurn_X6_table rfl rfl rfl (by decide +kernel) ⟨Nat.le_of_ble_eq_true rfl, Nat.le_of_ble_eq_true rfl⟩) (pw_V hP hK hD (ci := 6) h24 rfl) rfl rfl hl.1 rfl (lv_room (Nat.le_of_ble_eq_true rfl)) dX6_takeTurn_40 ⟨Nat.zero_le _, Nat.zero_le _⟩) ?_
  refine lv_iload_n hx hb dX6_takeTurn_43 rfl (lv_at hl 1 rfl) ?_
  obtain ⟨r31, h32, hf⟩ := bd_s hf
  refine ks_i (va_runV (As := [.int y20]) (rest := []) hcf (cz_X3_hopAt l D k A u14 (q + 1 + 1 + 1) h_now_told_pl h_now_told_sz y20 r31 h32 h27) (cwV 1 hts gX6_takeTurn_X3_hopAt rfl rfl rfl (by decide +kernel) ⟨Nat.le_of_ble_eq_true rfl, Nat.le_of_ble_eq_true rfl⟩) (pw_V hP hK hD (ci := 3) h27.1 rfl) rfl rfl hl.1 rfl (lv_room (Nat.le_of_ble_eq_true rfl)) dX6_takeTurn_44 ⟨Nat.zero_le _, Nat.zero_le _⟩) ?_
  refine lv_istore (lv' := [(5, .int r31), (4, .int y22), (3, .int y20), (2, .int y18), (1, .int (r12.1 >>> (16 &&& 31))), (0, .ref (A q))]) hx hb dX6_takeTurn_47 hl (by decide) rfl (fun ls hl => ?_)
  refine lv_iload hx hb dX6_takeTurn_49 (lv_at hl 0 rfl) ?_
  refine lv_iload hx hb dX6_takeTurn_51 (lv_at hl 1 rfl) ?_
  refine lv_icmp_ne (tgt := 67) hx hb dX6_takeTurn_53 (by decide) (fun c33 => ?_) (fun c33 => ?_)
  · have hf := it_n c33 hf
    refine lv_iload hx hb dX6_takeTurn_67 (lv_at hl 0 rfl) ?_
    refine lv_bipush (v := (-4)) hx hb dX6_takeTurn_69 (by decide) ?_
    refine lv_icmp_ne (tgt := 86) hx hb dX6_takeTurn_71 (by decide) (fun c34 => ?_) (fun c34 => ?_)
    · have hf := it_n c34 hf
      refine lv_aload_n hx hb dX6_takeTurn_86 rfl (lv_at hl 5 rfl) ?_
      refine ks_r (va_runV (As := []) (rest := []) hcf (cz_X6_table l D k A u14 (q) hasImage viewIsOld h_size r12.2 h24 h25 h26) (cwV 0 hts gX6_takeTurn_X6_table rfl rfl rfl (by decide +kernel) ⟨Nat.le_of_ble_eq_true rfl, Nat.le_of_ble_eq_true rfl⟩) (pw_V hP hK hD (ci := 6) h24 rfl) rfl rfl hl.1 rfl (lv_room (Nat.le_of_ble_eq_true rfl)) dX6_takeTurn_87 ⟨Nat.zero_le _, Nat.zero_le _⟩) ?_
      refine lv_iload_n hx hb dX6_takeTurn_90 rfl (lv_at hl 2 rfl) ?_
      refine lv_iload hx hb dX6_takeTurn_91 (lv_at hl 1 rfl) ?_
      obtain ⟨r37, h38, hf⟩ := bd_s hf
      refine kw_v (va_runV (As := [.int y20, .int y22]) (rest := []) hcf (cz_X3_put l D k A u14 (q + 1 + 1 + 1) h_now_told_pl h_now_told_sz y20 y22 r37 h38 h27 _) (cwV 2 hts gX6_takeTurn_X3_put rfl rfl rfl (by decide +kernel) ⟨Nat.le_of_ble_eq_true rfl, Nat.le_of_ble_eq_true rfl⟩) (px_V hP hK hD (ci := 3) h27.1 rfl) rfl rfl hl.1 rfl (lv_room (Nat.le_of_ble_eq_true rfl)) dX6_takeTurn_93 ⟨Nat.zero_le _, Nat.zero_le _⟩) hD hS hA (fun u39 _ _ h40 hP hD hS => ?_)
      obtain ⟨h42, m41⟩ := h40
      have hsm := sm_tr hsm m41 (by omega) (by omega)
      obtain rfl := so_i hf
      have h43 := sm_at m41 (by omega) h24
      have h44 := sm_at m41 (by omega) h25
      have h45 := sm_at m41 (by omega) h26
      have h46 := is_T_tr h28 m41 (by omega)
      have h47 : is_M k A u39 (q + 1 + 1) r37.1 r37.2 h_now_inUse_pl h_now_inUse_sz r12.2 := ⟨h45, h42, h46⟩
      have h48 := is_K_tr h9 m16 (by omega)
      have h49 := is_K_tr h48 m41 (by omega)
      have h50 : is_H k A u39 (q + 1) r37.1 r37.2 h_now_inUse_pl h_now_inUse_sz r12.2 h_kn h_size := ⟨h44, h47, h49⟩
      have h51 := is_H_tr h3 m16 (by omega)
      have h52 := is_H_tr h51 m41 (by omega)
      have h53 := is_V_tr h4 m16 (by omega)
      have h54 := is_V_tr h53 m41 (by omega)
      have h55 := is_P_tr h5 m16 (by omega)
      have h56 := is_P_tr h55 m41 (by omega)
      have h57 := is_Z_tr h6 m16 (by omega)
      have h58 := is_Z_tr h57 m41 (by omega)
      have h59 : is_X k A u39 (q) r37.1 r37.2 h_now_inUse_pl h_now_inUse_sz r12.2 h_kn h_size k_now_told_pl k_now_told_sz k_now_inUse_pl k_now_inUse_sz k_now_draw k_kn k_size v_sent v_sentI v_best v_ease v_fromA v_vi_pl v_vi_sz v_vl_pl v_vl_sz t_letters t_tt_pl t_tt_sz t_size t_place t_number sh hasImage viewIsOld := ⟨h43, h50, h52, h54, h56, h58⟩
      exact W.vret hx hb hr (qw_end hS hP hD ⟨h59, hsm⟩) hS.2.2 dX6_takeTurn_96
    · have hf := it_p c34 hf
      refine lv_aload_n hx hb dX6_takeTurn_74 rfl (lv_at hl 5 rfl) ?_
      refine ks_r (va_runV (As := []) (rest := []) hcf (cz_X6_table l D k A u14 (q) hasImage viewIsOld h_size r12.2 h24 h25 h26) (cwV 0 hts gX6_takeTurn_X6_table rfl rfl rfl (by decide +kernel) ⟨Nat.le_of_ble_eq_true rfl, Nat.le_of_ble_eq_true rfl⟩) (pw_V hP hK hD (ci := 6) h24 rfl) rfl rfl hl.1 rfl (lv_room (Nat.le_of_ble_eq_true rfl)) dX6_takeTurn_75 ⟨Nat.zero_le _, Nat.zero_le _⟩) ?_
      obtain ⟨r62, h63, hf⟩ := bd_s hf
      refine ks_i (va_runV (As := []) (rest := []) hcf (cz_X3_howMany l D k A u14 (q + 1 + 1 + 1) h_now_told_pl h_now_told_sz r62 h63 h27) (cwV 0 hts gX6_takeTurn_X3_howMany rfl rfl rfl (by decide +kernel) ⟨Nat.le_of_ble_eq_true rfl, Nat.le_of_ble_eq_true rfl⟩) (pw_V hP hK hD (ci := 3) h27.1 rfl) rfl rfl hl.1 rfl (lv_room (Nat.le_of_ble_eq_true rfl)) dX6_takeTurn_78 ⟨Nat.zero_le _, Nat.zero_le _⟩) ?_
      refine lv_bipush (v := 40) hx hb dX6_takeTurn_81 (by decide) ?_
      refine lv_icmp_ge (tgt := 96) hx hb dX6_takeTurn_83 (by decide) (fun c64 => ?_) (fun c64 => ?_)
      · have hf := it_p c64 hf
        obtain rfl := so_i hf
        have h65 : is_M k A u14 (q + 1 + 1) h_now_told_pl h_now_told_sz h_now_inUse_pl h_now_inUse_sz r12.2 := ⟨h26, h27, h28⟩
        have h66 := is_K_tr h9 m16 (by omega)
        have h67 : is_H k A u14 (q + 1) h_now_told_pl h_now_told_sz h_now_inUse_pl h_now_inUse_sz r12.2 h_kn h_size := ⟨h25, h65, h66⟩
        have h68 := is_H_tr h3 m16 (by omega)
        have h69 := is_V_tr h4 m16 (by omega)
        have h70 := is_P_tr h5 m16 (by omega)
        have h71 := is_Z_tr h6 m16 (by omega)
        have h72 : is_X k A u14 (q) h_now_told_pl h_now_told_sz h_now_inUse_pl h_now_inUse_sz r12.2 h_kn h_size k_now_told_pl k_now_told_sz k_now_inUse_pl k_now_inUse_sz k_now_draw k_kn k_size v_sent v_sentI v_best v_ease v_fromA v_vi_pl v_vi_sz v_vl_pl v_vl_sz t_letters t_tt_pl t_tt_sz t_size t_place t_number sh hasImage viewIsOld := ⟨h24, h67, h68, h69, h70, h71⟩
        exact W.vret hx hb hr (qw_end hS hP hD ⟨h72, hsm⟩) hS.2.2 dX6_takeTurn_96
      · have hf := it_n c64 hf
        refine lv_aload_n hx hb dX6_takeTurn_86 rfl (lv_at hl 5 rfl) ?_
        refine ks_r (va_runV (As := []) (rest := []) hcf (cz_X6_table l D k A u14 (q) hasImage viewIsOld h_size r12.2 h24 h25 h26) (cwV 0 hts gX6_takeTurn_X6_table rfl rfl rfl (by decide +kernel) ⟨Nat.le_of_ble_eq_true rfl, Nat.le_of_ble_eq_true rfl⟩) (pw_V hP hK hD (ci := 6) h24 rfl) rfl rfl hl.1 rfl (lv_room (Nat.le_of_ble_eq_true rfl)) dX6_takeTurn_87 ⟨Nat.zero_le _, Nat.zero_le _⟩) ?_
        refine lv_iload_n hx hb dX6_takeTurn_90 rfl (lv_at hl 2 rfl) ?_
        refine lv_iload hx hb dX6_takeTurn_91 (lv_at hl 1 rfl) ?_
        obtain ⟨r75, h76, hf⟩ := bd_s hf
        refine kw_v (va_runV (As := [.int y20, .int y22]) (rest := []) hcf (cz_X3_put l D k A u14 (q + 1 + 1 + 1) h_now_told_pl h_now_told_sz y20 y22 r75 h76 h27 _) (cwV 2 hts gX6_takeTurn_X3_put rfl rfl rfl (by decide +kernel) ⟨Nat.le_of_ble_eq_true rfl, Nat.le_of_ble_eq_true rfl⟩) (px_V hP hK hD (ci := 3) h27.1 rfl) rfl rfl hl.1 rfl (lv_room (Nat.le_of_ble_eq_true rfl)) dX6_takeTurn_93 ⟨Nat.zero_le _, Nat.zero_le _⟩) hD hS hA (fun u77 _ _ h78 hP hD hS => ?_)
        obtain ⟨h80, m79⟩ := h78
        have hsm := sm_tr hsm m79 (by omega) (by omega)
        obtain rfl := so_i hf
        have h81 := sm_at m79 (by omega) h24
        have h82 := sm_at m79 (by omega) h25
        have h83 := sm_at m79 (by omega) h26
        have h84 := is_T_tr h28 m79 (by omega)
        have h85 : is_M k A u77 (q + 1 + 1) r75.1 r75.2 h_now_inUse_pl h_now_inUse_sz r12.2 := ⟨h83, h80, h84⟩
        have h86 := is_K_tr h9 m16 (by omega)
        have h87 := is_K_tr h86 m79 (by omega)
        have h88 : is_H k A u77 (q + 1) r75.1 r75.2 h_now_inUse_pl h_now_inUse_sz r12.2 h_kn h_size := ⟨h82, h85, h87⟩
        have h89 := is_H_tr h3 m16 (by omega)
        have h90 := is_H_tr h89 m79 (by omega)
        have h91 := is_V_tr h4 m16 (by omega)
        have h92 := is_V_tr h91 m79 (by omega)
        have h93 := is_P_tr h5 m16 (by omega)
        have h94 := is_P_tr h93 m79 (by omega)
        have h95 := is_Z_tr h6 m16 (by omega)
        have h96 := is_Z_tr h95 m79 (by omega)
        have h97 : is_X k A u77 (q) r75.1 r75.2 h_now_inUse_pl h_now_inUse_sz r12.2 h_kn h_size k_now_told_pl k_now_told_sz k_now_inUse_pl k_now_inUse_sz k_now_draw k_kn k_size v_sent v_sentI v_best v_ease v_fromA v_vi_pl v_vi_sz v_vl_pl v_vl_sz t_letters t_tt_pl t_tt_sz t_size t_place t_number sh hasImage viewIsOld := ⟨h81, h88, h90, h92, h94, h96⟩
        exact W.vret hx hb hr (qw_end hS hP hD ⟨h97, hsm⟩) hS.2.2 dX6_takeTurn_96
  · have hf := it_p c33 hf
    refine lv_aload_n hx hb dX6_takeTurn_56 rfl (lv_at hl 5 rfl) ?_
    refine ks_r (va_runV (As := []) (rest := []) hcf (cz_X6_table l D k A u14 (q) hasImage viewIsOld h_size r12.2 h24 h25 h26) (cwV 0 hts gX6_takeTurn_X6_table rfl rfl rfl (by decide +kernel) ⟨Nat.le_of_ble_eq_true rfl, Nat.le_of_ble_eq_true rfl⟩) (pw_V hP hK hD (ci := 6) h24 rfl) rfl rfl hl.1 rfl (lv_room (Nat.le_of_ble_eq_true rfl)) dX6_takeTurn_57 ⟨Nat.zero_le _, Nat.zero_le _⟩) ?_
    refine lv_iload_n hx hb dX6_takeTurn_60 rfl (lv_at hl 2 rfl) ?_
    obtain ⟨r100, h101, hf⟩ := bd_s hf
    refine kw_v (va_runV (As := [.int y20]) (rest := []) hcf (cz_X3_takeOut l D k A u14 (q + 1 + 1 + 1) h_now_told_pl h_now_told_sz y20 r100 h101 h27 _) (cwV 1 hts gX6_takeTurn_X3_takeOut rfl rfl rfl (by decide +kernel) ⟨Nat.le_of_ble_eq_true rfl, Nat.le_of_ble_eq_true rfl⟩) (px_V hP hK hD (ci := 3) h27.1 rfl) rfl rfl hl.1 rfl (lv_room (Nat.le_of_ble_eq_true rfl)) dX6_takeTurn_61 ⟨Nat.zero_le _, Nat.zero_le _⟩) hD hS hA (fun u102 _ _ h103 hP hD hS => ?_)
    obtain ⟨h105, m104⟩ := h103
    have hsm := sm_tr hsm m104 (by omega) (by omega)
    refine lv_goto (tgt := 96) hx hb dX6_takeTurn_64 (by decide) ?_
    obtain rfl := so_i hf
    have h106 := sm_at m104 (by omega) h24
    have h107 := sm_at m104 (by omega) h25
    have h108 := sm_at m104 (by omega) h26
    have h109 := is_T_tr h28 m104 (by omega)
    have h110 : is_M k A u102 (q + 1 + 1) r100.1 r100.2 h_now_inUse_pl h_now_inUse_sz r12.2 := ⟨h108, h105, h109⟩
    have h111 := is_K_tr h9 m16 (by omega)
    have h112 := is_K_tr h111 m104 (by omega)
    have h113 : is_H k A u102 (q + 1) r100.1 r100.2 h_now_inUse_pl h_now_inUse_sz r12.2 h_kn h_size := ⟨h107, h110, h112⟩
    have h114 := is_H_tr h3 m16 (by omega)
    have h115 := is_H_tr h114 m104 (by omega)
    have h116 := is_V_tr h4 m16 (by omega)
    have h117 := is_V_tr h116 m104 (by omega)
    have h118 := is_P_tr h5 m16 (by omega)
    have h119 := is_P_tr h118 m104 (by omega)
    have h120 := is_Z_tr h6 m16 (by omega)
    have h121 := is_Z_tr h120 m104 (by omega)
    have h122 : is_X k A u102 (q) r100.1 r100.2 h_now_inUse_pl h_now_inUse_sz r12.2 h_kn h_size k_now_told_pl k_now_told_sz k_now_inUse_pl k_now_inUse_sz k_now_draw k_kn k_size v_sent v_sentI v_best v_ease v_fromA v_vi_pl v_vi_sz v_vl_pl v_vl_sz t_letters t_tt_pl t_tt_sz t_size t_place t_number sh hasImage viewIsOld := ⟨h106, h113, h115, h117, h119, h121⟩
    exact W.vret hx hb hr (qw_end hS hP hD ⟨h122, hsm⟩) hS.2.2 dX6_takeTurn_96

theorem sw_0_3 {x : Int32} (h0 : ¬ x = 0) (h1 : ¬ x = 1) (h2 : ¬ x = 2) (h3 : ¬ x = 3) : x.toInt < 0 ∨ 3 < x.toInt := by
  have g0 : ¬ x.toInt = 0 := fun h => h0 (Int32.toInt.inj (h.trans (by decide)))
  have g1 : ¬ x.toInt = 1 := fun h => h1 (Int32.toInt.inj (h.trans (by decide)))
  have g2 : ¬ x.toInt = 2 := fun h => h2 (Int32.toInt.inj (h.trans (by decide)))
  have g3 : ¬ x.toInt = 3 := fun h => h3 (Int32.toInt.inj (h.trans (by decide)))
  omega
def pf_X6_look (h_now_told_pl : Nat → Int64) (h_now_inUse_pl : Nat → Int64) (h_now_inUse_sz : Int32) (v_sent : Nat → Int32) (v_sentI : Nat → Int32) (v_best : Nat → Int32) (v_ease : Nat → Int32) (v_fromA : Nat → Int32) (v_vi_pl : Nat → Int64) (v_vi_sz : Int32) (v_vl_pl : Nat → Int64) (v_vl_sz : Int32) (viewIsOld : Int32)  (p1 : Int32) (p2 : Int32) : Option (Int32 × (Nat → Int32) × (Nat → Int32) × (Nat → Int32) × (Nat → Int32) × (Nat → Int32) × (Nat → Int64) × Int32 × (Nat → Int64) × Int32 × Int32) :=
  (pf_X6_isAddress p1).bind (fun r1 =>
    if r1 = 0 then
      some ((-1), v_sent, v_sentI, v_best, v_ease, v_fromA, v_vi_pl, v_vi_sz, v_vl_pl, v_vl_sz, viewIsOld)
    else
      if p2 = 0 then
        (pf_X3_hopOfAddress h_now_told_pl p1).bind (fun r19 =>
          some (r19, v_sent, v_sentI, v_best, v_ease, v_fromA, v_vi_pl, v_vi_sz, v_vl_pl, v_vl_sz, viewIsOld))
      else if p2 = 1 then
        (pf_X3_deciderOf h_now_told_pl p1).bind (fun r39 =>
          some (r39, v_sent, v_sentI, v_best, v_ease, v_fromA, v_vi_pl, v_vi_sz, v_vl_pl, v_vl_sz, viewIsOld))
      else if p2 = 2 then
        (pf_X3_hopOfAddress h_now_inUse_pl p1).bind (fun r59 =>
          some (r59, v_sent, v_sentI, v_best, v_ease, v_fromA, v_vi_pl, v_vi_sz, v_vl_pl, v_vl_sz, viewIsOld))
      else if p2 = 3 then
        (pf_X6_freshView h_now_told_pl h_now_inUse_pl h_now_inUse_sz v_sent v_sentI v_best v_ease v_fromA v_vi_pl v_vi_sz v_vl_pl v_vl_sz viewIsOld).bind (fun r65 =>
          (pf_X3_hopOfAddress r65.2.2.2.2.2.2.2.1 p1).bind (fun r87 =>
            some (r87, r65.1, r65.2.1, r65.2.2.1, r65.2.2.2.1, r65.2.2.2.2.1, r65.2.2.2.2.2.1, r65.2.2.2.2.2.2.1, r65.2.2.2.2.2.2.2.1, r65.2.2.2.2.2.2.2.2.1, r65.2.2.2.2.2.2.2.2.2)))
      else some ((-1), v_sent, v_sentI, v_best, v_ease, v_fromA, v_vi_pl, v_vi_sz, v_vl_pl, v_vl_sz, viewIsOld))

set_option maxHeartbeats 4000000 in
set_option maxRecDepth 100000 in
theorem cz_X6_look (l : Launch) (D : va_G) (k : kt_T) (A : Nat → Nat) (ws : va_W) (q : Nat)  (h_now_told_pl : Nat → Int64) (h_now_told_sz : Int32) (h_now_inUse_pl : Nat → Int64) (h_now_inUse_sz : Int32) (h_now_draw : Int32) (h_kn : Nat → mm_T) (h_size : Int32) (k_now_told_pl : Nat → Int64) (k_now_told_sz : Int32) (k_now_inUse_pl : Nat → Int64) (k_now_inUse_sz : Int32) (k_now_draw : Int32) (k_kn : Nat → mm_T) (k_size : Int32) (v_sent : Nat → Int32) (v_sentI : Nat → Int32) (v_best : Nat → Int32) (v_ease : Nat → Int32) (v_fromA : Nat → Int32) (v_vi_pl : Nat → Int64) (v_vi_sz : Int32) (v_vl_pl : Nat → Int64) (v_vl_sz : Int32) (t_letters : Nat → Int32) (t_tt_pl : Nat → Int64) (t_tt_sz : Int32) (t_size : Int32) (t_place : Int32) (t_number : Int32) (sh : Nat → ss_T) (hasImage : Int32) (viewIsOld : Int32) (p1 : Int32) (p2 : Int32) (out : Int32 × (Nat → Int32) × (Nat → Int32) × (Nat → Int32) × (Nat → Int32) × (Nat → Int32) × (Nat → Int64) × Int32 × (Nat → Int64) × Int32 × Int32) (hf : pf_X6_look h_now_told_pl h_now_inUse_pl h_now_inUse_sz v_sent v_sentI v_best v_ease v_fromA v_vi_pl v_vi_sz v_vl_pl v_vl_sz viewIsOld p1 p2 = some out) (h_this : is_X k A ws q h_now_told_pl h_now_told_sz h_now_inUse_pl h_now_inUse_sz h_now_draw h_kn h_size k_now_told_pl k_now_told_sz k_now_inUse_pl k_now_inUse_sz k_now_draw k_kn k_size v_sent v_sentI v_best v_ease v_fromA v_vi_pl v_vi_sz v_vl_pl v_vl_sz t_letters t_tt_pl t_tt_sz t_size t_place t_number sh hasImage viewIsOld)  (sz0 : Nat) : Met l yX6_look wsX6_look { frames := 5, cells := 0, slots := 0, locals := 123 } (va_Pc [.ref (A q), .int p1, .int p2] (px_P D k ws sz0)) (qw_Q D ws sz0 (some (.int out.1)) (fun u => is_X k A u q h_now_told_pl h_now_told_sz h_now_inUse_pl h_now_inUse_sz h_now_draw h_kn h_size k_now_told_pl k_now_told_sz k_now_inUse_pl k_now_inUse_sz k_now_draw k_kn k_size out.2.1 out.2.2.1 out.2.2.2.1 out.2.2.2.2.1 out.2.2.2.2.2.1 out.2.2.2.2.2.2.1 out.2.2.2.2.2.2.2.1 out.2.2.2.2.2.2.2.2.1 out.2.2.2.2.2.2.2.2.2.1 t_letters t_tt_pl t_tt_sz t_size t_place t_number sh hasImage out.2.2.2.2.2.2.2.2.2.2 ∧ sm_W ws u q (q + 98))) 0 0 (va_A ws sz0) := by
  refine Met.ofW (cc := cX6_look) (maxL := 3) (ret := (some .int)) (by decide) rfl ?_
  intro p e s m args below meth c s₁ B hml hv
  obtain ⟨rfl, hsz, hP, hK, hD0⟩ := hv
  subst hsz
  have hD := hD0.self (sz := s.heap.size)
  have C0 : cx_P p s m meth c [.ref (A q), .int p1, .int p2].toArray cX6_look 3 wsX6_look RX6 (some .int) := ⟨B.exec, B.bytes, hml, findClass_of_methodNamed B.named, atoms_spec (ws := wsX6_look) B.pre, B.returns, B.notSynchronized⟩
  obtain ⟨hx, hb, hml, hown, hts, hr, hlocks⟩ := id C0
  have hcf : CallFix p m c cX6_look 3 s [.ref (A q), .int p1, .int p2].toArray wsX6_look RX6 := ⟨hx, hb, hml, hown, hts⟩
  have hA : ∀ q, s.heap.size ≤ q → va_A ws s.heap.size q := fun q h => Or.inr h
  have hS : va_S (va_A ws s.heap.size) s.heap s.heap [] := va_S.rf
  have hsm : sm_W ws ws q (q + 98) := sm_rf
  have hl := lv_entry ([.ref (A q), .int p1, .int p2]) (n := 3) (Nat.le_of_ble_eq_true rfl)
  rw [lg_entry_eq]
  generalize (lg_sl ([.ref (A q), .int p1, .int p2]) ++ List.replicate (3 - (lg_sl ([.ref (A q), .int p1, .int p2])).length) Slot.unset).toArray = ls at hl ⊢
  have hl : lv_has ls 3 [(0, .ref (A q)), (1, .int p1), (2, .int p2)] := hl
  unfold pf_X6_look at hf
  refine lv_iload_n hx hb dX6_look_0 rfl (lv_at hl 1 rfl) ?_
  obtain ⟨r1, h2, hf⟩ := bd_s hf
  refine ks_i (va_runS (As := [.int p1]) (rest := []) hcf (cz_X6_isAddress l D k A ws p1 r1 h2) (va_cwS 1 hts gX6_look_X6_isAddress rfl rfl rfl (by decide +kernel) ⟨Nat.le_of_ble_eq_true rfl, Nat.le_of_ble_eq_true rfl⟩) (pw_S hP hK hD) rfl rfl hl.1 rfl (lv_room (Nat.le_of_ble_eq_true rfl)) dX6_look_1 ⟨Nat.zero_le _, Nat.zero_le _⟩) ?_
  refine lv_if_ne (tgt := 9) hx hb dX6_look_4 (by decide) (fun c3 => ?_) (fun c3 => ?_)
  · have hf := it_n c3 hf
    refine lv_iload_n hx hb dX6_look_9 rfl (lv_at hl 2 rfl) ?_
    by_cases c4 : p2 = 0
    · have hf := it_p c4 hf
      refine lv_tableIn (tgt := 40) hx hb dX6_look_10 (by rw [c4]; decide) (by rw [c4]; decide) (by rw [c4]; rfl) (by decide) ?_
      refine lv_aload_n hx hb dX6_look_40 rfl (lv_at hl 0 rfl) ?_
      obtain ⟨h5, h6, h7, h8, h9, h10⟩ := h_this
      obtain ⟨h11, h12, h13⟩ := h6
      obtain ⟨h14, h15, h16⟩ := h12
      refine ks_r (va_runV (As := []) (rest := []) hcf (cz_X6_table l D k A ws (q) hasImage viewIsOld h_size h_now_draw h5 h11 h14) (cwV 0 hts gX6_look_X6_table rfl rfl rfl (by decide +kernel) ⟨Nat.le_of_ble_eq_true rfl, Nat.le_of_ble_eq_true rfl⟩) (pw_V hP hK hD (ci := 6) h5 rfl) rfl rfl hl.1 rfl (lv_room (Nat.le_of_ble_eq_true rfl)) dX6_look_41 ⟨Nat.zero_le _, Nat.zero_le _⟩) ?_
      refine lv_iload_n hx hb dX6_look_44 rfl (lv_at hl 1 rfl) ?_
      obtain ⟨r19, h20, hf⟩ := bd_s hf
      refine ks_i (va_runV (As := [.int p1]) (rest := []) hcf (cz_X3_hopOfAddress l D k A ws (q + 1 + 1 + 1) h_now_told_pl h_now_told_sz p1 r19 h20 h15) (cwV 1 hts gX6_look_X3_hopOfAddress rfl rfl rfl (by decide +kernel) ⟨Nat.le_of_ble_eq_true rfl, Nat.le_of_ble_eq_true rfl⟩) (pw_V hP hK hD (ci := 3) h15.1 rfl) rfl rfl hl.1 rfl (lv_room (Nat.le_of_ble_eq_true rfl)) dX6_look_45 ⟨Nat.zero_le _, Nat.zero_le _⟩) ?_
      obtain rfl := so_i hf
      have h21 : is_M k A ws (q + 1 + 1) h_now_told_pl h_now_told_sz h_now_inUse_pl h_now_inUse_sz h_now_draw := ⟨h14, h15, h16⟩
      have h22 : is_H k A ws (q + 1) h_now_told_pl h_now_told_sz h_now_inUse_pl h_now_inUse_sz h_now_draw h_kn h_size := ⟨h11, h21, h13⟩
      have h23 : is_X k A ws (q) h_now_told_pl h_now_told_sz h_now_inUse_pl h_now_inUse_sz h_now_draw h_kn h_size k_now_told_pl k_now_told_sz k_now_inUse_pl k_now_inUse_sz k_now_draw k_kn k_size v_sent v_sentI v_best v_ease v_fromA v_vi_pl v_vi_sz v_vl_pl v_vl_sz t_letters t_tt_pl t_tt_sz t_size t_place t_number sh hasImage viewIsOld := ⟨h5, h22, h7, h8, h9, h10⟩
      exact W.iret (v := r19) hx hb hr (qw_end hS hP hD ⟨h23, hsm⟩) hS.2.2 dX6_look_48
    have hf := it_n c4 hf
    by_cases c24 : p2 = 1
    · have hf := it_p c24 hf
      refine lv_tableIn (tgt := 49) hx hb dX6_look_10 (by rw [c24]; decide) (by rw [c24]; decide) (by rw [c24]; rfl) (by decide) ?_
      refine lv_aload_n hx hb dX6_look_49 rfl (lv_at hl 0 rfl) ?_
      obtain ⟨h25, h26, h27, h28, h29, h30⟩ := h_this
      obtain ⟨h31, h32, h33⟩ := h26
      obtain ⟨h34, h35, h36⟩ := h32
      refine ks_r (va_runV (As := []) (rest := []) hcf (cz_X6_table l D k A ws (q) hasImage viewIsOld h_size h_now_draw h25 h31 h34) (cwV 0 hts gX6_look_X6_table rfl rfl rfl (by decide +kernel) ⟨Nat.le_of_ble_eq_true rfl, Nat.le_of_ble_eq_true rfl⟩) (pw_V hP hK hD (ci := 6) h25 rfl) rfl rfl hl.1 rfl (lv_room (Nat.le_of_ble_eq_true rfl)) dX6_look_50 ⟨Nat.zero_le _, Nat.zero_le _⟩) ?_
      refine lv_iload_n hx hb dX6_look_53 rfl (lv_at hl 1 rfl) ?_
      obtain ⟨r39, h40, hf⟩ := bd_s hf
      refine ks_i (va_runV (As := [.int p1]) (rest := []) hcf (cz_X3_deciderOf l D k A ws (q + 1 + 1 + 1) h_now_told_pl h_now_told_sz p1 r39 h40 h35) (cwV 1 hts gX6_look_X3_deciderOf rfl rfl rfl (by decide +kernel) ⟨Nat.le_of_ble_eq_true rfl, Nat.le_of_ble_eq_true rfl⟩) (pw_V hP hK hD (ci := 3) h35.1 rfl) rfl rfl hl.1 rfl (lv_room (Nat.le_of_ble_eq_true rfl)) dX6_look_54 ⟨Nat.zero_le _, Nat.zero_le _⟩) ?_
      obtain rfl := so_i hf
      have h41 : is_M k A ws (q + 1 + 1) h_now_told_pl h_now_told_sz h_now_inUse_pl h_now_inUse_sz h_now_draw := ⟨h34, h35, h36⟩
      have h42 : is_H k A ws (q + 1) h_now_told_pl h_now_told_sz h_now_inUse_pl h_now_inUse_sz h_now_draw h_kn h_size := ⟨h31, h41, h33⟩
      have h43 : is_X k A ws (q) h_now_told_pl h_now_told_sz h_now_inUse_pl h_now_inUse_sz h_now_draw h_kn h_size k_now_told_pl k_now_told_sz k_now_inUse_pl k_now_inUse_sz k_now_draw k_kn k_size v_sent v_sentI v_best v_ease v_fromA v_vi_pl v_vi_sz v_vl_pl v_vl_sz t_letters t_tt_pl t_tt_sz t_size t_place t_number sh hasImage viewIsOld := ⟨h25, h42, h27, h28, h29, h30⟩
      exact W.iret (v := r39) hx hb hr (qw_end hS hP hD ⟨h43, hsm⟩) hS.2.2 dX6_look_57
    have hf := it_n c24 hf
    by_cases c44 : p2 = 2
    · have hf := it_p c44 hf
      refine lv_tableIn (tgt := 58) hx hb dX6_look_10 (by rw [c44]; decide) (by rw [c44]; decide) (by rw [c44]; rfl) (by decide) ?_
      refine lv_aload_n hx hb dX6_look_58 rfl (lv_at hl 0 rfl) ?_
      obtain ⟨h45, h46, h47, h48, h49, h50⟩ := h_this
      obtain ⟨h51, h52, h53⟩ := h46
      obtain ⟨h54, h55, h56⟩ := h52
      refine ks_r (va_runV (As := []) (rest := []) hcf (cz_X6_installed l D k A ws (q) hasImage viewIsOld h_size h_now_draw h45 h51 h54) (cwV 0 hts gX6_look_X6_installed rfl rfl rfl (by decide +kernel) ⟨Nat.le_of_ble_eq_true rfl, Nat.le_of_ble_eq_true rfl⟩) (pw_V hP hK hD (ci := 6) h45 rfl) rfl rfl hl.1 rfl (lv_room (Nat.le_of_ble_eq_true rfl)) dX6_look_59 ⟨Nat.zero_le _, Nat.zero_le _⟩) ?_
      refine lv_iload_n hx hb dX6_look_62 rfl (lv_at hl 1 rfl) ?_
      obtain ⟨r59, h60, hf⟩ := bd_s hf
      refine ks_i (va_runV (As := [.int p1]) (rest := []) hcf (cz_X3_hopOfAddress l D k A ws (q + 1 + 1 + 3) h_now_inUse_pl h_now_inUse_sz p1 r59 h60 h56) (cwV 1 hts gX6_look_X3_hopOfAddress rfl rfl rfl (by decide +kernel) ⟨Nat.le_of_ble_eq_true rfl, Nat.le_of_ble_eq_true rfl⟩) (pw_V hP hK hD (ci := 3) h56.1 rfl) rfl rfl hl.1 rfl (lv_room (Nat.le_of_ble_eq_true rfl)) dX6_look_63 ⟨Nat.zero_le _, Nat.zero_le _⟩) ?_
      obtain rfl := so_i hf
      have h61 : is_M k A ws (q + 1 + 1) h_now_told_pl h_now_told_sz h_now_inUse_pl h_now_inUse_sz h_now_draw := ⟨h54, h55, h56⟩
      have h62 : is_H k A ws (q + 1) h_now_told_pl h_now_told_sz h_now_inUse_pl h_now_inUse_sz h_now_draw h_kn h_size := ⟨h51, h61, h53⟩
      have h63 : is_X k A ws (q) h_now_told_pl h_now_told_sz h_now_inUse_pl h_now_inUse_sz h_now_draw h_kn h_size k_now_told_pl k_now_told_sz k_now_inUse_pl k_now_inUse_sz k_now_draw k_kn k_size v_sent v_sentI v_best v_ease v_fromA v_vi_pl v_vi_sz v_vl_pl v_vl_sz t_letters t_tt_pl t_tt_sz t_size t_place t_number sh hasImage viewIsOld := ⟨h45, h62, h47, h48, h49, h50⟩
      exact W.iret (v := r59) hx hb hr (qw_end hS hP hD ⟨h63, hsm⟩) hS.2.2 dX6_look_66
    have hf := it_n c44 hf
    by_cases c64 : p2 = 3
    · have hf := it_p c64 hf
      refine lv_tableIn (tgt := 67) hx hb dX6_look_10 (by rw [c64]; decide) (by rw [c64]; decide) (by rw [c64]; rfl) (by decide) ?_
      refine lv_aload_n hx hb dX6_look_67 rfl (lv_at hl 0 rfl) ?_
      obtain ⟨r65, h66, hf⟩ := bd_s hf
      refine kw_r (va_runV (As := []) (rest := []) hcf (cz_X6_freshView l D k A ws (q) h_now_told_pl h_now_told_sz h_now_inUse_pl h_now_inUse_sz h_now_draw h_kn h_size k_now_told_pl k_now_told_sz k_now_inUse_pl k_now_inUse_sz k_now_draw k_kn k_size v_sent v_sentI v_best v_ease v_fromA v_vi_pl v_vi_sz v_vl_pl v_vl_sz t_letters t_tt_pl t_tt_sz t_size t_place t_number sh hasImage viewIsOld r65 h66 h_this _) (cwV 0 hts gX6_look_X6_freshView rfl rfl rfl (by decide +kernel) ⟨Nat.le_of_ble_eq_true rfl, Nat.le_of_ble_eq_true rfl⟩) (px_V hP hK hD (ci := 6) h_this.1 rfl) rfl rfl hl.1 rfl (lv_room (Nat.le_of_ble_eq_true rfl)) dX6_look_68 ⟨Nat.zero_le _, Nat.zero_le _⟩) hD hS hA (fun u67 _ _ h68 hP hD hS => ?_)
      obtain ⟨h70, m69⟩ := h68
      have hsm := sm_tr hsm m69 (by omega) (by omega)
      obtain ⟨h71, h72, h73, h74, h75, h76⟩ := h70
      obtain ⟨h77, h78, h79, h80, h81, h82, h83, h84⟩ := h74
      refine ks_r (va_runV (As := []) (rest := []) hcf (cz_X5_leastTable l D k A u67 (q + 75) h77) (cwV 0 hts gX6_look_X5_leastTable rfl rfl rfl (by decide +kernel) ⟨Nat.le_of_ble_eq_true rfl, Nat.le_of_ble_eq_true rfl⟩) (pw_V hP hK hD (ci := 5) h77 rfl) rfl rfl hl.1 rfl (lv_room (Nat.le_of_ble_eq_true rfl)) dX6_look_71 ⟨Nat.zero_le _, Nat.zero_le _⟩) ?_
      refine lv_iload_n hx hb dX6_look_74 rfl (lv_at hl 1 rfl) ?_
      obtain ⟨r87, h88, hf⟩ := bd_s hf
      refine ks_i (va_runV (As := [.int p1]) (rest := []) hcf (cz_X3_hopOfAddress l D k A u67 (q + 75 + 8) r65.2.2.2.2.2.2.2.1 r65.2.2.2.2.2.2.2.2.1 p1 r87 h88 h84) (cwV 1 hts gX6_look_X3_hopOfAddress rfl rfl rfl (by decide +kernel) ⟨Nat.le_of_ble_eq_true rfl, Nat.le_of_ble_eq_true rfl⟩) (pw_V hP hK hD (ci := 3) h84.1 rfl) rfl rfl hl.1 rfl (lv_room (Nat.le_of_ble_eq_true rfl)) dX6_look_75 ⟨Nat.zero_le _, Nat.zero_le _⟩) ?_
      obtain rfl := so_i hf
      have h89 : is_V k A u67 (q + 75) r65.1 r65.2.1 r65.2.2.1 r65.2.2.2.1 r65.2.2.2.2.1 r65.2.2.2.2.2.1 r65.2.2.2.2.2.2.1 r65.2.2.2.2.2.2.2.1 r65.2.2.2.2.2.2.2.2.1 := ⟨h77, h78, h79, h80, h81, h82, h83, h84⟩
      have h90 : is_X k A u67 (q) h_now_told_pl h_now_told_sz h_now_inUse_pl h_now_inUse_sz h_now_draw h_kn h_size k_now_told_pl k_now_told_sz k_now_inUse_pl k_now_inUse_sz k_now_draw k_kn k_size r65.1 r65.2.1 r65.2.2.1 r65.2.2.2.1 r65.2.2.2.2.1 r65.2.2.2.2.2.1 r65.2.2.2.2.2.2.1 r65.2.2.2.2.2.2.2.1 r65.2.2.2.2.2.2.2.2.1 t_letters t_tt_pl t_tt_sz t_size t_place t_number sh hasImage r65.2.2.2.2.2.2.2.2.2 := ⟨h71, h72, h73, h89, h75, h76⟩
      exact W.iret (v := r87) hx hb hr (qw_end hS hP hD ⟨h90, hsm⟩) hS.2.2 dX6_look_78
    have hf := it_n c64 hf
    refine lv_tableOut (tgt := 79) hx hb dX6_look_10 (sw_0_3 c4 c24 c44 c64) (by decide) ?_
    refine lv_iconst (v := (-1)) hx hb dX6_look_79 (by decide) ?_
    obtain rfl := so_i hf
    exact W.iret (v := (-1)) hx hb hr (qw_end hS hP hD ⟨h_this, hsm⟩) hS.2.2 dX6_look_80
  · have hf := it_p c3 hf
    refine lv_iconst (v := (-1)) hx hb dX6_look_7 (by decide) ?_
    obtain rfl := so_i hf
    exact W.iret (v := (-1)) hx hb hr (qw_end hS hP hD ⟨h_this, hsm⟩) hS.2.2 dX6_look_8

theorem sw_0_6 {x : Int32} (h0 : ¬ x = 0) (h1 : ¬ x = 1) (h2 : ¬ x = 2) (h3 : ¬ x = 3) (h4 : ¬ x = 4) (h5 : ¬ x = 5) (h6 : ¬ x = 6) : x.toInt < 0 ∨ 6 < x.toInt := by
  have g0 : ¬ x.toInt = 0 := fun h => h0 (Int32.toInt.inj (h.trans (by decide)))
  have g1 : ¬ x.toInt = 1 := fun h => h1 (Int32.toInt.inj (h.trans (by decide)))
  have g2 : ¬ x.toInt = 2 := fun h => h2 (Int32.toInt.inj (h.trans (by decide)))
  have g3 : ¬ x.toInt = 3 := fun h => h3 (Int32.toInt.inj (h.trans (by decide)))
  have g4 : ¬ x.toInt = 4 := fun h => h4 (Int32.toInt.inj (h.trans (by decide)))
  have g5 : ¬ x.toInt = 5 := fun h => h5 (Int32.toInt.inj (h.trans (by decide)))
  have g6 : ¬ x.toInt = 6 := fun h => h6 (Int32.toInt.inj (h.trans (by decide)))
  omega
def pf_X6_prefix (h_now_told_pl : Nat → Int64) (h_now_inUse_pl : Nat → Int64) (h_now_inUse_sz : Int32) (v_sent : Nat → Int32) (v_sentI : Nat → Int32) (v_best : Nat → Int32) (v_ease : Nat → Int32) (v_fromA : Nat → Int32) (v_vi_pl : Nat → Int64) (v_vi_sz : Int32) (v_vl_pl : Nat → Int64) (v_vl_sz : Int32) (viewIsOld : Int32)  (p1 : Int32) (p2 : Int32) : Option (Int32 × (Nat → Int32) × (Nat → Int32) × (Nat → Int32) × (Nat → Int32) × (Nat → Int32) × (Nat → Int64) × Int32 × (Nat → Int64) × Int32 × Int32) :=
  (pf_X6_isPrefix p1).bind (fun r1 =>
    if r1 = 0 then
      some ((-1), v_sent, v_sentI, v_best, v_ease, v_fromA, v_vi_pl, v_vi_sz, v_vl_pl, v_vl_sz, viewIsOld)
    else
      if p2 = 0 then
        (pf_X3_hopAt h_now_told_pl p1).bind (fun r19 =>
          some (r19, v_sent, v_sentI, v_best, v_ease, v_fromA, v_vi_pl, v_vi_sz, v_vl_pl, v_vl_sz, viewIsOld))
      else if p2 = 1 then
        (pf_X3_hopAt h_now_inUse_pl p1).bind (fun r39 =>
          some (r39, v_sent, v_sentI, v_best, v_ease, v_fromA, v_vi_pl, v_vi_sz, v_vl_pl, v_vl_sz, viewIsOld))
      else if p2 = 2 then
        (pf_X6_freshView h_now_told_pl h_now_inUse_pl h_now_inUse_sz v_sent v_sentI v_best v_ease v_fromA v_vi_pl v_vi_sz v_vl_pl v_vl_sz viewIsOld).bind (fun r45 =>
          (pf_X3_hopAt r45.2.2.2.2.2.2.2.1 p1).bind (fun r67 =>
            some (r67, r45.1, r45.2.1, r45.2.2.1, r45.2.2.2.1, r45.2.2.2.2.1, r45.2.2.2.2.2.1, r45.2.2.2.2.2.2.1, r45.2.2.2.2.2.2.2.1, r45.2.2.2.2.2.2.2.2.1, r45.2.2.2.2.2.2.2.2.2)))
      else if p2 = 3 then
        (pf_X6_freshView h_now_told_pl h_now_inUse_pl h_now_inUse_sz v_sent v_sentI v_best v_ease v_fromA v_vi_pl v_vi_sz v_vl_pl v_vl_sz viewIsOld).bind (fun r72 =>
          (pf_X5_bestHops r72.2.2.1 p1).bind (fun r84 =>
            some (r84, r72.1, r72.2.1, r72.2.2.1, r72.2.2.2.1, r72.2.2.2.2.1, r72.2.2.2.2.2.1, r72.2.2.2.2.2.2.1, r72.2.2.2.2.2.2.2.1, r72.2.2.2.2.2.2.2.2.1, r72.2.2.2.2.2.2.2.2.2)))
      else if p2 = 4 then
        (pf_X6_freshView h_now_told_pl h_now_inUse_pl h_now_inUse_sz v_sent v_sentI v_best v_ease v_fromA v_vi_pl v_vi_sz v_vl_pl v_vl_sz viewIsOld).bind (fun r88 =>
          (pf_X5_easeOf r88.2.2.2.1 p1).bind (fun r100 =>
            some (r100, r88.1, r88.2.1, r88.2.2.1, r88.2.2.2.1, r88.2.2.2.2.1, r88.2.2.2.2.2.1, r88.2.2.2.2.2.2.1, r88.2.2.2.2.2.2.2.1, r88.2.2.2.2.2.2.2.2.1, r88.2.2.2.2.2.2.2.2.2)))
      else if p2 = 5 then
        (pf_X6_freshView h_now_told_pl h_now_inUse_pl h_now_inUse_sz v_sent v_sentI v_best v_ease v_fromA v_vi_pl v_vi_sz v_vl_pl v_vl_sz viewIsOld).bind (fun r104 =>
          (pf_X5_hopsBeneath r104.1 p1).bind (fun r116 =>
            some (r116, r104.1, r104.2.1, r104.2.2.1, r104.2.2.2.1, r104.2.2.2.2.1, r104.2.2.2.2.2.1, r104.2.2.2.2.2.2.1, r104.2.2.2.2.2.2.2.1, r104.2.2.2.2.2.2.2.2.1, r104.2.2.2.2.2.2.2.2.2)))
      else if p2 = 6 then
        (pf_X3_redundancyOf h_now_told_pl p1).bind (fun r134 =>
          some (r134, v_sent, v_sentI, v_best, v_ease, v_fromA, v_vi_pl, v_vi_sz, v_vl_pl, v_vl_sz, viewIsOld))
      else some ((-1), v_sent, v_sentI, v_best, v_ease, v_fromA, v_vi_pl, v_vi_sz, v_vl_pl, v_vl_sz, viewIsOld))

set_option maxHeartbeats 4000000 in
set_option maxRecDepth 100000 in
theorem cz_X6_prefix (l : Launch) (D : va_G) (k : kt_T) (A : Nat → Nat) (ws : va_W) (q : Nat)  (h_now_told_pl : Nat → Int64) (h_now_told_sz : Int32) (h_now_inUse_pl : Nat → Int64) (h_now_inUse_sz : Int32) (h_now_draw : Int32) (h_kn : Nat → mm_T) (h_size : Int32) (k_now_told_pl : Nat → Int64) (k_now_told_sz : Int32) (k_now_inUse_pl : Nat → Int64) (k_now_inUse_sz : Int32) (k_now_draw : Int32) (k_kn : Nat → mm_T) (k_size : Int32) (v_sent : Nat → Int32) (v_sentI : Nat → Int32) (v_best : Nat → Int32) (v_ease : Nat → Int32) (v_fromA : Nat → Int32) (v_vi_pl : Nat → Int64) (v_vi_sz : Int32) (v_vl_pl : Nat → Int64) (v_vl_sz : Int32) (t_letters : Nat → Int32) (t_tt_pl : Nat → Int64) (t_tt_sz : Int32) (t_size : Int32) (t_place : Int32) (t_number : Int32) (sh : Nat → ss_T) (hasImage : Int32) (viewIsOld : Int32) (p1 : Int32) (p2 : Int32) (out : Int32 × (Nat → Int32) × (Nat → Int32) × (Nat → Int32) × (Nat → Int32) × (Nat → Int32) × (Nat → Int64) × Int32 × (Nat → Int64) × Int32 × Int32) (hf : pf_X6_prefix h_now_told_pl h_now_inUse_pl h_now_inUse_sz v_sent v_sentI v_best v_ease v_fromA v_vi_pl v_vi_sz v_vl_pl v_vl_sz viewIsOld p1 p2 = some out) (h_this : is_X k A ws q h_now_told_pl h_now_told_sz h_now_inUse_pl h_now_inUse_sz h_now_draw h_kn h_size k_now_told_pl k_now_told_sz k_now_inUse_pl k_now_inUse_sz k_now_draw k_kn k_size v_sent v_sentI v_best v_ease v_fromA v_vi_pl v_vi_sz v_vl_pl v_vl_sz t_letters t_tt_pl t_tt_sz t_size t_place t_number sh hasImage viewIsOld)  (sz0 : Nat) : Met l yX6_prefix wsX6_prefix { frames := 5, cells := 0, slots := 0, locals := 123 } (va_Pc [.ref (A q), .int p1, .int p2] (px_P D k ws sz0)) (qw_Q D ws sz0 (some (.int out.1)) (fun u => is_X k A u q h_now_told_pl h_now_told_sz h_now_inUse_pl h_now_inUse_sz h_now_draw h_kn h_size k_now_told_pl k_now_told_sz k_now_inUse_pl k_now_inUse_sz k_now_draw k_kn k_size out.2.1 out.2.2.1 out.2.2.2.1 out.2.2.2.2.1 out.2.2.2.2.2.1 out.2.2.2.2.2.2.1 out.2.2.2.2.2.2.2.1 out.2.2.2.2.2.2.2.2.1 out.2.2.2.2.2.2.2.2.2.1 t_letters t_tt_pl t_tt_sz t_size t_place t_number sh hasImage out.2.2.2.2.2.2.2.2.2.2 ∧ sm_W ws u q (q + 98))) 0 0 (va_A ws sz0) := by
  refine Met.ofW (cc := cX6_prefix) (maxL := 3) (ret := (some .int)) (by decide) rfl ?_
  intro p e s m args below meth c s₁ B hml hv
  obtain ⟨rfl, hsz, hP, hK, hD0⟩ := hv
  subst hsz
  have hD := hD0.self (sz := s.heap.size)
  have C0 : cx_P p s m meth c [.ref (A q), .int p1, .int p2].toArray cX6_prefix 3 wsX6_prefix RX6 (some .int) := ⟨B.exec, B.bytes, hml, findClass_of_methodNamed B.named, atoms_spec (ws := wsX6_prefix) B.pre, B.returns, B.notSynchronized⟩
  obtain ⟨hx, hb, hml, hown, hts, hr, hlocks⟩ := id C0
  have hcf : CallFix p m c cX6_prefix 3 s [.ref (A q), .int p1, .int p2].toArray wsX6_prefix RX6 := ⟨hx, hb, hml, hown, hts⟩
  have hA : ∀ q, s.heap.size ≤ q → va_A ws s.heap.size q := fun q h => Or.inr h
  have hS : va_S (va_A ws s.heap.size) s.heap s.heap [] := va_S.rf
  have hsm : sm_W ws ws q (q + 98) := sm_rf
  have hl := lv_entry ([.ref (A q), .int p1, .int p2]) (n := 3) (Nat.le_of_ble_eq_true rfl)
  rw [lg_entry_eq]
  generalize (lg_sl ([.ref (A q), .int p1, .int p2]) ++ List.replicate (3 - (lg_sl ([.ref (A q), .int p1, .int p2])).length) Slot.unset).toArray = ls at hl ⊢
  have hl : lv_has ls 3 [(0, .ref (A q)), (1, .int p1), (2, .int p2)] := hl
  unfold pf_X6_prefix at hf
  refine lv_iload_n hx hb dX6_prefix_0 rfl (lv_at hl 1 rfl) ?_
  obtain ⟨r1, h2, hf⟩ := bd_s hf
  refine ks_i (va_runS (As := [.int p1]) (rest := []) hcf (cz_X6_isPrefix l D k A ws p1 r1 h2) (va_cwS 1 hts gX6_prefix_X6_isPrefix rfl rfl rfl (by decide +kernel) ⟨Nat.le_of_ble_eq_true rfl, Nat.le_of_ble_eq_true rfl⟩) (pw_S hP hK hD) rfl rfl hl.1 rfl (lv_room (Nat.le_of_ble_eq_true rfl)) dX6_prefix_1 ⟨Nat.zero_le _, Nat.zero_le _⟩) ?_
  refine lv_if_ne (tgt := 9) hx hb dX6_prefix_4 (by decide) (fun c3 => ?_) (fun c3 => ?_)
  · have hf := it_n c3 hf
    refine lv_iload_n hx hb dX6_prefix_9 rfl (lv_at hl 2 rfl) ?_
    by_cases c4 : p2 = 0
    · have hf := it_p c4 hf
      refine lv_tableIn (tgt := 52) hx hb dX6_prefix_10 (by rw [c4]; decide) (by rw [c4]; decide) (by rw [c4]; rfl) (by decide) ?_
      refine lv_aload_n hx hb dX6_prefix_52 rfl (lv_at hl 0 rfl) ?_
      obtain ⟨h5, h6, h7, h8, h9, h10⟩ := h_this
      obtain ⟨h11, h12, h13⟩ := h6
      obtain ⟨h14, h15, h16⟩ := h12
      refine ks_r (va_runV (As := []) (rest := []) hcf (cz_X6_table l D k A ws (q) hasImage viewIsOld h_size h_now_draw h5 h11 h14) (cwV 0 hts gX6_prefix_X6_table rfl rfl rfl (by decide +kernel) ⟨Nat.le_of_ble_eq_true rfl, Nat.le_of_ble_eq_true rfl⟩) (pw_V hP hK hD (ci := 6) h5 rfl) rfl rfl hl.1 rfl (lv_room (Nat.le_of_ble_eq_true rfl)) dX6_prefix_53 ⟨Nat.zero_le _, Nat.zero_le _⟩) ?_
      refine lv_iload_n hx hb dX6_prefix_56 rfl (lv_at hl 1 rfl) ?_
      obtain ⟨r19, h20, hf⟩ := bd_s hf
      refine ks_i (va_runV (As := [.int p1]) (rest := []) hcf (cz_X3_hopAt l D k A ws (q + 1 + 1 + 1) h_now_told_pl h_now_told_sz p1 r19 h20 h15) (cwV 1 hts gX6_prefix_X3_hopAt rfl rfl rfl (by decide +kernel) ⟨Nat.le_of_ble_eq_true rfl, Nat.le_of_ble_eq_true rfl⟩) (pw_V hP hK hD (ci := 3) h15.1 rfl) rfl rfl hl.1 rfl (lv_room (Nat.le_of_ble_eq_true rfl)) dX6_prefix_57 ⟨Nat.zero_le _, Nat.zero_le _⟩) ?_
      obtain rfl := so_i hf
      have h21 : is_M k A ws (q + 1 + 1) h_now_told_pl h_now_told_sz h_now_inUse_pl h_now_inUse_sz h_now_draw := ⟨h14, h15, h16⟩
      have h22 : is_H k A ws (q + 1) h_now_told_pl h_now_told_sz h_now_inUse_pl h_now_inUse_sz h_now_draw h_kn h_size := ⟨h11, h21, h13⟩
      have h23 : is_X k A ws (q) h_now_told_pl h_now_told_sz h_now_inUse_pl h_now_inUse_sz h_now_draw h_kn h_size k_now_told_pl k_now_told_sz k_now_inUse_pl k_now_inUse_sz k_now_draw k_kn k_size v_sent v_sentI v_best v_ease v_fromA v_vi_pl v_vi_sz v_vl_pl v_vl_sz t_letters t_tt_pl t_tt_sz t_size t_place t_number sh hasImage viewIsOld := ⟨h5, h22, h7, h8, h9, h10⟩
      exact W.iret (v := r19) hx hb hr (qw_end hS hP hD ⟨h23, hsm⟩) hS.2.2 dX6_prefix_60
    have hf := it_n c4 hf
    by_cases c24 : p2 = 1
    · have hf := it_p c24 hf
      refine lv_tableIn (tgt := 61) hx hb dX6_prefix_10 (by rw [c24]; decide) (by rw [c24]; decide) (by rw [c24]; rfl) (by decide) ?_
      refine lv_aload_n hx hb dX6_prefix_61 rfl (lv_at hl 0 rfl) ?_
      obtain ⟨h25, h26, h27, h28, h29, h30⟩ := h_this
      obtain ⟨h31, h32, h33⟩ := h26
      obtain ⟨h34, h35, h36⟩ := h32
      refine ks_r (va_runV (As := []) (rest := []) hcf (cz_X6_installed l D k A ws (q) hasImage viewIsOld h_size h_now_draw h25 h31 h34) (cwV 0 hts gX6_prefix_X6_installed rfl rfl rfl (by decide +kernel) ⟨Nat.le_of_ble_eq_true rfl, Nat.le_of_ble_eq_true rfl⟩) (pw_V hP hK hD (ci := 6) h25 rfl) rfl rfl hl.1 rfl (lv_room (Nat.le_of_ble_eq_true rfl)) dX6_prefix_62 ⟨Nat.zero_le _, Nat.zero_le _⟩) ?_
      refine lv_iload_n hx hb dX6_prefix_65 rfl (lv_at hl 1 rfl) ?_
      obtain ⟨r39, h40, hf⟩ := bd_s hf
      refine ks_i (va_runV (As := [.int p1]) (rest := []) hcf (cz_X3_hopAt l D k A ws (q + 1 + 1 + 3) h_now_inUse_pl h_now_inUse_sz p1 r39 h40 h36) (cwV 1 hts gX6_prefix_X3_hopAt rfl rfl rfl (by decide +kernel) ⟨Nat.le_of_ble_eq_true rfl, Nat.le_of_ble_eq_true rfl⟩) (pw_V hP hK hD (ci := 3) h36.1 rfl) rfl rfl hl.1 rfl (lv_room (Nat.le_of_ble_eq_true rfl)) dX6_prefix_66 ⟨Nat.zero_le _, Nat.zero_le _⟩) ?_
      obtain rfl := so_i hf
      have h41 : is_M k A ws (q + 1 + 1) h_now_told_pl h_now_told_sz h_now_inUse_pl h_now_inUse_sz h_now_draw := ⟨h34, h35, h36⟩
      have h42 : is_H k A ws (q + 1) h_now_told_pl h_now_told_sz h_now_inUse_pl h_now_inUse_sz h_now_draw h_kn h_size := ⟨h31, h41, h33⟩
      have h43 : is_X k A ws (q) h_now_told_pl h_now_told_sz h_now_inUse_pl h_now_inUse_sz h_now_draw h_kn h_size k_now_told_pl k_now_told_sz k_now_inUse_pl k_now_inUse_sz k_now_draw k_kn k_size v_sent v_sentI v_best v_ease v_fromA v_vi_pl v_vi_sz v_vl_pl v_vl_sz t_letters t_tt_pl t_tt_sz t_size t_place t_number sh hasImage viewIsOld := ⟨h25, h42, h27, h28, h29, h30⟩
      exact W.iret (v := r39) hx hb hr (qw_end hS hP hD ⟨h43, hsm⟩) hS.2.2 dX6_prefix_69
    have hf := it_n c24 hf
    by_cases c44 : p2 = 2
    · have hf := it_p c44 hf
      refine lv_tableIn (tgt := 70) hx hb dX6_prefix_10 (by rw [c44]; decide) (by rw [c44]; decide) (by rw [c44]; rfl) (by decide) ?_
      refine lv_aload_n hx hb dX6_prefix_70 rfl (lv_at hl 0 rfl) ?_
      obtain ⟨r45, h46, hf⟩ := bd_s hf
      refine kw_r (va_runV (As := []) (rest := []) hcf (cz_X6_freshView l D k A ws (q) h_now_told_pl h_now_told_sz h_now_inUse_pl h_now_inUse_sz h_now_draw h_kn h_size k_now_told_pl k_now_told_sz k_now_inUse_pl k_now_inUse_sz k_now_draw k_kn k_size v_sent v_sentI v_best v_ease v_fromA v_vi_pl v_vi_sz v_vl_pl v_vl_sz t_letters t_tt_pl t_tt_sz t_size t_place t_number sh hasImage viewIsOld r45 h46 h_this _) (cwV 0 hts gX6_prefix_X6_freshView rfl rfl rfl (by decide +kernel) ⟨Nat.le_of_ble_eq_true rfl, Nat.le_of_ble_eq_true rfl⟩) (px_V hP hK hD (ci := 6) h_this.1 rfl) rfl rfl hl.1 rfl (lv_room (Nat.le_of_ble_eq_true rfl)) dX6_prefix_71 ⟨Nat.zero_le _, Nat.zero_le _⟩) hD hS hA (fun u47 _ _ h48 hP hD hS => ?_)
      obtain ⟨h50, m49⟩ := h48
      have hsm := sm_tr hsm m49 (by omega) (by omega)
      obtain ⟨h51, h52, h53, h54, h55, h56⟩ := h50
      obtain ⟨h57, h58, h59, h60, h61, h62, h63, h64⟩ := h54
      refine ks_r (va_runV (As := []) (rest := []) hcf (cz_X5_leastTable l D k A u47 (q + 75) h57) (cwV 0 hts gX6_prefix_X5_leastTable rfl rfl rfl (by decide +kernel) ⟨Nat.le_of_ble_eq_true rfl, Nat.le_of_ble_eq_true rfl⟩) (pw_V hP hK hD (ci := 5) h57 rfl) rfl rfl hl.1 rfl (lv_room (Nat.le_of_ble_eq_true rfl)) dX6_prefix_74 ⟨Nat.zero_le _, Nat.zero_le _⟩) ?_
      refine lv_iload_n hx hb dX6_prefix_77 rfl (lv_at hl 1 rfl) ?_
      obtain ⟨r67, h68, hf⟩ := bd_s hf
      refine ks_i (va_runV (As := [.int p1]) (rest := []) hcf (cz_X3_hopAt l D k A u47 (q + 75 + 8) r45.2.2.2.2.2.2.2.1 r45.2.2.2.2.2.2.2.2.1 p1 r67 h68 h64) (cwV 1 hts gX6_prefix_X3_hopAt rfl rfl rfl (by decide +kernel) ⟨Nat.le_of_ble_eq_true rfl, Nat.le_of_ble_eq_true rfl⟩) (pw_V hP hK hD (ci := 3) h64.1 rfl) rfl rfl hl.1 rfl (lv_room (Nat.le_of_ble_eq_true rfl)) dX6_prefix_78 ⟨Nat.zero_le _, Nat.zero_le _⟩) ?_
      obtain rfl := so_i hf
      have h69 : is_V k A u47 (q + 75) r45.1 r45.2.1 r45.2.2.1 r45.2.2.2.1 r45.2.2.2.2.1 r45.2.2.2.2.2.1 r45.2.2.2.2.2.2.1 r45.2.2.2.2.2.2.2.1 r45.2.2.2.2.2.2.2.2.1 := ⟨h57, h58, h59, h60, h61, h62, h63, h64⟩
      have h70 : is_X k A u47 (q) h_now_told_pl h_now_told_sz h_now_inUse_pl h_now_inUse_sz h_now_draw h_kn h_size k_now_told_pl k_now_told_sz k_now_inUse_pl k_now_inUse_sz k_now_draw k_kn k_size r45.1 r45.2.1 r45.2.2.1 r45.2.2.2.1 r45.2.2.2.2.1 r45.2.2.2.2.2.1 r45.2.2.2.2.2.2.1 r45.2.2.2.2.2.2.2.1 r45.2.2.2.2.2.2.2.2.1 t_letters t_tt_pl t_tt_sz t_size t_place t_number sh hasImage r45.2.2.2.2.2.2.2.2.2 := ⟨h51, h52, h53, h69, h55, h56⟩
      exact W.iret (v := r67) hx hb hr (qw_end hS hP hD ⟨h70, hsm⟩) hS.2.2 dX6_prefix_81
    have hf := it_n c44 hf
    by_cases c71 : p2 = 3
    · have hf := it_p c71 hf
      refine lv_tableIn (tgt := 82) hx hb dX6_prefix_10 (by rw [c71]; decide) (by rw [c71]; decide) (by rw [c71]; rfl) (by decide) ?_
      refine lv_aload_n hx hb dX6_prefix_82 rfl (lv_at hl 0 rfl) ?_
      obtain ⟨r72, h73, hf⟩ := bd_s hf
      refine kw_r (va_runV (As := []) (rest := []) hcf (cz_X6_freshView l D k A ws (q) h_now_told_pl h_now_told_sz h_now_inUse_pl h_now_inUse_sz h_now_draw h_kn h_size k_now_told_pl k_now_told_sz k_now_inUse_pl k_now_inUse_sz k_now_draw k_kn k_size v_sent v_sentI v_best v_ease v_fromA v_vi_pl v_vi_sz v_vl_pl v_vl_sz t_letters t_tt_pl t_tt_sz t_size t_place t_number sh hasImage viewIsOld r72 h73 h_this _) (cwV 0 hts gX6_prefix_X6_freshView rfl rfl rfl (by decide +kernel) ⟨Nat.le_of_ble_eq_true rfl, Nat.le_of_ble_eq_true rfl⟩) (px_V hP hK hD (ci := 6) h_this.1 rfl) rfl rfl hl.1 rfl (lv_room (Nat.le_of_ble_eq_true rfl)) dX6_prefix_83 ⟨Nat.zero_le _, Nat.zero_le _⟩) hD hS hA (fun u74 _ _ h75 hP hD hS => ?_)
      obtain ⟨h77, m76⟩ := h75
      have hsm := sm_tr hsm m76 (by omega) (by omega)
      refine lv_iload_n hx hb dX6_prefix_86 rfl (lv_at hl 1 rfl) ?_
      obtain ⟨h78, h79, h80, h81, h82, h83⟩ := h77
      obtain ⟨r84, h85, hf⟩ := bd_s hf
      refine ks_i (va_runV (As := [.int p1]) (rest := []) hcf (cz_X5_bestHops l D k A u74 (q + 75) r72.1 r72.2.1 r72.2.2.1 r72.2.2.2.1 r72.2.2.2.2.1 r72.2.2.2.2.2.1 r72.2.2.2.2.2.2.1 r72.2.2.2.2.2.2.2.1 r72.2.2.2.2.2.2.2.2.1 p1 r84 h85 h81) (cwV 1 hts gX6_prefix_X5_bestHops rfl rfl rfl (by decide +kernel) ⟨Nat.le_of_ble_eq_true rfl, Nat.le_of_ble_eq_true rfl⟩) (pw_V hP hK hD (ci := 5) h81.1 rfl) rfl rfl hl.1 rfl (lv_room (Nat.le_of_ble_eq_true rfl)) dX6_prefix_87 ⟨Nat.zero_le _, Nat.zero_le _⟩) ?_
      obtain rfl := so_i hf
      have h86 : is_X k A u74 (q) h_now_told_pl h_now_told_sz h_now_inUse_pl h_now_inUse_sz h_now_draw h_kn h_size k_now_told_pl k_now_told_sz k_now_inUse_pl k_now_inUse_sz k_now_draw k_kn k_size r72.1 r72.2.1 r72.2.2.1 r72.2.2.2.1 r72.2.2.2.2.1 r72.2.2.2.2.2.1 r72.2.2.2.2.2.2.1 r72.2.2.2.2.2.2.2.1 r72.2.2.2.2.2.2.2.2.1 t_letters t_tt_pl t_tt_sz t_size t_place t_number sh hasImage r72.2.2.2.2.2.2.2.2.2 := ⟨h78, h79, h80, h81, h82, h83⟩
      exact W.iret (v := r84) hx hb hr (qw_end hS hP hD ⟨h86, hsm⟩) hS.2.2 dX6_prefix_90
    have hf := it_n c71 hf
    by_cases c87 : p2 = 4
    · have hf := it_p c87 hf
      refine lv_tableIn (tgt := 91) hx hb dX6_prefix_10 (by rw [c87]; decide) (by rw [c87]; decide) (by rw [c87]; rfl) (by decide) ?_
      refine lv_aload_n hx hb dX6_prefix_91 rfl (lv_at hl 0 rfl) ?_
      obtain ⟨r88, h89, hf⟩ := bd_s hf
      refine kw_r (va_runV (As := []) (rest := []) hcf (cz_X6_freshView l D k A ws (q) h_now_told_pl h_now_told_sz h_now_inUse_pl h_now_inUse_sz h_now_draw h_kn h_size k_now_told_pl k_now_told_sz k_now_inUse_pl k_now_inUse_sz k_now_draw k_kn k_size v_sent v_sentI v_best v_ease v_fromA v_vi_pl v_vi_sz v_vl_pl v_vl_sz t_letters t_tt_pl t_tt_sz t_size t_place t_number sh hasImage viewIsOld r88 h89 h_this _) (cwV 0 hts gX6_prefix_X6_freshView rfl rfl rfl (by decide +kernel) ⟨Nat.le_of_ble_eq_true rfl, Nat.le_of_ble_eq_true rfl⟩) (px_V hP hK hD (ci := 6) h_this.1 rfl) rfl rfl hl.1 rfl (lv_room (Nat.le_of_ble_eq_true rfl)) dX6_prefix_92 ⟨Nat.zero_le _, Nat.zero_le _⟩) hD hS hA (fun u90 _ _ h91 hP hD hS => ?_)
      obtain ⟨h93, m92⟩ := h91
      have hsm := sm_tr hsm m92 (by omega) (by omega)
      refine lv_iload_n hx hb dX6_prefix_95 rfl (lv_at hl 1 rfl) ?_
      obtain ⟨h94, h95, h96, h97, h98, h99⟩ := h93
      obtain ⟨r100, h101, hf⟩ := bd_s hf
      refine ks_i (va_runV (As := [.int p1]) (rest := []) hcf (cz_X5_easeOf l D k A u90 (q + 75) r88.1 r88.2.1 r88.2.2.1 r88.2.2.2.1 r88.2.2.2.2.1 r88.2.2.2.2.2.1 r88.2.2.2.2.2.2.1 r88.2.2.2.2.2.2.2.1 r88.2.2.2.2.2.2.2.2.1 p1 r100 h101 h97) (cwV 1 hts gX6_prefix_X5_easeOf rfl rfl rfl (by decide +kernel) ⟨Nat.le_of_ble_eq_true rfl, Nat.le_of_ble_eq_true rfl⟩) (pw_V hP hK hD (ci := 5) h97.1 rfl) rfl rfl hl.1 rfl (lv_room (Nat.le_of_ble_eq_true rfl)) dX6_prefix_96 ⟨Nat.zero_le _, Nat.zero_le _⟩) ?_
      obtain rfl := so_i hf
      have h102 : is_X k A u90 (q) h_now_told_pl h_now_told_sz h_now_inUse_pl h_now_inUse_sz h_now_draw h_kn h_size k_now_told_pl k_now_told_sz k_now_inUse_pl k_now_inUse_sz k_now_draw k_kn k_size r88.1 r88.2.1 r88.2.2.1 r88.2.2.2.1 r88.2.2.2.2.1 r88.2.2.2.2.2.1 r88.2.2.2.2.2.2.1 r88.2.2.2.2.2.2.2.1 r88.2.2.2.2.2.2.2.2.1 t_letters t_tt_pl t_tt_sz t_size t_place t_number sh hasImage r88.2.2.2.2.2.2.2.2.2 := ⟨h94, h95, h96, h97, h98, h99⟩
      exact W.iret (v := r100) hx hb hr (qw_end hS hP hD ⟨h102, hsm⟩) hS.2.2 dX6_prefix_99
    have hf := it_n c87 hf
    by_cases c103 : p2 = 5
    · have hf := it_p c103 hf
      refine lv_tableIn (tgt := 100) hx hb dX6_prefix_10 (by rw [c103]; decide) (by rw [c103]; decide) (by rw [c103]; rfl) (by decide) ?_
      refine lv_aload_n hx hb dX6_prefix_100 rfl (lv_at hl 0 rfl) ?_
      obtain ⟨r104, h105, hf⟩ := bd_s hf
      refine kw_r (va_runV (As := []) (rest := []) hcf (cz_X6_freshView l D k A ws (q) h_now_told_pl h_now_told_sz h_now_inUse_pl h_now_inUse_sz h_now_draw h_kn h_size k_now_told_pl k_now_told_sz k_now_inUse_pl k_now_inUse_sz k_now_draw k_kn k_size v_sent v_sentI v_best v_ease v_fromA v_vi_pl v_vi_sz v_vl_pl v_vl_sz t_letters t_tt_pl t_tt_sz t_size t_place t_number sh hasImage viewIsOld r104 h105 h_this _) (cwV 0 hts gX6_prefix_X6_freshView rfl rfl rfl (by decide +kernel) ⟨Nat.le_of_ble_eq_true rfl, Nat.le_of_ble_eq_true rfl⟩) (px_V hP hK hD (ci := 6) h_this.1 rfl) rfl rfl hl.1 rfl (lv_room (Nat.le_of_ble_eq_true rfl)) dX6_prefix_101 ⟨Nat.zero_le _, Nat.zero_le _⟩) hD hS hA (fun u106 _ _ h107 hP hD hS => ?_)
      obtain ⟨h109, m108⟩ := h107
      have hsm := sm_tr hsm m108 (by omega) (by omega)
      refine lv_iload_n hx hb dX6_prefix_104 rfl (lv_at hl 1 rfl) ?_
      obtain ⟨h110, h111, h112, h113, h114, h115⟩ := h109
      obtain ⟨r116, h117, hf⟩ := bd_s hf
      refine ks_i (va_runV (As := [.int p1]) (rest := []) hcf (cz_X5_hopsBeneath l D k A u106 (q + 75) r104.1 r104.2.1 r104.2.2.1 r104.2.2.2.1 r104.2.2.2.2.1 r104.2.2.2.2.2.1 r104.2.2.2.2.2.2.1 r104.2.2.2.2.2.2.2.1 r104.2.2.2.2.2.2.2.2.1 p1 r116 h117 h113) (cwV 1 hts gX6_prefix_X5_hopsBeneath rfl rfl rfl (by decide +kernel) ⟨Nat.le_of_ble_eq_true rfl, Nat.le_of_ble_eq_true rfl⟩) (pw_V hP hK hD (ci := 5) h113.1 rfl) rfl rfl hl.1 rfl (lv_room (Nat.le_of_ble_eq_true rfl)) dX6_prefix_105 ⟨Nat.zero_le _, Nat.zero_le _⟩) ?_
      obtain rfl := so_i hf
      have h118 : is_X k A u106 (q) h_now_told_pl h_now_told_sz h_now_inUse_pl h_now_inUse_sz h_now_draw h_kn h_size k_now_told_pl k_now_told_sz k_now_inUse_pl k_now_inUse_sz k_now_draw k_kn k_size r104.1 r104.2.1 r104.2.2.1 r104.2.2.2.1 r104.2.2.2.2.1 r104.2.2.2.2.2.1 r104.2.2.2.2.2.2.1 r104.2.2.2.2.2.2.2.1 r104.2.2.2.2.2.2.2.2.1 t_letters t_tt_pl t_tt_sz t_size t_place t_number sh hasImage r104.2.2.2.2.2.2.2.2.2 := ⟨h110, h111, h112, h113, h114, h115⟩
      exact W.iret (v := r116) hx hb hr (qw_end hS hP hD ⟨h118, hsm⟩) hS.2.2 dX6_prefix_108
    have hf := it_n c103 hf
    by_cases c119 : p2 = 6
    · have hf := it_p c119 hf
      refine lv_tableIn (tgt := 109) hx hb dX6_prefix_10 (by rw [c119]; decide) (by rw [c119]; decide) (by rw [c119]; rfl) (by decide) ?_
      refine lv_aload_n hx hb dX6_prefix_109 rfl (lv_at hl 0 rfl) ?_
      obtain ⟨h120, h121, h122, h123, h124, h125⟩ := h_this
      obtain ⟨h126, h127, h128⟩ := h121
      obtain ⟨h129, h130, h131⟩ := h127
      refine ks_r (va_runV (As := []) (rest := []) hcf (cz_X6_table l D k A ws (q) hasImage viewIsOld h_size h_now_draw h120 h126 h129) (cwV 0 hts gX6_prefix_X6_table rfl rfl rfl (by decide +kernel) ⟨Nat.le_of_ble_eq_true rfl, Nat.le_of_ble_eq_true rfl⟩) (pw_V hP hK hD (ci := 6) h120 rfl) rfl rfl hl.1 rfl (lv_room (Nat.le_of_ble_eq_true rfl)) dX6_prefix_110 ⟨Nat.zero_le _, Nat.zero_le _⟩) ?_
      refine lv_iload_n hx hb dX6_prefix_113 rfl (lv_at hl 1 rfl) ?_
      obtain ⟨r134, h135, hf⟩ := bd_s hf
      refine ks_i (va_runV (As := [.int p1]) (rest := []) hcf (cz_X3_redundancyOf l D k A ws (q + 1 + 1 + 1) h_now_told_pl h_now_told_sz p1 r134 h135 h130) (cwV 1 hts gX6_prefix_X3_redundancyOf rfl rfl rfl (by decide +kernel) ⟨Nat.le_of_ble_eq_true rfl, Nat.le_of_ble_eq_true rfl⟩) (pw_V hP hK hD (ci := 3) h130.1 rfl) rfl rfl hl.1 rfl (lv_room (Nat.le_of_ble_eq_true rfl)) dX6_prefix_114 ⟨Nat.zero_le _, Nat.zero_le _⟩) ?_
      obtain rfl := so_i hf
      have h136 : is_M k A ws (q + 1 + 1) h_now_told_pl h_now_told_sz h_now_inUse_pl h_now_inUse_sz h_now_draw := ⟨h129, h130, h131⟩
      have h137 : is_H k A ws (q + 1) h_now_told_pl h_now_told_sz h_now_inUse_pl h_now_inUse_sz h_now_draw h_kn h_size := ⟨h126, h136, h128⟩
      have h138 : is_X k A ws (q) h_now_told_pl h_now_told_sz h_now_inUse_pl h_now_inUse_sz h_now_draw h_kn h_size k_now_told_pl k_now_told_sz k_now_inUse_pl k_now_inUse_sz k_now_draw k_kn k_size v_sent v_sentI v_best v_ease v_fromA v_vi_pl v_vi_sz v_vl_pl v_vl_sz t_letters t_tt_pl t_tt_sz t_size t_place t_number sh hasImage viewIsOld := ⟨h120, h137, h122, h123, h124, h125⟩
      exact W.iret (v := r134) hx hb hr (qw_end hS hP hD ⟨h138, hsm⟩) hS.2.2 dX6_prefix_117
    have hf := it_n c119 hf
    refine lv_tableOut (tgt := 118) hx hb dX6_prefix_10 (sw_0_6 c4 c24 c44 c71 c87 c103 c119) (by decide) ?_
    refine lv_iconst (v := (-1)) hx hb dX6_prefix_118 (by decide) ?_
    obtain rfl := so_i hf
    exact W.iret (v := (-1)) hx hb hr (qw_end hS hP hD ⟨h_this, hsm⟩) hS.2.2 dX6_prefix_119
  · have hf := it_p c3 hf
    refine lv_iconst (v := (-1)) hx hb dX6_prefix_7 (by decide) ?_
    obtain rfl := so_i hf
    exact W.iret (v := (-1)) hx hb hr (qw_end hS hP hD ⟨h_this, hsm⟩) hS.2.2 dX6_prefix_8

def pf_X6_cost (h_now_told_pl : Nat → Int64) (h_now_inUse_pl : Nat → Int64) (h_now_inUse_sz : Int32) (v_sent : Nat → Int32) (v_sentI : Nat → Int32) (v_best : Nat → Int32) (v_ease : Nat → Int32) (v_fromA : Nat → Int32) (v_vi_pl : Nat → Int64) (v_vi_sz : Int32) (v_vl_pl : Nat → Int64) (v_vl_sz : Int32) (viewIsOld : Int32)  (p1 : Int32) (p2 : Int32) : Option (Int32 × (Nat → Int32) × (Nat → Int32) × (Nat → Int32) × (Nat → Int32) × (Nat → Int32) × (Nat → Int64) × Int32 × (Nat → Int64) × Int32 × Int32) :=
  (pf_X6_isPrefix p1).bind (fun r1 =>
    if r1 = 0 then
      some ((-1), v_sent, v_sentI, v_best, v_ease, v_fromA, v_vi_pl, v_vi_sz, v_vl_pl, v_vl_sz, viewIsOld)
    else
      (pf_X6_isHop p2).bind (fun r4 =>
        if r4 = 0 then
          some ((-1), v_sent, v_sentI, v_best, v_ease, v_fromA, v_vi_pl, v_vi_sz, v_vl_pl, v_vl_sz, viewIsOld)
        else
          (pf_X6_freshView h_now_told_pl h_now_inUse_pl h_now_inUse_sz v_sent v_sentI v_best v_ease v_fromA v_vi_pl v_vi_sz v_vl_pl v_vl_sz viewIsOld).bind (fun r7 =>
            (pf_X5_costBy r7.2.2.1 r7.2.2.2.1 p1 p2).bind (fun r19 =>
              some (r19, r7.1, r7.2.1, r7.2.2.1, r7.2.2.2.1, r7.2.2.2.2.1, r7.2.2.2.2.2.1, r7.2.2.2.2.2.2.1, r7.2.2.2.2.2.2.2.1, r7.2.2.2.2.2.2.2.2.1, r7.2.2.2.2.2.2.2.2.2)))))

set_option maxHeartbeats 4000000 in
set_option maxRecDepth 100000 in
theorem cz_X6_cost (l : Launch) (D : va_G) (k : kt_T) (A : Nat → Nat) (ws : va_W) (q : Nat)  (h_now_told_pl : Nat → Int64) (h_now_told_sz : Int32) (h_now_inUse_pl : Nat → Int64) (h_now_inUse_sz : Int32) (h_now_draw : Int32) (h_kn : Nat → mm_T) (h_size : Int32) (k_now_told_pl : Nat → Int64) (k_now_told_sz : Int32) (k_now_inUse_pl : Nat → Int64) (k_now_inUse_sz : Int32) (k_now_draw : Int32) (k_kn : Nat → mm_T) (k_size : Int32) (v_sent : Nat → Int32) (v_sentI : Nat → Int32) (v_best : Nat → Int32) (v_ease : Nat → Int32) (v_fromA : Nat → Int32) (v_vi_pl : Nat → Int64) (v_vi_sz : Int32) (v_vl_pl : Nat → Int64) (v_vl_sz : Int32) (t_letters : Nat → Int32) (t_tt_pl : Nat → Int64) (t_tt_sz : Int32) (t_size : Int32) (t_place : Int32) (t_number : Int32) (sh : Nat → ss_T) (hasImage : Int32) (viewIsOld : Int32) (p1 : Int32) (p2 : Int32) (out : Int32 × (Nat → Int32) × (Nat → Int32) × (Nat → Int32) × (Nat → Int32) × (Nat → Int32) × (Nat → Int64) × Int32 × (Nat → Int64) × Int32 × Int32) (hf : pf_X6_cost h_now_told_pl h_now_inUse_pl h_now_inUse_sz v_sent v_sentI v_best v_ease v_fromA v_vi_pl v_vi_sz v_vl_pl v_vl_sz viewIsOld p1 p2 = some out) (h_this : is_X k A ws q h_now_told_pl h_now_told_sz h_now_inUse_pl h_now_inUse_sz h_now_draw h_kn h_size k_now_told_pl k_now_told_sz k_now_inUse_pl k_now_inUse_sz k_now_draw k_kn k_size v_sent v_sentI v_best v_ease v_fromA v_vi_pl v_vi_sz v_vl_pl v_vl_sz t_letters t_tt_pl t_tt_sz t_size t_place t_number sh hasImage viewIsOld)  (sz0 : Nat) : Met l yX6_cost wsX6_cost { frames := 5, cells := 0, slots := 0, locals := 123 } (va_Pc [.ref (A q), .int p1, .int p2] (px_P D k ws sz0)) (qw_Q D ws sz0 (some (.int out.1)) (fun u => is_X k A u q h_now_told_pl h_now_told_sz h_now_inUse_pl h_now_inUse_sz h_now_draw h_kn h_size k_now_told_pl k_now_told_sz k_now_inUse_pl k_now_inUse_sz k_now_draw k_kn k_size out.2.1 out.2.2.1 out.2.2.2.1 out.2.2.2.2.1 out.2.2.2.2.2.1 out.2.2.2.2.2.2.1 out.2.2.2.2.2.2.2.1 out.2.2.2.2.2.2.2.2.1 out.2.2.2.2.2.2.2.2.2.1 t_letters t_tt_pl t_tt_sz t_size t_place t_number sh hasImage out.2.2.2.2.2.2.2.2.2.2 ∧ sm_W ws u q (q + 98))) 0 0 (va_A ws sz0) := by
  refine Met.ofW (cc := cX6_cost) (maxL := 3) (ret := (some .int)) (by decide) rfl ?_
  intro p e s m args below meth c s₁ B hml hv
  obtain ⟨rfl, hsz, hP, hK, hD0⟩ := hv
  subst hsz
  have hD := hD0.self (sz := s.heap.size)
  have C0 : cx_P p s m meth c [.ref (A q), .int p1, .int p2].toArray cX6_cost 3 wsX6_cost RX6 (some .int) := ⟨B.exec, B.bytes, hml, findClass_of_methodNamed B.named, atoms_spec (ws := wsX6_cost) B.pre, B.returns, B.notSynchronized⟩
  obtain ⟨hx, hb, hml, hown, hts, hr, hlocks⟩ := id C0
  have hcf : CallFix p m c cX6_cost 3 s [.ref (A q), .int p1, .int p2].toArray wsX6_cost RX6 := ⟨hx, hb, hml, hown, hts⟩
  have hA : ∀ q, s.heap.size ≤ q → va_A ws s.heap.size q := fun q h => Or.inr h
  have hS : va_S (va_A ws s.heap.size) s.heap s.heap [] := va_S.rf
  have hsm : sm_W ws ws q (q + 98) := sm_rf
  have hl := lv_entry ([.ref (A q), .int p1, .int p2]) (n := 3) (Nat.le_of_ble_eq_true rfl)
  rw [lg_entry_eq]
  generalize (lg_sl ([.ref (A q), .int p1, .int p2]) ++ List.replicate (3 - (lg_sl ([.ref (A q), .int p1, .int p2])).length) Slot.unset).toArray = ls at hl ⊢
  have hl : lv_has ls 3 [(0, .ref (A q)), (1, .int p1), (2, .int p2)] := hl
  unfold pf_X6_cost at hf
  refine lv_iload_n hx hb dX6_cost_0 rfl (lv_at hl 1 rfl) ?_
  obtain ⟨r1, h2, hf⟩ := bd_s hf
  refine ks_i (va_runS (As := [.int p1]) (rest := []) hcf (cz_X6_isPrefix l D k A ws p1 r1 h2) (va_cwS 1 hts gX6_cost_X6_isPrefix rfl rfl rfl (by decide +kernel) ⟨Nat.le_of_ble_eq_true rfl, Nat.le_of_ble_eq_true rfl⟩) (pw_S hP hK hD) rfl rfl hl.1 rfl (lv_room (Nat.le_of_ble_eq_true rfl)) dX6_cost_1 ⟨Nat.zero_le _, Nat.zero_le _⟩) ?_
  refine lv_if_eq (tgt := 14) hx hb dX6_cost_4 (by decide) (fun c3 => ?_) (fun c3 => ?_)
  · have hf := it_p c3 hf
    refine lv_iconst (v := (-1)) hx hb dX6_cost_14 (by decide) ?_
    obtain rfl := so_i hf
    exact W.iret (v := (-1)) hx hb hr (qw_end hS hP hD ⟨h_this, hsm⟩) hS.2.2 dX6_cost_15
  · have hf := it_n c3 hf
    refine lv_iload_n hx hb dX6_cost_7 rfl (lv_at hl 2 rfl) ?_
    obtain ⟨r4, h5, hf⟩ := bd_s hf
    refine ks_i (va_runS (As := [.int p2]) (rest := []) hcf (cz_X6_isHop l D k A ws p2 r4 h5) (va_cwS 1 hts gX6_cost_X6_isHop rfl rfl rfl (by decide +kernel) ⟨Nat.le_of_ble_eq_true rfl, Nat.le_of_ble_eq_true rfl⟩) (pw_S hP hK hD) rfl rfl hl.1 rfl (lv_room (Nat.le_of_ble_eq_true rfl)) dX6_cost_8 ⟨Nat.zero_le _, Nat.zero_le _⟩) ?_
    refine lv_if_ne (tgt := 16) hx hb dX6_cost_11 (by decide) (fun c6 => ?_) (fun c6 => ?_)
    · have hf := it_n c6 hf
      refine lv_aload_n hx hb dX6_cost_16 rfl (lv_at hl 0 rfl) ?_
      obtain ⟨r7, h8, hf⟩ := bd_s hf
      refine kw_r (va_runV (As := []) (rest := []) hcf (cz_X6_freshView l D k A ws (q) h_now_told_pl h_now_told_sz h_now_inUse_pl h_now_inUse_sz h_now_draw h_kn h_size k_now_told_pl k_now_told_sz k_now_inUse_pl k_now_inUse_sz k_now_draw k_kn k_size v_sent v_sentI v_best v_ease v_fromA v_vi_pl v_vi_sz v_vl_pl v_vl_sz t_letters t_tt_pl t_tt_sz t_size t_place t_number sh hasImage viewIsOld r7 h8 h_this _) (cwV 0 hts gX6_cost_X6_freshView rfl rfl rfl (by decide +kernel) ⟨Nat.le_of_ble_eq_true rfl, Nat.le_of_ble_eq_true rfl⟩) (px_V hP hK hD (ci := 6) h_this.1 rfl) rfl rfl hl.1 rfl (lv_room (Nat.le_of_ble_eq_true rfl)) dX6_cost_17 ⟨Nat.zero_le _, Nat.zero_le _⟩) hD hS hA (fun u9 _ _ h10 hP hD hS => ?_)
      obtain ⟨h12, m11⟩ := h10
      have hsm := sm_tr hsm m11 (by omega) (by omega)
      refine lv_iload_n hx hb dX6_cost_20 rfl (lv_at hl 1 rfl) ?_
      refine lv_iload_n hx hb dX6_cost_21 rfl (lv_at hl 2 rfl) ?_
      obtain ⟨h13, h14, h15, h16, h17, h18⟩ := h12
      obtain ⟨r19, h20, hf⟩ := bd_s hf
      refine ks_i (va_runV (As := [.int p1, .int p2]) (rest := []) hcf (cz_X5_costBy l D k A u9 (q + 75) r7.1 r7.2.1 r7.2.2.1 r7.2.2.2.1 r7.2.2.2.2.1 r7.2.2.2.2.2.1 r7.2.2.2.2.2.2.1 r7.2.2.2.2.2.2.2.1 r7.2.2.2.2.2.2.2.2.1 p1 p2 r19 h20 h16) (cwV 2 hts gX6_cost_X5_costBy rfl rfl rfl (by decide +kernel) ⟨Nat.le_of_ble_eq_true rfl, Nat.le_of_ble_eq_true rfl⟩) (pw_V hP hK hD (ci := 5) h16.1 rfl) rfl rfl hl.1 rfl (lv_room (Nat.le_of_ble_eq_true rfl)) dX6_cost_22 ⟨Nat.zero_le _, Nat.zero_le _⟩) ?_
      obtain rfl := so_i hf
      have h21 : is_X k A u9 (q) h_now_told_pl h_now_told_sz h_now_inUse_pl h_now_inUse_sz h_now_draw h_kn h_size k_now_told_pl k_now_told_sz k_now_inUse_pl k_now_inUse_sz k_now_draw k_kn k_size r7.1 r7.2.1 r7.2.2.1 r7.2.2.2.1 r7.2.2.2.2.1 r7.2.2.2.2.2.1 r7.2.2.2.2.2.2.1 r7.2.2.2.2.2.2.2.1 r7.2.2.2.2.2.2.2.2.1 t_letters t_tt_pl t_tt_sz t_size t_place t_number sh hasImage r7.2.2.2.2.2.2.2.2.2 := ⟨h13, h14, h15, h16, h17, h18⟩
      exact W.iret (v := r19) hx hb hr (qw_end hS hP hD ⟨h21, hsm⟩) hS.2.2 dX6_cost_25
    · have hf := it_p c6 hf
      refine lv_iconst (v := (-1)) hx hb dX6_cost_14 (by decide) ?_
      obtain rfl := so_i hf
      exact W.iret (v := (-1)) hx hb hr (qw_end hS hP hD ⟨h_this, hsm⟩) hS.2.2 dX6_cost_15

def pf_X6_least (h_now_told_pl : Nat → Int64) (h_now_inUse_pl : Nat → Int64) (h_now_inUse_sz : Int32) (v_sent : Nat → Int32) (v_sentI : Nat → Int32) (v_best : Nat → Int32) (v_ease : Nat → Int32) (v_fromA : Nat → Int32) (v_vi_pl : Nat → Int64) (v_vi_sz : Int32) (v_vl_pl : Nat → Int64) (v_vl_sz : Int32) (viewIsOld : Int32)  (p1 : Int32) (p2 : Int32) : Option (Int32 × (Nat → Int32) × (Nat → Int32) × (Nat → Int32) × (Nat → Int32) × (Nat → Int32) × (Nat → Int64) × Int32 × (Nat → Int64) × Int32 × Int32) :=
  if p1 < 0 then
    some ((-1), v_sent, v_sentI, v_best, v_ease, v_fromA, v_vi_pl, v_vi_sz, v_vl_pl, v_vl_sz, viewIsOld)
  else
    if p2 < 0 then
      some ((-1), v_sent, v_sentI, v_best, v_ease, v_fromA, v_vi_pl, v_vi_sz, v_vl_pl, v_vl_sz, viewIsOld)
    else
      if p2 ≤ 1 then
        (pf_X6_freshView h_now_told_pl h_now_inUse_pl h_now_inUse_sz v_sent v_sentI v_best v_ease v_fromA v_vi_pl v_vi_sz v_vl_pl v_vl_sz viewIsOld).bind (fun r4 =>
          (pf_X3_numberOf r4.2.2.2.2.2.2.2.1 p1).bind (fun r26 =>
            if r26 = (-4) then
              some ((-4), r4.1, r4.2.1, r4.2.2.1, r4.2.2.2.1, r4.2.2.2.2.1, r4.2.2.2.2.2.1, r4.2.2.2.2.2.2.1, r4.2.2.2.2.2.2.2.1, r4.2.2.2.2.2.2.2.2.1, r4.2.2.2.2.2.2.2.2.2)
            else
              if p2 = 0 then
                some (r26, r4.1, r4.2.1, r4.2.2.1, r4.2.2.2.1, r4.2.2.2.2.1, r4.2.2.2.2.2.1, r4.2.2.2.2.2.2.1, r4.2.2.2.2.2.2.2.1, r4.2.2.2.2.2.2.2.2.1, r4.2.2.2.2.2.2.2.2.2)
              else
                (pf_X3_hopAt r4.2.2.2.2.2.2.2.1 r26).bind (fun r30 =>
                  some (r30, r4.1, r4.2.1, r4.2.2.1, r4.2.2.2.1, r4.2.2.2.2.1, r4.2.2.2.2.2.1, r4.2.2.2.2.2.2.1, r4.2.2.2.2.2.2.2.1, r4.2.2.2.2.2.2.2.2.1, r4.2.2.2.2.2.2.2.2.2))))
      else
        some ((-1), v_sent, v_sentI, v_best, v_ease, v_fromA, v_vi_pl, v_vi_sz, v_vl_pl, v_vl_sz, viewIsOld)

set_option maxHeartbeats 4000000 in
set_option maxRecDepth 100000 in
theorem cz_X6_least (l : Launch) (D : va_G) (k : kt_T) (A : Nat → Nat) (ws : va_W) (q : Nat)  (h_now_told_pl : Nat → Int64) (h_now_told_sz : Int32) (h_now_inUse_pl : Nat → Int64) (h_now_inUse_sz : Int32) (h_now_draw : Int32) (h_kn : Nat → mm_T) (h_size : Int32) (k_now_told_pl : Nat → Int64) (k_now_told_sz : Int32) (k_now_inUse_pl : Nat → Int64) (k_now_inUse_sz : Int32) (k_now_draw : Int32) (k_kn : Nat → mm_T) (k_size : Int32) (v_sent : Nat → Int32) (v_sentI : Nat → Int32) (v_best : Nat → Int32) (v_ease : Nat → Int32) (v_fromA : Nat → Int32) (v_vi_pl : Nat → Int64) (v_vi_sz : Int32) (v_vl_pl : Nat → Int64) (v_vl_sz : Int32) (t_letters : Nat → Int32) (t_tt_pl : Nat → Int64) (t_tt_sz : Int32) (t_size : Int32) (t_place : Int32) (t_number : Int32) (sh : Nat → ss_T) (hasImage : Int32) (viewIsOld : Int32) (p1 : Int32) (p2 : Int32) (out : Int32 × (Nat → Int32) × (Nat → Int32) × (Nat → Int32) × (Nat → Int32) × (Nat → Int32) × (Nat → Int64) × Int32 × (Nat → Int64) × Int32 × Int32) (hf : pf_X6_least h_now_told_pl h_now_inUse_pl h_now_inUse_sz v_sent v_sentI v_best v_ease v_fromA v_vi_pl v_vi_sz v_vl_pl v_vl_sz viewIsOld p1 p2 = some out) (h_this : is_X k A ws q h_now_told_pl h_now_told_sz h_now_inUse_pl h_now_inUse_sz h_now_draw h_kn h_size k_now_told_pl k_now_told_sz k_now_inUse_pl k_now_inUse_sz k_now_draw k_kn k_size v_sent v_sentI v_best v_ease v_fromA v_vi_pl v_vi_sz v_vl_pl v_vl_sz t_letters t_tt_pl t_tt_sz t_size t_place t_number sh hasImage viewIsOld)  (sz0 : Nat) : Met l yX6_least wsX6_least { frames := 5, cells := 0, slots := 0, locals := 123 } (va_Pc [.ref (A q), .int p1, .int p2] (px_P D k ws sz0)) (qw_Q D ws sz0 (some (.int out.1)) (fun u => is_X k A u q h_now_told_pl h_now_told_sz h_now_inUse_pl h_now_inUse_sz h_now_draw h_kn h_size k_now_told_pl k_now_told_sz k_now_inUse_pl k_now_inUse_sz k_now_draw k_kn k_size out.2.1 out.2.2.1 out.2.2.2.1 out.2.2.2.2.1 out.2.2.2.2.2.1 out.2.2.2.2.2.2.1 out.2.2.2.2.2.2.2.1 out.2.2.2.2.2.2.2.2.1 out.2.2.2.2.2.2.2.2.2.1 t_letters t_tt_pl t_tt_sz t_size t_place t_number sh hasImage out.2.2.2.2.2.2.2.2.2.2 ∧ sm_W ws u q (q + 98))) 0 0 (va_A ws sz0) := by
  refine Met.ofW (cc := cX6_least) (maxL := 5) (ret := (some .int)) (by decide) rfl ?_
  intro p e s m args below meth c s₁ B hml hv
  obtain ⟨rfl, hsz, hP, hK, hD0⟩ := hv
  subst hsz
  have hD := hD0.self (sz := s.heap.size)
  have C0 : cx_P p s m meth c [.ref (A q), .int p1, .int p2].toArray cX6_least 5 wsX6_least RX6 (some .int) := ⟨B.exec, B.bytes, hml, findClass_of_methodNamed B.named, atoms_spec (ws := wsX6_least) B.pre, B.returns, B.notSynchronized⟩
  obtain ⟨hx, hb, hml, hown, hts, hr, hlocks⟩ := id C0
  have hcf : CallFix p m c cX6_least 5 s [.ref (A q), .int p1, .int p2].toArray wsX6_least RX6 := ⟨hx, hb, hml, hown, hts⟩
  have hA : ∀ q, s.heap.size ≤ q → va_A ws s.heap.size q := fun q h => Or.inr h
  have hS : va_S (va_A ws s.heap.size) s.heap s.heap [] := va_S.rf
  have hsm : sm_W ws ws q (q + 98) := sm_rf
  have hl := lv_entry ([.ref (A q), .int p1, .int p2]) (n := 5) (Nat.le_of_ble_eq_true rfl)
  rw [lg_entry_eq]
  generalize (lg_sl ([.ref (A q), .int p1, .int p2]) ++ List.replicate (5 - (lg_sl ([.ref (A q), .int p1, .int p2])).length) Slot.unset).toArray = ls at hl ⊢
  have hl : lv_has ls 5 [(0, .ref (A q)), (1, .int p1), (2, .int p2)] := hl
  unfold pf_X6_least at hf
  refine lv_iload_n hx hb dX6_least_0 rfl (lv_at hl 1 rfl) ?_
  refine lv_if_lt (tgt := 13) hx hb dX6_least_1 (by decide) (fun c1 => ?_) (fun c1 => ?_)
  · have hf := it_p c1 hf
    refine lv_iconst (v := (-1)) hx hb dX6_least_13 (by decide) ?_
    obtain rfl := so_i hf
    exact W.iret (v := (-1)) hx hb hr (qw_end hS hP hD ⟨h_this, hsm⟩) hS.2.2 dX6_least_14
  · have hf := it_n c1 hf
    refine lv_iload_n hx hb dX6_least_4 rfl (lv_at hl 2 rfl) ?_
    refine lv_if_lt (tgt := 13) hx hb dX6_least_5 (by decide) (fun c2 => ?_) (fun c2 => ?_)
    · have hf := it_p c2 hf
      refine lv_iconst (v := (-1)) hx hb dX6_least_13 (by decide) ?_
      obtain rfl := so_i hf
      exact W.iret (v := (-1)) hx hb hr (qw_end hS hP hD ⟨h_this, hsm⟩) hS.2.2 dX6_least_14
    · have hf := it_n c2 hf
      refine lv_iload_n hx hb dX6_least_8 rfl (lv_at hl 2 rfl) ?_
      refine lv_iconst (v := 1) hx hb dX6_least_9 (by decide) ?_
      refine lv_icmp_le (tgt := 15) hx hb dX6_least_10 (by decide) (fun c3 => ?_) (fun c3 => ?_)
      · have hf := it_p c3 hf
        refine lv_aload_n hx hb dX6_least_15 rfl (lv_at hl 0 rfl) ?_
        obtain ⟨r4, h5, hf⟩ := bd_s hf
        refine kw_r (va_runV (As := []) (rest := []) hcf (cz_X6_freshView l D k A ws (q) h_now_told_pl h_now_told_sz h_now_inUse_pl h_now_inUse_sz h_now_draw h_kn h_size k_now_told_pl k_now_told_sz k_now_inUse_pl k_now_inUse_sz k_now_draw k_kn k_size v_sent v_sentI v_best v_ease v_fromA v_vi_pl v_vi_sz v_vl_pl v_vl_sz t_letters t_tt_pl t_tt_sz t_size t_place t_number sh hasImage viewIsOld r4 h5 h_this _) (cwV 0 hts gX6_least_X6_freshView rfl rfl rfl (by decide +kernel) ⟨Nat.le_of_ble_eq_true rfl, Nat.le_of_ble_eq_true rfl⟩) (px_V hP hK hD (ci := 6) h_this.1 rfl) rfl rfl hl.1 rfl (lv_room (Nat.le_of_ble_eq_true rfl)) dX6_least_16 ⟨Nat.zero_le _, Nat.zero_le _⟩) hD hS hA (fun u6 _ _ h7 hP hD hS => ?_)
        obtain ⟨h9, m8⟩ := h7
        have hsm := sm_tr hsm m8 (by omega) (by omega)
        obtain ⟨h10, h11, h12, h13, h14, h15⟩ := h9
        obtain ⟨h16, h17, h18, h19, h20, h21, h22, h23⟩ := h13
        refine ks_r (va_runV (As := []) (rest := []) hcf (cz_X5_leastTable l D k A u6 (q + 75) h16) (cwV 0 hts gX6_least_X5_leastTable rfl rfl rfl (by decide +kernel) ⟨Nat.le_of_ble_eq_true rfl, Nat.le_of_ble_eq_true rfl⟩) (pw_V hP hK hD (ci := 5) h16 rfl) rfl rfl hl.1 rfl (lv_room (Nat.le_of_ble_eq_true rfl)) dX6_least_19 ⟨Nat.zero_le _, Nat.zero_le _⟩) ?_
        refine lv_astore_n (lv' := [(3, .ref (A (q + 75 + 8))), (0, .ref (A q)), (1, .int p1), (2, .int p2)]) hx hb dX6_least_22 rfl hl (by decide) rfl (fun ls hl => ?_)
        refine lv_aload_n hx hb dX6_least_23 rfl (lv_at hl 0 rfl) ?_
        refine lv_iload_n hx hb dX6_least_24 rfl (lv_at hl 2 rfl) ?_
        obtain ⟨r26, h27, hf⟩ := bd_s hf
        refine ks_i (va_runV (As := [.int p1]) (rest := []) hcf (cz_X3_numberOf l D k A u6 (q + 75 + 8) r4.2.2.2.2.2.2.2.1 r4.2.2.2.2.2.2.2.2.1 p1 r26 h27 h23) (cwV 1 hts gX6_least_X3_numberOf rfl rfl rfl (by decide +kernel) ⟨Nat.le_of_ble_eq_true rfl, Nat.le_of_ble_eq_true rfl⟩) (pw_V hP hK hD (ci := 3) h23.1 rfl) rfl rfl hl.1 rfl (lv_room (Nat.le_of_ble_eq_true rfl)) dX6_least_25 ⟨Nat.zero_le _, Nat.zero_le _⟩) ?_
        refine lv_istore (lv' := [(4, .int r26), (3, .ref (A (q + 75 + 8))), (0, .ref (A q)), (1, .int p1), (2, .int p2)]) hx hb dX6_least_28 hl (by decide) rfl (fun ls hl => ?_)
        refine lv_iload hx hb dX6_least_30 (lv_at hl 0 rfl) ?_
        refine lv_bipush (v := (-4)) hx hb dX6_least_32 (by decide) ?_
        refine lv_icmp_ne (tgt := 40) hx hb dX6_least_34 (by decide) (fun c28 => ?_) (fun c28 => ?_)
        · have hf := it_n c28 hf
          refine lv_iload_n hx hb dX6_least_40 rfl (lv_at hl 4 rfl) ?_
          refine lv_if_ne (tgt := 49) hx hb dX6_least_41 (by decide) (fun c29 => ?_) (fun c29 => ?_)
          · have hf := it_n c29 hf
            refine lv_aload_n hx hb dX6_least_49 rfl (lv_at hl 1 rfl) ?_
            refine lv_iload hx hb dX6_least_50 (lv_at hl 0 rfl) ?_
            obtain ⟨r30, h31, hf⟩ := bd_s hf
            refine ks_i (va_runV (As := [.int r26]) (rest := []) hcf (cz_X3_hopAt l D k A u6 (q + 75 + 8) r4.2.2.2.2.2.2.2.1 r4.2.2.2.2.2.2.2.2.1 r26 r30 h31 h23) (cwV 1 hts gX6_least_X3_hopAt rfl rfl rfl (by decide +kernel) ⟨Nat.le_of_ble_eq_true rfl, Nat.le_of_ble_eq_true rfl⟩) (pw_V hP hK hD (ci := 3) h23.1 rfl) rfl rfl hl.1 rfl (lv_room (Nat.le_of_ble_eq_true rfl)) dX6_least_52 ⟨Nat.zero_le _, Nat.zero_le _⟩) ?_
            obtain rfl := so_i hf
            have h32 : is_V k A u6 (q + 75) r4.1 r4.2.1 r4.2.2.1 r4.2.2.2.1 r4.2.2.2.2.1 r4.2.2.2.2.2.1 r4.2.2.2.2.2.2.1 r4.2.2.2.2.2.2.2.1 r4.2.2.2.2.2.2.2.2.1 := ⟨h16, h17, h18, h19, h20, h21, h22, h23⟩
            have h33 : is_X k A u6 (q) h_now_told_pl h_now_told_sz h_now_inUse_pl h_now_inUse_sz h_now_draw h_kn h_size k_now_told_pl k_now_told_sz k_now_inUse_pl k_now_inUse_sz k_now_draw k_kn k_size r4.1 r4.2.1 r4.2.2.1 r4.2.2.2.1 r4.2.2.2.2.1 r4.2.2.2.2.2.1 r4.2.2.2.2.2.2.1 r4.2.2.2.2.2.2.2.1 r4.2.2.2.2.2.2.2.2.1 t_letters t_tt_pl t_tt_sz t_size t_place t_number sh hasImage r4.2.2.2.2.2.2.2.2.2 := ⟨h10, h11, h12, h32, h14, h15⟩
            exact W.iret (v := r30) hx hb hr (qw_end hS hP hD ⟨h33, hsm⟩) hS.2.2 dX6_least_55
          · have hf := it_p c29 hf
            refine lv_iload hx hb dX6_least_44 (lv_at hl 0 rfl) ?_
            refine lv_goto (tgt := 55) hx hb dX6_least_46 (by decide) ?_
            obtain rfl := so_i hf
            have h34 : is_V k A u6 (q + 75) r4.1 r4.2.1 r4.2.2.1 r4.2.2.2.1 r4.2.2.2.2.1 r4.2.2.2.2.2.1 r4.2.2.2.2.2.2.1 r4.2.2.2.2.2.2.2.1 r4.2.2.2.2.2.2.2.2.1 := ⟨h16, h17, h18, h19, h20, h21, h22, h23⟩
            have h35 : is_X k A u6 (q) h_now_told_pl h_now_told_sz h_now_inUse_pl h_now_inUse_sz h_now_draw h_kn h_size k_now_told_pl k_now_told_sz k_now_inUse_pl k_now_inUse_sz k_now_draw k_kn k_size r4.1 r4.2.1 r4.2.2.1 r4.2.2.2.1 r4.2.2.2.2.1 r4.2.2.2.2.2.1 r4.2.2.2.2.2.2.1 r4.2.2.2.2.2.2.2.1 r4.2.2.2.2.2.2.2.2.1 t_letters t_tt_pl t_tt_sz t_size t_place t_number sh hasImage r4.2.2.2.2.2.2.2.2.2 := ⟨h10, h11, h12, h34, h14, h15⟩
            exact W.iret (v := r26) hx hb hr (qw_end hS hP hD ⟨h35, hsm⟩) hS.2.2 dX6_least_55
        · have hf := it_p c28 hf
          refine lv_bipush (v := (-4)) hx hb dX6_least_37 (by decide) ?_
          obtain rfl := so_i hf
          have h36 : is_V k A u6 (q + 75) r4.1 r4.2.1 r4.2.2.1 r4.2.2.2.1 r4.2.2.2.2.1 r4.2.2.2.2.2.1 r4.2.2.2.2.2.2.1 r4.2.2.2.2.2.2.2.1 r4.2.2.2.2.2.2.2.2.1 := ⟨h16, h17, h18, h19, h20, h21, h22, h23⟩
          have h37 : is_X k A u6 (q) h_now_told_pl h_now_told_sz h_now_inUse_pl h_now_inUse_sz h_now_draw h_kn h_size k_now_told_pl k_now_told_sz k_now_inUse_pl k_now_inUse_sz k_now_draw k_kn k_size r4.1 r4.2.1 r4.2.2.1 r4.2.2.2.1 r4.2.2.2.2.1 r4.2.2.2.2.2.1 r4.2.2.2.2.2.2.1 r4.2.2.2.2.2.2.2.1 r4.2.2.2.2.2.2.2.2.1 t_letters t_tt_pl t_tt_sz t_size t_place t_number sh hasImage r4.2.2.2.2.2.2.2.2.2 := ⟨h10, h11, h12, h36, h14, h15⟩
          exact W.iret (v := (-4)) hx hb hr (qw_end hS hP hD ⟨h37, hsm⟩) hS.2.2 dX6_least_39
      · have hf := it_n c3 hf
        refine lv_iconst (v := (-1)) hx hb dX6_least_13 (by decide) ?_
        obtain rfl := so_i hf
        exact W.iret (v := (-1)) hx hb hr (qw_end hS hP hD ⟨h_this, hsm⟩) hS.2.2 dX6_least_14

