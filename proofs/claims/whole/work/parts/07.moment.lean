theorem in_X1_tableNow_X1 : ∀ w ∈ u_ws RX1 TX1 3, w ∈ wsX1_tableNow := fun w h => List.mem_cons_of_mem _ (List.mem_append_right _ h)
set_option maxHeartbeats 4000000 in
set_option maxRecDepth 100000 in
theorem cz_X1_tableNow (l : Launch) (D : va_G) (k : kt_T) (A : Nat → Nat) (ws : va_W) (q : Nat)  (draw : Int32)   (hc0 : ws[q]? = some (A (q), .inr (1, [.ref (A (q + 1)), .ref (A (q + 3)), .int draw])))  : Met l yX1_tableNow wsX1_tableNow { frames := 0, cells := 0, slots := 0, locals := 0 } (va_Pc [.ref (A q)] (pw_P D k ws)) (qs_Q (some (.ref (A (q + 1))))) 0 0 (fun _ => False) := by
  refine Met.ofW (cc := cX1_tableNow) (maxL := 1) (ret := (some (.object "LeastRoutes$Table"))) (by decide) rfl ?_
  intro p e s m args below meth c s₁ B hml hv
  obtain ⟨rfl, hP, hK, hD⟩ := hv
  have C0 : cx_P p s m meth c [.ref (A q)].toArray cX1_tableNow 1 wsX1_tableNow RX1 (some (.object "LeastRoutes$Table")) := ⟨B.exec, B.bytes, hml, findClass_of_methodNamed B.named, atoms_spec (ws := wsX1_tableNow) B.pre, B.returns, B.notSynchronized⟩
  obtain ⟨hx, hb, hml, hown, hts, hr, hlocks⟩ := id C0
  have hcf : CallFix p m c cX1_tableNow 1 s [.ref (A q)].toArray wsX1_tableNow RX1 := ⟨hx, hb, hml, hown, hts⟩
  have w_0 := hts (.fieldLink RX1 10 "LeastRoutes$Moment" "told" "LLeastRoutes$Table;") (List.mem_of_getElem? (i := 1) rfl)
  have hl := lv_entry ([.ref (A q)]) (n := 1) (Nat.le_of_ble_eq_true rfl)
  rw [lg_entry_eq]
  generalize (lg_sl ([.ref (A q)]) ++ List.replicate (1 - (lg_sl ([.ref (A q)])).length) Slot.unset).toArray = ls at hl ⊢
  have hl : lv_has ls 1 [(0, .ref (A q))] := hl
  refine lv_aload_n hx hb dX1_tableNow_0 rfl (lv_at hl 0 rfl) ?_
  refine va_get (D := D) (ci := 1) (v := .ref (A (q + 1))) (C := RX1) (T := TX1) (N := 3) hx hb hts in_X1_tableNow_X1 hown hK.1 hP (q) hc0 rfl 0 (by decide) w_0 (fun _ h9 => h9) rfl dX1_tableNow_1 ?_
  exact W.aret (v := .ref (A (q + 1))) hx hb hr (Or.inl ⟨_, rfl⟩) (Or.inr ⟨_, rfl⟩) (fun t ht _ => ⟨rfl, ht⟩) (fun _ h => absurd h List.not_mem_nil) dX1_tableNow_4

theorem in_X1_installedNow_X1 : ∀ w ∈ u_ws RX1 TX1 3, w ∈ wsX1_installedNow := fun w h => List.mem_cons_of_mem _ (List.mem_append_right _ h)
set_option maxHeartbeats 4000000 in
set_option maxRecDepth 100000 in
theorem cz_X1_installedNow (l : Launch) (D : va_G) (k : kt_T) (A : Nat → Nat) (ws : va_W) (q : Nat)  (draw : Int32)   (hc0 : ws[q]? = some (A (q), .inr (1, [.ref (A (q + 1)), .ref (A (q + 3)), .int draw])))  : Met l yX1_installedNow wsX1_installedNow { frames := 0, cells := 0, slots := 0, locals := 0 } (va_Pc [.ref (A q)] (pw_P D k ws)) (qs_Q (some (.ref (A (q + 3))))) 0 0 (fun _ => False) := by
  refine Met.ofW (cc := cX1_installedNow) (maxL := 1) (ret := (some (.object "LeastRoutes$Table"))) (by decide) rfl ?_
  intro p e s m args below meth c s₁ B hml hv
  obtain ⟨rfl, hP, hK, hD⟩ := hv
  have C0 : cx_P p s m meth c [.ref (A q)].toArray cX1_installedNow 1 wsX1_installedNow RX1 (some (.object "LeastRoutes$Table")) := ⟨B.exec, B.bytes, hml, findClass_of_methodNamed B.named, atoms_spec (ws := wsX1_installedNow) B.pre, B.returns, B.notSynchronized⟩
  obtain ⟨hx, hb, hml, hown, hts, hr, hlocks⟩ := id C0
  have hcf : CallFix p m c cX1_installedNow 1 s [.ref (A q)].toArray wsX1_installedNow RX1 := ⟨hx, hb, hml, hown, hts⟩
  have w_0 := hts (.fieldLink RX1 16 "LeastRoutes$Moment" "inUse" "LLeastRoutes$Table;") (List.mem_of_getElem? (i := 1) rfl)
  have hl := lv_entry ([.ref (A q)]) (n := 1) (Nat.le_of_ble_eq_true rfl)
  rw [lg_entry_eq]
  generalize (lg_sl ([.ref (A q)]) ++ List.replicate (1 - (lg_sl ([.ref (A q)])).length) Slot.unset).toArray = ls at hl ⊢
  have hl : lv_has ls 1 [(0, .ref (A q))] := hl
  refine lv_aload_n hx hb dX1_installedNow_0 rfl (lv_at hl 0 rfl) ?_
  refine va_get (D := D) (ci := 1) (v := .ref (A (q + 3))) (C := RX1) (T := TX1) (N := 3) hx hb hts in_X1_installedNow_X1 hown hK.1 hP (q) hc0 rfl 1 (by decide) w_0 (fun _ h9 => h9) rfl dX1_installedNow_1 ?_
  exact W.aret (v := .ref (A (q + 3))) hx hb hr (Or.inl ⟨_, rfl⟩) (Or.inr ⟨_, rfl⟩) (fun t ht _ => ⟨rfl, ht⟩) (fun _ h => absurd h List.not_mem_nil) dX1_installedNow_4

theorem in_X1_drawNow_X1 : ∀ w ∈ u_ws RX1 TX1 3, w ∈ wsX1_drawNow := fun w h => List.mem_cons_of_mem _ (List.mem_append_right _ h)
def pf_X1_drawNow (draw : Int32)   : Option (Int32) :=
  some draw

set_option maxHeartbeats 4000000 in
set_option maxRecDepth 100000 in
theorem cz_X1_drawNow (l : Launch) (D : va_G) (k : kt_T) (A : Nat → Nat) (ws : va_W) (q : Nat)  (told_pl : Nat → Int64) (told_sz : Int32) (inUse_pl : Nat → Int64) (inUse_sz : Int32) (draw : Int32)  (out : Int32) (hf : pf_X1_drawNow draw = some out) (h_this : is_M k A ws q told_pl told_sz inUse_pl inUse_sz draw)  : Met l yX1_drawNow wsX1_drawNow { frames := 0, cells := 0, slots := 0, locals := 0 } (va_Pc [.ref (A q)] (pw_P D k ws)) (qs_Q (some (.int out))) 0 0 (fun _ => False) := by
  refine Met.ofW (cc := cX1_drawNow) (maxL := 1) (ret := (some .int)) (by decide) rfl ?_
  intro p e s m args below meth c s₁ B hml hv
  obtain ⟨rfl, hP, hK, hD⟩ := hv
  have C0 : cx_P p s m meth c [.ref (A q)].toArray cX1_drawNow 1 wsX1_drawNow RX1 (some .int) := ⟨B.exec, B.bytes, hml, findClass_of_methodNamed B.named, atoms_spec (ws := wsX1_drawNow) B.pre, B.returns, B.notSynchronized⟩
  obtain ⟨hx, hb, hml, hown, hts, hr, hlocks⟩ := id C0
  have hcf : CallFix p m c cX1_drawNow 1 s [.ref (A q)].toArray wsX1_drawNow RX1 := ⟨hx, hb, hml, hown, hts⟩
  have w_0 := hts (.fieldLink RX1 19 "LeastRoutes$Moment" "draw" "I") (List.mem_of_getElem? (i := 1) rfl)
  have hl := lv_entry ([.ref (A q)]) (n := 1) (Nat.le_of_ble_eq_true rfl)
  rw [lg_entry_eq]
  generalize (lg_sl ([.ref (A q)]) ++ List.replicate (1 - (lg_sl ([.ref (A q)])).length) Slot.unset).toArray = ls at hl ⊢
  have hl : lv_has ls 1 [(0, .ref (A q))] := hl
  unfold pf_X1_drawNow at hf
  refine lv_aload_n hx hb dX1_drawNow_0 rfl (lv_at hl 0 rfl) ?_
  obtain ⟨h1, h2, h3⟩ := h_this
  refine va_get (D := D) (ci := 1) (v := .int draw) (C := RX1) (T := TX1) (N := 3) hx hb hts in_X1_drawNow_X1 hown hK.1 hP (q) h1 rfl 2 (by decide) w_0 (fun _ h9 => h9) rfl dX1_drawNow_1 ?_
  obtain rfl := so_i hf
  exact W.iret (v := draw) hx hb hr (fun t ht _ => ⟨rfl, ht⟩) (fun _ h => absurd h List.not_mem_nil) dX1_drawNow_4

theorem in_X1_setDraw_X1 : ∀ w ∈ u_ws RX1 TX1 3, w ∈ wsX1_setDraw := fun w h => List.mem_cons_of_mem _ (List.mem_append_right _ h)
def pf_X1_setDraw (draw : Int32)  (p1 : Int32) : Option (Int32) :=
  some p1

set_option maxHeartbeats 4000000 in
set_option maxRecDepth 100000 in
theorem cz_X1_setDraw (l : Launch) (D : va_G) (k : kt_T) (A : Nat → Nat) (ws : va_W) (q : Nat)  (told_pl : Nat → Int64) (told_sz : Int32) (inUse_pl : Nat → Int64) (inUse_sz : Int32) (draw : Int32) (p1 : Int32) (out : Int32) (hf : pf_X1_setDraw draw p1 = some out) (h_this : is_M k A ws q told_pl told_sz inUse_pl inUse_sz draw)  (sz0 : Nat) : Met l yX1_setDraw wsX1_setDraw { frames := 0, cells := 0, slots := 0, locals := 0 } (va_Pc [.ref (A q), .int p1] (px_P D k ws sz0)) (qw_Q D ws sz0 none (fun u => is_M k A u q told_pl told_sz inUse_pl inUse_sz out ∧ sm_W ws u q (q + 5))) 0 0 (va_A ws sz0) := by
  refine Met.ofW (cc := cX1_setDraw) (maxL := 2) (ret := none) (by decide) rfl ?_
  intro p e s m args below meth c s₁ B hml hv
  obtain ⟨rfl, hsz, hP, hK, hD0⟩ := hv
  subst hsz
  have hD := hD0.self (sz := s.heap.size)
  have C0 : cx_P p s m meth c [.ref (A q), .int p1].toArray cX1_setDraw 2 wsX1_setDraw RX1 none := ⟨B.exec, B.bytes, hml, findClass_of_methodNamed B.named, atoms_spec (ws := wsX1_setDraw) B.pre, B.returns, B.notSynchronized⟩
  obtain ⟨hx, hb, hml, hown, hts, hr, hlocks⟩ := id C0
  have hcf : CallFix p m c cX1_setDraw 2 s [.ref (A q), .int p1].toArray wsX1_setDraw RX1 := ⟨hx, hb, hml, hown, hts⟩
  have hA : ∀ q, s.heap.size ≤ q → va_A ws s.heap.size q := fun q h => Or.inr h
  have hS : va_S (va_A ws s.heap.size) s.heap s.heap [] := va_S.rf
  have hsm : sm_W ws ws q (q + 5) := sm_rf
  have w_0 := hts (.fieldLink RX1 19 "LeastRoutes$Moment" "draw" "I") (List.mem_of_getElem? (i := 1) rfl)
  have hl := lv_entry ([.ref (A q), .int p1]) (n := 2) (Nat.le_of_ble_eq_true rfl)
  rw [lg_entry_eq]
  generalize (lg_sl ([.ref (A q), .int p1]) ++ List.replicate (2 - (lg_sl ([.ref (A q), .int p1])).length) Slot.unset).toArray = ls at hl ⊢
  have hl : lv_has ls 2 [(0, .ref (A q)), (1, .int p1)] := hl
  unfold pf_X1_setDraw at hf
  refine lv_aload_n hx hb dX1_setDraw_0 rfl (lv_at hl 0 rfl) ?_
  refine lv_iload_n hx hb dX1_setDraw_1 rfl (lv_at hl 1 rfl) ?_
  obtain ⟨h1, h2, h3⟩ := h_this
  refine va_put (D := D) (ci := 1) (v := .int p1) (ty := .int) (C := RX1) (T := TX1) (N := 3) hx hb hts in_X1_setDraw_X1 tyX1 tyX1_ok nmX1 hown hK.1 hP hD hS (q) h1 rfl 2 (by decide) w_0 (fun _ h9 => h9) rfl (by decide +kernel) rfl rfl (Nat.le_of_ble_eq_true rfl) dX1_setDraw_2 (fun _ _ hP hD hS => ?_)
  obtain ⟨u4, h5, m6, hP, hD⟩ := wd_put hP hD h1
  have hsm := sm_tr hsm m6 (by omega) (by omega)
  have h7 : u4[q]? = some (A (q), .inr (1, [.ref (A (q + 1)), .ref (A (q + 3)), .int p1])) := h5
  obtain rfl := so_i hf
  have h8 := is_T_tr h2 m6 (by omega)
  have h9 := is_T_tr h3 m6 (by omega)
  have h10 : is_M k A u4 (q) told_pl told_sz inUse_pl inUse_sz p1 := ⟨h7, h8, h9⟩
  exact W.vret hx hb hr (qw_end hS hP hD ⟨h10, hsm⟩) hS.2.2 dX1_setDraw_5

theorem in_X1_nextDraw_X1 : ∀ w ∈ u_ws RX1 TX1 3, w ∈ wsX1_nextDraw := fun w h => List.mem_cons_of_mem _ (List.mem_append_right _ h)
def pf_X1_nextDraw (draw : Int32)   : Option (Int32 × Int32) :=
  some ((((draw * 1103515245) + 12345) &&& 2147483647), (((draw * 1103515245) + 12345) &&& 2147483647))

set_option maxHeartbeats 4000000 in
set_option maxRecDepth 100000 in
theorem cz_X1_nextDraw (l : Launch) (D : va_G) (k : kt_T) (A : Nat → Nat) (ws : va_W) (q : Nat)  (told_pl : Nat → Int64) (told_sz : Int32) (inUse_pl : Nat → Int64) (inUse_sz : Int32) (draw : Int32)  (out : Int32 × Int32) (hf : pf_X1_nextDraw draw = some out) (h_this : is_M k A ws q told_pl told_sz inUse_pl inUse_sz draw)  (sz0 : Nat) : Met l yX1_nextDraw wsX1_nextDraw { frames := 0, cells := 0, slots := 0, locals := 0 } (va_Pc [.ref (A q)] (px_P D k ws sz0)) (qw_Q D ws sz0 (some (.int out.1)) (fun u => is_M k A u q told_pl told_sz inUse_pl inUse_sz out.2 ∧ sm_W ws u q (q + 5))) 0 0 (va_A ws sz0) := by
  refine Met.ofW (cc := cX1_nextDraw) (maxL := 1) (ret := (some .int)) (by decide) rfl ?_
  intro p e s m args below meth c s₁ B hml hv
  obtain ⟨rfl, hsz, hP, hK, hD0⟩ := hv
  subst hsz
  have hD := hD0.self (sz := s.heap.size)
  have C0 : cx_P p s m meth c [.ref (A q)].toArray cX1_nextDraw 1 wsX1_nextDraw RX1 (some .int) := ⟨B.exec, B.bytes, hml, findClass_of_methodNamed B.named, atoms_spec (ws := wsX1_nextDraw) B.pre, B.returns, B.notSynchronized⟩
  obtain ⟨hx, hb, hml, hown, hts, hr, hlocks⟩ := id C0
  have hcf : CallFix p m c cX1_nextDraw 1 s [.ref (A q)].toArray wsX1_nextDraw RX1 := ⟨hx, hb, hml, hown, hts⟩
  have hA : ∀ q, s.heap.size ≤ q → va_A ws s.heap.size q := fun q h => Or.inr h
  have hS : va_S (va_A ws s.heap.size) s.heap s.heap [] := va_S.rf
  have hsm : sm_W ws ws q (q + 5) := sm_rf
  have w_0 := hts (.fieldLink RX1 19 "LeastRoutes$Moment" "draw" "I") (List.mem_of_getElem? (i := 1) rfl)
  have w_1 := hts (.constant RX1 23 (1103515245)) (List.mem_of_getElem? (i := 2) rfl)
  have w_2 := hts (.constant RX1 24 (2147483647)) (List.mem_of_getElem? (i := 3) rfl)
  have hl := lv_entry ([.ref (A q)]) (n := 1) (Nat.le_of_ble_eq_true rfl)
  rw [lg_entry_eq]
  generalize (lg_sl ([.ref (A q)]) ++ List.replicate (1 - (lg_sl ([.ref (A q)])).length) Slot.unset).toArray = ls at hl ⊢
  have hl : lv_has ls 1 [(0, .ref (A q))] := hl
  unfold pf_X1_nextDraw at hf
  refine lv_aload_n hx hb dX1_nextDraw_0 rfl (lv_at hl 0 rfl) ?_
  refine lv_aload_n hx hb dX1_nextDraw_1 rfl (lv_at hl 0 rfl) ?_
  obtain ⟨h1, h2, h3⟩ := h_this
  refine va_get (D := D) (ci := 1) (v := .int draw) (C := RX1) (T := TX1) (N := 3) hx hb hts in_X1_nextDraw_X1 hown hK.1 hP (q) h1 rfl 2 (by decide) w_0 (fun _ h9 => h9) rfl dX1_nextDraw_2 ?_
  refine lv_ldc hx hb hown w_1 dX1_nextDraw_5 ?_
  refine lv_imul hx hb dX1_nextDraw_7 ?_
  refine lv_sipush (v := 12345) hx hb dX1_nextDraw_8 (by decide) ?_
  refine lv_iadd hx hb dX1_nextDraw_11 ?_
  refine lv_ldc hx hb hown w_2 dX1_nextDraw_12 ?_
  refine lv_iand hx hb dX1_nextDraw_14 ?_
  refine va_put (D := D) (ci := 1) (v := .int (((draw * 1103515245) + 12345) &&& 2147483647)) (ty := .int) (C := RX1) (T := TX1) (N := 3) hx hb hts in_X1_nextDraw_X1 tyX1 tyX1_ok nmX1 hown hK.1 hP hD hS (q) h1 rfl 2 (by decide) w_0 (fun _ h9 => h9) rfl (by decide +kernel) rfl rfl (Nat.le_of_ble_eq_true rfl) dX1_nextDraw_15 (fun _ _ hP hD hS => ?_)
  obtain ⟨u4, h5, m6, hP, hD⟩ := wd_put hP hD h1
  have hsm := sm_tr hsm m6 (by omega) (by omega)
  have h7 : u4[q]? = some (A (q), .inr (1, [.ref (A (q + 1)), .ref (A (q + 3)), .int (((draw * 1103515245) + 12345) &&& 2147483647)])) := h5
  refine lv_aload_n hx hb dX1_nextDraw_18 rfl (lv_at hl 0 rfl) ?_
  refine va_get (D := D) (ci := 1) (v := .int (((draw * 1103515245) + 12345) &&& 2147483647)) (C := RX1) (T := TX1) (N := 3) hx hb hts in_X1_nextDraw_X1 hown hK.1 hP (q) h7 rfl 2 (by decide) w_0 (fun _ h9 => h9) rfl dX1_nextDraw_19 ?_
  obtain rfl := so_i hf
  have h8 := is_T_tr h2 m6 (by omega)
  have h9 := is_T_tr h3 m6 (by omega)
  have h10 : is_M k A u4 (q) told_pl told_sz inUse_pl inUse_sz (((draw * 1103515245) + 12345) &&& 2147483647) := ⟨h7, h8, h9⟩
  exact W.iret (v := (((draw * 1103515245) + 12345) &&& 2147483647)) hx hb hr (qw_end hS hP hD ⟨h10, hsm⟩) hS.2.2 dX1_nextDraw_22

theorem in_X1_takeFrom_X1 : ∀ w ∈ u_ws RX1 TX1 3, w ∈ wsX1_takeFrom := fun w h => List.mem_cons_of_mem _ (List.mem_append_left _ (List.mem_append_right _ h))
def pf_X1_takeFrom (told_pl : Nat → Int64) (told_sz : Int32) (inUse_pl : Nat → Int64) (inUse_sz : Int32) (draw : Int32) (o1_told_pl : Nat → Int64) (o1_told_sz : Int32) (o1_inUse_pl : Nat → Int64) (o1_inUse_sz : Int32) (o1_draw : Int32)   : Option ((Nat → Int64) × Int32 × (Nat → Int64) × Int32 × Int32) :=
  (pf_X3_takeFrom told_pl told_sz o1_told_pl o1_told_sz).bind (fun r7 =>
    (pf_X3_takeFrom inUse_pl inUse_sz o1_inUse_pl o1_inUse_sz).bind (fun r17 =>
      some (r7.1, r7.2, r17.1, r17.2, o1_draw)))

set_option maxHeartbeats 4000000 in
set_option maxRecDepth 100000 in
theorem cz_X1_takeFrom (l : Launch) (D : va_G) (k : kt_T) (A : Nat → Nat) (ws : va_W) (q q1 : Nat)  (told_pl : Nat → Int64) (told_sz : Int32) (inUse_pl : Nat → Int64) (inUse_sz : Int32) (draw : Int32) (o1_told_pl : Nat → Int64) (o1_told_sz : Int32) (o1_inUse_pl : Nat → Int64) (o1_inUse_sz : Int32) (o1_draw : Int32)  (out : (Nat → Int64) × Int32 × (Nat → Int64) × Int32 × Int32) (hf : pf_X1_takeFrom told_pl told_sz inUse_pl inUse_sz draw o1_told_pl o1_told_sz o1_inUse_pl o1_inUse_sz o1_draw = some out) (h_this : is_M k A ws q told_pl told_sz inUse_pl inUse_sz draw) (h_o1 : is_M k A ws q1 o1_told_pl o1_told_sz o1_inUse_pl o1_inUse_sz o1_draw) (hdis : (q + 5 ≤ q1 ∨ q1 + 5 ≤ q)) (sz0 : Nat) : Met l yX1_takeFrom wsX1_takeFrom { frames := 2, cells := 0, slots := 0, locals := 81 } (va_Pc [.ref (A q), .ref (A q1)] (px_P D k ws sz0)) (qw_Q D ws sz0 none (fun u => is_M k A u q out.1 out.2.1 out.2.2.1 out.2.2.2.1 out.2.2.2.2 ∧ sm_W ws u q (q + 5))) 0 0 (va_A ws sz0) := by
  refine Met.ofW (cc := cX1_takeFrom) (maxL := 2) (ret := none) (by decide) rfl ?_
  intro p e s m args below meth c s₁ B hml hv
  obtain ⟨rfl, hsz, hP, hK, hD0⟩ := hv
  subst hsz
  have hD := hD0.self (sz := s.heap.size)
  have C0 : cx_P p s m meth c [.ref (A q), .ref (A q1)].toArray cX1_takeFrom 2 wsX1_takeFrom RX1 none := ⟨B.exec, B.bytes, hml, findClass_of_methodNamed B.named, atoms_spec (ws := wsX1_takeFrom) B.pre, B.returns, B.notSynchronized⟩
  obtain ⟨hx, hb, hml, hown, hts, hr, hlocks⟩ := id C0
  have hcf : CallFix p m c cX1_takeFrom 2 s [.ref (A q), .ref (A q1)].toArray wsX1_takeFrom RX1 := ⟨hx, hb, hml, hown, hts⟩
  have hA : ∀ q, s.heap.size ≤ q → va_A ws s.heap.size q := fun q h => Or.inr h
  have hS : va_S (va_A ws s.heap.size) s.heap s.heap [] := va_S.rf
  have hsm : sm_W ws ws q (q + 5) := sm_rf
  have w_0 := hts (.fieldLink RX1 10 "LeastRoutes$Moment" "told" "LLeastRoutes$Table;") (List.mem_of_getElem? (i := 1) rfl)
  have w_1 := hts (.fieldLink RX1 16 "LeastRoutes$Moment" "inUse" "LLeastRoutes$Table;") (List.mem_of_getElem? (i := 2) rfl)
  have w_2 := hts (.fieldLink RX1 19 "LeastRoutes$Moment" "draw" "I") (List.mem_of_getElem? (i := 3) rfl)
  have hl := lv_entry ([.ref (A q), .ref (A q1)]) (n := 2) (Nat.le_of_ble_eq_true rfl)
  rw [lg_entry_eq]
  generalize (lg_sl ([.ref (A q), .ref (A q1)]) ++ List.replicate (2 - (lg_sl ([.ref (A q), .ref (A q1)])).length) Slot.unset).toArray = ls at hl ⊢
  have hl : lv_has ls 2 [(0, .ref (A q)), (1, .ref (A q1))] := hl
  unfold pf_X1_takeFrom at hf
  refine lv_aload_n hx hb dX1_takeFrom_0 rfl (lv_at hl 0 rfl) ?_
  obtain ⟨h1, h2, h3⟩ := h_this
  refine va_get (D := D) (ci := 1) (v := .ref (A (q + 1))) (C := RX1) (T := TX1) (N := 3) hx hb hts in_X1_takeFrom_X1 hown hK.1 hP (q) h1 rfl 0 (by decide) w_0 (fun _ h9 => h9) rfl dX1_takeFrom_1 ?_
  refine lv_aload_n hx hb dX1_takeFrom_4 rfl (lv_at hl 1 rfl) ?_
  obtain ⟨h4, h5, h6⟩ := h_o1
  refine va_get (D := D) (ci := 1) (v := .ref (A (q1 + 1))) (C := RX1) (T := TX1) (N := 3) hx hb hts in_X1_takeFrom_X1 hown hK.1 hP (q1) h4 rfl 0 (by decide) w_0 (fun _ h9 => h9) rfl dX1_takeFrom_5 ?_
  obtain ⟨r7, h8, hf⟩ := bd_s hf
  refine kw_v (va_runV (As := [.ref (A (q1 + 1))]) (rest := []) hcf (cz_X3_takeFrom l D k A ws (q + 1) (q1 + 1) told_pl told_sz o1_told_pl o1_told_sz r7 h8 h2 h5 (by omega) _) (cwV 1 hts gX1_takeFrom_X3_takeFrom rfl rfl rfl (by decide +kernel) ⟨Nat.le_of_ble_eq_true rfl, Nat.le_of_ble_eq_true rfl⟩) (px_V hP hK hD (ci := 3) h2.1 rfl) rfl rfl hl.1 rfl (lv_room (Nat.le_of_ble_eq_true rfl)) dX1_takeFrom_8 ⟨Nat.zero_le _, Nat.zero_le _⟩) hD hS hA (fun u9 _ _ h10 hP hD hS => ?_)
  obtain ⟨h12, m11⟩ := h10
  have hsm := sm_tr hsm m11 (by omega) (by omega)
  refine lv_aload_n hx hb dX1_takeFrom_11 rfl (lv_at hl 0 rfl) ?_
  have h13 := sm_at m11 (by omega) h1
  refine va_get (D := D) (ci := 1) (v := .ref (A (q + 3))) (C := RX1) (T := TX1) (N := 3) hx hb hts in_X1_takeFrom_X1 hown hK.1 hP (q) h13 rfl 1 (by decide) w_1 (fun _ h9 => h9) rfl dX1_takeFrom_12 ?_
  refine lv_aload_n hx hb dX1_takeFrom_15 rfl (lv_at hl 1 rfl) ?_
  have h14 := sm_at m11 (by omega) h4
  refine va_get (D := D) (ci := 1) (v := .ref (A (q1 + 3))) (C := RX1) (T := TX1) (N := 3) hx hb hts in_X1_takeFrom_X1 hown hK.1 hP (q1) h14 rfl 1 (by decide) w_1 (fun _ h9 => h9) rfl dX1_takeFrom_16 ?_
  have h15 := is_T_tr h3 m11 (by omega)
  have h16 := is_T_tr h6 m11 (by omega)
  obtain ⟨r17, h18, hf⟩ := bd_s hf
  refine kw_v (va_runV (As := [.ref (A (q1 + 3))]) (rest := []) hcf (cz_X3_takeFrom l D k A u9 (q + 3) (q1 + 3) inUse_pl inUse_sz o1_inUse_pl o1_inUse_sz r17 h18 h15 h16 (by omega) _) (cwV 1 hts gX1_takeFrom_X3_takeFrom rfl rfl rfl (by decide +kernel) ⟨Nat.le_of_ble_eq_true rfl, Nat.le_of_ble_eq_true rfl⟩) (px_V hP hK hD (ci := 3) h15.1 rfl) rfl rfl hl.1 rfl (lv_room (Nat.le_of_ble_eq_true rfl)) dX1_takeFrom_19 ⟨Nat.zero_le _, Nat.zero_le _⟩) hD hS hA (fun u19 _ _ h20 hP hD hS => ?_)
  obtain ⟨h22, m21⟩ := h20
  have hsm := sm_tr hsm m21 (by omega) (by omega)
  refine lv_aload_n hx hb dX1_takeFrom_22 rfl (lv_at hl 0 rfl) ?_
  refine lv_aload_n hx hb dX1_takeFrom_23 rfl (lv_at hl 1 rfl) ?_
  have h23 := sm_at m21 (by omega) h14
  refine va_get (D := D) (ci := 1) (v := .int o1_draw) (C := RX1) (T := TX1) (N := 3) hx hb hts in_X1_takeFrom_X1 hown hK.1 hP (q1) h23 rfl 2 (by decide) w_2 (fun _ h9 => h9) rfl dX1_takeFrom_24 ?_
  have h24 := sm_at m21 (by omega) h13
  refine va_put (D := D) (ci := 1) (v := .int o1_draw) (ty := .int) (C := RX1) (T := TX1) (N := 3) hx hb hts in_X1_takeFrom_X1 tyX1 tyX1_ok nmX1 hown hK.1 hP hD hS (q) h24 rfl 2 (by decide) w_2 (fun _ h9 => h9) rfl (by decide +kernel) rfl rfl (Nat.le_of_ble_eq_true rfl) dX1_takeFrom_27 (fun _ _ hP hD hS => ?_)
  obtain ⟨u25, h26, m27, hP, hD⟩ := wd_put hP hD h24
  have hsm := sm_tr hsm m27 (by omega) (by omega)
  have h28 : u25[q]? = some (A (q), .inr (1, [.ref (A (q + 1)), .ref (A (q + 3)), .int o1_draw])) := h26
  obtain rfl := so_i hf
  have h29 := is_T_tr h12 m21 (by omega)
  have h30 := is_T_tr h29 m27 (by omega)
  have h31 := is_T_tr h22 m27 (by omega)
  have h32 : is_M k A u25 (q) r7.1 r7.2 r17.1 r17.2 o1_draw := ⟨h28, h30, h31⟩
  exact W.vret hx hb hr (qw_end hS hP hD ⟨h32, hsm⟩) hS.2.2 dX1_takeFrom_30

