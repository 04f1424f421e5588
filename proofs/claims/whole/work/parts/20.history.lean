theorem in_X0_present_X0 : ∀ w ∈ u_ws RX0 TX0 3, w ∈ wsX0_present := fun w h => List.mem_cons_of_mem _ (List.mem_append_right _ h)
set_option maxHeartbeats 4000000 in
set_option maxRecDepth 100000 in
theorem cz_X0_present (l : Launch) (D : va_G) (k : kt_T) (A : Nat → Nat) (ws : va_W) (q : Nat)  (size : Int32)   (hc0 : ws[q]? = some (A (q), .inr (0, [.ref (A (q + 1)), .ref (A (q + 6)), .int size])))  : Met l yX0_present wsX0_present { frames := 0, cells := 0, slots := 0, locals := 0 } (va_Pc [.ref (A q)] (pw_P D k ws)) (qs_Q (some (.ref (A (q + 1))))) 0 0 (fun _ => False) := by
  refine Met.ofW (cc := cX0_present) (maxL := 1) (ret := (some (.object "LeastRoutes$Moment"))) (by decide) rfl ?_
  intro p e s m args below meth c s₁ B hml hv
  obtain ⟨rfl, hP, hK, hD⟩ := hv
  have C0 : cx_P p s m meth c [.ref (A q)].toArray cX0_present 1 wsX0_present RX0 (some (.object "LeastRoutes$Moment")) := ⟨B.exec, B.bytes, hml, findClass_of_methodNamed B.named, atoms_spec (ws := wsX0_present) B.pre, B.returns, B.notSynchronized⟩
  obtain ⟨hx, hb, hml, hown, hts, hr, hlocks⟩ := id C0
  have hcf : CallFix p m c cX0_present 1 s [.ref (A q)].toArray wsX0_present RX0 := ⟨hx, hb, hml, hown, hts⟩
  have w_0 := hts (.fieldLink RX0 12 "LeastRoutes$History" "now" "LLeastRoutes$Moment;") (List.mem_of_getElem? (i := 1) rfl)
  have hl := lv_entry ([.ref (A q)]) (n := 1) (Nat.le_of_ble_eq_true rfl)
  rw [lg_entry_eq]
  generalize (lg_sl ([.ref (A q)]) ++ List.replicate (1 - (lg_sl ([.ref (A q)])).length) Slot.unset).toArray = ls at hl ⊢
  have hl : lv_has ls 1 [(0, .ref (A q))] := hl
  refine lv_aload_n hx hb dX0_present_0 rfl (lv_at hl 0 rfl) ?_
  refine va_get (D := D) (ci := 0) (v := .ref (A (q + 1))) (C := RX0) (T := TX0) (N := 3) hx hb hts in_X0_present_X0 hown hK.1 hP (q) hc0 rfl 0 (by decide) w_0 (fun _ h9 => h9) rfl dX0_present_1 ?_
  exact W.aret (v := .ref (A (q + 1))) hx hb hr (Or.inl ⟨_, rfl⟩) (Or.inr ⟨_, rfl⟩) (fun t ht _ => ⟨rfl, ht⟩) (fun _ h => absurd h List.not_mem_nil) dX0_present_4

theorem in_X0_howManyKnown_X0 : ∀ w ∈ u_ws RX0 TX0 3, w ∈ wsX0_howManyKnown := fun w h => List.mem_cons_of_mem _ (List.mem_append_right _ h)
def pf_X0_howManyKnown (size : Int32)   : Option (Int32) :=
  some size

set_option maxHeartbeats 4000000 in
set_option maxRecDepth 100000 in
theorem cz_X0_howManyKnown (l : Launch) (D : va_G) (k : kt_T) (A : Nat → Nat) (ws : va_W) (q : Nat)  (now_told_pl : Nat → Int64) (now_told_sz : Int32) (now_inUse_pl : Nat → Int64) (now_inUse_sz : Int32) (now_draw : Int32) (kn : Nat → mm_T) (size : Int32)  (out : Int32) (hf : pf_X0_howManyKnown size = some out) (h_this : is_H k A ws q now_told_pl now_told_sz now_inUse_pl now_inUse_sz now_draw kn size)  : Met l yX0_howManyKnown wsX0_howManyKnown { frames := 0, cells := 0, slots := 0, locals := 0 } (va_Pc [.ref (A q)] (pw_P D k ws)) (qs_Q (some (.int out))) 0 0 (fun _ => False) := by
  refine Met.ofW (cc := cX0_howManyKnown) (maxL := 1) (ret := (some .int)) (by decide) rfl ?_
  intro p e s m args below meth c s₁ B hml hv
  obtain ⟨rfl, hP, hK, hD⟩ := hv
  have C0 : cx_P p s m meth c [.ref (A q)].toArray cX0_howManyKnown 1 wsX0_howManyKnown RX0 (some .int) := ⟨B.exec, B.bytes, hml, findClass_of_methodNamed B.named, atoms_spec (ws := wsX0_howManyKnown) B.pre, B.returns, B.notSynchronized⟩
  obtain ⟨hx, hb, hml, hown, hts, hr, hlocks⟩ := id C0
  have hcf : CallFix p m c cX0_howManyKnown 1 s [.ref (A q)].toArray wsX0_howManyKnown RX0 := ⟨hx, hb, hml, hown, hts⟩
  have w_0 := hts (.fieldLink RX0 22 "LeastRoutes$History" "size" "I") (List.mem_of_getElem? (i := 1) rfl)
  have hl := lv_entry ([.ref (A q)]) (n := 1) (Nat.le_of_ble_eq_true rfl)
  rw [lg_entry_eq]
  generalize (lg_sl ([.ref (A q)]) ++ List.replicate (1 - (lg_sl ([.ref (A q)])).length) Slot.unset).toArray = ls at hl ⊢
  have hl : lv_has ls 1 [(0, .ref (A q))] := hl
  unfold pf_X0_howManyKnown at hf
  refine lv_aload_n hx hb dX0_howManyKnown_0 rfl (lv_at hl 0 rfl) ?_
  obtain ⟨h1, h2, h3⟩ := h_this
  refine va_get (D := D) (ci := 0) (v := .int size) (C := RX0) (T := TX0) (N := 3) hx hb hts in_X0_howManyKnown_X0 hown hK.1 hP (q) h1 rfl 2 (by decide) w_0 (fun _ h9 => h9) rfl dX0_howManyKnown_1 ?_
  obtain rfl := so_i hf
  exact W.iret (v := size) hx hb hr (fun t ht _ => ⟨rfl, ht⟩) (fun _ h => absurd h List.not_mem_nil) dX0_howManyKnown_4

theorem in_X0_loseOldest_X0 : ∀ w ∈ u_ws RX0 TX0 3, w ∈ wsX0_loseOldest := fun w h => List.mem_cons_of_mem _ (List.mem_append_right _ h)
def pf_X0_loseOldest (kn : Nat → mm_T) (size : Int32)   : Option ((Nat → mm_T) × Int32) :=
  some ((lo_K kn), 5)

set_option maxHeartbeats 4000000 in
set_option maxRecDepth 100000 in
theorem cz_X0_loseOldest (l : Launch) (D : va_G) (k : kt_T) (A : Nat → Nat) (ws : va_W) (q : Nat)  (now_told_pl : Nat → Int64) (now_told_sz : Int32) (now_inUse_pl : Nat → Int64) (now_inUse_sz : Int32) (now_draw : Int32) (kn : Nat → mm_T) (size : Int32)  (out : (Nat → mm_T) × Int32) (hf : pf_X0_loseOldest kn size = some out) (h_this : is_H k A ws q now_told_pl now_told_sz now_inUse_pl now_inUse_sz now_draw kn size)  (sz0 : Nat) : Met l yX0_loseOldest wsX0_loseOldest { frames := 0, cells := 0, slots := 0, locals := 0 } (va_Pc [.ref (A q)] (px_P D k ws sz0)) (qw_Q D ws sz0 none (fun u => is_H k A u q now_told_pl now_told_sz now_inUse_pl now_inUse_sz now_draw out.1 out.2 ∧ sm_W ws u q (q + 37))) 0 0 (va_A ws sz0) := by
  refine Met.ofW (cc := cX0_loseOldest) (maxL := 3) (ret := none) (by decide) rfl ?_
  intro p e s m args below meth c s₁ B hml hv
  obtain ⟨rfl, hsz, hP, hK, hD0⟩ := hv
  subst hsz
  have hD := hD0.self (sz := s.heap.size)
  have C0 : cx_P p s m meth c [.ref (A q)].toArray cX0_loseOldest 3 wsX0_loseOldest RX0 none := ⟨B.exec, B.bytes, hml, findClass_of_methodNamed B.named, atoms_spec (ws := wsX0_loseOldest) B.pre, B.returns, B.notSynchronized⟩
  obtain ⟨hx, hb, hml, hown, hts, hr, hlocks⟩ := id C0
  have hcf : CallFix p m c cX0_loseOldest 3 s [.ref (A q)].toArray wsX0_loseOldest RX0 := ⟨hx, hb, hml, hown, hts⟩
  have hA : ∀ q, s.heap.size ≤ q → va_A ws s.heap.size q := fun q h => Or.inr h
  have hS : va_S (va_A ws s.heap.size) s.heap s.heap [] := va_S.rf
  have hsm : sm_W ws ws q (q + 37) := sm_rf
  have w_0 := hts (.fieldLink RX0 18 "LeastRoutes$History" "known" "[LLeastRoutes$Moment;") (List.mem_of_getElem? (i := 1) rfl)
  have w_1 := hts (.fieldLink RX0 22 "LeastRoutes$History" "size" "I") (List.mem_of_getElem? (i := 2) rfl)
  have hl := lv_entry ([.ref (A q)]) (n := 3) (Nat.le_of_ble_eq_true rfl)
  rw [lg_entry_eq]
  generalize (lg_sl ([.ref (A q)]) ++ List.replicate (3 - (lg_sl ([.ref (A q)])).length) Slot.unset).toArray = ls at hl ⊢
  have hl : lv_has ls 3 [(0, .ref (A q))] := hl
  unfold pf_X0_loseOldest at hf
  refine lv_aload_n hx hb dX0_loseOldest_0 rfl (lv_at hl 0 rfl) ?_
  obtain ⟨h1, h2, h3⟩ := h_this
  refine va_get (D := D) (ci := 0) (v := .ref (A (q + 6))) (C := RX0) (T := TX0) (N := 3) hx hb hts in_X0_loseOldest_X0 hown hK.1 hP (q) h1 rfl 1 (by decide) w_0 (fun _ h9 => h9) rfl dX0_loseOldest_1 ?_
  refine lv_iconst (v := 0) hx hb dX0_loseOldest_4 (by decide) ?_
  obtain ⟨pn, g0, hq0, hj0, hd0⟩ := h3
  obtain ⟨hG0, hr0, hs0, hM0⟩ := hj0 0 (by decide)
  obtain ⟨hG1, hr1, hs1, hM1⟩ := hj0 1 (by decide)
  obtain ⟨hG2, hr2, hs2, hM2⟩ := hj0 2 (by decide)
  obtain ⟨hG3, hr3, hs3, hM3⟩ := hj0 3 (by decide)
  obtain ⟨hG4, hr4, hs4, hM4⟩ := hj0 4 (by decide)
  obtain ⟨hG5, hr5, hs5, hM5⟩ := hj0 5 (by decide)
  refine va_aldq hx hb hK.1 hP (q + 6) 2 hq0 rfl (in_s (by decide)) dX0_loseOldest_5 ?_
  refine W.eq (g2 := F0 m 6 ls [.ref (A (pn 0))]) (by rw [show Int32.toNatClampNeg 0 = 0 from by decide, hG0]; rfl) ?_
  refine lv_astore_n (lv' := [(1, .ref (A (pn 0))), (0, .ref (A q))]) hx hb dX0_loseOldest_6 rfl hl (by decide) rfl (fun ls hl => ?_)
  refine lv_iconst (v := 1) hx hb dX0_loseOldest_7 (by decide) ?_
  refine lv_istore_n (lv' := [(2, .int 1), (1, .ref (A (pn 0))), (0, .ref (A q))]) hx hb dX0_loseOldest_8 rfl hl (by decide) rfl (fun ls hl => ?_)
  refine lv_iload_n hx hb dX0_loseOldest_9 rfl (lv_at hl 0 rfl) ?_
  refine lv_bipush (v := 6) hx hb dX0_loseOldest_10 (by decide) ?_
  refine lv_icmp_ge (tgt := 35) hx hb dX0_loseOldest_12 (by decide) (fun c_ => absurd c_ (by decide)) (fun _ => ?_)
  refine lv_aload_n hx hb dX0_loseOldest_15 rfl (lv_at hl 2 rfl) ?_
  refine va_get (D := D) (ci := 0) (v := .ref (A (q + 6))) (C := RX0) (T := TX0) (N := 3) hx hb hts in_X0_loseOldest_X0 hown hK.1 hP (q) h1 rfl 1 (by decide) w_0 (fun _ h9 => h9) rfl dX0_loseOldest_16 ?_
  refine lv_iload_n hx hb dX0_loseOldest_19 rfl (lv_at hl 0 rfl) ?_
  refine lv_iconst (v := 1) hx hb dX0_loseOldest_20 (by decide) ?_
  refine lv_isub hx hb dX0_loseOldest_21 ?_
  refine lv_topi (fun z_ e_ => ?_)
  obtain rfl : z_ = 0 := e_.trans (by decide)
  refine lv_aload_n hx hb dX0_loseOldest_22 rfl (lv_at hl 2 rfl) ?_
  refine va_get (D := D) (ci := 0) (v := .ref (A (q + 6))) (C := RX0) (T := TX0) (N := 3) hx hb hts in_X0_loseOldest_X0 hown hK.1 hP (q) h1 rfl 1 (by decide) w_0 (fun _ h9 => h9) rfl dX0_loseOldest_23 ?_
  refine lv_iload_n hx hb dX0_loseOldest_26 rfl (lv_at hl 0 rfl) ?_
  refine va_aldq hx hb hK.1 hP (q + 6) 2 hq0 rfl (in_s (by decide)) dX0_loseOldest_27 ?_
  refine W.eq (g2 := F0 m 28 ls [.ref (A (pn 1)), .int 0, .ref (A (q + 6))]) (by rw [show Int32.toNatClampNeg 1 = 1 from by decide, hG1]; rfl) ?_
  refine va_astq hx hb hK.1 hP hD hS (q + 6) 2 (pn 1) 1 hq0 rfl hM1.1 rfl (in_s (by decide)) dX0_loseOldest_28 (fun _ _ hP hD hS => ?_)
  obtain ⟨u4, h5, m6, hP, hD⟩ := wd_put hP hD hq0
  rw [show Int32.toNatClampNeg 0 = 0 from by decide] at h5
  obtain ⟨g7, h8⟩ : ∃ G, G = va_up g0 0 (some (A (pn 1))) := ⟨_, rfl⟩
  rw [← h8] at h5
  have h9 : g7 0 = some (A (pn 1)) := by rw [h8]; exact va_up_self _ _ _
  have h10 : g7 1 = some (A (pn 1)) := by rw [h8]; exact (va_up_ne _ _ (by decide)).trans hG1
  have h11 : g7 2 = some (A (pn 2)) := by rw [h8]; exact (va_up_ne _ _ (by decide)).trans hG2
  have h12 : g7 3 = some (A (pn 3)) := by rw [h8]; exact (va_up_ne _ _ (by decide)).trans hG3
  have h13 : g7 4 = some (A (pn 4)) := by rw [h8]; exact (va_up_ne _ _ (by decide)).trans hG4
  have h14 : g7 5 = some (A (pn 5)) := by rw [h8]; exact (va_up_ne _ _ (by decide)).trans hG5
  have hsm := sm_tr hsm m6 (by omega) (by omega)
  refine lv_iinc (v := 2) (lv' := [(2, .int 2), (1, .ref (A (pn 0))), (0, .ref (A q))]) hx hb dX0_loseOldest_29 hl (k := 0) rfl (by decide) (by decide) rfl (fun ls hl => ?_)
  refine lv_goto (tgt := 9) hx hb dX0_loseOldest_32 (by decide) ?_
  refine lv_iload_n hx hb dX0_loseOldest_9 rfl (lv_at hl 0 rfl) ?_
  refine lv_bipush (v := 6) hx hb dX0_loseOldest_10 (by decide) ?_
  refine lv_icmp_ge (tgt := 35) hx hb dX0_loseOldest_12 (by decide) (fun c_ => absurd c_ (by decide)) (fun _ => ?_)
  refine lv_aload_n hx hb dX0_loseOldest_15 rfl (lv_at hl 2 rfl) ?_
  have h15 := sm_at m6 (by omega) h1
  refine va_get (D := D) (ci := 0) (v := .ref (A (q + 6))) (C := RX0) (T := TX0) (N := 3) hx hb hts in_X0_loseOldest_X0 hown hK.1 hP (q) h15 rfl 1 (by decide) w_0 (fun _ h9 => h9) rfl dX0_loseOldest_16 ?_
  refine lv_iload_n hx hb dX0_loseOldest_19 rfl (lv_at hl 0 rfl) ?_
  refine lv_iconst (v := 1) hx hb dX0_loseOldest_20 (by decide) ?_
  refine lv_isub hx hb dX0_loseOldest_21 ?_
  refine lv_topi (fun z_ e_ => ?_)
  obtain rfl : z_ = 1 := e_.trans (by decide)
  refine lv_aload_n hx hb dX0_loseOldest_22 rfl (lv_at hl 2 rfl) ?_
  refine va_get (D := D) (ci := 0) (v := .ref (A (q + 6))) (C := RX0) (T := TX0) (N := 3) hx hb hts in_X0_loseOldest_X0 hown hK.1 hP (q) h15 rfl 1 (by decide) w_0 (fun _ h9 => h9) rfl dX0_loseOldest_23 ?_
  refine lv_iload_n hx hb dX0_loseOldest_26 rfl (lv_at hl 0 rfl) ?_
  refine va_aldq hx hb hK.1 hP (q + 6) 2 h5 rfl (in_s (by decide)) dX0_loseOldest_27 ?_
  refine W.eq (g2 := F0 m 28 ls [.ref (A (pn 2)), .int 1, .ref (A (q + 6))]) (by rw [show Int32.toNatClampNeg 2 = 2 from by decide, h11]; rfl) ?_
  have h16 := is_M_tr hM0 m6 (by omega)
  have h17 := is_M_tr hM1 m6 (by omega)
  have h18 := is_M_tr hM2 m6 (by omega)
  have h19 := is_M_tr hM3 m6 (by omega)
  have h20 := is_M_tr hM4 m6 (by omega)
  have h21 := is_M_tr hM5 m6 (by omega)
  refine va_astq hx hb hK.1 hP hD hS (q + 6) 2 (pn 2) 1 h5 rfl h18.1 rfl (in_s (by decide)) dX0_loseOldest_28 (fun _ _ hP hD hS => ?_)
  obtain ⟨u22, h23, m24, hP, hD⟩ := wd_put hP hD h5
  rw [show Int32.toNatClampNeg 1 = 1 from by decide] at h23
  obtain ⟨g25, h26⟩ : ∃ G, G = va_up g7 1 (some (A (pn 2))) := ⟨_, rfl⟩
  rw [← h26] at h23
  have h27 : g25 0 = some (A (pn 1)) := by rw [h26]; exact (va_up_ne _ _ (by decide)).trans h9
  have h28 : g25 1 = some (A (pn 2)) := by rw [h26]; exact va_up_self _ _ _
  have h29 : g25 2 = some (A (pn 2)) := by rw [h26]; exact (va_up_ne _ _ (by decide)).trans h11
  have h30 : g25 3 = some (A (pn 3)) := by rw [h26]; exact (va_up_ne _ _ (by decide)).trans h12
  have h31 : g25 4 = some (A (pn 4)) := by rw [h26]; exact (va_up_ne _ _ (by decide)).trans h13
  have h32 : g25 5 = some (A (pn 5)) := by rw [h26]; exact (va_up_ne _ _ (by decide)).trans h14
  have hsm := sm_tr hsm m24 (by omega) (by omega)
  refine lv_iinc (v := 3) (lv' := [(2, .int 3), (1, .ref (A (pn 0))), (0, .ref (A q))]) hx hb dX0_loseOldest_29 hl (k := 0) rfl (by decide) (by decide) rfl (fun ls hl => ?_)
  refine lv_goto (tgt := 9) hx hb dX0_loseOldest_32 (by decide) ?_
  refine lv_iload_n hx hb dX0_loseOldest_9 rfl (lv_at hl 0 rfl) ?_
  refine lv_bipush (v := 6) hx hb dX0_loseOldest_10 (by decide) ?_
  refine lv_icmp_ge (tgt := 35) hx hb dX0_loseOldest_12 (by decide) (fun c_ => absurd c_ (by decide)) (fun _ => ?_)
  refine lv_aload_n hx hb dX0_loseOldest_15 rfl (lv_at hl 2 rfl) ?_
  have h33 := sm_at m24 (by omega) h15
  refine va_get (D := D) (ci := 0) (v := .ref (A (q + 6))) (C := RX0) (T := TX0) (N := 3) hx hb hts in_X0_loseOldest_X0 hown hK.1 hP (q) h33 rfl 1 (by decide) w_0 (fun _ h9 => h9) rfl dX0_loseOldest_16 ?_
  refine lv_iload_n hx hb dX0_loseOldest_19 rfl (lv_at hl 0 rfl) ?_
  refine lv_iconst (v := 1) hx hb dX0_loseOldest_20 (by decide) ?_
  refine lv_isub hx hb dX0_loseOldest_21 ?_
  refine lv_topi (fun z_ e_ => ?_)
  obtain rfl : z_ = 2 := e_.trans (by decide)
  refine lv_aload_n hx hb dX0_loseOldest_22 rfl (lv_at hl 2 rfl) ?_
  refine va_get (D := D) (ci := 0) (v := .ref (A (q + 6))) (C := RX0) (T := TX0) (N := 3) hx hb hts in_X0_loseOldest_X0 hown hK.1 hP (q) h33 rfl 1 (by decide) w_0 (fun _ h9 => h9) rfl dX0_loseOldest_23 ?_
  refine lv_iload_n hx hb dX0_loseOldest_26 rfl (lv_at hl 0 rfl) ?_
  refine va_aldq hx hb hK.1 hP (q + 6) 2 h23 rfl (in_s (by decide)) dX0_loseOldest_27 ?_
  refine W.eq (g2 := F0 m 28 ls [.ref (A (pn 3)), .int 2, .ref (A (q + 6))]) (by rw [show Int32.toNatClampNeg 3 = 3 from by decide, h30]; rfl) ?_
  have h34 := is_M_tr h16 m24 (by omega)
  have h35 := is_M_tr h17 m24 (by omega)
  have h36 := is_M_tr h18 m24 (by omega)
  have h37 := is_M_tr h19 m24 (by omega)
  have h38 := is_M_tr h20 m24 (by omega)
  have h39 := is_M_tr h21 m24 (by omega)
  refine va_astq hx hb hK.1 hP hD hS (q + 6) 2 (pn 3) 1 h23 rfl h37.1 rfl (in_s (by decide)) dX0_loseOldest_28 (fun _ _ hP hD hS => ?_)
  obtain ⟨u40, h41, m42, hP, hD⟩ := wd_put hP hD h23
  rw [show Int32.toNatClampNeg 2 = 2 from by decide] at h41
  obtain ⟨g43, h44⟩ : ∃ G, G = va_up g25 2 (some (A (pn 3))) := ⟨_, rfl⟩
  rw [← h44] at h41
  have h45 : g43 0 = some (A (pn 1)) := by rw [h44]; exact (va_up_ne _ _ (by decide)).trans h27
  have h46 : g43 1 = some (A (pn 2)) := by rw [h44]; exact (va_up_ne _ _ (by decide)).trans h28
  have h47 : g43 2 = some (A (pn 3)) := by rw [h44]; exact va_up_self _ _ _
  have h48 : g43 3 = some (A (pn 3)) := by rw [h44]; exact (va_up_ne _ _ (by decide)).trans h30
  have h49 : g43 4 = some (A (pn 4)) := by rw [h44]; exact (va_up_ne _ _ (by decide)).trans h31
  have h50 : g43 5 = some (A (pn 5)) := by rw [h44]; exact (va_up_ne _ _ (by decide)).trans h32
  have hsm := sm_tr hsm m42 (by omega) (by omega)
  refine lv_iinc (v := 4) (lv' := [(2, .int 4), (1, .ref (A (pn 0))), (0, .ref (A q))]) hx hb dX0_loseOldest_29 hl (k := 0) rfl (by decide) (by decide) rfl (fun ls hl => ?_)
  refine lv_goto (tgt := 9) hx hb dX0_loseOldest_32 (by decide) ?_
  refine lv_iload_n hx hb dX0_loseOldest_9 rfl (lv_at hl 0 rfl) ?_
  refine lv_bipush (v := 6) hx hb dX0_loseOldest_10 (by decide) ?_
  refine lv_icmp_ge (tgt := 35) hx hb dX0_loseOldest_12 (by decide) (fun c_ => absurd c_ (by decide)) (fun _ => ?_)
  refine lv_aload_n hx hb dX0_loseOldest_15 rfl (lv_at hl 2 rfl) ?_
  have h51 := sm_at m42 (by omega) h33
  refine va_get (D := D) (ci := 0) (v := .ref (A (q + 6))) (C := RX0) (T := TX0) (N := 3) hx hb hts in_X0_loseOldest_X0 hown hK.1 hP (q) h51 rfl 1 (by decide) w_0 (fun _ h9 => h9) rfl dX0_loseOldest_16 ?_
  refine lv_iload_n hx hb dX0_loseOldest_19 rfl (lv_at hl 0 rfl) ?_
  refine lv_iconst (v := 1) hx hb dX0_loseOldest_20 (by decide) ?_
  refine lv_isub hx hb dX0_loseOldest_21 ?_
  refine lv_topi (fun z_ e_ => ?_)
  obtain rfl : z_ = 3 := e_.trans (by decide)
  refine lv_aload_n hx hb dX0_loseOldest_22 rfl (lv_at hl 2 rfl) ?_
  refine va_get (D := D) (ci := 0) (v := .ref (A (q + 6))) (C := RX0) (T := TX0) (N := 3) hx hb hts in_X0_loseOldest_X0 hown hK.1 hP (q) h51 rfl 1 (by decide) w_0 (fun _ h9 => h9) rfl dX0_loseOldest_23 ?_
  refine lv_iload_n hx hb dX0_loseOldest_26 rfl (lv_at hl 0 rfl) ?_
  refine va_aldq hx hb hK.1 hP (q + 6) 2 h41 rfl (in_s (by decide)) dX0_loseOldest_27 ?_
  refine W.eq (g2 := F0 m 28 ls [.ref (A (pn 4)), .int 3, .ref (A (q + 6))]) (by rw [show Int32.toNatClampNeg 4 = 4 from by decide, h49]; rfl) ?_
  have h52 := is_M_tr h34 m42 (by omega)
  have h53 := is_M_tr h35 m42 (by omega)
  have h54 := is_M_tr h36 m42 (by omega)
  have h55 := is_M_tr h37 m42 (by omega)
  have h56 := is_M_tr h38 m42 (by omega)
  have h57 := is_M_tr h39 m42 (by omega)
  refine va_astq hx hb hK.1 hP hD hS (q + 6) 2 (pn 4) 1 h41 rfl h56.1 rfl (in_s (by decide)) dX0_loseOldest_28 (fun _ _ hP hD hS => ?_)
  obtain ⟨u58, h59, m60, hP, hD⟩ := wd_put hP hD h41
  rw [show Int32.toNatClampNeg 3 = 3 from by decide] at h59
  obtain ⟨g61, h62⟩ : ∃ G, G = va_up g43 3 (some (A (pn 4))) := ⟨_, rfl⟩
  rw [← h62] at h59
  have h63 : g61 0 = some (A (pn 1)) := by rw [h62]; exact (va_up_ne _ _ (by decide)).trans h45
  have h64 : g61 1 = some (A (pn 2)) := by rw [h62]; exact (va_up_ne _ _ (by decide)).trans h46
  have h65 : g61 2 = some (A (pn 3)) := by rw [h62]; exact (va_up_ne _ _ (by decide)).trans h47
  have h66 : g61 3 = some (A (pn 4)) := by rw [h62]; exact va_up_self _ _ _
  have h67 : g61 4 = some (A (pn 4)) := by rw [h62]; exact (va_up_ne _ _ (by decide)).trans h49
  have h68 : g61 5 = some (A (pn 5)) := by rw [h62]; exact (va_up_ne _ _ (by decide)).trans h50
  have hsm := sm_tr hsm m60 (by omega) (by omega)
  refine lv_iinc (v := 5) (lv' := [(2, .int 5), (1, .ref (A (pn 0))), (0, .ref (A q))]) hx hb dX0_loseOldest_29 hl (k := 0) rfl (by decide) (by decide) rfl (fun ls hl => ?_)
  refine lv_goto (tgt := 9) hx hb dX0_loseOldest_32 (by decide) ?_
  refine lv_iload_n hx hb dX0_loseOldest_9 rfl (lv_at hl 0 rfl) ?_
  refine lv_bipush (v := 6) hx hb dX0_loseOldest_10 (by decide) ?_
  refine lv_icmp_ge (tgt := 35) hx hb dX0_loseOldest_12 (by decide) (fun c_ => absurd c_ (by decide)) (fun _ => ?_)
  refine lv_aload_n hx hb dX0_loseOldest_15 rfl (lv_at hl 2 rfl) ?_
  have h69 := sm_at m60 (by omega) h51
  refine va_get (D := D) (ci := 0) (v := .ref (A (q + 6))) (C := RX0) (T := TX0) (N := 3) hx hb hts in_X0_loseOldest_X0 hown hK.1 hP (q) h69 rfl 1 (by decide) w_0 (fun _ h9 => h9) rfl dX0_loseOldest_16 ?_
  refine lv_iload_n hx hb dX0_loseOldest_19 rfl (lv_at hl 0 rfl) ?_
  refine lv_iconst (v := 1) hx hb dX0_loseOldest_20 (by decide) ?_
  refine lv_isub hx hb dX0_loseOldest_21 ?_
  refine lv_topi (fun z_ e_ => ?_)
  obtain rfl : z_ = 4 := e_.trans (by decide)
  refine lv_aload_n hx hb dX0_loseOldest_22 rfl (lv_at hl 2 rfl) ?_
  refine va_get (D := D) (ci := 0) (v := .ref (A (q + 6))) (C := RX0) (T := TX0) (N := 3) hx hb hts in_X0_loseOldest_X0 hown hK.1 hP (q) h69 rfl 1 (by decide) w_0 (fun _ h9 => h9) rfl dX0_loseOldest_23 ?_
  refine lv_iload_n hx hb dX0_loseOldest_26 rfl (lv_at hl 0 rfl) ?_
  refine va_aldq hx hb hK.1 hP (q + 6) 2 h59 rfl (in_s (by decide)) dX0_loseOldest_27 ?_
  refine W.eq (g2 := F0 m 28 ls [.ref (A (pn 5)), .int 4, .ref (A (q + 6))]) (by rw [show Int32.toNatClampNeg 5 = 5 from by decide, h68]; rfl) ?_
  have h70 := is_M_tr h52 m60 (by omega)
  have h71 := is_M_tr h53 m60 (by omega)
  have h72 := is_M_tr h54 m60 (by omega)
  have h73 := is_M_tr h55 m60 (by omega)
  have h74 := is_M_tr h56 m60 (by omega)
  have h75 := is_M_tr h57 m60 (by omega)
  refine va_astq hx hb hK.1 hP hD hS (q + 6) 2 (pn 5) 1 h59 rfl h75.1 rfl (in_s (by decide)) dX0_loseOldest_28 (fun _ _ hP hD hS => ?_)
  obtain ⟨u76, h77, m78, hP, hD⟩ := wd_put hP hD h59
  rw [show Int32.toNatClampNeg 4 = 4 from by decide] at h77
  obtain ⟨g79, h80⟩ : ∃ G, G = va_up g61 4 (some (A (pn 5))) := ⟨_, rfl⟩
  rw [← h80] at h77
  have h81 : g79 0 = some (A (pn 1)) := by rw [h80]; exact (va_up_ne _ _ (by decide)).trans h63
  have h82 : g79 1 = some (A (pn 2)) := by rw [h80]; exact (va_up_ne _ _ (by decide)).trans h64
  have h83 : g79 2 = some (A (pn 3)) := by rw [h80]; exact (va_up_ne _ _ (by decide)).trans h65
  have h84 : g79 3 = some (A (pn 4)) := by rw [h80]; exact (va_up_ne _ _ (by decide)).trans h66
  have h85 : g79 4 = some (A (pn 5)) := by rw [h80]; exact va_up_self _ _ _
  have h86 : g79 5 = some (A (pn 5)) := by rw [h80]; exact (va_up_ne _ _ (by decide)).trans h68
  have hsm := sm_tr hsm m78 (by omega) (by omega)
  refine lv_iinc (v := 6) (lv' := [(2, .int 6), (1, .ref (A (pn 0))), (0, .ref (A q))]) hx hb dX0_loseOldest_29 hl (k := 0) rfl (by decide) (by decide) rfl (fun ls hl => ?_)
  refine lv_goto (tgt := 9) hx hb dX0_loseOldest_32 (by decide) ?_
  refine lv_iload_n hx hb dX0_loseOldest_9 rfl (lv_at hl 0 rfl) ?_
  refine lv_bipush (v := 6) hx hb dX0_loseOldest_10 (by decide) ?_
  refine lv_icmp_ge (tgt := 35) hx hb dX0_loseOldest_12 (by decide) (fun _ => ?_) (fun c_ => absurd (by decide) c_)
  refine lv_aload_n hx hb dX0_loseOldest_35 rfl (lv_at hl 2 rfl) ?_
  have h87 := sm_at m78 (by omega) h69
  refine va_get (D := D) (ci := 0) (v := .ref (A (q + 6))) (C := RX0) (T := TX0) (N := 3) hx hb hts in_X0_loseOldest_X0 hown hK.1 hP (q) h87 rfl 1 (by decide) w_0 (fun _ h9 => h9) rfl dX0_loseOldest_36 ?_
  refine lv_iconst (v := 5) hx hb dX0_loseOldest_39 (by decide) ?_
  refine lv_aload_n hx hb dX0_loseOldest_40 rfl (lv_at hl 1 rfl) ?_
  have h88 := is_M_tr h70 m78 (by omega)
  have h89 := is_M_tr h71 m78 (by omega)
  have h90 := is_M_tr h72 m78 (by omega)
  have h91 := is_M_tr h73 m78 (by omega)
  have h92 := is_M_tr h74 m78 (by omega)
  have h93 := is_M_tr h75 m78 (by omega)
  refine va_astq hx hb hK.1 hP hD hS (q + 6) 2 (pn 0) 1 h77 rfl h88.1 rfl (in_s (by decide)) dX0_loseOldest_41 (fun _ _ hP hD hS => ?_)
  obtain ⟨u94, h95, m96, hP, hD⟩ := wd_put hP hD h77
  rw [show Int32.toNatClampNeg 5 = 5 from by decide] at h95
  obtain ⟨g97, h98⟩ : ∃ G, G = va_up g79 5 (some (A (pn 0))) := ⟨_, rfl⟩
  rw [← h98] at h95
  have h99 : g97 0 = some (A (pn 1)) := by rw [h98]; exact (va_up_ne _ _ (by decide)).trans h81
  have h100 : g97 1 = some (A (pn 2)) := by rw [h98]; exact (va_up_ne _ _ (by decide)).trans h82
  have h101 : g97 2 = some (A (pn 3)) := by rw [h98]; exact (va_up_ne _ _ (by decide)).trans h83
  have h102 : g97 3 = some (A (pn 4)) := by rw [h98]; exact (va_up_ne _ _ (by decide)).trans h84
  have h103 : g97 4 = some (A (pn 5)) := by rw [h98]; exact (va_up_ne _ _ (by decide)).trans h85
  have h104 : g97 5 = some (A (pn 0)) := by rw [h98]; exact va_up_self _ _ _
  have hsm := sm_tr hsm m96 (by omega) (by omega)
  have h105 := is_M_tr h88 m96 (by omega)
  have h106 := is_M_tr h89 m96 (by omega)
  have h107 := is_M_tr h90 m96 (by omega)
  have h108 := is_M_tr h91 m96 (by omega)
  have h109 := is_M_tr h92 m96 (by omega)
  have h110 := is_M_tr h93 m96 (by omega)
  have h111 : is_K k A u94 (q + 6) (lo_K kn) := lo_pack h95 hd0 h99 h100 h101 h102 h103 h104 hr0 hs0 hr1 hs1 hr2 hs2 hr3 hs3 hr4 hs4 hr5 hs5 h105 h106 h107 h108 h109 h110
  refine lv_aload_n hx hb dX0_loseOldest_42 rfl (lv_at hl 2 rfl) ?_
  refine lv_iconst (v := 5) hx hb dX0_loseOldest_43 (by decide) ?_
  have h112 := sm_at m96 (by omega) h87
  refine va_put (D := D) (ci := 0) (v := .int 5) (ty := .int) (C := RX0) (T := TX0) (N := 3) hx hb hts in_X0_loseOldest_X0 tyX0 tyX0_ok nmX0 hown hK.1 hP hD hS (q) h112 rfl 2 (by decide) w_1 (fun _ h9 => h9) rfl (by decide +kernel) rfl rfl (Nat.le_of_ble_eq_true rfl) dX0_loseOldest_44 (fun _ _ hP hD hS => ?_)
  obtain ⟨u113, h114, m115, hP, hD⟩ := wd_put hP hD h112
  have hsm := sm_tr hsm m115 (by omega) (by omega)
  have h116 : u113[q]? = some (A (q), .inr (0, [.ref (A (q + 1)), .ref (A (q + 6)), .int 5])) := h114
  obtain rfl := so_i hf
  have h117 := is_M_tr h2 m6 (by omega)
  have h118 := is_M_tr h117 m24 (by omega)
  have h119 := is_M_tr h118 m42 (by omega)
  have h120 := is_M_tr h119 m60 (by omega)
  have h121 := is_M_tr h120 m78 (by omega)
  have h122 := is_M_tr h121 m96 (by omega)
  have h123 := is_M_tr h122 m115 (by omega)
  have h124 := is_K_tr h111 m115 (by omega)
  have h125 : is_H k A u113 (q) now_told_pl now_told_sz now_inUse_pl now_inUse_sz now_draw (lo_K kn) 5 := ⟨h116, h123, h124⟩
  exact W.vret hx hb hr (qw_end hS hP hD ⟨h125, hsm⟩) hS.2.2 dX0_loseOldest_47

theorem in_X0_remember_X0 : ∀ w ∈ u_ws RX0 TX0 3, w ∈ wsX0_remember := fun w h => List.mem_cons_of_mem _ (List.mem_append_left _ (List.mem_append_left _ (List.mem_append_right _ h)))
def lp_X0_remember_13  (now_told_pl : Nat → Int64) (now_told_sz : Int32) (now_inUse_pl : Nat → Int64) (now_inUse_sz : Int32) (now_draw : Int32) (kn : Nat → mm_T) (size : Int32) : Option ((Nat → mm_T) × Int32) :=
  ck_O (in_b size 6) (
    (pf_X1_takeFrom ((kn (Int32.toNatClampNeg size)).1) ((kn (Int32.toNatClampNeg size)).2.1) ((kn (Int32.toNatClampNeg size)).2.2.1) ((kn (Int32.toNatClampNeg size)).2.2.2.1) ((kn (Int32.toNatClampNeg size)).2.2.2.2) now_told_pl now_told_sz now_inUse_pl now_inUse_sz now_draw).bind (fun r17 =>
      some ((va_up kn (Int32.toNatClampNeg size) (r17.1, r17.2.1, r17.2.2.1, r17.2.2.2.1, r17.2.2.2.2)), (size + 1))))

def pf_X0_remember (now_told_pl : Nat → Int64) (now_told_sz : Int32) (now_inUse_pl : Nat → Int64) (now_inUse_sz : Int32) (now_draw : Int32) (kn : Nat → mm_T) (size : Int32)   : Option ((Nat → mm_T) × Int32) :=
  if size = 6 then
    (pf_X0_loseOldest kn size).bind (fun r35 =>
      lp_X0_remember_13 now_told_pl now_told_sz now_inUse_pl now_inUse_sz now_draw r35.1 r35.2)
  else
    lp_X0_remember_13 now_told_pl now_told_sz now_inUse_pl now_inUse_sz now_draw kn size

set_option maxHeartbeats 4000000 in
set_option maxRecDepth 100000 in
theorem wl_X0_remember_13 {p : Program} {e : Env} {s : State} {m : MethodId} {args : Array Value} {below : List Frame} {meth : Method} {c : Code} (l : Launch) (D : va_G) (k : kt_T) (A : Nat → Nat) (ws : va_W) (q : Nat)  (out : (Nat → mm_T) × Int32) (hK : kk_P D k s) (C0 : cx_P p s m meth c args cX0_remember 1 wsX0_remember RX0 none)  (now_told_pl : Nat → Int64) (now_told_sz : Int32) (now_inUse_pl : Nat → Int64) (now_inUse_sz : Int32) (now_draw : Int32) (kn : Nat → mm_T) (size : Int32)     : ∀ (w : va_W) (H : Heap) (locs : List Loc) (ls : Array Slot), lp_X0_remember_13 now_told_pl now_told_sz now_inUse_pl now_inUse_sz now_draw kn size = some out → is_H k A w q now_told_pl now_told_sz now_inUse_pl now_inUse_sz now_draw kn size → sm_W ws w q (q + 37) → va_P D vwCl w H → va_D (va_A ws s.heap.size) w → va_S (va_A ws s.heap.size) s.heap H locs → lv_has ls 1 [(0, .ref (A q))] → W p l e (headSpec wsX0_remember { frames := 3, cells := 0, slots := 0, locals := 102 }).room s m args below meth c H locs 0 0 (MQ below (qw_Q D ws s.heap.size none (fun u => is_H k A u q now_told_pl now_told_sz now_inUse_pl now_inUse_sz now_draw out.1 out.2 ∧ sm_W ws u q (q + 37))) args s 0 0 (va_A ws s.heap.size)) (F0 m 13 ls []) := by
  obtain ⟨hx, hb, hml, hown, hts, hr, hlocks⟩ := id C0
  have hcf : CallFix p m c cX0_remember 1 s args wsX0_remember RX0 := ⟨hx, hb, hml, hown, hts⟩
  have hA : ∀ q, s.heap.size ≤ q → va_A ws s.heap.size q := fun q h => Or.inr h
  have w_0 := hts (.fieldLink RX0 22 "LeastRoutes$History" "size" "I") (List.mem_of_getElem? (i := 1) rfl)
  have w_1 := hts (.fieldLink RX0 18 "LeastRoutes$History" "known" "[LLeastRoutes$Moment;") (List.mem_of_getElem? (i := 2) rfl)
  have w_2 := hts (.fieldLink RX0 12 "LeastRoutes$History" "now" "LLeastRoutes$Moment;") (List.mem_of_getElem? (i := 3) rfl)
  intro w H locs ls hf h_this hsm hP hD hS hl
  unfold lp_X0_remember_13 at hf
  refine lv_aload_n hx hb dX0_remember_13 rfl (lv_at hl 0 rfl) ?_
  obtain ⟨h5, h6, h7⟩ := h_this
  refine va_get (D := D) (ci := 0) (v := .ref (A (q + 6))) (C := RX0) (T := TX0) (N := 3) hx hb hts in_X0_remember_X0 hown hK.1 hP (q) h5 rfl 1 (by decide) w_1 (fun _ h9 => h9) rfl dX0_remember_14 ?_
  refine lv_aload_n hx hb dX0_remember_17 rfl (lv_at hl 0 rfl) ?_
  refine va_get (D := D) (ci := 0) (v := .int size) (C := RX0) (T := TX0) (N := 3) hx hb hts in_X0_remember_X0 hown hK.1 hP (q) h5 rfl 2 (by decide) w_0 (fun _ h9 => h9) rfl dX0_remember_18 ?_
  obtain ⟨z8, hf⟩ := ck_s hf
  obtain ⟨b16, h9, h10, h11, h12, h13, h14, h15⟩ := is_K_get h7 (in_s z8)
  refine va_aldq hx hb hK.1 hP (q + 6) 2 h10 rfl (in_s z8) dX0_remember_21 ?_
  refine W.eq (g2 := F0 m 22 ls [.ref (A (b16))]) (by rw [h11]; rfl) ?_
  refine lv_aload_n hx hb dX0_remember_22 rfl (lv_at hl 0 rfl) ?_
  refine va_get (D := D) (ci := 0) (v := .ref (A (q + 1))) (C := RX0) (T := TX0) (N := 3) hx hb hts in_X0_remember_X0 hown hK.1 hP (q) h5 rfl 0 (by decide) w_2 (fun _ h9 => h9) rfl dX0_remember_23 ?_
  obtain ⟨r17, h18, hf⟩ := bd_s hf
  refine kw_v (va_runV (As := [.ref (A (q + 1))]) (rest := []) hcf (cz_X1_takeFrom l D k A w (b16) (q + 1) ((kn (Int32.toNatClampNeg size)).1) ((kn (Int32.toNatClampNeg size)).2.1) ((kn (Int32.toNatClampNeg size)).2.2.1) ((kn (Int32.toNatClampNeg size)).2.2.2.1) ((kn (Int32.toNatClampNeg size)).2.2.2.2) now_told_pl now_told_sz now_inUse_pl now_inUse_sz now_draw r17 h18 h14 h6 (by omega) _) (cwV 1 hts gX0_remember_X1_takeFrom rfl rfl rfl (by decide +kernel) ⟨Nat.le_of_ble_eq_true rfl, Nat.le_of_ble_eq_true rfl⟩) (px_V hP hK hD (ci := 1) h14.1 rfl) rfl rfl hl.1 rfl (lv_room (Nat.le_of_ble_eq_true rfl)) dX0_remember_26 ⟨Nat.zero_le _, Nat.zero_le _⟩) hD hS hA (fun u19 _ _ h20 hP hD hS => ?_)
  obtain ⟨h22, m21⟩ := h20
  have hsm := sm_tr hsm m21 (by omega) (by omega)
  have h23 : is_K k A u19 (q + 6) (va_up kn (Int32.toNatClampNeg size) (r17.1, r17.2.1, r17.2.2.1, r17.2.2.2.1, r17.2.2.2.2)) := h15 _ (r17.1, r17.2.1, r17.2.2.1, r17.2.2.2.1, r17.2.2.2.2) h22 m21
  refine lv_aload_n hx hb dX0_remember_29 rfl (lv_at hl 0 rfl) ?_
  refine lv_dup hx hb dX0_remember_30 rfl ?_
  have h24 := sm_at m21 (by omega) h5
  refine va_get (D := D) (ci := 0) (v := .int size) (C := RX0) (T := TX0) (N := 3) hx hb hts in_X0_remember_X0 hown hK.1 hP (q) h24 rfl 2 (by decide) w_0 (fun _ h9 => h9) rfl dX0_remember_31 ?_
  refine lv_iconst (v := 1) hx hb dX0_remember_34 (by decide) ?_
  refine lv_iadd hx hb dX0_remember_35 ?_
  refine va_put (D := D) (ci := 0) (v := .int (size + 1)) (ty := .int) (C := RX0) (T := TX0) (N := 3) hx hb hts in_X0_remember_X0 tyX0 tyX0_ok nmX0 hown hK.1 hP hD hS (q) h24 rfl 2 (by decide) w_0 (fun _ h9 => h9) rfl (by decide +kernel) rfl rfl (Nat.le_of_ble_eq_true rfl) dX0_remember_36 (fun _ _ hP hD hS => ?_)
  obtain ⟨u25, h26, m27, hP, hD⟩ := wd_put hP hD h24
  have hsm := sm_tr hsm m27 (by omega) (by omega)
  have h28 : u25[q]? = some (A (q), .inr (0, [.ref (A (q + 1)), .ref (A (q + 6)), .int (size + 1)])) := h26
  obtain rfl := so_i hf
  have h29 := is_M_tr h6 m21 (by omega)
  have h30 := is_M_tr h29 m27 (by omega)
  have h31 := is_K_tr h23 m27 (by omega)
  have h32 : is_H k A u25 (q) now_told_pl now_told_sz now_inUse_pl now_inUse_sz now_draw (va_up kn (Int32.toNatClampNeg size) (r17.1, r17.2.1, r17.2.2.1, r17.2.2.2.1, r17.2.2.2.2)) (size + 1) := ⟨h28, h30, h31⟩
  exact W.vret hx hb hr (qw_end hS hP hD ⟨h32, hsm⟩) hS.2.2 dX0_remember_39

set_option maxHeartbeats 4000000 in
set_option maxRecDepth 100000 in
theorem cz_X0_remember (l : Launch) (D : va_G) (k : kt_T) (A : Nat → Nat) (ws : va_W) (q : Nat)  (now_told_pl : Nat → Int64) (now_told_sz : Int32) (now_inUse_pl : Nat → Int64) (now_inUse_sz : Int32) (now_draw : Int32) (kn : Nat → mm_T) (size : Int32)  (out : (Nat → mm_T) × Int32) (hf : pf_X0_remember now_told_pl now_told_sz now_inUse_pl now_inUse_sz now_draw kn size = some out) (h_this : is_H k A ws q now_told_pl now_told_sz now_inUse_pl now_inUse_sz now_draw kn size)  (sz0 : Nat) : Met l yX0_remember wsX0_remember { frames := 3, cells := 0, slots := 0, locals := 102 } (va_Pc [.ref (A q)] (px_P D k ws sz0)) (qw_Q D ws sz0 none (fun u => is_H k A u q now_told_pl now_told_sz now_inUse_pl now_inUse_sz now_draw out.1 out.2 ∧ sm_W ws u q (q + 37))) 0 0 (va_A ws sz0) := by
  refine Met.ofW (cc := cX0_remember) (maxL := 1) (ret := none) (by decide) rfl ?_
  intro p e s m args below meth c s₁ B hml hv
  obtain ⟨rfl, hsz, hP, hK, hD0⟩ := hv
  subst hsz
  have hD := hD0.self (sz := s.heap.size)
  have C0 : cx_P p s m meth c [.ref (A q)].toArray cX0_remember 1 wsX0_remember RX0 none := ⟨B.exec, B.bytes, hml, findClass_of_methodNamed B.named, atoms_spec (ws := wsX0_remember) B.pre, B.returns, B.notSynchronized⟩
  obtain ⟨hx, hb, hml, hown, hts, hr, hlocks⟩ := id C0
  have hcf : CallFix p m c cX0_remember 1 s [.ref (A q)].toArray wsX0_remember RX0 := ⟨hx, hb, hml, hown, hts⟩
  have hA : ∀ q, s.heap.size ≤ q → va_A ws s.heap.size q := fun q h => Or.inr h
  have hS : va_S (va_A ws s.heap.size) s.heap s.heap [] := va_S.rf
  have hsm : sm_W ws ws q (q + 37) := sm_rf
  have w_0 := hts (.fieldLink RX0 22 "LeastRoutes$History" "size" "I") (List.mem_of_getElem? (i := 1) rfl)
  have hl := lv_entry ([.ref (A q)]) (n := 1) (Nat.le_of_ble_eq_true rfl)
  rw [lg_entry_eq]
  generalize (lg_sl ([.ref (A q)]) ++ List.replicate (1 - (lg_sl ([.ref (A q)])).length) Slot.unset).toArray = ls at hl ⊢
  have hl : lv_has ls 1 [(0, .ref (A q))] := hl
  unfold pf_X0_remember at hf
  refine lv_aload_n hx hb dX0_remember_0 rfl (lv_at hl 0 rfl) ?_
  obtain ⟨h1, h2, h3⟩ := h_this
  refine va_get (D := D) (ci := 0) (v := .int size) (C := RX0) (T := TX0) (N := 3) hx hb hts in_X0_remember_X0 hown hK.1 hP (q) h1 rfl 2 (by decide) w_0 (fun _ h9 => h9) rfl dX0_remember_1 ?_
  refine lv_bipush (v := 6) hx hb dX0_remember_4 (by decide) ?_
  refine lv_icmp_ne (tgt := 13) hx hb dX0_remember_6 (by decide) (fun c4 => ?_) (fun c4 => ?_)
  · have hf := it_n c4 hf
    have h33 : is_H k A ws (q) now_told_pl now_told_sz now_inUse_pl now_inUse_sz now_draw kn size := ⟨h1, h2, h3⟩
    exact wl_X0_remember_13 l D k A ws q _ hK C0 now_told_pl now_told_sz now_inUse_pl now_inUse_sz now_draw kn size _ _ _ _ hf h33 hsm hP hD hS (lv_sub hl [0] rfl)
  · have hf := it_p c4 hf
    refine lv_aload_n hx hb dX0_remember_9 rfl (lv_at hl 0 rfl) ?_
    have h34 : is_H k A ws (q) now_told_pl now_told_sz now_inUse_pl now_inUse_sz now_draw kn size := ⟨h1, h2, h3⟩
    obtain ⟨r35, h36, hf⟩ := bd_s hf
    refine kw_v (va_runV (As := []) (rest := []) hcf (cz_X0_loseOldest l D k A ws (q) now_told_pl now_told_sz now_inUse_pl now_inUse_sz now_draw kn size r35 h36 h34 _) (cwV 0 hts gX0_remember_X0_loseOldest rfl rfl rfl (by decide +kernel) ⟨Nat.le_of_ble_eq_true rfl, Nat.le_of_ble_eq_true rfl⟩) (px_V hP hK hD (ci := 0) h34.1 rfl) rfl rfl hl.1 rfl (lv_room (Nat.le_of_ble_eq_true rfl)) dX0_remember_10 ⟨Nat.zero_le _, Nat.zero_le _⟩) hD hS hA (fun u37 _ _ h38 hP hD hS => ?_)
    obtain ⟨h40, m39⟩ := h38
    have hsm := sm_tr hsm m39 (by omega) (by omega)
    exact wl_X0_remember_13 l D k A ws q _ hK C0 now_told_pl now_told_sz now_inUse_pl now_inUse_sz now_draw r35.1 r35.2 _ _ _ _ hf h40 hsm hP hD hS (lv_sub hl [0] rfl)

theorem in_X0_goBack_X0 : ∀ w ∈ u_ws RX0 TX0 3, w ∈ wsX0_goBack := fun w h => List.mem_cons_of_mem _ (List.mem_append_left _ (List.mem_append_left _ (List.mem_append_right _ h)))
def pf_X0_goBack (now_told_pl : Nat → Int64) (now_told_sz : Int32) (now_inUse_pl : Nat → Int64) (now_inUse_sz : Int32) (now_draw : Int32) (kn : Nat → mm_T) (size : Int32)   : Option ((Nat → Int64) × Int32 × (Nat → Int64) × Int32 × Int32 × Int32) :=
  if size ≤ 0 then
    some (now_told_pl, now_told_sz, now_inUse_pl, now_inUse_sz, now_draw, size)
  else
    ck_O (in_b (size - 1) 6) (
      (pf_X1_takeFrom now_told_pl now_told_sz now_inUse_pl now_inUse_sz now_draw ((kn (Int32.toNatClampNeg (size - 1))).1) ((kn (Int32.toNatClampNeg (size - 1))).2.1) ((kn (Int32.toNatClampNeg (size - 1))).2.2.1) ((kn (Int32.toNatClampNeg (size - 1))).2.2.2.1) ((kn (Int32.toNatClampNeg (size - 1))).2.2.2.2)).bind (fun r21 =>
        some (r21.1, r21.2.1, r21.2.2.1, r21.2.2.2.1, r21.2.2.2.2, (size - 1))))

set_option maxHeartbeats 4000000 in
set_option maxRecDepth 100000 in
theorem cz_X0_goBack (l : Launch) (D : va_G) (k : kt_T) (A : Nat → Nat) (ws : va_W) (q : Nat)  (now_told_pl : Nat → Int64) (now_told_sz : Int32) (now_inUse_pl : Nat → Int64) (now_inUse_sz : Int32) (now_draw : Int32) (kn : Nat → mm_T) (size : Int32)  (out : (Nat → Int64) × Int32 × (Nat → Int64) × Int32 × Int32 × Int32) (hf : pf_X0_goBack now_told_pl now_told_sz now_inUse_pl now_inUse_sz now_draw kn size = some out) (h_this : is_H k A ws q now_told_pl now_told_sz now_inUse_pl now_inUse_sz now_draw kn size)  (sz0 : Nat) : Met l yX0_goBack wsX0_goBack { frames := 3, cells := 0, slots := 0, locals := 102 } (va_Pc [.ref (A q)] (px_P D k ws sz0)) (qw_Q D ws sz0 none (fun u => is_H k A u q out.1 out.2.1 out.2.2.1 out.2.2.2.1 out.2.2.2.2.1 kn out.2.2.2.2.2 ∧ sm_W ws u q (q + 37))) 0 0 (va_A ws sz0) := by
  refine Met.ofW (cc := cX0_goBack) (maxL := 1) (ret := none) (by decide) rfl ?_
  intro p e s m args below meth c s₁ B hml hv
  obtain ⟨rfl, hsz, hP, hK, hD0⟩ := hv
  subst hsz
  have hD := hD0.self (sz := s.heap.size)
  have C0 : cx_P p s m meth c [.ref (A q)].toArray cX0_goBack 1 wsX0_goBack RX0 none := ⟨B.exec, B.bytes, hml, findClass_of_methodNamed B.named, atoms_spec (ws := wsX0_goBack) B.pre, B.returns, B.notSynchronized⟩
  obtain ⟨hx, hb, hml, hown, hts, hr, hlocks⟩ := id C0
  have hcf : CallFix p m c cX0_goBack 1 s [.ref (A q)].toArray wsX0_goBack RX0 := ⟨hx, hb, hml, hown, hts⟩
  have hA : ∀ q, s.heap.size ≤ q → va_A ws s.heap.size q := fun q h => Or.inr h
  have hS : va_S (va_A ws s.heap.size) s.heap s.heap [] := va_S.rf
  have hsm : sm_W ws ws q (q + 37) := sm_rf
  have w_0 := hts (.fieldLink RX0 22 "LeastRoutes$History" "size" "I") (List.mem_of_getElem? (i := 1) rfl)
  have w_1 := hts (.fieldLink RX0 12 "LeastRoutes$History" "now" "LLeastRoutes$Moment;") (List.mem_of_getElem? (i := 2) rfl)
  have w_2 := hts (.fieldLink RX0 18 "LeastRoutes$History" "known" "[LLeastRoutes$Moment;") (List.mem_of_getElem? (i := 3) rfl)
  have hl := lv_entry ([.ref (A q)]) (n := 1) (Nat.le_of_ble_eq_true rfl)
  rw [lg_entry_eq]
  generalize (lg_sl ([.ref (A q)]) ++ List.replicate (1 - (lg_sl ([.ref (A q)])).length) Slot.unset).toArray = ls at hl ⊢
  have hl : lv_has ls 1 [(0, .ref (A q))] := hl
  unfold pf_X0_goBack at hf
  refine lv_aload_n hx hb dX0_goBack_0 rfl (lv_at hl 0 rfl) ?_
  obtain ⟨h1, h2, h3⟩ := h_this
  refine va_get (D := D) (ci := 0) (v := .int size) (C := RX0) (T := TX0) (N := 3) hx hb hts in_X0_goBack_X0 hown hK.1 hP (q) h1 rfl 2 (by decide) w_0 (fun _ h9 => h9) rfl dX0_goBack_1 ?_
  refine lv_if_le (tgt := 33) hx hb dX0_goBack_4 (by decide) (fun c4 => ?_) (fun c4 => ?_)
  · have hf := it_p c4 hf
    obtain rfl := so_i hf
    have h5 : is_H k A ws (q) now_told_pl now_told_sz now_inUse_pl now_inUse_sz now_draw kn size := ⟨h1, h2, h3⟩
    exact W.vret hx hb hr (qw_end hS hP hD ⟨h5, hsm⟩) hS.2.2 dX0_goBack_33
  · have hf := it_n c4 hf
    refine lv_aload_n hx hb dX0_goBack_7 rfl (lv_at hl 0 rfl) ?_
    refine lv_dup hx hb dX0_goBack_8 rfl ?_
    refine va_get (D := D) (ci := 0) (v := .int size) (C := RX0) (T := TX0) (N := 3) hx hb hts in_X0_goBack_X0 hown hK.1 hP (q) h1 rfl 2 (by decide) w_0 (fun _ h9 => h9) rfl dX0_goBack_9 ?_
    refine lv_iconst (v := 1) hx hb dX0_goBack_12 (by decide) ?_
    refine lv_isub hx hb dX0_goBack_13 ?_
    refine va_put (D := D) (ci := 0) (v := .int (size - 1)) (ty := .int) (C := RX0) (T := TX0) (N := 3) hx hb hts in_X0_goBack_X0 tyX0 tyX0_ok nmX0 hown hK.1 hP hD hS (q) h1 rfl 2 (by decide) w_0 (fun _ h9 => h9) rfl (by decide +kernel) rfl rfl (Nat.le_of_ble_eq_true rfl) dX0_goBack_14 (fun _ _ hP hD hS => ?_)
    obtain ⟨u6, h7, m8, hP, hD⟩ := wd_put hP hD h1
    have hsm := sm_tr hsm m8 (by omega) (by omega)
    have h9 : u6[q]? = some (A (q), .inr (0, [.ref (A (q + 1)), .ref (A (q + 6)), .int (size - 1)])) := h7
    refine lv_aload_n hx hb dX0_goBack_17 rfl (lv_at hl 0 rfl) ?_
    refine va_get (D := D) (ci := 0) (v := .ref (A (q + 1))) (C := RX0) (T := TX0) (N := 3) hx hb hts in_X0_goBack_X0 hown hK.1 hP (q) h9 rfl 0 (by decide) w_1 (fun _ h9 => h9) rfl dX0_goBack_18 ?_
    refine lv_aload_n hx hb dX0_goBack_21 rfl (lv_at hl 0 rfl) ?_
    refine va_get (D := D) (ci := 0) (v := .ref (A (q + 6))) (C := RX0) (T := TX0) (N := 3) hx hb hts in_X0_goBack_X0 hown hK.1 hP (q) h9 rfl 1 (by decide) w_2 (fun _ h9 => h9) rfl dX0_goBack_22 ?_
    refine lv_aload_n hx hb dX0_goBack_25 rfl (lv_at hl 0 rfl) ?_
    refine va_get (D := D) (ci := 0) (v := .int (size - 1)) (C := RX0) (T := TX0) (N := 3) hx hb hts in_X0_goBack_X0 hown hK.1 hP (q) h9 rfl 2 (by decide) w_0 (fun _ h9 => h9) rfl dX0_goBack_26 ?_
    have h10 := is_K_tr h3 m8 (by omega)
    obtain ⟨z11, hf⟩ := ck_s hf
    obtain ⟨b19, h12, h13, h14, h15, h16, h17, h18⟩ := is_K_get h10 (in_s z11)
    refine va_aldq hx hb hK.1 hP (q + 6) 2 h13 rfl (in_s z11) dX0_goBack_29 ?_
    refine W.eq (g2 := F0 m 30 ls [.ref (A (b19)), .ref (A (q + 1))]) (by rw [h14]; rfl) ?_
    have h20 := is_M_tr h2 m8 (by omega)
    obtain ⟨r21, h22, hf⟩ := bd_s hf
    refine kw_v (va_runV (As := [.ref (A (b19))]) (rest := []) hcf (cz_X1_takeFrom l D k A u6 (q + 1) (b19) now_told_pl now_told_sz now_inUse_pl now_inUse_sz now_draw ((kn (Int32.toNatClampNeg (size - 1))).1) ((kn (Int32.toNatClampNeg (size - 1))).2.1) ((kn (Int32.toNatClampNeg (size - 1))).2.2.1) ((kn (Int32.toNatClampNeg (size - 1))).2.2.2.1) ((kn (Int32.toNatClampNeg (size - 1))).2.2.2.2) r21 h22 h20 h17 (by omega) _) (cwV 1 hts gX0_goBack_X1_takeFrom rfl rfl rfl (by decide +kernel) ⟨Nat.le_of_ble_eq_true rfl, Nat.le_of_ble_eq_true rfl⟩) (px_V hP hK hD (ci := 1) h20.1 rfl) rfl rfl hl.1 rfl (lv_room (Nat.le_of_ble_eq_true rfl)) dX0_goBack_30 ⟨Nat.zero_le _, Nat.zero_le _⟩) hD hS hA (fun u23 _ _ h24 hP hD hS => ?_)
    obtain ⟨h26, m25⟩ := h24
    have hsm := sm_tr hsm m25 (by omega) (by omega)
    obtain rfl := so_i hf
    have h27 := sm_at m25 (by omega) h9
    have h28 := is_K_tr h10 m25 (by omega)
    have h29 : is_H k A u23 (q) r21.1 r21.2.1 r21.2.2.1 r21.2.2.2.1 r21.2.2.2.2 kn (size - 1) := ⟨h27, h26, h28⟩
    exact W.vret hx hb hr (qw_end hS hP hD ⟨h29, hsm⟩) hS.2.2 dX0_goBack_33

theorem in_X0_takeAllFrom_X0 : ∀ w ∈ u_ws RX0 TX0 3, w ∈ wsX0_takeAllFrom := fun w h => List.mem_cons_of_mem _ (List.mem_append_left _ (List.mem_append_left _ (List.mem_append_right _ h)))
def lp_X0_takeAllFrom_13  (now_told_pl : Nat → Int64) (now_told_sz : Int32) (now_inUse_pl : Nat → Int64) (now_inUse_sz : Int32) (now_draw : Int32) (size : Int32) (o1_kn : Nat → mm_T) (o1_size : Int32) : Nat → (Nat → mm_T) → Int32 → Option ((Nat → Int64) × Int32 × (Nat → Int64) × Int32 × Int32 × (Nat → mm_T) × Int32)
  | 0, _, _ => none
  | n + 1, kn, x2 =>
    if 6 ≤ x2 then
      some (now_told_pl, now_told_sz, now_inUse_pl, now_inUse_sz, now_draw, kn, o1_size)
    else
      ck_O (in_b x2 6) (
        ck_O (in_b x2 6) (
          (pf_X1_takeFrom ((kn (Int32.toNatClampNeg x2)).1) ((kn (Int32.toNatClampNeg x2)).2.1) ((kn (Int32.toNatClampNeg x2)).2.2.1) ((kn (Int32.toNatClampNeg x2)).2.2.2.1) ((kn (Int32.toNatClampNeg x2)).2.2.2.2) ((o1_kn (Int32.toNatClampNeg x2)).1) ((o1_kn (Int32.toNatClampNeg x2)).2.1) ((o1_kn (Int32.toNatClampNeg x2)).2.2.1) ((o1_kn (Int32.toNatClampNeg x2)).2.2.2.1) ((o1_kn (Int32.toNatClampNeg x2)).2.2.2.2)).bind (fun r51 =>
            lp_X0_takeAllFrom_13 now_told_pl now_told_sz now_inUse_pl now_inUse_sz now_draw size o1_kn o1_size n (va_up kn (Int32.toNatClampNeg x2) (r51.1, r51.2.1, r51.2.2.1, r51.2.2.2.1, r51.2.2.2.2)) (x2 + 1))))

def pf_X0_takeAllFrom (now_told_pl : Nat → Int64) (now_told_sz : Int32) (now_inUse_pl : Nat → Int64) (now_inUse_sz : Int32) (now_draw : Int32) (kn : Nat → mm_T) (size : Int32) (o1_now_told_pl : Nat → Int64) (o1_now_told_sz : Int32) (o1_now_inUse_pl : Nat → Int64) (o1_now_inUse_sz : Int32) (o1_now_draw : Int32) (o1_kn : Nat → mm_T) (o1_size : Int32)   : Option ((Nat → Int64) × Int32 × (Nat → Int64) × Int32 × Int32 × (Nat → mm_T) × Int32) :=
  (pf_X1_takeFrom now_told_pl now_told_sz now_inUse_pl now_inUse_sz now_draw o1_now_told_pl o1_now_told_sz o1_now_inUse_pl o1_now_inUse_sz o1_now_draw).bind (fun r7 =>
    lp_X0_takeAllFrom_13 r7.1 r7.2.1 r7.2.2.1 r7.2.2.2.1 r7.2.2.2.2 size o1_kn o1_size fu_N kn 0)

set_option maxHeartbeats 4000000 in
set_option maxRecDepth 100000 in
theorem wl_X0_takeAllFrom_13 {p : Program} {e : Env} {s : State} {m : MethodId} {args : Array Value} {below : List Frame} {meth : Method} {c : Code} (l : Launch) (D : va_G) (k : kt_T) (A : Nat → Nat) (ws : va_W) (q q1 : Nat)  (out : (Nat → Int64) × Int32 × (Nat → Int64) × Int32 × Int32 × (Nat → mm_T) × Int32) (hK : kk_P D k s) (C0 : cx_P p s m meth c args cX0_takeAllFrom 3 wsX0_takeAllFrom RX0 none) (hdis : (q + 37 ≤ q1 ∨ q1 + 37 ≤ q)) (now_told_pl : Nat → Int64) (now_told_sz : Int32) (now_inUse_pl : Nat → Int64) (now_inUse_sz : Int32) (now_draw : Int32) (size : Int32) (o1_now_told_pl : Nat → Int64) (o1_now_told_sz : Int32) (o1_now_inUse_pl : Nat → Int64) (o1_now_inUse_sz : Int32) (o1_now_draw : Int32) (o1_kn : Nat → mm_T) (o1_size : Int32)     : ∀ (n : Nat) (kn : Nat → mm_T) (x2 : Int32) (w : va_W) (H : Heap) (locs : List Loc) (ls : Array Slot), lp_X0_takeAllFrom_13 now_told_pl now_told_sz now_inUse_pl now_inUse_sz now_draw size o1_kn o1_size n kn x2 = some out → is_H k A w q now_told_pl now_told_sz now_inUse_pl now_inUse_sz now_draw kn size → is_H k A w q1 o1_now_told_pl o1_now_told_sz o1_now_inUse_pl o1_now_inUse_sz o1_now_draw o1_kn o1_size → sm_W ws w q (q + 37) → va_P D vwCl w H → va_D (va_A ws s.heap.size) w → va_S (va_A ws s.heap.size) s.heap H locs → lv_has ls 3 [(0, .ref (A q)), (1, .ref (A q1)), (2, .int x2)] → W p l e (headSpec wsX0_takeAllFrom { frames := 3, cells := 0, slots := 0, locals := 102 }).room s m args below meth c H locs 0 0 (MQ below (qw_Q D ws s.heap.size none (fun u => is_H k A u q out.1 out.2.1 out.2.2.1 out.2.2.2.1 out.2.2.2.2.1 out.2.2.2.2.2.1 out.2.2.2.2.2.2 ∧ sm_W ws u q (q + 37))) args s 0 0 (va_A ws s.heap.size)) (F0 m 13 ls []) := by
  obtain ⟨hx, hb, hml, hown, hts, hr, hlocks⟩ := id C0
  have hcf : CallFix p m c cX0_takeAllFrom 3 s args wsX0_takeAllFrom RX0 := ⟨hx, hb, hml, hown, hts⟩
  have hA : ∀ q, s.heap.size ≤ q → va_A ws s.heap.size q := fun q h => Or.inr h
  have w_1 := hts (.fieldLink RX0 18 "LeastRoutes$History" "known" "[LLeastRoutes$Moment;") (List.mem_of_getElem? (i := 2) rfl)
  have w_2 := hts (.fieldLink RX0 22 "LeastRoutes$History" "size" "I") (List.mem_of_getElem? (i := 3) rfl)
  intro n
  induction n with
  | zero =>
    intro kn x2 w H locs ls hf h_this h_o1 hsm hP hD hS hl
    exact (no_s hf).elim
  | succ n ih =>
    intro kn x2 w H locs ls hf h_this h_o1 hsm hP hD hS hl
    rw [lp_X0_takeAllFrom_13] at hf
    refine lv_iload_n hx hb dX0_takeAllFrom_13 rfl (lv_at hl 2 rfl) ?_
    refine lv_bipush (v := 6) hx hb dX0_takeAllFrom_14 (by decide) ?_
    refine lv_icmp_ge (tgt := 40) hx hb dX0_takeAllFrom_16 (by decide) (fun c13 => ?_) (fun c13 => ?_)
    · have hf := it_p c13 hf
      refine lv_aload_n hx hb dX0_takeAllFrom_40 rfl (lv_at hl 0 rfl) ?_
      refine lv_aload_n hx hb dX0_takeAllFrom_41 rfl (lv_at hl 1 rfl) ?_
      obtain ⟨h14, h15, h16⟩ := h_o1
      refine va_get (D := D) (ci := 0) (v := .int o1_size) (C := RX0) (T := TX0) (N := 3) hx hb hts in_X0_takeAllFrom_X0 hown hK.1 hP (q1) h14 rfl 2 (by decide) w_2 (fun _ h9 => h9) rfl dX0_takeAllFrom_42 ?_
      obtain ⟨h17, h18, h19⟩ := h_this
      refine va_put (D := D) (ci := 0) (v := .int o1_size) (ty := .int) (C := RX0) (T := TX0) (N := 3) hx hb hts in_X0_takeAllFrom_X0 tyX0 tyX0_ok nmX0 hown hK.1 hP hD hS (q) h17 rfl 2 (by decide) w_2 (fun _ h9 => h9) rfl (by decide +kernel) rfl rfl (Nat.le_of_ble_eq_true rfl) dX0_takeAllFrom_45 (fun _ _ hP hD hS => ?_)
      obtain ⟨u20, h21, m22, hP, hD⟩ := wd_put hP hD h17
      have hsm := sm_tr hsm m22 (by omega) (by omega)
      have h23 : u20[q]? = some (A (q), .inr (0, [.ref (A (q + 1)), .ref (A (q + 6)), .int o1_size])) := h21
      obtain rfl := so_i hf
      have h24 := is_M_tr h18 m22 (by omega)
      have h25 := is_K_tr h19 m22 (by omega)
      have h26 : is_H k A u20 (q) now_told_pl now_told_sz now_inUse_pl now_inUse_sz now_draw kn o1_size := ⟨h23, h24, h25⟩
      exact W.vret hx hb hr (qw_end hS hP hD ⟨h26, hsm⟩) hS.2.2 dX0_takeAllFrom_48
    · have hf := it_n c13 hf
      refine lv_aload_n hx hb dX0_takeAllFrom_19 rfl (lv_at hl 0 rfl) ?_
      obtain ⟨h27, h28, h29⟩ := h_this
      refine va_get (D := D) (ci := 0) (v := .ref (A (q + 6))) (C := RX0) (T := TX0) (N := 3) hx hb hts in_X0_takeAllFrom_X0 hown hK.1 hP (q) h27 rfl 1 (by decide) w_1 (fun _ h9 => h9) rfl dX0_takeAllFrom_20 ?_
      refine lv_iload_n hx hb dX0_takeAllFrom_23 rfl (lv_at hl 2 rfl) ?_
      obtain ⟨z30, hf⟩ := ck_s hf
      obtain ⟨b38, h31, h32, h33, h34, h35, h36, h37⟩ := is_K_get h29 (in_s z30)
      refine va_aldq hx hb hK.1 hP (q + 6) 2 h32 rfl (in_s z30) dX0_takeAllFrom_24 ?_
      refine W.eq (g2 := F0 m 25 ls [.ref (A (b38))]) (by rw [h33]; rfl) ?_
      refine lv_aload_n hx hb dX0_takeAllFrom_25 rfl (lv_at hl 1 rfl) ?_
      obtain ⟨h39, h40, h41⟩ := h_o1
      refine va_get (D := D) (ci := 0) (v := .ref (A (q1 + 6))) (C := RX0) (T := TX0) (N := 3) hx hb hts in_X0_takeAllFrom_X0 hown hK.1 hP (q1) h39 rfl 1 (by decide) w_1 (fun _ h9 => h9) rfl dX0_takeAllFrom_26 ?_
      refine lv_iload_n hx hb dX0_takeAllFrom_29 rfl (lv_at hl 2 rfl) ?_
      obtain ⟨z42, hf⟩ := ck_s hf
      obtain ⟨b50, h43, h44, h45, h46, h47, h48, h49⟩ := is_K_get h41 (in_s z42)
      refine va_aldq hx hb hK.1 hP (q1 + 6) 2 h44 rfl (in_s z42) dX0_takeAllFrom_30 ?_
      refine W.eq (g2 := F0 m 31 ls [.ref (A (b50)), .ref (A (b38))]) (by rw [h45]; rfl) ?_
      obtain ⟨r51, h52, hf⟩ := bd_s hf
      refine kw_v (va_runV (As := [.ref (A (b50))]) (rest := []) hcf (cz_X1_takeFrom l D k A w (b38) (b50) ((kn (Int32.toNatClampNeg x2)).1) ((kn (Int32.toNatClampNeg x2)).2.1) ((kn (Int32.toNatClampNeg x2)).2.2.1) ((kn (Int32.toNatClampNeg x2)).2.2.2.1) ((kn (Int32.toNatClampNeg x2)).2.2.2.2) ((o1_kn (Int32.toNatClampNeg x2)).1) ((o1_kn (Int32.toNatClampNeg x2)).2.1) ((o1_kn (Int32.toNatClampNeg x2)).2.2.1) ((o1_kn (Int32.toNatClampNeg x2)).2.2.2.1) ((o1_kn (Int32.toNatClampNeg x2)).2.2.2.2) r51 h52 h36 h48 (by omega) _) (cwV 1 hts gX0_takeAllFrom_X1_takeFrom rfl rfl rfl (by decide +kernel) ⟨Nat.le_of_ble_eq_true rfl, Nat.le_of_ble_eq_true rfl⟩) (px_V hP hK hD (ci := 1) h36.1 rfl) rfl rfl hl.1 rfl (lv_room (Nat.le_of_ble_eq_true rfl)) dX0_takeAllFrom_31 ⟨Nat.zero_le _, Nat.zero_le _⟩) hD hS hA (fun u53 _ _ h54 hP hD hS => ?_)
      obtain ⟨h56, m55⟩ := h54
      have hsm := sm_tr hsm m55 (by omega) (by omega)
      have h57 : is_K k A u53 (q + 6) (va_up kn (Int32.toNatClampNeg x2) (r51.1, r51.2.1, r51.2.2.1, r51.2.2.2.1, r51.2.2.2.2)) := h37 _ (r51.1, r51.2.1, r51.2.2.1, r51.2.2.2.1, r51.2.2.2.2) h56 m55
      refine lv_iinc (v := (x2 + 1)) (lv' := [(2, .int (x2 + 1)), (0, .ref (A q)), (1, .ref (A q1))]) hx hb dX0_takeAllFrom_34 hl (k := 2) rfl rfl (by decide) rfl (fun ls hl => ?_)
      refine lv_goto (tgt := 13) hx hb dX0_takeAllFrom_37 (by decide) ?_
      have h58 := sm_at m55 (by omega) h27
      have h59 := is_M_tr h28 m55 (by omega)
      have h60 : is_H k A u53 (q) now_told_pl now_told_sz now_inUse_pl now_inUse_sz now_draw (va_up kn (Int32.toNatClampNeg x2) (r51.1, r51.2.1, r51.2.2.1, r51.2.2.2.1, r51.2.2.2.2)) size := ⟨h58, h59, h57⟩
      have h61 := sm_at m55 (by omega) h39
      have h62 := is_M_tr h40 m55 (by omega)
      have h63 := is_K_tr h41 m55 (by omega)
      have h64 : is_H k A u53 (q1) o1_now_told_pl o1_now_told_sz o1_now_inUse_pl o1_now_inUse_sz o1_now_draw o1_kn o1_size := ⟨h61, h62, h63⟩
      exact ih (va_up kn (Int32.toNatClampNeg x2) (r51.1, r51.2.1, r51.2.2.1, r51.2.2.2.1, r51.2.2.2.2)) (x2 + 1) _ _ _ _ hf h60 h64 hsm hP hD hS (lv_sub hl [1, 2, 0] rfl)

set_option maxHeartbeats 4000000 in
set_option maxRecDepth 100000 in
theorem cz_X0_takeAllFrom (l : Launch) (D : va_G) (k : kt_T) (A : Nat → Nat) (ws : va_W) (q q1 : Nat)  (now_told_pl : Nat → Int64) (now_told_sz : Int32) (now_inUse_pl : Nat → Int64) (now_inUse_sz : Int32) (now_draw : Int32) (kn : Nat → mm_T) (size : Int32) (o1_now_told_pl : Nat → Int64) (o1_now_told_sz : Int32) (o1_now_inUse_pl : Nat → Int64) (o1_now_inUse_sz : Int32) (o1_now_draw : Int32) (o1_kn : Nat → mm_T) (o1_size : Int32)  (out : (Nat → Int64) × Int32 × (Nat → Int64) × Int32 × Int32 × (Nat → mm_T) × Int32) (hf : pf_X0_takeAllFrom now_told_pl now_told_sz now_inUse_pl now_inUse_sz now_draw kn size o1_now_told_pl o1_now_told_sz o1_now_inUse_pl o1_now_inUse_sz o1_now_draw o1_kn o1_size = some out) (h_this : is_H k A ws q now_told_pl now_told_sz now_inUse_pl now_inUse_sz now_draw kn size) (h_o1 : is_H k A ws q1 o1_now_told_pl o1_now_told_sz o1_now_inUse_pl o1_now_inUse_sz o1_now_draw o1_kn o1_size) (hdis : (q + 37 ≤ q1 ∨ q1 + 37 ≤ q)) (sz0 : Nat) : Met l yX0_takeAllFrom wsX0_takeAllFrom { frames := 3, cells := 0, slots := 0, locals := 102 } (va_Pc [.ref (A q), .ref (A q1)] (px_P D k ws sz0)) (qw_Q D ws sz0 none (fun u => is_H k A u q out.1 out.2.1 out.2.2.1 out.2.2.2.1 out.2.2.2.2.1 out.2.2.2.2.2.1 out.2.2.2.2.2.2 ∧ sm_W ws u q (q + 37))) 0 0 (va_A ws sz0) := by
  refine Met.ofW (cc := cX0_takeAllFrom) (maxL := 3) (ret := none) (by decide) rfl ?_
  intro p e s m args below meth c s₁ B hml hv
  obtain ⟨rfl, hsz, hP, hK, hD0⟩ := hv
  subst hsz
  have hD := hD0.self (sz := s.heap.size)
  have C0 : cx_P p s m meth c [.ref (A q), .ref (A q1)].toArray cX0_takeAllFrom 3 wsX0_takeAllFrom RX0 none := ⟨B.exec, B.bytes, hml, findClass_of_methodNamed B.named, atoms_spec (ws := wsX0_takeAllFrom) B.pre, B.returns, B.notSynchronized⟩
  obtain ⟨hx, hb, hml, hown, hts, hr, hlocks⟩ := id C0
  have hcf : CallFix p m c cX0_takeAllFrom 3 s [.ref (A q), .ref (A q1)].toArray wsX0_takeAllFrom RX0 := ⟨hx, hb, hml, hown, hts⟩
  have hA : ∀ q, s.heap.size ≤ q → va_A ws s.heap.size q := fun q h => Or.inr h
  have hS : va_S (va_A ws s.heap.size) s.heap s.heap [] := va_S.rf
  have hsm : sm_W ws ws q (q + 37) := sm_rf
  have w_0 := hts (.fieldLink RX0 12 "LeastRoutes$History" "now" "LLeastRoutes$Moment;") (List.mem_of_getElem? (i := 1) rfl)
  have hl := lv_entry ([.ref (A q), .ref (A q1)]) (n := 3) (Nat.le_of_ble_eq_true rfl)
  rw [lg_entry_eq]
  generalize (lg_sl ([.ref (A q), .ref (A q1)]) ++ List.replicate (3 - (lg_sl ([.ref (A q), .ref (A q1)])).length) Slot.unset).toArray = ls at hl ⊢
  have hl : lv_has ls 3 [(0, .ref (A q)), (1, .ref (A q1))] := hl
  unfold pf_X0_takeAllFrom at hf
  refine lv_aload_n hx hb dX0_takeAllFrom_0 rfl (lv_at hl 0 rfl) ?_
  obtain ⟨h1, h2, h3⟩ := h_this
  refine va_get (D := D) (ci := 0) (v := .ref (A (q + 1))) (C := RX0) (T := TX0) (N := 3) hx hb hts in_X0_takeAllFrom_X0 hown hK.1 hP (q) h1 rfl 0 (by decide) w_0 (fun _ h9 => h9) rfl dX0_takeAllFrom_1 ?_
  refine lv_aload_n hx hb dX0_takeAllFrom_4 rfl (lv_at hl 1 rfl) ?_
  obtain ⟨h4, h5, h6⟩ := h_o1
  refine va_get (D := D) (ci := 0) (v := .ref (A (q1 + 1))) (C := RX0) (T := TX0) (N := 3) hx hb hts in_X0_takeAllFrom_X0 hown hK.1 hP (q1) h4 rfl 0 (by decide) w_0 (fun _ h9 => h9) rfl dX0_takeAllFrom_5 ?_
  obtain ⟨r7, h8, hf⟩ := bd_s hf
  refine kw_v (va_runV (As := [.ref (A (q1 + 1))]) (rest := []) hcf (cz_X1_takeFrom l D k A ws (q + 1) (q1 + 1) now_told_pl now_told_sz now_inUse_pl now_inUse_sz now_draw o1_now_told_pl o1_now_told_sz o1_now_inUse_pl o1_now_inUse_sz o1_now_draw r7 h8 h2 h5 (by omega) _) (cwV 1 hts gX0_takeAllFrom_X1_takeFrom rfl rfl rfl (by decide +kernel) ⟨Nat.le_of_ble_eq_true rfl, Nat.le_of_ble_eq_true rfl⟩) (px_V hP hK hD (ci := 1) h2.1 rfl) rfl rfl hl.1 rfl (lv_room (Nat.le_of_ble_eq_true rfl)) dX0_takeAllFrom_8 ⟨Nat.zero_le _, Nat.zero_le _⟩) hD hS hA (fun u9 _ _ h10 hP hD hS => ?_)
  obtain ⟨h12, m11⟩ := h10
  have hsm := sm_tr hsm m11 (by omega) (by omega)
  refine lv_iconst (v := 0) hx hb dX0_takeAllFrom_11 (by decide) ?_
  refine lv_istore_n (lv' := [(2, .int 0), (0, .ref (A q)), (1, .ref (A q1))]) hx hb dX0_takeAllFrom_12 rfl hl (by decide) rfl (fun ls hl => ?_)
  have h65 := sm_at m11 (by omega) h1
  have h66 := is_K_tr h3 m11 (by omega)
  have h67 : is_H k A u9 (q) r7.1 r7.2.1 r7.2.2.1 r7.2.2.2.1 r7.2.2.2.2 kn size := ⟨h65, h12, h66⟩
  have h68 := sm_at m11 (by omega) h4
  have h69 := is_M_tr h5 m11 (by omega)
  have h70 := is_K_tr h6 m11 (by omega)
  have h71 : is_H k A u9 (q1) o1_now_told_pl o1_now_told_sz o1_now_inUse_pl o1_now_inUse_sz o1_now_draw o1_kn o1_size := ⟨h68, h69, h70⟩
  exact wl_X0_takeAllFrom_13 l D k A ws q q1 _ hK C0 hdis r7.1 r7.2.1 r7.2.2.1 r7.2.2.2.1 r7.2.2.2.2 size o1_now_told_pl o1_now_told_sz o1_now_inUse_pl o1_now_inUse_sz o1_now_draw o1_kn o1_size fu_N kn 0 _ _ _ _ hf h67 h71 hsm hP hD hS (lv_sub hl [1, 2, 0] rfl)

