theorem in_X6_init_X0 : ∀ w ∈ u_ws RX0 TX0 3, w ∈ wsX6_init := fun w h => List.mem_cons_of_mem _ (List.mem_append_left _ (List.mem_append_left _ (List.mem_append_left _ (List.mem_append_left _ (List.mem_append_left _ (List.mem_append_left _ (List.mem_append_right _ h)))))))
theorem in_X6_init_X2 : ∀ w ∈ u_ws RX2 TX2 3, w ∈ wsX6_init := fun w h => List.mem_cons_of_mem _ (List.mem_append_left _ (List.mem_append_left _ (List.mem_append_right _ h)))
theorem in_X6_init_X4 : ∀ w ∈ u_ws RX4 TX4 5, w ∈ wsX6_init := fun w h => List.mem_cons_of_mem _ (List.mem_append_left _ (List.mem_append_left _ (List.mem_append_left _ (List.mem_append_right _ h))))
theorem in_X6_init_X5 : ∀ w ∈ u_ws RX5 TX5 7, w ∈ wsX6_init := fun w h => List.mem_cons_of_mem _ (List.mem_append_left _ (List.mem_append_left _ (List.mem_append_left _ (List.mem_append_left _ (List.mem_append_right _ h)))))
theorem in_X6_init_X6 : ∀ w ∈ u_ws RX6 TX6 7, w ∈ wsX6_init := fun w h => List.mem_cons_of_mem _ (List.mem_append_left _ (List.mem_append_left _ (List.mem_append_left _ (List.mem_append_left _ (List.mem_append_left _ (List.mem_append_right _ h))))))
def xl_X6 (k : kt_T) (a : Nat) (b : Nat → Nat) : va_W := [(a, .inr (6, [.ref (b 0), .ref (b 37), .ref (b 74), .ref (b 84), .ref (b 88), .int 0, .int 1]))] ++ (xl_X0 k (b 0) (fun i => b (i + 1)) ++ (xl_X0 k (b 37) (fun i => b (i + 38)) ++ (xl_X5 k (b 74) (fun i => b (i + 75)) ++ (xl_X4 k (b 84) (fun i => b (i + 85)) ++ ([((b 88), .inl (k.2.2.2, 4, .inr (.inr (.inr (.inr (va_up (va_up (va_up (va_up (fun _ => none) 0 (some (b 89))) 1 (some (b 91))) 2 (some (b 93))) 3 (some (b 95))))))))] ++ (xl_X2 k (b 89) (fun i => b (i + 90)) ++ (xl_X2 k (b 91) (fun i => b (i + 92)) ++ (xl_X2 k (b 93) (fun i => b (i + 94)) ++ (xl_X2 k (b 95) (fun i => b (i + 96)))))))))))
set_option maxHeartbeats 4000000 in
set_option maxRecDepth 100000 in
theorem cz_X6_init (l : Launch) (D : va_G) (k : kt_T) (w0 : va_W) (a sz0 : Nat) : Met l yX6_init wsX6_init { frames := 4, cells := 97, slots := 3922, locals := 73 } (va_Pc [.ref a] (py_P D k (w0 ++ [(a, .inr (6, [.null, .null, .null, .null, .null, .int 0, .int 0]))]) sz0)) (qw_Q D (w0 ++ [(a, .inr (6, [.null, .null, .null, .null, .null, .int 0, .int 0]))]) sz0 none (fun u => ∃ b : Nat → Nat, u = w0 ++ xl_X6 k a b)) 97 3922 (va_A (w0 ++ [(a, .inr (6, [.null, .null, .null, .null, .null, .int 0, .int 0]))]) sz0) := by
  refine Met.ofW (cc := cX6_init) (maxL := 2) (ret := none) (by decide) rfl ?_
  intro p e s m args below meth c s₁ B hml hv
  obtain ⟨rfl, ⟨hsz, hP, hK, hD0⟩, hao⟩ := hv
  subst hsz
  have hD := hD0.self (sz := s.heap.size)
  have C0 : cx_P p s m meth c [.ref a].toArray cX6_init 2 wsX6_init RX6 none := ⟨B.exec, B.bytes, hml, findClass_of_methodNamed B.named, atoms_spec (ws := wsX6_init) B.pre, B.returns, B.notSynchronized⟩
  obtain ⟨hx, hb, hml, hown, hts, hr, hlocks⟩ := id C0
  have hin : meth.name = "<init>" := (name_of_methodNamed B.named B.method).1
  have hcf : CallFix p m c cX6_init 2 s [.ref a].toArray wsX6_init RX6 := ⟨hx, hb, hml, hown, hts⟩
  have hA : ∀ q, s.heap.size ≤ q → va_A (w0 ++ [(a, .inr (6, [.null, .null, .null, .null, .null, .int 0, .int 0]))]) s.heap.size q := fun q h => Or.inr h
  have hS : va_S (va_A (w0 ++ [(a, .inr (6, [.null, .null, .null, .null, .null, .int 0, .int 0]))]) s.heap.size) s.heap s.heap [] := va_S.rf
  have w_0 := hts (.methodLink RX6 1 objectInit) (List.mem_of_getElem? (i := 1) rfl)
  have w_1 := hts (.instanceMethod objectInit) (List.mem_of_getElem? (i := 2) rfl)
  have w_2 := hts (.code objectInit ⟨#[0xb1]⟩ 1 none) (List.mem_of_getElem? (i := 3) rfl)
  have w_3 := hts (.classLink RX6 7 RX0) (List.mem_of_getElem? (i := 4) rfl)
  have w_4 := hts (.instantiable RX0 3) (List.mem_of_getElem? (i := 5) rfl)
  have w_5 := hts (.initialized RX0) (List.mem_of_getElem? (i := 6) rfl)
  have w_6 := hts (.instanceMethod yX0_init) (List.mem_of_getElem? (i := 24) rfl)
  have w_7 := hts (.methodLink RX6 9 yX0_init) (List.mem_of_getElem? (i := 23) rfl)
  have w_8 := hts (.fieldLink RX6 10 "LeastRoutes" "history" "LLeastRoutes$History;") (List.mem_of_getElem? (i := 7) rfl)
  have w_9 := hts (.fieldLink RX6 16 "LeastRoutes" "kept" "LLeastRoutes$History;") (List.mem_of_getElem? (i := 8) rfl)
  have w_10 := hts (.classLink RX6 19 RX5) (List.mem_of_getElem? (i := 9) rfl)
  have w_11 := hts (.instantiable RX5 7) (List.mem_of_getElem? (i := 10) rfl)
  have w_12 := hts (.initialized RX5) (List.mem_of_getElem? (i := 11) rfl)
  have w_13 := hts (.instanceMethod yX5_init) (List.mem_of_getElem? (i := 48) rfl)
  have w_14 := hts (.fieldLink RX6 22 "LeastRoutes" "view" "LLeastRoutes$View;") (List.mem_of_getElem? (i := 12) rfl)
  have w_15 := hts (.classLink RX6 26 RX4) (List.mem_of_getElem? (i := 13) rfl)
  have w_16 := hts (.instantiable RX4 5) (List.mem_of_getElem? (i := 14) rfl)
  have w_17 := hts (.initialized RX4) (List.mem_of_getElem? (i := 15) rfl)
  have w_18 := hts (.instanceMethod yX4_init) (List.mem_of_getElem? (i := 60) rfl)
  have w_19 := hts (.fieldLink RX6 29 "LeastRoutes" "tape" "LLeastRoutes$Tape;") (List.mem_of_getElem? (i := 16) rfl)
  have w_20 := hts (.classLink RX6 33 RX2) (List.mem_of_getElem? (i := 17) rfl)
  have w_21 := hts (.fieldLink RX6 35 "LeastRoutes" "sheets" "[LLeastRoutes$Sheet;") (List.mem_of_getElem? (i := 18) rfl)
  have w_22 := hts (.fieldLink RX6 39 "LeastRoutes" "hasImage" "Z") (List.mem_of_getElem? (i := 19) rfl)
  have w_23 := hts (.fieldLink RX6 43 "LeastRoutes" "viewIsOld" "Z") (List.mem_of_getElem? (i := 20) rfl)
  have w_24 := hts (.instantiable RX2 3) (List.mem_of_getElem? (i := 21) rfl)
  have w_25 := hts (.initialized RX2) (List.mem_of_getElem? (i := 22) rfl)
  have w_26 := hts (.instanceMethod yX2_init) (List.mem_of_getElem? (i := 69) rfl)
  have hl := lv_entry ([.ref a]) (n := 2) (Nat.le_of_ble_eq_true rfl)
  rw [lg_entry_eq]
  generalize (lg_sl ([.ref a]) ++ List.replicate (2 - (lg_sl ([.ref a])).length) Slot.unset).toArray = ls at hl ⊢
  have hl : lv_has ls 2 [(0, .ref a)] := hl
  refine lv_aload_n hx hb dX6_init_0 rfl (lv_at hl 0 rfl) ?_
  refine W.objInit hx hb hown w_0 w_1 w_2 rfl (by rw [hml]; exact hl.1) rfl dX6_init_1 (Nat.le_of_ble_eq_true rfl) (Nat.le_of_ble_eq_true rfl) ?_
  refine W.eq (g2 := F0 m 4 ls []) rfl ?_
  refine lv_aload_n hx hb dX6_init_4 rfl (lv_at hl 0 rfl) ?_
  refine va_new (ci := 0) (fs := [.null, .null, .int 0]) (C := RX0) (T := TX0) (N := 3) hx hb hts in_X6_init_X0 tyX0 tyX0_ok hown w_3 w_4 w_5 hK.1 hP hD hS hA rfl (fun j hj => by rcases (show j = 0 ∨ j = 1 ∨ j = 2 by omega) with rfl | rfl | rfl <;> rfl) (Nat.le_of_ble_eq_true rfl) (Nat.le_of_ble_eq_true rfl) dX6_init_5 (fun q1 _ hP hD hS => ?_)
  refine W.widen (k := 1) (n := 3) (Nat.le_of_ble_eq_true rfl) (Nat.le_of_ble_eq_true rfl) ?_
  refine lv_dup hx hb dX6_init_8 rfl ?_
  refine kw_v (va_runI (As := []) (rest := [.ref q1, .ref a]) hcf (cz_X0_init l D k (w0 ++ ((a, .inr (6, [.null, .null, .null, .null, .null, .int 0, .int 0])) :: [])) q1 _) (cwI 0 hts gX6_init_X0_init rfl rfl rfl w_5 w_7 w_6 rfl (by decide +kernel) ⟨Nat.le_of_ble_eq_true rfl, Nat.le_of_ble_eq_true rfl⟩) (py_S hP hK hD hao) rfl rfl hl.1 rfl (lv_room (Nat.le_of_ble_eq_true rfl)) dX6_init_9 ⟨Nat.le_of_ble_eq_true rfl, Nat.le_of_ble_eq_true rfl⟩) hD hS hA (fun u2 _ _ h3 hP hD hS => ?_)
  obtain ⟨b4, rfl⟩ := h3
  refine W.widen (k := 37) (n := 506) (Nat.le_of_ble_eq_true rfl) (Nat.le_of_ble_eq_true rfl) ?_
  simp only [List.append_assoc, List.cons_append, List.nil_append, List.append_nil] at hP hD
  have hP : va_P D vwCl (w0 ++ ((a, .inr (6, [.null, .null, .null, .null, .null, .int 0, .int 0])) :: (xl_X0 k q1 b4 ++ []))) _ := hP
  have hD : va_D _ (w0 ++ ((a, .inr (6, [.null, .null, .null, .null, .null, .int 0, .int 0])) :: (xl_X0 k q1 b4 ++ []))) := hD
  refine va_putF (D := D) (ci := 6) (v := .ref q1) (ty := .object "LeastRoutes$History") (C := RX6) (T := TX6) (N := 7) hx hb hts in_X6_init_X6 tyX6 tyX6_ok nmX6 hown hK.1 hP hD hS (w0.length + 0) (gt_app 0 rfl) rfl 0 (by decide) w_8 (fun _ h9 => h9) rfl hin rfl (by decide +kernel) rfl rfl (Nat.le_of_ble_eq_true rfl) dX6_init_12 (fun _ _ hP hD hS => ?_)
  rw [st_app] at hP hD
  have hP : va_P D vwCl (w0 ++ ((a, .inr (6, [.ref q1, .null, .null, .null, .null, .int 0, .int 0])) :: (xl_X0 k q1 b4 ++ []))) _ := hP
  have hD : va_D _ (w0 ++ ((a, .inr (6, [.ref q1, .null, .null, .null, .null, .int 0, .int 0])) :: (xl_X0 k q1 b4 ++ []))) := hD
  refine lv_aload_n hx hb dX6_init_15 rfl (lv_at hl 0 rfl) ?_
  refine va_new (ci := 0) (fs := [.null, .null, .int 0]) (C := RX0) (T := TX0) (N := 3) hx hb hts in_X6_init_X0 tyX0 tyX0_ok hown w_3 w_4 w_5 hK.1 hP hD hS hA rfl (fun j hj => by rcases (show j = 0 ∨ j = 1 ∨ j = 2 by omega) with rfl | rfl | rfl <;> rfl) (Nat.le_of_ble_eq_true rfl) (Nat.le_of_ble_eq_true rfl) dX6_init_16 (fun q5 _ hP hD hS => ?_)
  refine W.widen (k := 38) (n := 509) (Nat.le_of_ble_eq_true rfl) (Nat.le_of_ble_eq_true rfl) ?_
  refine lv_dup hx hb dX6_init_19 rfl ?_
  refine kw_v (va_runI (As := []) (rest := [.ref q5, .ref a]) hcf (cz_X0_init l D k (w0 ++ ((a, .inr (6, [.ref q1, .null, .null, .null, .null, .int 0, .int 0])) :: (xl_X0 k q1 b4 ++ []))) q5 _) (cwI 0 hts gX6_init_X0_init rfl rfl rfl w_5 w_7 w_6 rfl (by decide +kernel) ⟨Nat.le_of_ble_eq_true rfl, Nat.le_of_ble_eq_true rfl⟩) (py_S hP hK hD hao) rfl rfl hl.1 rfl (lv_room (Nat.le_of_ble_eq_true rfl)) dX6_init_20 ⟨Nat.le_of_ble_eq_true rfl, Nat.le_of_ble_eq_true rfl⟩) hD hS hA (fun u6 _ _ h7 hP hD hS => ?_)
  obtain ⟨b8, rfl⟩ := h7
  refine W.widen (k := 74) (n := 1012) (Nat.le_of_ble_eq_true rfl) (Nat.le_of_ble_eq_true rfl) ?_
  simp only [List.append_assoc, List.cons_append, List.nil_append, List.append_nil] at hP hD
  have hP : va_P D vwCl (w0 ++ ((a, .inr (6, [.ref q1, .null, .null, .null, .null, .int 0, .int 0])) :: (xl_X0 k q1 b4 ++ (xl_X0 k q5 b8 ++ [])))) _ := hP
  have hD : va_D _ (w0 ++ ((a, .inr (6, [.ref q1, .null, .null, .null, .null, .int 0, .int 0])) :: (xl_X0 k q1 b4 ++ (xl_X0 k q5 b8 ++ [])))) := hD
  refine va_putF (D := D) (ci := 6) (v := .ref q5) (ty := .object "LeastRoutes$History") (C := RX6) (T := TX6) (N := 7) hx hb hts in_X6_init_X6 tyX6 tyX6_ok nmX6 hown hK.1 hP hD hS (w0.length + 0) (gt_app 0 rfl) rfl 1 (by decide) w_9 (fun _ h9 => h9) rfl hin rfl (by decide +kernel) rfl rfl (Nat.le_of_ble_eq_true rfl) dX6_init_23 (fun _ _ hP hD hS => ?_)
  rw [st_app] at hP hD
  have hP : va_P D vwCl (w0 ++ ((a, .inr (6, [.ref q1, .ref q5, .null, .null, .null, .int 0, .int 0])) :: (xl_X0 k q1 b4 ++ (xl_X0 k q5 b8 ++ [])))) _ := hP
  have hD : va_D _ (w0 ++ ((a, .inr (6, [.ref q1, .ref q5, .null, .null, .null, .int 0, .int 0])) :: (xl_X0 k q1 b4 ++ (xl_X0 k q5 b8 ++ [])))) := hD
  refine lv_aload_n hx hb dX6_init_26 rfl (lv_at hl 0 rfl) ?_
  refine va_new (ci := 5) (fs := [.null, .null, .null, .null, .null, .null, .null]) (C := RX5) (T := TX5) (N := 7) hx hb hts in_X6_init_X5 tyX5 tyX5_ok hown w_10 w_11 w_12 hK.1 hP hD hS hA rfl (fun j hj => by rcases (show j = 0 ∨ j = 1 ∨ j = 2 ∨ j = 3 ∨ j = 4 ∨ j = 5 ∨ j = 6 by omega) with rfl | rfl | rfl | rfl | rfl | rfl | rfl <;> rfl) (Nat.le_of_ble_eq_true rfl) (Nat.le_of_ble_eq_true rfl) dX6_init_27 (fun q9 _ hP hD hS => ?_)
  refine W.widen (k := 75) (n := 1019) (Nat.le_of_ble_eq_true rfl) (Nat.le_of_ble_eq_true rfl) ?_
  refine lv_dup hx hb dX6_init_30 rfl ?_
  refine kw_v (va_runIN (As := []) (rest := [.ref q9, .ref a]) hcf (cz_X5_init l D k (w0 ++ ((a, .inr (6, [.ref q1, .ref q5, .null, .null, .null, .int 0, .int 0])) :: (xl_X0 k q1 b4 ++ (xl_X0 k q5 b8 ++ [])))) q9 _) ⟨va_cnB 0 hts gX6_init_X5_init_n21 rfl rfl rfl (hK.2 (RX6, 21, yX5_init, RX6) (List.mem_of_getElem? (i := 15) rfl)) w_12 (by decide +kernel) ⟨Nat.le_of_ble_eq_true rfl, Nat.le_of_ble_eq_true rfl⟩, rfl, w_13⟩ (px_S hP hK hD) rfl rfl hl.1 rfl (lv_room (Nat.le_of_ble_eq_true rfl)) dX6_init_31 ⟨Nat.le_of_ble_eq_true rfl, Nat.le_of_ble_eq_true rfl⟩) hD hS hA (fun u10 _ _ h11 hP hD hS => ?_)
  obtain ⟨b12, rfl⟩ := h11
  refine W.widen (k := 84) (n := 3647) (Nat.le_of_ble_eq_true rfl) (Nat.le_of_ble_eq_true rfl) ?_
  simp only [List.append_assoc, List.cons_append, List.nil_append, List.append_nil] at hP hD
  have hP : va_P D vwCl (w0 ++ ((a, .inr (6, [.ref q1, .ref q5, .null, .null, .null, .int 0, .int 0])) :: (xl_X0 k q1 b4 ++ (xl_X0 k q5 b8 ++ (xl_X5 k q9 b12 ++ []))))) _ := hP
  have hD : va_D _ (w0 ++ ((a, .inr (6, [.ref q1, .ref q5, .null, .null, .null, .int 0, .int 0])) :: (xl_X0 k q1 b4 ++ (xl_X0 k q5 b8 ++ (xl_X5 k q9 b12 ++ []))))) := hD
  refine va_putF (D := D) (ci := 6) (v := .ref q9) (ty := .object "LeastRoutes$View") (C := RX6) (T := TX6) (N := 7) hx hb hts in_X6_init_X6 tyX6 tyX6_ok nmX6 hown hK.1 hP hD hS (w0.length + 0) (gt_app 0 rfl) rfl 2 (by decide) w_14 (fun _ h9 => h9) rfl hin rfl (by decide +kernel) rfl rfl (Nat.le_of_ble_eq_true rfl) dX6_init_34 (fun _ _ hP hD hS => ?_)
  rw [st_app] at hP hD
  have hP : va_P D vwCl (w0 ++ ((a, .inr (6, [.ref q1, .ref q5, .ref q9, .null, .null, .int 0, .int 0])) :: (xl_X0 k q1 b4 ++ (xl_X0 k q5 b8 ++ (xl_X5 k q9 b12 ++ []))))) _ := hP
  have hD : va_D _ (w0 ++ ((a, .inr (6, [.ref q1, .ref q5, .ref q9, .null, .null, .int 0, .int 0])) :: (xl_X0 k q1 b4 ++ (xl_X0 k q5 b8 ++ (xl_X5 k q9 b12 ++ []))))) := hD
  refine lv_aload_n hx hb dX6_init_37 rfl (lv_at hl 0 rfl) ?_
  refine va_new (ci := 4) (fs := [.null, .null, .int 0, .int 0, .int 0]) (C := RX4) (T := TX4) (N := 5) hx hb hts in_X6_init_X4 tyX4 tyX4_ok hown w_15 w_16 w_17 hK.1 hP hD hS hA rfl (fun j hj => by rcases (show j = 0 ∨ j = 1 ∨ j = 2 ∨ j = 3 ∨ j = 4 by omega) with rfl | rfl | rfl | rfl | rfl <;> rfl) (Nat.le_of_ble_eq_true rfl) (Nat.le_of_ble_eq_true rfl) dX6_init_38 (fun q13 _ hP hD hS => ?_)
  refine W.widen (k := 85) (n := 3652) (Nat.le_of_ble_eq_true rfl) (Nat.le_of_ble_eq_true rfl) ?_
  refine lv_dup hx hb dX6_init_41 rfl ?_
  refine kw_v (va_runIN (As := []) (rest := [.ref q13, .ref a]) hcf (cz_X4_init l D k (w0 ++ ((a, .inr (6, [.ref q1, .ref q5, .ref q9, .null, .null, .int 0, .int 0])) :: (xl_X0 k q1 b4 ++ (xl_X0 k q5 b8 ++ (xl_X5 k q9 b12 ++ []))))) q13 _) ⟨va_cnB 0 hts gX6_init_X4_init_n28 rfl rfl rfl (hK.2 (RX6, 28, yX4_init, RX6) (List.mem_of_getElem? (i := 14) rfl)) w_17 (by decide +kernel) ⟨Nat.le_of_ble_eq_true rfl, Nat.le_of_ble_eq_true rfl⟩, rfl, w_18⟩ (px_S hP hK hD) rfl rfl hl.1 rfl (lv_room (Nat.le_of_ble_eq_true rfl)) dX6_init_42 ⟨Nat.le_of_ble_eq_true rfl, Nat.le_of_ble_eq_true rfl⟩) hD hS hA (fun u14 _ _ h15 hP hD hS => ?_)
  obtain ⟨b16, rfl⟩ := h15
  refine W.widen (k := 88) (n := 3786) (Nat.le_of_ble_eq_true rfl) (Nat.le_of_ble_eq_true rfl) ?_
  simp only [List.append_assoc, List.cons_append, List.nil_append, List.append_nil] at hP hD
  have hP : va_P D vwCl (w0 ++ ((a, .inr (6, [.ref q1, .ref q5, .ref q9, .null, .null, .int 0, .int 0])) :: (xl_X0 k q1 b4 ++ (xl_X0 k q5 b8 ++ (xl_X5 k q9 b12 ++ (xl_X4 k q13 b16 ++ [])))))) _ := hP
  have hD : va_D _ (w0 ++ ((a, .inr (6, [.ref q1, .ref q5, .ref q9, .null, .null, .int 0, .int 0])) :: (xl_X0 k q1 b4 ++ (xl_X0 k q5 b8 ++ (xl_X5 k q9 b12 ++ (xl_X4 k q13 b16 ++ [])))))) := hD
  refine va_putF (D := D) (ci := 6) (v := .ref q13) (ty := .object "LeastRoutes$Tape") (C := RX6) (T := TX6) (N := 7) hx hb hts in_X6_init_X6 tyX6 tyX6_ok nmX6 hown hK.1 hP hD hS (w0.length + 0) (gt_app 0 rfl) rfl 3 (by decide) w_19 (fun _ h9 => h9) rfl hin rfl (by decide +kernel) rfl rfl (Nat.le_of_ble_eq_true rfl) dX6_init_45 (fun _ _ hP hD hS => ?_)
  rw [st_app] at hP hD
  have hP : va_P D vwCl (w0 ++ ((a, .inr (6, [.ref q1, .ref q5, .ref q9, .ref q13, .null, .int 0, .int 0])) :: (xl_X0 k q1 b4 ++ (xl_X0 k q5 b8 ++ (xl_X5 k q9 b12 ++ (xl_X4 k q13 b16 ++ [])))))) _ := hP
  have hD : va_D _ (w0 ++ ((a, .inr (6, [.ref q1, .ref q5, .ref q9, .ref q13, .null, .int 0, .int 0])) :: (xl_X0 k q1 b4 ++ (xl_X0 k q5 b8 ++ (xl_X5 k q9 b12 ++ (xl_X4 k q13 b16 ++ [])))))) := hD
  refine lv_aload_n hx hb dX6_init_48 rfl (lv_at hl 0 rfl) ?_
  refine lv_iconst (v := 4) hx hb dX6_init_49 (by decide) ?_
  refine va_newq (N' := 4) hx hb hown w_20 hao.2 hK.1 hP hD hS hA (by decide) (by decide) (by decide) (Nat.le_of_ble_eq_true rfl) (Nat.le_of_ble_eq_true rfl) dX6_init_50 (fun q17 cA _ hK9 hP hD hS => ?_)
  obtain rfl := ar_QS hK9
  refine W.widen (k := 89) (n := 3790) (Nat.le_of_ble_eq_true rfl) (Nat.le_of_ble_eq_true rfl) ?_
  simp only [List.append_assoc, List.cons_append, List.nil_append, List.append_nil] at hP hD
  have hP : va_P D vwCl (w0 ++ ((a, .inr (6, [.ref q1, .ref q5, .ref q9, .ref q13, .null, .int 0, .int 0])) :: (xl_X0 k q1 b4 ++ (xl_X0 k q5 b8 ++ (xl_X5 k q9 b12 ++ (xl_X4 k q13 b16 ++ ((q17, .inl (k.2.2.2, 4, .inr (.inr (.inr (.inr (fun _ => none)))))) :: []))))))) _ := hP
  have hD : va_D _ (w0 ++ ((a, .inr (6, [.ref q1, .ref q5, .ref q9, .ref q13, .null, .int 0, .int 0])) :: (xl_X0 k q1 b4 ++ (xl_X0 k q5 b8 ++ (xl_X5 k q9 b12 ++ (xl_X4 k q13 b16 ++ ((q17, .inl (k.2.2.2, 4, .inr (.inr (.inr (.inr (fun _ => none)))))) :: []))))))) := hD
  refine va_putF (D := D) (ci := 6) (v := .ref q17) (ty := .array (.object "LeastRoutes$Sheet")) (C := RX6) (T := TX6) (N := 7) hx hb hts in_X6_init_X6 tyX6 tyX6_ok nmX6 hown hK.1 hP hD hS (w0.length + 0) (gt_app 0 rfl) rfl 4 (by decide) w_21 (fun _ h9 => h9) rfl hin rfl (by decide +kernel) rfl rfl (Nat.le_of_ble_eq_true rfl) dX6_init_53 (fun _ _ hP hD hS => ?_)
  rw [st_app] at hP hD
  have hP : va_P D vwCl (w0 ++ ((a, .inr (6, [.ref q1, .ref q5, .ref q9, .ref q13, .ref q17, .int 0, .int 0])) :: (xl_X0 k q1 b4 ++ (xl_X0 k q5 b8 ++ (xl_X5 k q9 b12 ++ (xl_X4 k q13 b16 ++ ((q17, .inl (k.2.2.2, 4, .inr (.inr (.inr (.inr (fun _ => none)))))) :: []))))))) _ := hP
  have hD : va_D _ (w0 ++ ((a, .inr (6, [.ref q1, .ref q5, .ref q9, .ref q13, .ref q17, .int 0, .int 0])) :: (xl_X0 k q1 b4 ++ (xl_X0 k q5 b8 ++ (xl_X5 k q9 b12 ++ (xl_X4 k q13 b16 ++ ((q17, .inl (k.2.2.2, 4, .inr (.inr (.inr (.inr (fun _ => none)))))) :: []))))))) := hD
  refine lv_aload_n hx hb dX6_init_56 rfl (lv_at hl 0 rfl) ?_
  refine lv_iconst (v := 0) hx hb dX6_init_57 (by decide) ?_
  refine va_put (D := D) (ci := 6) (v := .int 0) (ty := .boolean) (C := RX6) (T := TX6) (N := 7) hx hb hts in_X6_init_X6 tyX6 tyX6_ok nmX6 hown hK.1 hP hD hS (w0.length + 0) (gt_app 0 rfl) rfl 5 (by decide) w_22 (fun _ h9 => h9) rfl (by decide +kernel) rfl rfl (Nat.le_of_ble_eq_true rfl) dX6_init_58 (fun _ _ hP hD hS => ?_)
  rw [st_app] at hP hD
  have hP : va_P D vwCl (w0 ++ ((a, .inr (6, [.ref q1, .ref q5, .ref q9, .ref q13, .ref q17, .int 0, .int 0])) :: (xl_X0 k q1 b4 ++ (xl_X0 k q5 b8 ++ (xl_X5 k q9 b12 ++ (xl_X4 k q13 b16 ++ ((q17, .inl (k.2.2.2, 4, .inr (.inr (.inr (.inr (fun _ => none)))))) :: []))))))) _ := hP
  have hD : va_D _ (w0 ++ ((a, .inr (6, [.ref q1, .ref q5, .ref q9, .ref q13, .ref q17, .int 0, .int 0])) :: (xl_X0 k q1 b4 ++ (xl_X0 k q5 b8 ++ (xl_X5 k q9 b12 ++ (xl_X4 k q13 b16 ++ ((q17, .inl (k.2.2.2, 4, .inr (.inr (.inr (.inr (fun _ => none)))))) :: []))))))) := hD
  refine lv_aload_n hx hb dX6_init_61 rfl (lv_at hl 0 rfl) ?_
  refine lv_iconst (v := 1) hx hb dX6_init_62 (by decide) ?_
  refine va_put (D := D) (ci := 6) (v := .int 1) (ty := .boolean) (C := RX6) (T := TX6) (N := 7) hx hb hts in_X6_init_X6 tyX6 tyX6_ok nmX6 hown hK.1 hP hD hS (w0.length + 0) (gt_app 0 rfl) rfl 6 (by decide) w_23 (fun _ h9 => h9) rfl (by decide +kernel) rfl rfl (Nat.le_of_ble_eq_true rfl) dX6_init_63 (fun _ _ hP hD hS => ?_)
  rw [st_app] at hP hD
  have hP : va_P D vwCl (w0 ++ ((a, .inr (6, [.ref q1, .ref q5, .ref q9, .ref q13, .ref q17, .int 0, .int 1])) :: (xl_X0 k q1 b4 ++ (xl_X0 k q5 b8 ++ (xl_X5 k q9 b12 ++ (xl_X4 k q13 b16 ++ ((q17, .inl (k.2.2.2, 4, .inr (.inr (.inr (.inr (fun _ => none)))))) :: []))))))) _ := hP
  have hD : va_D _ (w0 ++ ((a, .inr (6, [.ref q1, .ref q5, .ref q9, .ref q13, .ref q17, .int 0, .int 1])) :: (xl_X0 k q1 b4 ++ (xl_X0 k q5 b8 ++ (xl_X5 k q9 b12 ++ (xl_X4 k q13 b16 ++ ((q17, .inl (k.2.2.2, 4, .inr (.inr (.inr (.inr (fun _ => none)))))) :: []))))))) := hD
  refine lv_iconst (v := 0) hx hb dX6_init_66 (by decide) ?_
  refine lv_istore_n (lv' := [(1, .int 0), (0, .ref a)]) hx hb dX6_init_67 rfl hl (by decide) rfl (fun ls hl => ?_)
  refine lv_iload_n hx hb dX6_init_68 rfl (lv_at hl 0 rfl) ?_
  refine lv_iconst (v := 4) hx hb dX6_init_69 (by decide) ?_
  refine lv_icmp_ge (tgt := 92) hx hb dX6_init_70 (by decide) (fun c_ => absurd c_ (by decide)) (fun _ => ?_)
  refine lv_aload_n hx hb dX6_init_73 rfl (lv_at hl 1 rfl) ?_
  refine va_get (D := D) (ci := 6) (v := .ref q17) (C := RX6) (T := TX6) (N := 7) hx hb hts in_X6_init_X6 hown hK.1 hP (w0.length + 0) (gt_app 0 rfl) rfl 4 (by decide) w_21 (fun _ h9 => h9) rfl dX6_init_74 ?_
  refine lv_iload_n hx hb dX6_init_77 rfl (lv_at hl 0 rfl) ?_
  refine va_new (ci := 2) (fs := [.null, .int 0, .int 0]) (C := RX2) (T := TX2) (N := 3) hx hb hts in_X6_init_X2 tyX2 tyX2_ok hown w_20 w_24 w_25 hK.1 hP hD hS hA rfl (fun j hj => by rcases (show j = 0 ∨ j = 1 ∨ j = 2 by omega) with rfl | rfl | rfl <;> rfl) (Nat.le_of_ble_eq_true rfl) (Nat.le_of_ble_eq_true rfl) dX6_init_78 (fun q18 _ hP hD hS => ?_)
  refine W.widen (k := 90) (n := 3793) (Nat.le_of_ble_eq_true rfl) (Nat.le_of_ble_eq_true rfl) ?_
  refine lv_dup hx hb dX6_init_81 rfl ?_
  refine kw_v (va_runIN (As := []) (rest := [.ref q18, .int 0, .ref q17]) hcf (cz_X2_init l D k (w0 ++ ((a, .inr (6, [.ref q1, .ref q5, .ref q9, .ref q13, .ref q17, .int 0, .int 1])) :: (xl_X0 k q1 b4 ++ (xl_X0 k q5 b8 ++ (xl_X5 k q9 b12 ++ (xl_X4 k q13 b16 ++ ((q17, .inl (k.2.2.2, 4, .inr (.inr (.inr (.inr (fun _ => none)))))) :: []))))))) q18 _) ⟨va_cnB 0 hts gX6_init_X2_init_n46 rfl rfl rfl (hK.2 (RX6, 46, yX2_init, RX6) (List.mem_of_getElem? (i := 13) rfl)) w_25 (by decide +kernel) ⟨Nat.le_of_ble_eq_true rfl, Nat.le_of_ble_eq_true rfl⟩, rfl, w_26⟩ (px_S hP hK hD) rfl rfl hl.1 rfl (lv_room (Nat.le_of_ble_eq_true rfl)) dX6_init_82 ⟨Nat.le_of_ble_eq_true rfl, Nat.le_of_ble_eq_true rfl⟩) hD hS hA (fun u19 _ _ h20 hP hD hS => ?_)
  obtain ⟨b21, rfl⟩ := h20
  refine W.widen (k := 91) (n := 3823) (Nat.le_of_ble_eq_true rfl) (Nat.le_of_ble_eq_true rfl) ?_
  simp only [List.append_assoc, List.cons_append, List.nil_append, List.append_nil] at hP hD
  have hP : va_P D vwCl (w0 ++ ((a, .inr (6, [.ref q1, .ref q5, .ref q9, .ref q13, .ref q17, .int 0, .int 1])) :: (xl_X0 k q1 b4 ++ (xl_X0 k q5 b8 ++ (xl_X5 k q9 b12 ++ (xl_X4 k q13 b16 ++ ((q17, .inl (k.2.2.2, 4, .inr (.inr (.inr (.inr (fun _ => none)))))) :: (xl_X2 k q18 b21 ++ [])))))))) _ := hP
  have hD : va_D _ (w0 ++ ((a, .inr (6, [.ref q1, .ref q5, .ref q9, .ref q13, .ref q17, .int 0, .int 1])) :: (xl_X0 k q1 b4 ++ (xl_X0 k q5 b8 ++ (xl_X5 k q9 b12 ++ (xl_X4 k q13 b16 ++ ((q17, .inl (k.2.2.2, 4, .inr (.inr (.inr (.inr (fun _ => none)))))) :: (xl_X2 k q18 b21 ++ [])))))))) := hD
  refine va_astq hx hb hK.1 hP hD hS (w0.length + 89) 3 (w0.length + 90) 2 (gt_app 89 rfl) rfl (gt_app 90 rfl) rfl (in_s (by decide)) dX6_init_85 (fun _ _ hP hD hS => ?_)
  rw [st_app] at hP hD
  have hP : va_P D vwCl (w0 ++ ((a, .inr (6, [.ref q1, .ref q5, .ref q9, .ref q13, .ref q17, .int 0, .int 1])) :: (xl_X0 k q1 b4 ++ (xl_X0 k q5 b8 ++ (xl_X5 k q9 b12 ++ (xl_X4 k q13 b16 ++ ((q17, .inl (k.2.2.2, 4, .inr (.inr (.inr (.inr (va_up (fun _ => none) 0 (some q18))))))) :: (xl_X2 k q18 b21 ++ [])))))))) _ := hP
  have hD : va_D _ (w0 ++ ((a, .inr (6, [.ref q1, .ref q5, .ref q9, .ref q13, .ref q17, .int 0, .int 1])) :: (xl_X0 k q1 b4 ++ (xl_X0 k q5 b8 ++ (xl_X5 k q9 b12 ++ (xl_X4 k q13 b16 ++ ((q17, .inl (k.2.2.2, 4, .inr (.inr (.inr (.inr (va_up (fun _ => none) 0 (some q18))))))) :: (xl_X2 k q18 b21 ++ [])))))))) := hD
  refine lv_iinc (v := 1) (lv' := [(1, .int 1), (0, .ref a)]) hx hb dX6_init_86 hl (k := 0) rfl (by decide) (by decide) rfl (fun ls hl => ?_)
  refine lv_goto (tgt := 68) hx hb dX6_init_89 (by decide) ?_
  refine lv_iload_n hx hb dX6_init_68 rfl (lv_at hl 0 rfl) ?_
  refine lv_iconst (v := 4) hx hb dX6_init_69 (by decide) ?_
  refine lv_icmp_ge (tgt := 92) hx hb dX6_init_70 (by decide) (fun c_ => absurd c_ (by decide)) (fun _ => ?_)
  refine lv_aload_n hx hb dX6_init_73 rfl (lv_at hl 1 rfl) ?_
  refine va_get (D := D) (ci := 6) (v := .ref q17) (C := RX6) (T := TX6) (N := 7) hx hb hts in_X6_init_X6 hown hK.1 hP (w0.length + 0) (gt_app 0 rfl) rfl 4 (by decide) w_21 (fun _ h9 => h9) rfl dX6_init_74 ?_
  refine lv_iload_n hx hb dX6_init_77 rfl (lv_at hl 0 rfl) ?_
  refine va_new (ci := 2) (fs := [.null, .int 0, .int 0]) (C := RX2) (T := TX2) (N := 3) hx hb hts in_X6_init_X2 tyX2 tyX2_ok hown w_20 w_24 w_25 hK.1 hP hD hS hA rfl (fun j hj => by rcases (show j = 0 ∨ j = 1 ∨ j = 2 by omega) with rfl | rfl | rfl <;> rfl) (Nat.le_of_ble_eq_true rfl) (Nat.le_of_ble_eq_true rfl) dX6_init_78 (fun q22 _ hP hD hS => ?_)
  refine W.widen (k := 92) (n := 3826) (Nat.le_of_ble_eq_true rfl) (Nat.le_of_ble_eq_true rfl) ?_
  refine lv_dup hx hb dX6_init_81 rfl ?_
  refine kw_v (va_runIN (As := []) (rest := [.ref q22, .int 1, .ref q17]) hcf (cz_X2_init l D k (w0 ++ ((a, .inr (6, [.ref q1, .ref q5, .ref q9, .ref q13, .ref q17, .int 0, .int 1])) :: (xl_X0 k q1 b4 ++ (xl_X0 k q5 b8 ++ (xl_X5 k q9 b12 ++ (xl_X4 k q13 b16 ++ ((q17, .inl (k.2.2.2, 4, .inr (.inr (.inr (.inr (va_up (fun _ => none) 0 (some q18))))))) :: (xl_X2 k q18 b21 ++ [])))))))) q22 _) ⟨va_cnB 0 hts gX6_init_X2_init_n46 rfl rfl rfl (hK.2 (RX6, 46, yX2_init, RX6) (List.mem_of_getElem? (i := 13) rfl)) w_25 (by decide +kernel) ⟨Nat.le_of_ble_eq_true rfl, Nat.le_of_ble_eq_true rfl⟩, rfl, w_26⟩ (px_S hP hK hD) rfl rfl hl.1 rfl (lv_room (Nat.le_of_ble_eq_true rfl)) dX6_init_82 ⟨Nat.le_of_ble_eq_true rfl, Nat.le_of_ble_eq_true rfl⟩) hD hS hA (fun u23 _ _ h24 hP hD hS => ?_)
  obtain ⟨b25, rfl⟩ := h24
  refine W.widen (k := 93) (n := 3856) (Nat.le_of_ble_eq_true rfl) (Nat.le_of_ble_eq_true rfl) ?_
  simp only [List.append_assoc, List.cons_append, List.nil_append, List.append_nil] at hP hD
  have hP : va_P D vwCl (w0 ++ ((a, .inr (6, [.ref q1, .ref q5, .ref q9, .ref q13, .ref q17, .int 0, .int 1])) :: (xl_X0 k q1 b4 ++ (xl_X0 k q5 b8 ++ (xl_X5 k q9 b12 ++ (xl_X4 k q13 b16 ++ ((q17, .inl (k.2.2.2, 4, .inr (.inr (.inr (.inr (va_up (fun _ => none) 0 (some q18))))))) :: (xl_X2 k q18 b21 ++ (xl_X2 k q22 b25 ++ []))))))))) _ := hP
  have hD : va_D _ (w0 ++ ((a, .inr (6, [.ref q1, .ref q5, .ref q9, .ref q13, .ref q17, .int 0, .int 1])) :: (xl_X0 k q1 b4 ++ (xl_X0 k q5 b8 ++ (xl_X5 k q9 b12 ++ (xl_X4 k q13 b16 ++ ((q17, .inl (k.2.2.2, 4, .inr (.inr (.inr (.inr (va_up (fun _ => none) 0 (some q18))))))) :: (xl_X2 k q18 b21 ++ (xl_X2 k q22 b25 ++ []))))))))) := hD
  refine va_astq hx hb hK.1 hP hD hS (w0.length + 89) 3 (w0.length + 92) 2 (gt_app 89 rfl) rfl (gt_app 92 rfl) rfl (in_s (by decide)) dX6_init_85 (fun _ _ hP hD hS => ?_)
  rw [st_app] at hP hD
  have hP : va_P D vwCl (w0 ++ ((a, .inr (6, [.ref q1, .ref q5, .ref q9, .ref q13, .ref q17, .int 0, .int 1])) :: (xl_X0 k q1 b4 ++ (xl_X0 k q5 b8 ++ (xl_X5 k q9 b12 ++ (xl_X4 k q13 b16 ++ ((q17, .inl (k.2.2.2, 4, .inr (.inr (.inr (.inr (va_up (va_up (fun _ => none) 0 (some q18)) 1 (some q22))))))) :: (xl_X2 k q18 b21 ++ (xl_X2 k q22 b25 ++ []))))))))) _ := hP
  have hD : va_D _ (w0 ++ ((a, .inr (6, [.ref q1, .ref q5, .ref q9, .ref q13, .ref q17, .int 0, .int 1])) :: (xl_X0 k q1 b4 ++ (xl_X0 k q5 b8 ++ (xl_X5 k q9 b12 ++ (xl_X4 k q13 b16 ++ ((q17, .inl (k.2.2.2, 4, .inr (.inr (.inr (.inr (va_up (va_up (fun _ => none) 0 (some q18)) 1 (some q22))))))) :: (xl_X2 k q18 b21 ++ (xl_X2 k q22 b25 ++ []))))))))) := hD
  refine lv_iinc (v := 2) (lv' := [(1, .int 2), (0, .ref a)]) hx hb dX6_init_86 hl (k := 0) rfl (by decide) (by decide) rfl (fun ls hl => ?_)
  refine lv_goto (tgt := 68) hx hb dX6_init_89 (by decide) ?_
  refine lv_iload_n hx hb dX6_init_68 rfl (lv_at hl 0 rfl) ?_
  refine lv_iconst (v := 4) hx hb dX6_init_69 (by decide) ?_
  refine lv_icmp_ge (tgt := 92) hx hb dX6_init_70 (by decide) (fun c_ => absurd c_ (by decide)) (fun _ => ?_)
  refine lv_aload_n hx hb dX6_init_73 rfl (lv_at hl 1 rfl) ?_
  refine va_get (D := D) (ci := 6) (v := .ref q17) (C := RX6) (T := TX6) (N := 7) hx hb hts in_X6_init_X6 hown hK.1 hP (w0.length + 0) (gt_app 0 rfl) rfl 4 (by decide) w_21 (fun _ h9 => h9) rfl dX6_init_74 ?_
  refine lv_iload_n hx hb dX6_init_77 rfl (lv_at hl 0 rfl) ?_
  refine va_new (ci := 2) (fs := [.null, .int 0, .int 0]) (C := RX2) (T := TX2) (N := 3) hx hb hts in_X6_init_X2 tyX2 tyX2_ok hown w_20 w_24 w_25 hK.1 hP hD hS hA rfl (fun j hj => by rcases (show j = 0 ∨ j = 1 ∨ j = 2 by omega) with rfl | rfl | rfl <;> rfl) (Nat.le_of_ble_eq_true rfl) (Nat.le_of_ble_eq_true rfl) dX6_init_78 (fun q26 _ hP hD hS => ?_)
  refine W.widen (k := 94) (n := 3859) (Nat.le_of_ble_eq_true rfl) (Nat.le_of_ble_eq_true rfl) ?_
  refine lv_dup hx hb dX6_init_81 rfl ?_
  refine kw_v (va_runIN (As := []) (rest := [.ref q26, .int 2, .ref q17]) hcf (cz_X2_init l D k (w0 ++ ((a, .inr (6, [.ref q1, .ref q5, .ref q9, .ref q13, .ref q17, .int 0, .int 1])) :: (xl_X0 k q1 b4 ++ (xl_X0 k q5 b8 ++ (xl_X5 k q9 b12 ++ (xl_X4 k q13 b16 ++ ((q17, .inl (k.2.2.2, 4, .inr (.inr (.inr (.inr (va_up (va_up (fun _ => none) 0 (some q18)) 1 (some q22))))))) :: (xl_X2 k q18 b21 ++ (xl_X2 k q22 b25 ++ []))))))))) q26 _) ⟨va_cnB 0 hts gX6_init_X2_init_n46 rfl rfl rfl (hK.2 (RX6, 46, yX2_init, RX6) (List.mem_of_getElem? (i := 13) rfl)) w_25 (by decide +kernel) ⟨Nat.le_of_ble_eq_true rfl, Nat.le_of_ble_eq_true rfl⟩, rfl, w_26⟩ (px_S hP hK hD) rfl rfl hl.1 rfl (lv_room (Nat.le_of_ble_eq_true rfl)) dX6_init_82 ⟨Nat.le_of_ble_eq_true rfl, Nat.le_of_ble_eq_true rfl⟩) hD hS hA (fun u27 _ _ h28 hP hD hS => ?_)
  obtain ⟨b29, rfl⟩ := h28
  refine W.widen (k := 95) (n := 3889) (Nat.le_of_ble_eq_true rfl) (Nat.le_of_ble_eq_true rfl) ?_
  simp only [List.append_assoc, List.cons_append, List.nil_append, List.append_nil] at hP hD
  have hP : va_P D vwCl (w0 ++ ((a, .inr (6, [.ref q1, .ref q5, .ref q9, .ref q13, .ref q17, .int 0, .int 1])) :: (xl_X0 k q1 b4 ++ (xl_X0 k q5 b8 ++ (xl_X5 k q9 b12 ++ (xl_X4 k q13 b16 ++ ((q17, .inl (k.2.2.2, 4, .inr (.inr (.inr (.inr (va_up (va_up (fun _ => none) 0 (some q18)) 1 (some q22))))))) :: (xl_X2 k q18 b21 ++ (xl_X2 k q22 b25 ++ (xl_X2 k q26 b29 ++ [])))))))))) _ := hP
  have hD : va_D _ (w0 ++ ((a, .inr (6, [.ref q1, .ref q5, .ref q9, .ref q13, .ref q17, .int 0, .int 1])) :: (xl_X0 k q1 b4 ++ (xl_X0 k q5 b8 ++ (xl_X5 k q9 b12 ++ (xl_X4 k q13 b16 ++ ((q17, .inl (k.2.2.2, 4, .inr (.inr (.inr (.inr (va_up (va_up (fun _ => none) 0 (some q18)) 1 (some q22))))))) :: (xl_X2 k q18 b21 ++ (xl_X2 k q22 b25 ++ (xl_X2 k q26 b29 ++ [])))))))))) := hD
  refine va_astq hx hb hK.1 hP hD hS (w0.length + 89) 3 (w0.length + 94) 2 (gt_app 89 rfl) rfl (gt_app 94 rfl) rfl (in_s (by decide)) dX6_init_85 (fun _ _ hP hD hS => ?_)
  rw [st_app] at hP hD
  have hP : va_P D vwCl (w0 ++ ((a, .inr (6, [.ref q1, .ref q5, .ref q9, .ref q13, .ref q17, .int 0, .int 1])) :: (xl_X0 k q1 b4 ++ (xl_X0 k q5 b8 ++ (xl_X5 k q9 b12 ++ (xl_X4 k q13 b16 ++ ((q17, .inl (k.2.2.2, 4, .inr (.inr (.inr (.inr (va_up (va_up (va_up (fun _ => none) 0 (some q18)) 1 (some q22)) 2 (some q26))))))) :: (xl_X2 k q18 b21 ++ (xl_X2 k q22 b25 ++ (xl_X2 k q26 b29 ++ [])))))))))) _ := hP
  have hD : va_D _ (w0 ++ ((a, .inr (6, [.ref q1, .ref q5, .ref q9, .ref q13, .ref q17, .int 0, .int 1])) :: (xl_X0 k q1 b4 ++ (xl_X0 k q5 b8 ++ (xl_X5 k q9 b12 ++ (xl_X4 k q13 b16 ++ ((q17, .inl (k.2.2.2, 4, .inr (.inr (.inr (.inr (va_up (va_up (va_up (fun _ => none) 0 (some q18)) 1 (some q22)) 2 (some q26))))))) :: (xl_X2 k q18 b21 ++ (xl_X2 k q22 b25 ++ (xl_X2 k q26 b29 ++ [])))))))))) := hD
  refine lv_iinc (v := 3) (lv' := [(1, .int 3), (0, .ref a)]) hx hb dX6_init_86 hl (k := 0) rfl (by decide) (by decide) rfl (fun ls hl => ?_)
  refine lv_goto (tgt := 68) hx hb dX6_init_89 (by decide) ?_
  refine lv_iload_n hx hb dX6_init_68 rfl (lv_at hl 0 rfl) ?_
  refine lv_iconst (v := 4) hx hb dX6_init_69 (by decide) ?_
  refine lv_icmp_ge (tgt := 92) hx hb dX6_init_70 (by decide) (fun c_ => absurd c_ (by decide)) (fun _ => ?_)
  refine lv_aload_n hx hb dX6_init_73 rfl (lv_at hl 1 rfl) ?_
  refine va_get (D := D) (ci := 6) (v := .ref q17) (C := RX6) (T := TX6) (N := 7) hx hb hts in_X6_init_X6 hown hK.1 hP (w0.length + 0) (gt_app 0 rfl) rfl 4 (by decide) w_21 (fun _ h9 => h9) rfl dX6_init_74 ?_
  refine lv_iload_n hx hb dX6_init_77 rfl (lv_at hl 0 rfl) ?_
  refine va_new (ci := 2) (fs := [.null, .int 0, .int 0]) (C := RX2) (T := TX2) (N := 3) hx hb hts in_X6_init_X2 tyX2 tyX2_ok hown w_20 w_24 w_25 hK.1 hP hD hS hA rfl (fun j hj => by rcases (show j = 0 ∨ j = 1 ∨ j = 2 by omega) with rfl | rfl | rfl <;> rfl) (Nat.le_of_ble_eq_true rfl) (Nat.le_of_ble_eq_true rfl) dX6_init_78 (fun q30 _ hP hD hS => ?_)
  refine W.widen (k := 96) (n := 3892) (Nat.le_of_ble_eq_true rfl) (Nat.le_of_ble_eq_true rfl) ?_
  refine lv_dup hx hb dX6_init_81 rfl ?_
  refine kw_v (va_runIN (As := []) (rest := [.ref q30, .int 3, .ref q17]) hcf (cz_X2_init l D k (w0 ++ ((a, .inr (6, [.ref q1, .ref q5, .ref q9, .ref q13, .ref q17, .int 0, .int 1])) :: (xl_X0 k q1 b4 ++ (xl_X0 k q5 b8 ++ (xl_X5 k q9 b12 ++ (xl_X4 k q13 b16 ++ ((q17, .inl (k.2.2.2, 4, .inr (.inr (.inr (.inr (va_up (va_up (va_up (fun _ => none) 0 (some q18)) 1 (some q22)) 2 (some q26))))))) :: (xl_X2 k q18 b21 ++ (xl_X2 k q22 b25 ++ (xl_X2 k q26 b29 ++ [])))))))))) q30 _) ⟨va_cnB 0 hts gX6_init_X2_init_n46 rfl rfl rfl (hK.2 (RX6, 46, yX2_init, RX6) (List.mem_of_getElem? (i := 13) rfl)) w_25 (by decide +kernel) ⟨Nat.le_of_ble_eq_true rfl, Nat.le_of_ble_eq_true rfl⟩, rfl, w_26⟩ (px_S hP hK hD) rfl rfl hl.1 rfl (lv_room (Nat.le_of_ble_eq_true rfl)) dX6_init_82 ⟨Nat.le_of_ble_eq_true rfl, Nat.le_of_ble_eq_true rfl⟩) hD hS hA (fun u31 _ _ h32 hP hD hS => ?_)
  obtain ⟨b33, rfl⟩ := h32
  refine W.widen (k := 97) (n := 3922) (Nat.le_of_ble_eq_true rfl) (Nat.le_of_ble_eq_true rfl) ?_
  simp only [List.append_assoc, List.cons_append, List.nil_append, List.append_nil] at hP hD
  have hP : va_P D vwCl (w0 ++ ((a, .inr (6, [.ref q1, .ref q5, .ref q9, .ref q13, .ref q17, .int 0, .int 1])) :: (xl_X0 k q1 b4 ++ (xl_X0 k q5 b8 ++ (xl_X5 k q9 b12 ++ (xl_X4 k q13 b16 ++ ((q17, .inl (k.2.2.2, 4, .inr (.inr (.inr (.inr (va_up (va_up (va_up (fun _ => none) 0 (some q18)) 1 (some q22)) 2 (some q26))))))) :: (xl_X2 k q18 b21 ++ (xl_X2 k q22 b25 ++ (xl_X2 k q26 b29 ++ (xl_X2 k q30 b33 ++ []))))))))))) _ := hP
  have hD : va_D _ (w0 ++ ((a, .inr (6, [.ref q1, .ref q5, .ref q9, .ref q13, .ref q17, .int 0, .int 1])) :: (xl_X0 k q1 b4 ++ (xl_X0 k q5 b8 ++ (xl_X5 k q9 b12 ++ (xl_X4 k q13 b16 ++ ((q17, .inl (k.2.2.2, 4, .inr (.inr (.inr (.inr (va_up (va_up (va_up (fun _ => none) 0 (some q18)) 1 (some q22)) 2 (some q26))))))) :: (xl_X2 k q18 b21 ++ (xl_X2 k q22 b25 ++ (xl_X2 k q26 b29 ++ (xl_X2 k q30 b33 ++ []))))))))))) := hD
  refine va_astq hx hb hK.1 hP hD hS (w0.length + 89) 3 (w0.length + 96) 2 (gt_app 89 rfl) rfl (gt_app 96 rfl) rfl (in_s (by decide)) dX6_init_85 (fun _ _ hP hD hS => ?_)
  rw [st_app] at hP hD
  have hP : va_P D vwCl (w0 ++ ((a, .inr (6, [.ref q1, .ref q5, .ref q9, .ref q13, .ref q17, .int 0, .int 1])) :: (xl_X0 k q1 b4 ++ (xl_X0 k q5 b8 ++ (xl_X5 k q9 b12 ++ (xl_X4 k q13 b16 ++ ((q17, .inl (k.2.2.2, 4, .inr (.inr (.inr (.inr (va_up (va_up (va_up (va_up (fun _ => none) 0 (some q18)) 1 (some q22)) 2 (some q26)) 3 (some q30))))))) :: (xl_X2 k q18 b21 ++ (xl_X2 k q22 b25 ++ (xl_X2 k q26 b29 ++ (xl_X2 k q30 b33 ++ []))))))))))) _ := hP
  have hD : va_D _ (w0 ++ ((a, .inr (6, [.ref q1, .ref q5, .ref q9, .ref q13, .ref q17, .int 0, .int 1])) :: (xl_X0 k q1 b4 ++ (xl_X0 k q5 b8 ++ (xl_X5 k q9 b12 ++ (xl_X4 k q13 b16 ++ ((q17, .inl (k.2.2.2, 4, .inr (.inr (.inr (.inr (va_up (va_up (va_up (va_up (fun _ => none) 0 (some q18)) 1 (some q22)) 2 (some q26)) 3 (some q30))))))) :: (xl_X2 k q18 b21 ++ (xl_X2 k q22 b25 ++ (xl_X2 k q26 b29 ++ (xl_X2 k q30 b33 ++ []))))))))))) := hD
  refine lv_iinc (v := 4) (lv' := [(1, .int 4), (0, .ref a)]) hx hb dX6_init_86 hl (k := 0) rfl (by decide) (by decide) rfl (fun ls hl => ?_)
  refine lv_goto (tgt := 68) hx hb dX6_init_89 (by decide) ?_
  refine lv_iload_n hx hb dX6_init_68 rfl (lv_at hl 0 rfl) ?_
  refine lv_iconst (v := 4) hx hb dX6_init_69 (by decide) ?_
  refine lv_icmp_ge (tgt := 92) hx hb dX6_init_70 (by decide) (fun _ => ?_) (fun c_ => absurd (by decide) c_)
  exact W.vret hx hb hr (qw_end hS hP hD ⟨(fun i => [q1, b4 0, b4 1, b4 2, b4 3, b4 4, b4 5, b4 6, b4 7, b4 8, b4 9, b4 10, b4 11, b4 12, b4 13, b4 14, b4 15, b4 16, b4 17, b4 18, b4 19, b4 20, b4 21, b4 22, b4 23, b4 24, b4 25, b4 26, b4 27, b4 28, b4 29, b4 30, b4 31, b4 32, b4 33, b4 34, b4 35, q5, b8 0, b8 1, b8 2, b8 3, b8 4, b8 5, b8 6, b8 7, b8 8, b8 9, b8 10, b8 11, b8 12, b8 13, b8 14, b8 15, b8 16, b8 17, b8 18, b8 19, b8 20, b8 21, b8 22, b8 23, b8 24, b8 25, b8 26, b8 27, b8 28, b8 29, b8 30, b8 31, b8 32, b8 33, b8 34, b8 35, q9, b12 0, b12 1, b12 2, b12 3, b12 4, b12 5, b12 6, b12 7, b12 8, q13, b16 0, b16 1, b16 2, q17, q18, b21 0, q22, b25 0, q26, b29 0, q30, b33 0].getD i 0), rfl⟩) hS.2.2 dX6_init_92

