/-- the row of both tables as it is first: 8 is out -/
def ml_8 : Nat → Int32 := fun j => if j < 1024 then 8 else 0
theorem gt_app {w L : va_W} (i : Nat) {o : Option (Nat × va_E)} (h : L[i]? = o) : (w ++ L)[w.length + i]? = o := by
  rw [List.getElem?_append_right (by omega), Nat.add_sub_cancel_left]
  exact h
theorem st_app {w L : va_W} {i : Nat} {x : Nat × va_E} : (w ++ L).set (w.length + i) x = w ++ L.set i x := by
  rw [List.set_append_right _ _ (by omega), Nat.add_sub_cancel_left]
theorem ar_I {D : va_G} {k : kt_T} {s : State} {cA : ClassId} (h : va_K D vwCl (kt_l k ++ [(cA, .int)]) s) : cA = k.1 := Option.some.inj ((h.2 4 (cA, .int) rfl).2.symm.trans (h.2 0 (k.1, .int) rfl).2)
theorem ar_J {D : va_G} {k : kt_T} {s : State} {cA : ClassId} (h : va_K D vwCl (kt_l k ++ [(cA, .long)]) s) : cA = k.2.1 := Option.some.inj ((h.2 4 (cA, .long) rfl).2.symm.trans (h.2 1 (k.2.1, .long) rfl).2)
theorem ar_QM {D : va_G} {k : kt_T} {s : State} {cA : ClassId} (h : va_K D vwCl (kt_l k ++ [(cA, .object RX1)]) s) : cA = k.2.2.1 := by
  obtain ⟨_, _, -, -, -, h1⟩ := (h.2 4 (cA, .object RX1) rfl).2
  obtain ⟨_, _, -, -, -, h2⟩ := (h.2 2 (k.2.2.1, .object RX1) rfl).2
  exact Option.some.inj (h1.symm.trans h2)
theorem ar_QS {D : va_G} {k : kt_T} {s : State} {cA : ClassId} (h : va_K D vwCl (kt_l k ++ [(cA, .object RX2)]) s) : cA = k.2.2.2 := by
  obtain ⟨_, _, -, -, -, h1⟩ := (h.2 4 (cA, .object RX2) rfl).2
  obtain ⟨_, _, -, -, -, h2⟩ := (h.2 3 (k.2.2.2, .object RX2) rfl).2
  exact Option.some.inj (h1.symm.trans h2)
/-- a start at which rows of moments and of sheets can be made -/
def py_P (D : va_G) (k : kt_T) (ws : va_W) (sz : Nat) (U : State) : Prop := px_P D k ws sz U ∧ (va_AO RX1 U ∧ va_AO RX2 U)
theorem py_S {D : va_G} {k : kt_T} {ws : va_W} {A : Nat → Prop} {s : State} {H : Heap} {As : List Value} (hP : va_P D vwCl ws H) (hK : kk_P D k s) (hD : va_D A ws) (hao : va_AO RX1 s ∧ va_AO RX2 s) : PreS s H (va_Pc As (py_P D k ws H.size)) As :=
  ⟨fun _ U g mk q => ⟨q.1, ⟨q.2.1.1, q.2.1.2.1, kk_call q.2.1.2.2.1, q.2.1.2.2.2⟩, va_AO.moved (u := U) (U := U.calling g mk _) (Vm.Alike.refl U.vm) q.2.2.1, va_AO.moved (u := U) (U := U.calling g mk _) (Vm.Alike.refl U.vm) q.2.2.2⟩, fun U hU hW => ⟨rfl, ⟨by rw [hU], by rw [hU]; exact hP, kk_warm hW hK, hD.weaken (fun _ _ _ _ => trivial)⟩, hao.1.moved hW.alike, hao.2.moved hW.alike⟩⟩
theorem in_X3_init_X3 : ∀ w ∈ u_ws RX3 TX3 2, w ∈ wsX3_init := fun w h => List.mem_cons_of_mem _ (List.mem_append_right _ h)
def xl_X3 (k : kt_T) (a : Nat) (b : Nat → Nat) : va_W := [(a, .inr (3, [.ref (b 0), .int 0]))] ++ ([((b 0), .inl (k.2.1, 32, .inr (.inl (fun _ => 0))))])
set_option maxHeartbeats 4000000 in
set_option maxRecDepth 100000 in
theorem cz_X3_init (l : Launch) (D : va_G) (k : kt_T) (w0 : va_W) (a sz0 : Nat) : Met l yX3_init wsX3_init { frames := 1, cells := 1, slots := 32, locals := 12 } (va_Pc [.ref a] (px_P D k (w0 ++ [(a, .inr (3, [.null, .int 0]))]) sz0)) (qw_Q D (w0 ++ [(a, .inr (3, [.null, .int 0]))]) sz0 none (fun u => ∃ b : Nat → Nat, u = w0 ++ xl_X3 k a b)) 1 32 (va_A (w0 ++ [(a, .inr (3, [.null, .int 0]))]) sz0) := by
  refine Met.ofW (cc := cX3_init) (maxL := 1) (ret := none) (by decide) rfl ?_
  intro p e s m args below meth c s₁ B hml hv
  obtain ⟨rfl, hsz, hP, hK, hD0⟩ := hv
  subst hsz
  have hD := hD0.self (sz := s.heap.size)
  have C0 : cx_P p s m meth c [.ref a].toArray cX3_init 1 wsX3_init RX3 none := ⟨B.exec, B.bytes, hml, findClass_of_methodNamed B.named, atoms_spec (ws := wsX3_init) B.pre, B.returns, B.notSynchronized⟩
  obtain ⟨hx, hb, hml, hown, hts, hr, hlocks⟩ := id C0
  have hin : meth.name = "<init>" := (name_of_methodNamed B.named B.method).1
  have hcf : CallFix p m c cX3_init 1 s [.ref a].toArray wsX3_init RX3 := ⟨hx, hb, hml, hown, hts⟩
  have hA : ∀ q, s.heap.size ≤ q → va_A (w0 ++ [(a, .inr (3, [.null, .int 0]))]) s.heap.size q := fun q h => Or.inr h
  have hS : va_S (va_A (w0 ++ [(a, .inr (3, [.null, .int 0]))]) s.heap.size) s.heap s.heap [] := va_S.rf
  have w_0 := hts (.methodLink RX3 3 objectInit) (List.mem_of_getElem? (i := 1) rfl)
  have w_1 := hts (.instanceMethod objectInit) (List.mem_of_getElem? (i := 2) rfl)
  have w_2 := hts (.code objectInit ⟨#[0xb1]⟩ 1 none) (List.mem_of_getElem? (i := 3) rfl)
  have w_3 := hts (.arrayClass .long) (List.mem_of_getElem? (i := 4) rfl)
  have w_4 := hts (.fieldLink RX3 9 "LeastRoutes$Table" "places" "[J") (List.mem_of_getElem? (i := 5) rfl)
  have w_5 := hts (.fieldLink RX3 15 "LeastRoutes$Table" "size" "I") (List.mem_of_getElem? (i := 6) rfl)
  have hl := lv_entry ([.ref a]) (n := 1) (Nat.le_of_ble_eq_true rfl)
  rw [lg_entry_eq]
  generalize (lg_sl ([.ref a]) ++ List.replicate (1 - (lg_sl ([.ref a])).length) Slot.unset).toArray = ls at hl ⊢
  have hl : lv_has ls 1 [(0, .ref a)] := hl
  refine lv_aload_n hx hb dX3_init_0 rfl (lv_at hl 0 rfl) ?_
  refine W.objInit hx hb hown w_0 w_1 w_2 rfl (by rw [hml]; exact hl.1) rfl dX3_init_1 (Nat.le_of_ble_eq_true rfl) (Nat.le_of_ble_eq_true rfl) ?_
  refine W.eq (g2 := F0 m 4 ls []) rfl ?_
  refine lv_aload_n hx hb dX3_init_4 rfl (lv_at hl 0 rfl) ?_
  refine lv_bipush (v := 32) hx hb dX3_init_5 (by decide) ?_
  refine va_newa (atype := .long) (a0 := (32, .inr <| .inl (fun _ => 0))) hx hb w_3 rfl hK.1 hP hD hS hA (fun _ => rfl) (by decide) (by decide) (by decide) (Nat.le_of_ble_eq_true rfl) (Nat.le_of_ble_eq_true rfl) dX3_init_7 (fun q1 cA _ hK9 hP hD hS => ?_)
  obtain rfl := ar_J hK9
  refine W.widen (k := 1) (n := 32) (Nat.le_of_ble_eq_true rfl) (Nat.le_of_ble_eq_true rfl) ?_
  simp only [List.append_assoc, List.cons_append, List.nil_append, List.append_nil] at hP hD
  have hP : va_P D vwCl (w0 ++ ((a, .inr (3, [.null, .int 0])) :: ((q1, .inl (k.2.1, 32, .inr (.inl (fun _ => 0)))) :: []))) _ := hP
  have hD : va_D _ (w0 ++ ((a, .inr (3, [.null, .int 0])) :: ((q1, .inl (k.2.1, 32, .inr (.inl (fun _ => 0)))) :: []))) := hD
  refine va_putF (D := D) (ci := 3) (v := .ref q1) (ty := .array .long) (C := RX3) (T := TX3) (N := 2) hx hb hts in_X3_init_X3 tyX3 tyX3_ok nmX3 hown hK.1 hP hD hS (w0.length + 0) (gt_app 0 rfl) rfl 0 (by decide) w_4 (fun _ h9 => h9) rfl hin rfl (by decide +kernel) rfl rfl (Nat.le_of_ble_eq_true rfl) dX3_init_9 (fun _ _ hP hD hS => ?_)
  rw [st_app] at hP hD
  have hP : va_P D vwCl (w0 ++ ((a, .inr (3, [.ref q1, .int 0])) :: ((q1, .inl (k.2.1, 32, .inr (.inl (fun _ => 0)))) :: []))) _ := hP
  have hD : va_D _ (w0 ++ ((a, .inr (3, [.ref q1, .int 0])) :: ((q1, .inl (k.2.1, 32, .inr (.inl (fun _ => 0)))) :: []))) := hD
  refine lv_aload_n hx hb dX3_init_12 rfl (lv_at hl 0 rfl) ?_
  refine lv_iconst (v := 0) hx hb dX3_init_13 (by decide) ?_
  refine va_put (D := D) (ci := 3) (v := .int 0) (ty := .int) (C := RX3) (T := TX3) (N := 2) hx hb hts in_X3_init_X3 tyX3 tyX3_ok nmX3 hown hK.1 hP hD hS (w0.length + 0) (gt_app 0 rfl) rfl 1 (by decide) w_5 (fun _ h9 => h9) rfl (by decide +kernel) rfl rfl (Nat.le_of_ble_eq_true rfl) dX3_init_14 (fun _ _ hP hD hS => ?_)
  rw [st_app] at hP hD
  have hP : va_P D vwCl (w0 ++ ((a, .inr (3, [.ref q1, .int 0])) :: ((q1, .inl (k.2.1, 32, .inr (.inl (fun _ => 0)))) :: []))) _ := hP
  have hD : va_D _ (w0 ++ ((a, .inr (3, [.ref q1, .int 0])) :: ((q1, .inl (k.2.1, 32, .inr (.inl (fun _ => 0)))) :: []))) := hD
  exact W.vret hx hb hr (qw_end hS hP hD ⟨(fun i => [q1].getD i 0), rfl⟩) hS.2.2 dX3_init_17

theorem in_X1_init_X1 : ∀ w ∈ u_ws RX1 TX1 3, w ∈ wsX1_init := fun w h => List.mem_cons_of_mem _ (List.mem_append_right _ h)
theorem in_X1_init_X3 : ∀ w ∈ u_ws RX3 TX3 2, w ∈ wsX1_init := fun w h => List.mem_cons_of_mem _ (List.mem_append_left _ (List.mem_append_right _ h))
def xl_X1 (k : kt_T) (a : Nat) (b : Nat → Nat) : va_W := [(a, .inr (1, [.ref (b 0), .ref (b 2), .int 1]))] ++ (xl_X3 k (b 0) (fun i => b (i + 1)) ++ (xl_X3 k (b 2) (fun i => b (i + 3))))
set_option maxHeartbeats 4000000 in
set_option maxRecDepth 100000 in
theorem cz_X1_init (l : Launch) (D : va_G) (k : kt_T) (w0 : va_W) (a sz0 : Nat) : Met l yX1_init wsX1_init { frames := 2, cells := 4, slots := 68, locals := 32 } (va_Pc [.ref a] (px_P D k (w0 ++ [(a, .inr (1, [.null, .null, .int 0]))]) sz0)) (qw_Q D (w0 ++ [(a, .inr (1, [.null, .null, .int 0]))]) sz0 none (fun u => ∃ b : Nat → Nat, u = w0 ++ xl_X1 k a b)) 4 68 (va_A (w0 ++ [(a, .inr (1, [.null, .null, .int 0]))]) sz0) := by
  refine Met.ofW (cc := cX1_init) (maxL := 1) (ret := none) (by decide) rfl ?_
  intro p e s m args below meth c s₁ B hml hv
  obtain ⟨rfl, hsz, hP, hK, hD0⟩ := hv
  subst hsz
  have hD := hD0.self (sz := s.heap.size)
  have C0 : cx_P p s m meth c [.ref a].toArray cX1_init 1 wsX1_init RX1 none := ⟨B.exec, B.bytes, hml, findClass_of_methodNamed B.named, atoms_spec (ws := wsX1_init) B.pre, B.returns, B.notSynchronized⟩
  obtain ⟨hx, hb, hml, hown, hts, hr, hlocks⟩ := id C0
  have hin : meth.name = "<init>" := (name_of_methodNamed B.named B.method).1
  have hcf : CallFix p m c cX1_init 1 s [.ref a].toArray wsX1_init RX1 := ⟨hx, hb, hml, hown, hts⟩
  have hA : ∀ q, s.heap.size ≤ q → va_A (w0 ++ [(a, .inr (1, [.null, .null, .int 0]))]) s.heap.size q := fun q h => Or.inr h
  have hS : va_S (va_A (w0 ++ [(a, .inr (1, [.null, .null, .int 0]))]) s.heap.size) s.heap s.heap [] := va_S.rf
  have w_0 := hts (.methodLink RX1 1 objectInit) (List.mem_of_getElem? (i := 1) rfl)
  have w_1 := hts (.instanceMethod objectInit) (List.mem_of_getElem? (i := 2) rfl)
  have w_2 := hts (.code objectInit ⟨#[0xb1]⟩ 1 none) (List.mem_of_getElem? (i := 3) rfl)
  have w_3 := hts (.classLink RX1 7 RX3) (List.mem_of_getElem? (i := 4) rfl)
  have w_4 := hts (.instantiable RX3 2) (List.mem_of_getElem? (i := 5) rfl)
  have w_5 := hts (.initialized RX3) (List.mem_of_getElem? (i := 6) rfl)
  have w_6 := hts (.instanceMethod yX3_init) (List.mem_of_getElem? (i := 10) rfl)
  have w_7 := hts (.fieldLink RX1 10 "LeastRoutes$Moment" "told" "LLeastRoutes$Table;") (List.mem_of_getElem? (i := 7) rfl)
  have w_8 := hts (.fieldLink RX1 16 "LeastRoutes$Moment" "inUse" "LLeastRoutes$Table;") (List.mem_of_getElem? (i := 8) rfl)
  have w_9 := hts (.fieldLink RX1 19 "LeastRoutes$Moment" "draw" "I") (List.mem_of_getElem? (i := 9) rfl)
  have hl := lv_entry ([.ref a]) (n := 1) (Nat.le_of_ble_eq_true rfl)
  rw [lg_entry_eq]
  generalize (lg_sl ([.ref a]) ++ List.replicate (1 - (lg_sl ([.ref a])).length) Slot.unset).toArray = ls at hl ⊢
  have hl : lv_has ls 1 [(0, .ref a)] := hl
  refine lv_aload_n hx hb dX1_init_0 rfl (lv_at hl 0 rfl) ?_
  refine W.objInit hx hb hown w_0 w_1 w_2 rfl (by rw [hml]; exact hl.1) rfl dX1_init_1 (Nat.le_of_ble_eq_true rfl) (Nat.le_of_ble_eq_true rfl) ?_
  refine W.eq (g2 := F0 m 4 ls []) rfl ?_
  refine lv_aload_n hx hb dX1_init_4 rfl (lv_at hl 0 rfl) ?_
  refine va_new (ci := 3) (fs := [.null, .int 0]) (C := RX3) (T := TX3) (N := 2) hx hb hts in_X1_init_X3 tyX3 tyX3_ok hown w_3 w_4 w_5 hK.1 hP hD hS hA rfl (fun j hj => by rcases (show j = 0 ∨ j = 1 by omega) with rfl | rfl <;> rfl) (Nat.le_of_ble_eq_true rfl) (Nat.le_of_ble_eq_true rfl) dX1_init_5 (fun q1 _ hP hD hS => ?_)
  refine W.widen (k := 1) (n := 2) (Nat.le_of_ble_eq_true rfl) (Nat.le_of_ble_eq_true rfl) ?_
  refine lv_dup hx hb dX1_init_8 rfl ?_
  refine kw_v (va_runIN (As := []) (rest := [.ref q1, .ref a]) hcf (cz_X3_init l D k (w0 ++ ((a, .inr (1, [.null, .null, .int 0])) :: [])) q1 _) ⟨va_cnB 0 hts gX1_init_X3_init_n9 rfl rfl rfl (hK.2 (RX1, 9, yX3_init, RX6) (List.mem_of_getElem? (i := 11) rfl)) w_5 (by decide +kernel) ⟨Nat.le_of_ble_eq_true rfl, Nat.le_of_ble_eq_true rfl⟩, rfl, w_6⟩ (px_S hP hK hD) rfl rfl hl.1 rfl (lv_room (Nat.le_of_ble_eq_true rfl)) dX1_init_9 ⟨Nat.le_of_ble_eq_true rfl, Nat.le_of_ble_eq_true rfl⟩) hD hS hA (fun u2 _ _ h3 hP hD hS => ?_)
  obtain ⟨b4, rfl⟩ := h3
  refine W.widen (k := 2) (n := 34) (Nat.le_of_ble_eq_true rfl) (Nat.le_of_ble_eq_true rfl) ?_
  simp only [List.append_assoc, List.cons_append, List.nil_append, List.append_nil] at hP hD
  have hP : va_P D vwCl (w0 ++ ((a, .inr (1, [.null, .null, .int 0])) :: (xl_X3 k q1 b4 ++ []))) _ := hP
  have hD : va_D _ (w0 ++ ((a, .inr (1, [.null, .null, .int 0])) :: (xl_X3 k q1 b4 ++ []))) := hD
  refine va_putF (D := D) (ci := 1) (v := .ref q1) (ty := .object "LeastRoutes$Table") (C := RX1) (T := TX1) (N := 3) hx hb hts in_X1_init_X1 tyX1 tyX1_ok nmX1 hown hK.1 hP hD hS (w0.length + 0) (gt_app 0 rfl) rfl 0 (by decide) w_7 (fun _ h9 => h9) rfl hin rfl (by decide +kernel) rfl rfl (Nat.le_of_ble_eq_true rfl) dX1_init_12 (fun _ _ hP hD hS => ?_)
  rw [st_app] at hP hD
  have hP : va_P D vwCl (w0 ++ ((a, .inr (1, [.ref q1, .null, .int 0])) :: (xl_X3 k q1 b4 ++ []))) _ := hP
  have hD : va_D _ (w0 ++ ((a, .inr (1, [.ref q1, .null, .int 0])) :: (xl_X3 k q1 b4 ++ []))) := hD
  refine lv_aload_n hx hb dX1_init_15 rfl (lv_at hl 0 rfl) ?_
  refine va_new (ci := 3) (fs := [.null, .int 0]) (C := RX3) (T := TX3) (N := 2) hx hb hts in_X1_init_X3 tyX3 tyX3_ok hown w_3 w_4 w_5 hK.1 hP hD hS hA rfl (fun j hj => by rcases (show j = 0 ∨ j = 1 by omega) with rfl | rfl <;> rfl) (Nat.le_of_ble_eq_true rfl) (Nat.le_of_ble_eq_true rfl) dX1_init_16 (fun q5 _ hP hD hS => ?_)
  refine W.widen (k := 3) (n := 36) (Nat.le_of_ble_eq_true rfl) (Nat.le_of_ble_eq_true rfl) ?_
  refine lv_dup hx hb dX1_init_19 rfl ?_
  refine kw_v (va_runIN (As := []) (rest := [.ref q5, .ref a]) hcf (cz_X3_init l D k (w0 ++ ((a, .inr (1, [.ref q1, .null, .int 0])) :: (xl_X3 k q1 b4 ++ []))) q5 _) ⟨va_cnB 0 hts gX1_init_X3_init_n9 rfl rfl rfl (hK.2 (RX1, 9, yX3_init, RX6) (List.mem_of_getElem? (i := 11) rfl)) w_5 (by decide +kernel) ⟨Nat.le_of_ble_eq_true rfl, Nat.le_of_ble_eq_true rfl⟩, rfl, w_6⟩ (px_S hP hK hD) rfl rfl hl.1 rfl (lv_room (Nat.le_of_ble_eq_true rfl)) dX1_init_20 ⟨Nat.le_of_ble_eq_true rfl, Nat.le_of_ble_eq_true rfl⟩) hD hS hA (fun u6 _ _ h7 hP hD hS => ?_)
  obtain ⟨b8, rfl⟩ := h7
  refine W.widen (k := 4) (n := 68) (Nat.le_of_ble_eq_true rfl) (Nat.le_of_ble_eq_true rfl) ?_
  simp only [List.append_assoc, List.cons_append, List.nil_append, List.append_nil] at hP hD
  have hP : va_P D vwCl (w0 ++ ((a, .inr (1, [.ref q1, .null, .int 0])) :: (xl_X3 k q1 b4 ++ (xl_X3 k q5 b8 ++ [])))) _ := hP
  have hD : va_D _ (w0 ++ ((a, .inr (1, [.ref q1, .null, .int 0])) :: (xl_X3 k q1 b4 ++ (xl_X3 k q5 b8 ++ [])))) := hD
  refine va_putF (D := D) (ci := 1) (v := .ref q5) (ty := .object "LeastRoutes$Table") (C := RX1) (T := TX1) (N := 3) hx hb hts in_X1_init_X1 tyX1 tyX1_ok nmX1 hown hK.1 hP hD hS (w0.length + 0) (gt_app 0 rfl) rfl 1 (by decide) w_8 (fun _ h9 => h9) rfl hin rfl (by decide +kernel) rfl rfl (Nat.le_of_ble_eq_true rfl) dX1_init_23 (fun _ _ hP hD hS => ?_)
  rw [st_app] at hP hD
  have hP : va_P D vwCl (w0 ++ ((a, .inr (1, [.ref q1, .ref q5, .int 0])) :: (xl_X3 k q1 b4 ++ (xl_X3 k q5 b8 ++ [])))) _ := hP
  have hD : va_D _ (w0 ++ ((a, .inr (1, [.ref q1, .ref q5, .int 0])) :: (xl_X3 k q1 b4 ++ (xl_X3 k q5 b8 ++ [])))) := hD
  refine lv_aload_n hx hb dX1_init_26 rfl (lv_at hl 0 rfl) ?_
  refine lv_iconst (v := 1) hx hb dX1_init_27 (by decide) ?_
  refine va_put (D := D) (ci := 1) (v := .int 1) (ty := .int) (C := RX1) (T := TX1) (N := 3) hx hb hts in_X1_init_X1 tyX1 tyX1_ok nmX1 hown hK.1 hP hD hS (w0.length + 0) (gt_app 0 rfl) rfl 2 (by decide) w_9 (fun _ h9 => h9) rfl (by decide +kernel) rfl rfl (Nat.le_of_ble_eq_true rfl) dX1_init_28 (fun _ _ hP hD hS => ?_)
  rw [st_app] at hP hD
  have hP : va_P D vwCl (w0 ++ ((a, .inr (1, [.ref q1, .ref q5, .int 1])) :: (xl_X3 k q1 b4 ++ (xl_X3 k q5 b8 ++ [])))) _ := hP
  have hD : va_D _ (w0 ++ ((a, .inr (1, [.ref q1, .ref q5, .int 1])) :: (xl_X3 k q1 b4 ++ (xl_X3 k q5 b8 ++ [])))) := hD
  exact W.vret hx hb hr (qw_end hS hP hD ⟨(fun i => [q1, b4 0, q5, b8 0].getD i 0), rfl⟩) hS.2.2 dX1_init_31

theorem in_X0_init_X0 : ∀ w ∈ u_ws RX0 TX0 3, w ∈ wsX0_init := fun w h => List.mem_cons_of_mem _ (List.mem_append_left _ (List.mem_append_right _ h))
theorem in_X0_init_X1 : ∀ w ∈ u_ws RX1 TX1 3, w ∈ wsX0_init := fun w h => List.mem_cons_of_mem _ (List.mem_append_left _ (List.mem_append_left _ (List.mem_append_right _ h)))
def xl_X0 (k : kt_T) (a : Nat) (b : Nat → Nat) : va_W := [(a, .inr (0, [.ref (b 0), .ref (b 5), .int 0]))] ++ (xl_X1 k (b 0) (fun i => b (i + 1)) ++ ([((b 5), .inl (k.2.2.1, 6, .inr (.inr (.inr (.inr (va_up (va_up (va_up (va_up (va_up (va_up (fun _ => none) 0 (some (b 6))) 1 (some (b 11))) 2 (some (b 16))) 3 (some (b 21))) 4 (some (b 26))) 5 (some (b 31))))))))] ++ (xl_X1 k (b 6) (fun i => b (i + 7)) ++ (xl_X1 k (b 11) (fun i => b (i + 12)) ++ (xl_X1 k (b 16) (fun i => b (i + 17)) ++ (xl_X1 k (b 21) (fun i => b (i + 22)) ++ (xl_X1 k (b 26) (fun i => b (i + 27)) ++ (xl_X1 k (b 31) (fun i => b (i + 32))))))))))
set_option maxHeartbeats 4000000 in
set_option maxRecDepth 100000 in
theorem cz_X0_init (l : Launch) (D : va_G) (k : kt_T) (w0 : va_W) (a sz0 : Nat) : Met l yX0_init wsX0_init { frames := 3, cells := 36, slots := 503, locals := 52 } (va_Pc [.ref a] (py_P D k (w0 ++ [(a, .inr (0, [.null, .null, .int 0]))]) sz0)) (qw_Q D (w0 ++ [(a, .inr (0, [.null, .null, .int 0]))]) sz0 none (fun u => ∃ b : Nat → Nat, u = w0 ++ xl_X0 k a b)) 36 503 (va_A (w0 ++ [(a, .inr (0, [.null, .null, .int 0]))]) sz0) := by
  refine Met.ofW (cc := cX0_init) (maxL := 2) (ret := none) (by decide) rfl ?_
  intro p e s m args below meth c s₁ B hml hv
  obtain ⟨rfl, ⟨hsz, hP, hK, hD0⟩, hao⟩ := hv
  subst hsz
  have hD := hD0.self (sz := s.heap.size)
  have C0 : cx_P p s m meth c [.ref a].toArray cX0_init 2 wsX0_init RX0 none := ⟨B.exec, B.bytes, hml, findClass_of_methodNamed B.named, atoms_spec (ws := wsX0_init) B.pre, B.returns, B.notSynchronized⟩
  obtain ⟨hx, hb, hml, hown, hts, hr, hlocks⟩ := id C0
  have hin : meth.name = "<init>" := (name_of_methodNamed B.named B.method).1
  have hcf : CallFix p m c cX0_init 2 s [.ref a].toArray wsX0_init RX0 := ⟨hx, hb, hml, hown, hts⟩
  have hA : ∀ q, s.heap.size ≤ q → va_A (w0 ++ [(a, .inr (0, [.null, .null, .int 0]))]) s.heap.size q := fun q h => Or.inr h
  have hS : va_S (va_A (w0 ++ [(a, .inr (0, [.null, .null, .int 0]))]) s.heap.size) s.heap s.heap [] := va_S.rf
  have w_0 := hts (.methodLink RX0 3 objectInit) (List.mem_of_getElem? (i := 1) rfl)
  have w_1 := hts (.instanceMethod objectInit) (List.mem_of_getElem? (i := 2) rfl)
  have w_2 := hts (.code objectInit ⟨#[0xb1]⟩ 1 none) (List.mem_of_getElem? (i := 3) rfl)
  have w_3 := hts (.classLink RX0 9 RX1) (List.mem_of_getElem? (i := 4) rfl)
  have w_4 := hts (.instantiable RX1 3) (List.mem_of_getElem? (i := 5) rfl)
  have w_5 := hts (.initialized RX1) (List.mem_of_getElem? (i := 6) rfl)
  have w_6 := hts (.instanceMethod yX1_init) (List.mem_of_getElem? (i := 10) rfl)
  have w_7 := hts (.fieldLink RX0 12 "LeastRoutes$History" "now" "LLeastRoutes$Moment;") (List.mem_of_getElem? (i := 7) rfl)
  have w_8 := hts (.fieldLink RX0 18 "LeastRoutes$History" "known" "[LLeastRoutes$Moment;") (List.mem_of_getElem? (i := 8) rfl)
  have w_9 := hts (.fieldLink RX0 22 "LeastRoutes$History" "size" "I") (List.mem_of_getElem? (i := 9) rfl)
  have hl := lv_entry ([.ref a]) (n := 2) (Nat.le_of_ble_eq_true rfl)
  rw [lg_entry_eq]
  generalize (lg_sl ([.ref a]) ++ List.replicate (2 - (lg_sl ([.ref a])).length) Slot.unset).toArray = ls at hl ⊢
  have hl : lv_has ls 2 [(0, .ref a)] := hl
  refine lv_aload_n hx hb dX0_init_0 rfl (lv_at hl 0 rfl) ?_
  refine W.objInit hx hb hown w_0 w_1 w_2 rfl (by rw [hml]; exact hl.1) rfl dX0_init_1 (Nat.le_of_ble_eq_true rfl) (Nat.le_of_ble_eq_true rfl) ?_
  refine W.eq (g2 := F0 m 4 ls []) rfl ?_
  refine lv_aload_n hx hb dX0_init_4 rfl (lv_at hl 0 rfl) ?_
  refine va_new (ci := 1) (fs := [.null, .null, .int 0]) (C := RX1) (T := TX1) (N := 3) hx hb hts in_X0_init_X1 tyX1 tyX1_ok hown w_3 w_4 w_5 hK.1 hP hD hS hA rfl (fun j hj => by rcases (show j = 0 ∨ j = 1 ∨ j = 2 by omega) with rfl | rfl | rfl <;> rfl) (Nat.le_of_ble_eq_true rfl) (Nat.le_of_ble_eq_true rfl) dX0_init_5 (fun q1 _ hP hD hS => ?_)
  refine W.widen (k := 1) (n := 3) (Nat.le_of_ble_eq_true rfl) (Nat.le_of_ble_eq_true rfl) ?_
  refine lv_dup hx hb dX0_init_8 rfl ?_
  refine kw_v (va_runIN (As := []) (rest := [.ref q1, .ref a]) hcf (cz_X1_init l D k (w0 ++ ((a, .inr (0, [.null, .null, .int 0])) :: [])) q1 _) ⟨va_cnB 0 hts gX0_init_X1_init_n11 rfl rfl rfl (hK.2 (RX0, 11, yX1_init, RX6) (List.mem_of_getElem? (i := 12) rfl)) w_5 (by decide +kernel) ⟨Nat.le_of_ble_eq_true rfl, Nat.le_of_ble_eq_true rfl⟩, rfl, w_6⟩ (px_S hP hK hD) rfl rfl hl.1 rfl (lv_room (Nat.le_of_ble_eq_true rfl)) dX0_init_9 ⟨Nat.le_of_ble_eq_true rfl, Nat.le_of_ble_eq_true rfl⟩) hD hS hA (fun u2 _ _ h3 hP hD hS => ?_)
  obtain ⟨b4, rfl⟩ := h3
  refine W.widen (k := 5) (n := 71) (Nat.le_of_ble_eq_true rfl) (Nat.le_of_ble_eq_true rfl) ?_
  simp only [List.append_assoc, List.cons_append, List.nil_append, List.append_nil] at hP hD
  have hP : va_P D vwCl (w0 ++ ((a, .inr (0, [.null, .null, .int 0])) :: (xl_X1 k q1 b4 ++ []))) _ := hP
  have hD : va_D _ (w0 ++ ((a, .inr (0, [.null, .null, .int 0])) :: (xl_X1 k q1 b4 ++ []))) := hD
  refine va_putF (D := D) (ci := 0) (v := .ref q1) (ty := .object "LeastRoutes$Moment") (C := RX0) (T := TX0) (N := 3) hx hb hts in_X0_init_X0 tyX0 tyX0_ok nmX0 hown hK.1 hP hD hS (w0.length + 0) (gt_app 0 rfl) rfl 0 (by decide) w_7 (fun _ h9 => h9) rfl hin rfl (by decide +kernel) rfl rfl (Nat.le_of_ble_eq_true rfl) dX0_init_12 (fun _ _ hP hD hS => ?_)
  rw [st_app] at hP hD
  have hP : va_P D vwCl (w0 ++ ((a, .inr (0, [.ref q1, .null, .int 0])) :: (xl_X1 k q1 b4 ++ []))) _ := hP
  have hD : va_D _ (w0 ++ ((a, .inr (0, [.ref q1, .null, .int 0])) :: (xl_X1 k q1 b4 ++ []))) := hD
  refine lv_aload_n hx hb dX0_init_15 rfl (lv_at hl 0 rfl) ?_
  refine lv_bipush (v := 6) hx hb dX0_init_16 (by decide) ?_
  refine va_newq (N' := 6) hx hb hown w_3 hao.1 hK.1 hP hD hS hA (by decide) (by decide) (by decide) (Nat.le_of_ble_eq_true rfl) (Nat.le_of_ble_eq_true rfl) dX0_init_18 (fun q5 cA _ hK9 hP hD hS => ?_)
  obtain rfl := ar_QM hK9
  refine W.widen (k := 6) (n := 77) (Nat.le_of_ble_eq_true rfl) (Nat.le_of_ble_eq_true rfl) ?_
  simp only [List.append_assoc, List.cons_append, List.nil_append, List.append_nil] at hP hD
  have hP : va_P D vwCl (w0 ++ ((a, .inr (0, [.ref q1, .null, .int 0])) :: (xl_X1 k q1 b4 ++ ((q5, .inl (k.2.2.1, 6, .inr (.inr (.inr (.inr (fun _ => none)))))) :: [])))) _ := hP
  have hD : va_D _ (w0 ++ ((a, .inr (0, [.ref q1, .null, .int 0])) :: (xl_X1 k q1 b4 ++ ((q5, .inl (k.2.2.1, 6, .inr (.inr (.inr (.inr (fun _ => none)))))) :: [])))) := hD
  refine va_putF (D := D) (ci := 0) (v := .ref q5) (ty := .array (.object "LeastRoutes$Moment")) (C := RX0) (T := TX0) (N := 3) hx hb hts in_X0_init_X0 tyX0 tyX0_ok nmX0 hown hK.1 hP hD hS (w0.length + 0) (gt_app 0 rfl) rfl 1 (by decide) w_8 (fun _ h9 => h9) rfl hin rfl (by decide +kernel) rfl rfl (Nat.le_of_ble_eq_true rfl) dX0_init_21 (fun _ _ hP hD hS => ?_)
  rw [st_app] at hP hD
  have hP : va_P D vwCl (w0 ++ ((a, .inr (0, [.ref q1, .ref q5, .int 0])) :: (xl_X1 k q1 b4 ++ ((q5, .inl (k.2.2.1, 6, .inr (.inr (.inr (.inr (fun _ => none)))))) :: [])))) _ := hP
  have hD : va_D _ (w0 ++ ((a, .inr (0, [.ref q1, .ref q5, .int 0])) :: (xl_X1 k q1 b4 ++ ((q5, .inl (k.2.2.1, 6, .inr (.inr (.inr (.inr (fun _ => none)))))) :: [])))) := hD
  refine lv_aload_n hx hb dX0_init_24 rfl (lv_at hl 0 rfl) ?_
  refine lv_iconst (v := 0) hx hb dX0_init_25 (by decide) ?_
  refine va_put (D := D) (ci := 0) (v := .int 0) (ty := .int) (C := RX0) (T := TX0) (N := 3) hx hb hts in_X0_init_X0 tyX0 tyX0_ok nmX0 hown hK.1 hP hD hS (w0.length + 0) (gt_app 0 rfl) rfl 2 (by decide) w_9 (fun _ h9 => h9) rfl (by decide +kernel) rfl rfl (Nat.le_of_ble_eq_true rfl) dX0_init_26 (fun _ _ hP hD hS => ?_)
  rw [st_app] at hP hD
  have hP : va_P D vwCl (w0 ++ ((a, .inr (0, [.ref q1, .ref q5, .int 0])) :: (xl_X1 k q1 b4 ++ ((q5, .inl (k.2.2.1, 6, .inr (.inr (.inr (.inr (fun _ => none)))))) :: [])))) _ := hP
  have hD : va_D _ (w0 ++ ((a, .inr (0, [.ref q1, .ref q5, .int 0])) :: (xl_X1 k q1 b4 ++ ((q5, .inl (k.2.2.1, 6, .inr (.inr (.inr (.inr (fun _ => none)))))) :: [])))) := hD
  refine lv_iconst (v := 0) hx hb dX0_init_29 (by decide) ?_
  refine lv_istore_n (lv' := [(1, .int 0), (0, .ref a)]) hx hb dX0_init_30 rfl hl (by decide) rfl (fun ls hl => ?_)
  refine lv_iload_n hx hb dX0_init_31 rfl (lv_at hl 0 rfl) ?_
  refine lv_bipush (v := 6) hx hb dX0_init_32 (by decide) ?_
  refine lv_icmp_ge (tgt := 56) hx hb dX0_init_34 (by decide) (fun c_ => absurd c_ (by decide)) (fun _ => ?_)
  refine lv_aload_n hx hb dX0_init_37 rfl (lv_at hl 1 rfl) ?_
  refine va_get (D := D) (ci := 0) (v := .ref q5) (C := RX0) (T := TX0) (N := 3) hx hb hts in_X0_init_X0 hown hK.1 hP (w0.length + 0) (gt_app 0 rfl) rfl 1 (by decide) w_8 (fun _ h9 => h9) rfl dX0_init_38 ?_
  refine lv_iload_n hx hb dX0_init_41 rfl (lv_at hl 0 rfl) ?_
  refine va_new (ci := 1) (fs := [.null, .null, .int 0]) (C := RX1) (T := TX1) (N := 3) hx hb hts in_X0_init_X1 tyX1 tyX1_ok hown w_3 w_4 w_5 hK.1 hP hD hS hA rfl (fun j hj => by rcases (show j = 0 ∨ j = 1 ∨ j = 2 by omega) with rfl | rfl | rfl <;> rfl) (Nat.le_of_ble_eq_true rfl) (Nat.le_of_ble_eq_true rfl) dX0_init_42 (fun q6 _ hP hD hS => ?_)
  refine W.widen (k := 7) (n := 80) (Nat.le_of_ble_eq_true rfl) (Nat.le_of_ble_eq_true rfl) ?_
  refine lv_dup hx hb dX0_init_45 rfl ?_
  refine kw_v (va_runIN (As := []) (rest := [.ref q6, .int 0, .ref q5]) hcf (cz_X1_init l D k (w0 ++ ((a, .inr (0, [.ref q1, .ref q5, .int 0])) :: (xl_X1 k q1 b4 ++ ((q5, .inl (k.2.2.1, 6, .inr (.inr (.inr (.inr (fun _ => none)))))) :: [])))) q6 _) ⟨va_cnB 0 hts gX0_init_X1_init_n11 rfl rfl rfl (hK.2 (RX0, 11, yX1_init, RX6) (List.mem_of_getElem? (i := 12) rfl)) w_5 (by decide +kernel) ⟨Nat.le_of_ble_eq_true rfl, Nat.le_of_ble_eq_true rfl⟩, rfl, w_6⟩ (px_S hP hK hD) rfl rfl hl.1 rfl (lv_room (Nat.le_of_ble_eq_true rfl)) dX0_init_46 ⟨Nat.le_of_ble_eq_true rfl, Nat.le_of_ble_eq_true rfl⟩) hD hS hA (fun u7 _ _ h8 hP hD hS => ?_)
  obtain ⟨b9, rfl⟩ := h8
  refine W.widen (k := 11) (n := 148) (Nat.le_of_ble_eq_true rfl) (Nat.le_of_ble_eq_true rfl) ?_
  simp only [List.append_assoc, List.cons_append, List.nil_append, List.append_nil] at hP hD
  have hP : va_P D vwCl (w0 ++ ((a, .inr (0, [.ref q1, .ref q5, .int 0])) :: (xl_X1 k q1 b4 ++ ((q5, .inl (k.2.2.1, 6, .inr (.inr (.inr (.inr (fun _ => none)))))) :: (xl_X1 k q6 b9 ++ []))))) _ := hP
  have hD : va_D _ (w0 ++ ((a, .inr (0, [.ref q1, .ref q5, .int 0])) :: (xl_X1 k q1 b4 ++ ((q5, .inl (k.2.2.1, 6, .inr (.inr (.inr (.inr (fun _ => none)))))) :: (xl_X1 k q6 b9 ++ []))))) := hD
  refine va_astq hx hb hK.1 hP hD hS (w0.length + 6) 2 (w0.length + 7) 1 (gt_app 6 rfl) rfl (gt_app 7 rfl) rfl (in_s (by decide)) dX0_init_49 (fun _ _ hP hD hS => ?_)
  rw [st_app] at hP hD
  have hP : va_P D vwCl (w0 ++ ((a, .inr (0, [.ref q1, .ref q5, .int 0])) :: (xl_X1 k q1 b4 ++ ((q5, .inl (k.2.2.1, 6, .inr (.inr (.inr (.inr (va_up (fun _ => none) 0 (some q6))))))) :: (xl_X1 k q6 b9 ++ []))))) _ := hP
  have hD : va_D _ (w0 ++ ((a, .inr (0, [.ref q1, .ref q5, .int 0])) :: (xl_X1 k q1 b4 ++ ((q5, .inl (k.2.2.1, 6, .inr (.inr (.inr (.inr (va_up (fun _ => none) 0 (some q6))))))) :: (xl_X1 k q6 b9 ++ []))))) := hD
  refine lv_iinc (v := 1) (lv' := [(1, .int 1), (0, .ref a)]) hx hb dX0_init_50 hl (k := 0) rfl (by decide) (by decide) rfl (fun ls hl => ?_)
  refine lv_goto (tgt := 31) hx hb dX0_init_53 (by decide) ?_
  refine lv_iload_n hx hb dX0_init_31 rfl (lv_at hl 0 rfl) ?_
  refine lv_bipush (v := 6) hx hb dX0_init_32 (by decide) ?_
  refine lv_icmp_ge (tgt := 56) hx hb dX0_init_34 (by decide) (fun c_ => absurd c_ (by decide)) (fun _ => ?_)
  refine lv_aload_n hx hb dX0_init_37 rfl (lv_at hl 1 rfl) ?_
  refine va_get (D := D) (ci := 0) (v := .ref q5) (C := RX0) (T := TX0) (N := 3) hx hb hts in_X0_init_X0 hown hK.1 hP (w0.length + 0) (gt_app 0 rfl) rfl 1 (by decide) w_8 (fun _ h9 => h9) rfl dX0_init_38 ?_
  refine lv_iload_n hx hb dX0_init_41 rfl (lv_at hl 0 rfl) ?_
  refine va_new (ci := 1) (fs := [.null, .null, .int 0]) (C := RX1) (T := TX1) (N := 3) hx hb hts in_X0_init_X1 tyX1 tyX1_ok hown w_3 w_4 w_5 hK.1 hP hD hS hA rfl (fun j hj => by rcases (show j = 0 ∨ j = 1 ∨ j = 2 by omega) with rfl | rfl | rfl <;> rfl) (Nat.le_of_ble_eq_true rfl) (Nat.le_of_ble_eq_true rfl) dX0_init_42 (fun q10 _ hP hD hS => ?_)
  refine W.widen (k := 12) (n := 151) (Nat.le_of_ble_eq_true rfl) (Nat.le_of_ble_eq_true rfl) ?_
  refine lv_dup hx hb dX0_init_45 rfl ?_
  refine kw_v (va_runIN (As := []) (rest := [.ref q10, .int 1, .ref q5]) hcf (cz_X1_init l D k (w0 ++ ((a, .inr (0, [.ref q1, .ref q5, .int 0])) :: (xl_X1 k q1 b4 ++ ((q5, .inl (k.2.2.1, 6, .inr (.inr (.inr (.inr (va_up (fun _ => none) 0 (some q6))))))) :: (xl_X1 k q6 b9 ++ []))))) q10 _) ⟨va_cnB 0 hts gX0_init_X1_init_n11 rfl rfl rfl (hK.2 (RX0, 11, yX1_init, RX6) (List.mem_of_getElem? (i := 12) rfl)) w_5 (by decide +kernel) ⟨Nat.le_of_ble_eq_true rfl, Nat.le_of_ble_eq_true rfl⟩, rfl, w_6⟩ (px_S hP hK hD) rfl rfl hl.1 rfl (lv_room (Nat.le_of_ble_eq_true rfl)) dX0_init_46 ⟨Nat.le_of_ble_eq_true rfl, Nat.le_of_ble_eq_true rfl⟩) hD hS hA (fun u11 _ _ h12 hP hD hS => ?_)
  obtain ⟨b13, rfl⟩ := h12
  refine W.widen (k := 16) (n := 219) (Nat.le_of_ble_eq_true rfl) (Nat.le_of_ble_eq_true rfl) ?_
  simp only [List.append_assoc, List.cons_append, List.nil_append, List.append_nil] at hP hD
  have hP : va_P D vwCl (w0 ++ ((a, .inr (0, [.ref q1, .ref q5, .int 0])) :: (xl_X1 k q1 b4 ++ ((q5, .inl (k.2.2.1, 6, .inr (.inr (.inr (.inr (va_up (fun _ => none) 0 (some q6))))))) :: (xl_X1 k q6 b9 ++ (xl_X1 k q10 b13 ++ [])))))) _ := hP
  have hD : va_D _ (w0 ++ ((a, .inr (0, [.ref q1, .ref q5, .int 0])) :: (xl_X1 k q1 b4 ++ ((q5, .inl (k.2.2.1, 6, .inr (.inr (.inr (.inr (va_up (fun _ => none) 0 (some q6))))))) :: (xl_X1 k q6 b9 ++ (xl_X1 k q10 b13 ++ [])))))) := hD
  refine va_astq hx hb hK.1 hP hD hS (w0.length + 6) 2 (w0.length + 12) 1 (gt_app 6 rfl) rfl (gt_app 12 rfl) rfl (in_s (by decide)) dX0_init_49 (fun _ _ hP hD hS => ?_)
  rw [st_app] at hP hD
  have hP : va_P D vwCl (w0 ++ ((a, .inr (0, [.ref q1, .ref q5, .int 0])) :: (xl_X1 k q1 b4 ++ ((q5, .inl (k.2.2.1, 6, .inr (.inr (.inr (.inr (va_up (va_up (fun _ => none) 0 (some q6)) 1 (some q10))))))) :: (xl_X1 k q6 b9 ++ (xl_X1 k q10 b13 ++ [])))))) _ := hP
  have hD : va_D _ (w0 ++ ((a, .inr (0, [.ref q1, .ref q5, .int 0])) :: (xl_X1 k q1 b4 ++ ((q5, .inl (k.2.2.1, 6, .inr (.inr (.inr (.inr (va_up (va_up (fun _ => none) 0 (some q6)) 1 (some q10))))))) :: (xl_X1 k q6 b9 ++ (xl_X1 k q10 b13 ++ [])))))) := hD
  refine lv_iinc (v := 2) (lv' := [(1, .int 2), (0, .ref a)]) hx hb dX0_init_50 hl (k := 0) rfl (by decide) (by decide) rfl (fun ls hl => ?_)
  refine lv_goto (tgt := 31) hx hb dX0_init_53 (by decide) ?_
  refine lv_iload_n hx hb dX0_init_31 rfl (lv_at hl 0 rfl) ?_
  refine lv_bipush (v := 6) hx hb dX0_init_32 (by decide) ?_
  refine lv_icmp_ge (tgt := 56) hx hb dX0_init_34 (by decide) (fun c_ => absurd c_ (by decide)) (fun _ => ?_)
  refine lv_aload_n hx hb dX0_init_37 rfl (lv_at hl 1 rfl) ?_
  refine va_get (D := D) (ci := 0) (v := .ref q5) (C := RX0) (T := TX0) (N := 3) hx hb hts in_X0_init_X0 hown hK.1 hP (w0.length + 0) (gt_app 0 rfl) rfl 1 (by decide) w_8 (fun _ h9 => h9) rfl dX0_init_38 ?_
  refine lv_iload_n hx hb dX0_init_41 rfl (lv_at hl 0 rfl) ?_
  refine va_new (ci := 1) (fs := [.null, .null, .int 0]) (C := RX1) (T := TX1) (N := 3) hx hb hts in_X0_init_X1 tyX1 tyX1_ok hown w_3 w_4 w_5 hK.1 hP hD hS hA rfl (fun j hj => by rcases (show j = 0 ∨ j = 1 ∨ j = 2 by omega) with rfl | rfl | rfl <;> rfl) (Nat.le_of_ble_eq_true rfl) (Nat.le_of_ble_eq_true rfl) dX0_init_42 (fun q14 _ hP hD hS => ?_)
  refine W.widen (k := 17) (n := 222) (Nat.le_of_ble_eq_true rfl) (Nat.le_of_ble_eq_true rfl) ?_
  refine lv_dup hx hb dX0_init_45 rfl ?_
  refine kw_v (va_runIN (As := []) (rest := [.ref q14, .int 2, .ref q5]) hcf (cz_X1_init l D k (w0 ++ ((a, .inr (0, [.ref q1, .ref q5, .int 0])) :: (xl_X1 k q1 b4 ++ ((q5, .inl (k.2.2.1, 6, .inr (.inr (.inr (.inr (va_up (va_up (fun _ => none) 0 (some q6)) 1 (some q10))))))) :: (xl_X1 k q6 b9 ++ (xl_X1 k q10 b13 ++ [])))))) q14 _) ⟨va_cnB 0 hts gX0_init_X1_init_n11 rfl rfl rfl (hK.2 (RX0, 11, yX1_init, RX6) (List.mem_of_getElem? (i := 12) rfl)) w_5 (by decide +kernel) ⟨Nat.le_of_ble_eq_true rfl, Nat.le_of_ble_eq_true rfl⟩, rfl, w_6⟩ (px_S hP hK hD) rfl rfl hl.1 rfl (lv_room (Nat.le_of_ble_eq_true rfl)) dX0_init_46 ⟨Nat.le_of_ble_eq_true rfl, Nat.le_of_ble_eq_true rfl⟩) hD hS hA (fun u15 _ _ h16 hP hD hS => ?_)
  obtain ⟨b17, rfl⟩ := h16
  refine W.widen (k := 21) (n := 290) (Nat.le_of_ble_eq_true rfl) (Nat.le_of_ble_eq_true rfl) ?_
  simp only [List.append_assoc, List.cons_append, List.nil_append, List.append_nil] at hP hD
  have hP : va_P D vwCl (w0 ++ ((a, .inr (0, [.ref q1, .ref q5, .int 0])) :: (xl_X1 k q1 b4 ++ ((q5, .inl (k.2.2.1, 6, .inr (.inr (.inr (.inr (va_up (va_up (fun _ => none) 0 (some q6)) 1 (some q10))))))) :: (xl_X1 k q6 b9 ++ (xl_X1 k q10 b13 ++ (xl_X1 k q14 b17 ++ []))))))) _ := hP
  have hD : va_D _ (w0 ++ ((a, .inr (0, [.ref q1, .ref q5, .int 0])) :: (xl_X1 k q1 b4 ++ ((q5, .inl (k.2.2.1, 6, .inr (.inr (.inr (.inr (va_up (va_up (fun _ => none) 0 (some q6)) 1 (some q10))))))) :: (xl_X1 k q6 b9 ++ (xl_X1 k q10 b13 ++ (xl_X1 k q14 b17 ++ []))))))) := hD
  refine va_astq hx hb hK.1 hP hD hS (w0.length + 6) 2 (w0.length + 17) 1 (gt_app 6 rfl) rfl (gt_app 17 rfl) rfl (in_s (by decide)) dX0_init_49 (fun _ _ hP hD hS => ?_)
  rw [st_app] at hP hD
  have hP : va_P D vwCl (w0 ++ ((a, .inr (0, [.ref q1, .ref q5, .int 0])) :: (xl_X1 k q1 b4 ++ ((q5, .inl (k.2.2.1, 6, .inr (.inr (.inr (.inr (va_up (va_up (va_up (fun _ => none) 0 (some q6)) 1 (some q10)) 2 (some q14))))))) :: (xl_X1 k q6 b9 ++ (xl_X1 k q10 b13 ++ (xl_X1 k q14 b17 ++ []))))))) _ := hP
  have hD : va_D _ (w0 ++ ((a, .inr (0, [.ref q1, .ref q5, .int 0])) :: (xl_X1 k q1 b4 ++ ((q5, .inl (k.2.2.1, 6, .inr (.inr (.inr (.inr (va_up (va_up (va_up (fun _ => none) 0 (some q6)) 1 (some q10)) 2 (some q14))))))) :: (xl_X1 k q6 b9 ++ (xl_X1 k q10 b13 ++ (xl_X1 k q14 b17 ++ []))))))) := hD
  refine lv_iinc (v := 3) (lv' := [(1, .int 3), (0, .ref a)]) hx hb dX0_init_50 hl (k := 0) rfl (by decide) (by decide) rfl (fun ls hl => ?_)
  refine lv_goto (tgt := 31) hx hb dX0_init_53 (by decide) ?_
  refine lv_iload_n hx hb dX0_init_31 rfl (lv_at hl 0 rfl) ?_
  refine lv_bipush (v := 6) hx hb dX0_init_32 (by decide) ?_
  refine lv_icmp_ge (tgt := 56) hx hb dX0_init_34 (by decide) (fun c_ => absurd c_ (by decide)) (fun _ => ?_)
  refine lv_aload_n hx hb dX0_init_37 rfl (lv_at hl 1 rfl) ?_
  refine va_get (D := D) (ci := 0) (v := .ref q5) (C := RX0) (T := TX0) (N := 3) hx hb hts in_X0_init_X0 hown hK.1 hP (w0.length + 0) (gt_app 0 rfl) rfl 1 (by decide) w_8 (fun _ h9 => h9) rfl dX0_init_38 ?_
  refine lv_iload_n hx hb dX0_init_41 rfl (lv_at hl 0 rfl) ?_
  refine va_new (ci := 1) (fs := [.null, .null, .int 0]) (C := RX1) (T := TX1) (N := 3) hx hb hts in_X0_init_X1 tyX1 tyX1_ok hown w_3 w_4 w_5 hK.1 hP hD hS hA rfl (fun j hj => by rcases (show j = 0 ∨ j = 1 ∨ j = 2 by omega) with rfl | rfl | rfl <;> rfl) (Nat.le_of_ble_eq_true rfl) (Nat.le_of_ble_eq_true rfl) dX0_init_42 (fun q18 _ hP hD hS => ?_)
  refine W.widen (k := 22) (n := 293) (Nat.le_of_ble_eq_true rfl) (Nat.le_of_ble_eq_true rfl) ?_
  refine lv_dup hx hb dX0_init_45 rfl ?_
  refine kw_v (va_runIN (As := []) (rest := [.ref q18, .int 3, .ref q5]) hcf (cz_X1_init l D k (w0 ++ ((a, .inr (0, [.ref q1, .ref q5, .int 0])) :: (xl_X1 k q1 b4 ++ ((q5, .inl (k.2.2.1, 6, .inr (.inr (.inr (.inr (va_up (va_up (va_up (fun _ => none) 0 (some q6)) 1 (some q10)) 2 (some q14))))))) :: (xl_X1 k q6 b9 ++ (xl_X1 k q10 b13 ++ (xl_X1 k q14 b17 ++ []))))))) q18 _) ⟨va_cnB 0 hts gX0_init_X1_init_n11 rfl rfl rfl (hK.2 (RX0, 11, yX1_init, RX6) (List.mem_of_getElem? (i := 12) rfl)) w_5 (by decide +kernel) ⟨Nat.le_of_ble_eq_true rfl, Nat.le_of_ble_eq_true rfl⟩, rfl, w_6⟩ (px_S hP hK hD) rfl rfl hl.1 rfl (lv_room (Nat.le_of_ble_eq_true rfl)) dX0_init_46 ⟨Nat.le_of_ble_eq_true rfl, Nat.le_of_ble_eq_true rfl⟩) hD hS hA (fun u19 _ _ h20 hP hD hS => ?_)
  obtain ⟨b21, rfl⟩ := h20
  refine W.widen (k := 26) (n := 361) (Nat.le_of_ble_eq_true rfl) (Nat.le_of_ble_eq_true rfl) ?_
  simp only [List.append_assoc, List.cons_append, List.nil_append, List.append_nil] at hP hD
  have hP : va_P D vwCl (w0 ++ ((a, .inr (0, [.ref q1, .ref q5, .int 0])) :: (xl_X1 k q1 b4 ++ ((q5, .inl (k.2.2.1, 6, .inr (.inr (.inr (.inr (va_up (va_up (va_up (fun _ => none) 0 (some q6)) 1 (some q10)) 2 (some q14))))))) :: (xl_X1 k q6 b9 ++ (xl_X1 k q10 b13 ++ (xl_X1 k q14 b17 ++ (xl_X1 k q18 b21 ++ [])))))))) _ := hP
  have hD : va_D _ (w0 ++ ((a, .inr (0, [.ref q1, .ref q5, .int 0])) :: (xl_X1 k q1 b4 ++ ((q5, .inl (k.2.2.1, 6, .inr (.inr (.inr (.inr (va_up (va_up (va_up (fun _ => none) 0 (some q6)) 1 (some q10)) 2 (some q14))))))) :: (xl_X1 k q6 b9 ++ (xl_X1 k q10 b13 ++ (xl_X1 k q14 b17 ++ (xl_X1 k q18 b21 ++ [])))))))) := hD
  refine va_astq hx hb hK.1 hP hD hS (w0.length + 6) 2 (w0.length + 22) 1 (gt_app 6 rfl) rfl (gt_app 22 rfl) rfl (in_s (by decide)) dX0_init_49 (fun _ _ hP hD hS => ?_)
  rw [st_app] at hP hD
  have hP : va_P D vwCl (w0 ++ ((a, .inr (0, [.ref q1, .ref q5, .int 0])) :: (xl_X1 k q1 b4 ++ ((q5, .inl (k.2.2.1, 6, .inr (.inr (.inr (.inr (va_up (va_up (va_up (va_up (fun _ => none) 0 (some q6)) 1 (some q10)) 2 (some q14)) 3 (some q18))))))) :: (xl_X1 k q6 b9 ++ (xl_X1 k q10 b13 ++ (xl_X1 k q14 b17 ++ (xl_X1 k q18 b21 ++ [])))))))) _ := hP
  have hD : va_D _ (w0 ++ ((a, .inr (0, [.ref q1, .ref q5, .int 0])) :: (xl_X1 k q1 b4 ++ ((q5, .inl (k.2.2.1, 6, .inr (.inr (.inr (.inr (va_up (va_up (va_up (va_up (fun _ => none) 0 (some q6)) 1 (some q10)) 2 (some q14)) 3 (some q18))))))) :: (xl_X1 k q6 b9 ++ (xl_X1 k q10 b13 ++ (xl_X1 k q14 b17 ++ (xl_X1 k q18 b21 ++ [])))))))) := hD
  refine lv_iinc (v := 4) (lv' := [(1, .int 4), (0, .ref a)]) hx hb dX0_init_50 hl (k := 0) rfl (by decide) (by decide) rfl (fun ls hl => ?_)
  refine lv_goto (tgt := 31) hx hb dX0_init_53 (by decide) ?_
  refine lv_iload_n hx hb dX0_init_31 rfl (lv_at hl 0 rfl) ?_
  refine lv_bipush (v := 6) hx hb dX0_init_32 (by decide) ?_
  refine lv_icmp_ge (tgt := 56) hx hb dX0_init_34 (by decide) (fun c_ => absurd c_ (by decide)) (fun _ => ?_)
  refine lv_aload_n hx hb dX0_init_37 rfl (lv_at hl 1 rfl) ?_
  refine va_get (D := D) (ci := 0) (v := .ref q5) (C := RX0) (T := TX0) (N := 3) hx hb hts in_X0_init_X0 hown hK.1 hP (w0.length + 0) (gt_app 0 rfl) rfl 1 (by decide) w_8 (fun _ h9 => h9) rfl dX0_init_38 ?_
  refine lv_iload_n hx hb dX0_init_41 rfl (lv_at hl 0 rfl) ?_
  refine va_new (ci := 1) (fs := [.null, .null, .int 0]) (C := RX1) (T := TX1) (N := 3) hx hb hts in_X0_init_X1 tyX1 tyX1_ok hown w_3 w_4 w_5 hK.1 hP hD hS hA rfl (fun j hj => by rcases (show j = 0 ∨ j = 1 ∨ j = 2 by omega) with rfl | rfl | rfl <;> rfl) (Nat.le_of_ble_eq_true rfl) (Nat.le_of_ble_eq_true rfl) dX0_init_42 (fun q22 _ hP hD hS => ?_)
  refine W.widen (k := 27) (n := 364) (Nat.le_of_ble_eq_true rfl) (Nat.le_of_ble_eq_true rfl) ?_
  refine lv_dup hx hb dX0_init_45 rfl ?_
  refine kw_v (va_runIN (As := []) (rest := [.ref q22, .int 4, .ref q5]) hcf (cz_X1_init l D k (w0 ++ ((a, .inr (0, [.ref q1, .ref q5, .int 0])) :: (xl_X1 k q1 b4 ++ ((q5, .inl (k.2.2.1, 6, .inr (.inr (.inr (.inr (va_up (va_up (va_up (va_up (fun _ => none) 0 (some q6)) 1 (some q10)) 2 (some q14)) 3 (some q18))))))) :: (xl_X1 k q6 b9 ++ (xl_X1 k q10 b13 ++ (xl_X1 k q14 b17 ++ (xl_X1 k q18 b21 ++ [])))))))) q22 _) ⟨va_cnB 0 hts gX0_init_X1_init_n11 rfl rfl rfl (hK.2 (RX0, 11, yX1_init, RX6) (List.mem_of_getElem? (i := 12) rfl)) w_5 (by decide +kernel) ⟨Nat.le_of_ble_eq_true rfl, Nat.le_of_ble_eq_true rfl⟩, rfl, w_6⟩ (px_S hP hK hD) rfl rfl hl.1 rfl (lv_room (Nat.le_of_ble_eq_true rfl)) dX0_init_46 ⟨Nat.le_of_ble_eq_true rfl, Nat.le_of_ble_eq_true rfl⟩) hD hS hA (fun u23 _ _ h24 hP hD hS => ?_)
  obtain ⟨b25, rfl⟩ := h24
  refine W.widen (k := 31) (n := 432) (Nat.le_of_ble_eq_true rfl) (Nat.le_of_ble_eq_true rfl) ?_
  simp only [List.append_assoc, List.cons_append, List.nil_append, List.append_nil] at hP hD
  have hP : va_P D vwCl (w0 ++ ((a, .inr (0, [.ref q1, .ref q5, .int 0])) :: (xl_X1 k q1 b4 ++ ((q5, .inl (k.2.2.1, 6, .inr (.inr (.inr (.inr (va_up (va_up (va_up (va_up (fun _ => none) 0 (some q6)) 1 (some q10)) 2 (some q14)) 3 (some q18))))))) :: (xl_X1 k q6 b9 ++ (xl_X1 k q10 b13 ++ (xl_X1 k q14 b17 ++ (xl_X1 k q18 b21 ++ (xl_X1 k q22 b25 ++ []))))))))) _ := hP
  have hD : va_D _ (w0 ++ ((a, .inr (0, [.ref q1, .ref q5, .int 0])) :: (xl_X1 k q1 b4 ++ ((q5, .inl (k.2.2.1, 6, .inr (.inr (.inr (.inr (va_up (va_up (va_up (va_up (fun _ => none) 0 (some q6)) 1 (some q10)) 2 (some q14)) 3 (some q18))))))) :: (xl_X1 k q6 b9 ++ (xl_X1 k q10 b13 ++ (xl_X1 k q14 b17 ++ (xl_X1 k q18 b21 ++ (xl_X1 k q22 b25 ++ []))))))))) := hD
  refine va_astq hx hb hK.1 hP hD hS (w0.length + 6) 2 (w0.length + 27) 1 (gt_app 6 rfl) rfl (gt_app 27 rfl) rfl (in_s (by decide)) dX0_init_49 (fun _ _ hP hD hS => ?_)
  rw [st_app] at hP hD
  have hP : va_P D vwCl (w0 ++ ((a, .inr (0, [.ref q1, .ref q5, .int 0])) :: (xl_X1 k q1 b4 ++ ((q5, .inl (k.2.2.1, 6, .inr (.inr (.inr (.inr (va_up (va_up (va_up (va_up (va_up (fun _ => none) 0 (some q6)) 1 (some q10)) 2 (some q14)) 3 (some q18)) 4 (some q22))))))) :: (xl_X1 k q6 b9 ++ (xl_X1 k q10 b13 ++ (xl_X1 k q14 b17 ++ (xl_X1 k q18 b21 ++ (xl_X1 k q22 b25 ++ []))))))))) _ := hP
  have hD : va_D _ (w0 ++ ((a, .inr (0, [.ref q1, .ref q5, .int 0])) :: (xl_X1 k q1 b4 ++ ((q5, .inl (k.2.2.1, 6, .inr (.inr (.inr (.inr (va_up (va_up (va_up (va_up (va_up (fun _ => none) 0 (some q6)) 1 (some q10)) 2 (some q14)) 3 (some q18)) 4 (some q22))))))) :: (xl_X1 k q6 b9 ++ (xl_X1 k q10 b13 ++ (xl_X1 k q14 b17 ++ (xl_X1 k q18 b21 ++ (xl_X1 k q22 b25 ++ []))))))))) := hD
  refine lv_iinc (v := 5) (lv' := [(1, .int 5), (0, .ref a)]) hx hb dX0_init_50 hl (k := 0) rfl (by decide) (by decide) rfl (fun ls hl => ?_)
  refine lv_goto (tgt := 31) hx hb dX0_init_53 (by decide) ?_
  refine lv_iload_n hx hb dX0_init_31 rfl (lv_at hl 0 rfl) ?_
  refine lv_bipush (v := 6) hx hb dX0_init_32 (by decide) ?_
  refine lv_icmp_ge (tgt := 56) hx hb dX0_init_34 (by decide) (fun c_ => absurd c_ (by decide)) (fun _ => ?_)
  refine lv_aload_n hx hb dX0_init_37 rfl (lv_at hl 1 rfl) ?_
  refine va_get (D := D) (ci := 0) (v := .ref q5) (C := RX0) (T := TX0) (N := 3) hx hb hts in_X0_init_X0 hown hK.1 hP (w0.length + 0) (gt_app 0 rfl) rfl 1 (by decide) w_8 (fun _ h9 => h9) rfl dX0_init_38 ?_
  refine lv_iload_n hx hb dX0_init_41 rfl (lv_at hl 0 rfl) ?_
  refine va_new (ci := 1) (fs := [.null, .null, .int 0]) (C := RX1) (T := TX1) (N := 3) hx hb hts in_X0_init_X1 tyX1 tyX1_ok hown w_3 w_4 w_5 hK.1 hP hD hS hA rfl (fun j hj => by rcases (show j = 0 ∨ j = 1 ∨ j = 2 by omega) with rfl | rfl | rfl <;> rfl) (Nat.le_of_ble_eq_true rfl) (Nat.le_of_ble_eq_true rfl) dX0_init_42 (fun q26 _ hP hD hS => ?_)
  refine W.widen (k := 32) (n := 435) (Nat.le_of_ble_eq_true rfl) (Nat.le_of_ble_eq_true rfl) ?_
  refine lv_dup hx hb dX0_init_45 rfl ?_
  refine kw_v (va_runIN (As := []) (rest := [.ref q26, .int 5, .ref q5]) hcf (cz_X1_init l D k (w0 ++ ((a, .inr (0, [.ref q1, .ref q5, .int 0])) :: (xl_X1 k q1 b4 ++ ((q5, .inl (k.2.2.1, 6, .inr (.inr (.inr (.inr (va_up (va_up (va_up (va_up (va_up (fun _ => none) 0 (some q6)) 1 (some q10)) 2 (some q14)) 3 (some q18)) 4 (some q22))))))) :: (xl_X1 k q6 b9 ++ (xl_X1 k q10 b13 ++ (xl_X1 k q14 b17 ++ (xl_X1 k q18 b21 ++ (xl_X1 k q22 b25 ++ []))))))))) q26 _) ⟨va_cnB 0 hts gX0_init_X1_init_n11 rfl rfl rfl (hK.2 (RX0, 11, yX1_init, RX6) (List.mem_of_getElem? (i := 12) rfl)) w_5 (by decide +kernel) ⟨Nat.le_of_ble_eq_true rfl, Nat.le_of_ble_eq_true rfl⟩, rfl, w_6⟩ (px_S hP hK hD) rfl rfl hl.1 rfl (lv_room (Nat.le_of_ble_eq_true rfl)) dX0_init_46 ⟨Nat.le_of_ble_eq_true rfl, Nat.le_of_ble_eq_true rfl⟩) hD hS hA (fun u27 _ _ h28 hP hD hS => ?_)
  obtain ⟨b29, rfl⟩ := h28
  refine W.widen (k := 36) (n := 503) (Nat.le_of_ble_eq_true rfl) (Nat.le_of_ble_eq_true rfl) ?_
  simp only [List.append_assoc, List.cons_append, List.nil_append, List.append_nil] at hP hD
  have hP : va_P D vwCl (w0 ++ ((a, .inr (0, [.ref q1, .ref q5, .int 0])) :: (xl_X1 k q1 b4 ++ ((q5, .inl (k.2.2.1, 6, .inr (.inr (.inr (.inr (va_up (va_up (va_up (va_up (va_up (fun _ => none) 0 (some q6)) 1 (some q10)) 2 (some q14)) 3 (some q18)) 4 (some q22))))))) :: (xl_X1 k q6 b9 ++ (xl_X1 k q10 b13 ++ (xl_X1 k q14 b17 ++ (xl_X1 k q18 b21 ++ (xl_X1 k q22 b25 ++ (xl_X1 k q26 b29 ++ [])))))))))) _ := hP
  have hD : va_D _ (w0 ++ ((a, .inr (0, [.ref q1, .ref q5, .int 0])) :: (xl_X1 k q1 b4 ++ ((q5, .inl (k.2.2.1, 6, .inr (.inr (.inr (.inr (va_up (va_up (va_up (va_up (va_up (fun _ => none) 0 (some q6)) 1 (some q10)) 2 (some q14)) 3 (some q18)) 4 (some q22))))))) :: (xl_X1 k q6 b9 ++ (xl_X1 k q10 b13 ++ (xl_X1 k q14 b17 ++ (xl_X1 k q18 b21 ++ (xl_X1 k q22 b25 ++ (xl_X1 k q26 b29 ++ [])))))))))) := hD
  refine va_astq hx hb hK.1 hP hD hS (w0.length + 6) 2 (w0.length + 32) 1 (gt_app 6 rfl) rfl (gt_app 32 rfl) rfl (in_s (by decide)) dX0_init_49 (fun _ _ hP hD hS => ?_)
  rw [st_app] at hP hD
  have hP : va_P D vwCl (w0 ++ ((a, .inr (0, [.ref q1, .ref q5, .int 0])) :: (xl_X1 k q1 b4 ++ ((q5, .inl (k.2.2.1, 6, .inr (.inr (.inr (.inr (va_up (va_up (va_up (va_up (va_up (va_up (fun _ => none) 0 (some q6)) 1 (some q10)) 2 (some q14)) 3 (some q18)) 4 (some q22)) 5 (some q26))))))) :: (xl_X1 k q6 b9 ++ (xl_X1 k q10 b13 ++ (xl_X1 k q14 b17 ++ (xl_X1 k q18 b21 ++ (xl_X1 k q22 b25 ++ (xl_X1 k q26 b29 ++ [])))))))))) _ := hP
  have hD : va_D _ (w0 ++ ((a, .inr (0, [.ref q1, .ref q5, .int 0])) :: (xl_X1 k q1 b4 ++ ((q5, .inl (k.2.2.1, 6, .inr (.inr (.inr (.inr (va_up (va_up (va_up (va_up (va_up (va_up (fun _ => none) 0 (some q6)) 1 (some q10)) 2 (some q14)) 3 (some q18)) 4 (some q22)) 5 (some q26))))))) :: (xl_X1 k q6 b9 ++ (xl_X1 k q10 b13 ++ (xl_X1 k q14 b17 ++ (xl_X1 k q18 b21 ++ (xl_X1 k q22 b25 ++ (xl_X1 k q26 b29 ++ [])))))))))) := hD
  refine lv_iinc (v := 6) (lv' := [(1, .int 6), (0, .ref a)]) hx hb dX0_init_50 hl (k := 0) rfl (by decide) (by decide) rfl (fun ls hl => ?_)
  refine lv_goto (tgt := 31) hx hb dX0_init_53 (by decide) ?_
  refine lv_iload_n hx hb dX0_init_31 rfl (lv_at hl 0 rfl) ?_
  refine lv_bipush (v := 6) hx hb dX0_init_32 (by decide) ?_
  refine lv_icmp_ge (tgt := 56) hx hb dX0_init_34 (by decide) (fun _ => ?_) (fun c_ => absurd (by decide) c_)
  exact W.vret hx hb hr (qw_end hS hP hD ⟨(fun i => [q1, b4 0, b4 1, b4 2, b4 3, q5, q6, b9 0, b9 1, b9 2, b9 3, q10, b13 0, b13 1, b13 2, b13 3, q14, b17 0, b17 1, b17 2, b17 3, q18, b21 0, b21 1, b21 2, b21 3, q22, b25 0, b25 1, b25 2, b25 3, q26, b29 0, b29 1, b29 2, b29 3].getD i 0), rfl⟩) hS.2.2 dX0_init_56

theorem in_X5_init_X3 : ∀ w ∈ u_ws RX3 TX3 2, w ∈ wsX5_init := fun w h => List.mem_cons_of_mem _ (List.mem_append_right _ h)
theorem in_X5_init_X5 : ∀ w ∈ u_ws RX5 TX5 7, w ∈ wsX5_init := fun w h => List.mem_cons_of_mem _ (List.mem_append_left _ (List.mem_append_right _ h))
def xl_X5 (k : kt_T) (a : Nat) (b : Nat → Nat) : va_W := [(a, .inr (5, [.ref (b 0), .ref (b 1), .ref (b 2), .ref (b 3), .ref (b 4), .ref (b 5), .ref (b 7)]))] ++ ([((b 0), .inl (k.1, 512, .inl (fun _ => 0)))] ++ ([((b 1), .inl (k.1, 512, .inl (fun _ => 0)))] ++ ([((b 2), .inl (k.1, 512, .inl (fun _ => 0)))] ++ ([((b 3), .inl (k.1, 512, .inl (fun _ => 0)))] ++ ([((b 4), .inl (k.1, 512, .inl (fun _ => 0)))] ++ (xl_X3 k (b 5) (fun i => b (i + 6)) ++ (xl_X3 k (b 7) (fun i => b (i + 8)))))))))
set_option maxHeartbeats 4000000 in
set_option maxRecDepth 100000 in
theorem cz_X5_init (l : Launch) (D : va_G) (k : kt_T) (w0 : va_W) (a sz0 : Nat) : Met l yX5_init wsX5_init { frames := 2, cells := 9, slots := 2628, locals := 32 } (va_Pc [.ref a] (px_P D k (w0 ++ [(a, .inr (5, [.null, .null, .null, .null, .null, .null, .null]))]) sz0)) (qw_Q D (w0 ++ [(a, .inr (5, [.null, .null, .null, .null, .null, .null, .null]))]) sz0 none (fun u => ∃ b : Nat → Nat, u = w0 ++ xl_X5 k a b)) 9 2628 (va_A (w0 ++ [(a, .inr (5, [.null, .null, .null, .null, .null, .null, .null]))]) sz0) := by
  refine Met.ofW (cc := cX5_init) (maxL := 1) (ret := none) (by decide) rfl ?_
  intro p e s m args below meth c s₁ B hml hv
  obtain ⟨rfl, hsz, hP, hK, hD0⟩ := hv
  subst hsz
  have hD := hD0.self (sz := s.heap.size)
  have C0 : cx_P p s m meth c [.ref a].toArray cX5_init 1 wsX5_init RX5 none := ⟨B.exec, B.bytes, hml, findClass_of_methodNamed B.named, atoms_spec (ws := wsX5_init) B.pre, B.returns, B.notSynchronized⟩
  obtain ⟨hx, hb, hml, hown, hts, hr, hlocks⟩ := id C0
  have hin : meth.name = "<init>" := (name_of_methodNamed B.named B.method).1
  have hcf : CallFix p m c cX5_init 1 s [.ref a].toArray wsX5_init RX5 := ⟨hx, hb, hml, hown, hts⟩
  have hA : ∀ q, s.heap.size ≤ q → va_A (w0 ++ [(a, .inr (5, [.null, .null, .null, .null, .null, .null, .null]))]) s.heap.size q := fun q h => Or.inr h
  have hS : va_S (va_A (w0 ++ [(a, .inr (5, [.null, .null, .null, .null, .null, .null, .null]))]) s.heap.size) s.heap s.heap [] := va_S.rf
  have w_0 := hts (.methodLink RX5 3 objectInit) (List.mem_of_getElem? (i := 1) rfl)
  have w_1 := hts (.instanceMethod objectInit) (List.mem_of_getElem? (i := 2) rfl)
  have w_2 := hts (.code objectInit ⟨#[0xb1]⟩ 1 none) (List.mem_of_getElem? (i := 3) rfl)
  have w_3 := hts (.arrayClass .int) (List.mem_of_getElem? (i := 4) rfl)
  have w_4 := hts (.fieldLink RX5 9 "LeastRoutes$View" "sent" "[I") (List.mem_of_getElem? (i := 5) rfl)
  have w_5 := hts (.fieldLink RX5 15 "LeastRoutes$View" "sentByInstalled" "[I") (List.mem_of_getElem? (i := 6) rfl)
  have w_6 := hts (.fieldLink RX5 18 "LeastRoutes$View" "best" "[I") (List.mem_of_getElem? (i := 7) rfl)
  have w_7 := hts (.fieldLink RX5 21 "LeastRoutes$View" "ease" "[I") (List.mem_of_getElem? (i := 8) rfl)
  have w_8 := hts (.fieldLink RX5 24 "LeastRoutes$View" "fromAbove" "[I") (List.mem_of_getElem? (i := 9) rfl)
  have w_9 := hts (.classLink RX5 27 RX3) (List.mem_of_getElem? (i := 10) rfl)
  have w_10 := hts (.instantiable RX3 2) (List.mem_of_getElem? (i := 11) rfl)
  have w_11 := hts (.initialized RX3) (List.mem_of_getElem? (i := 12) rfl)
  have w_12 := hts (.instanceMethod yX3_init) (List.mem_of_getElem? (i := 15) rfl)
  have w_13 := hts (.fieldLink RX5 30 "LeastRoutes$View" "inUse" "LLeastRoutes$Table;") (List.mem_of_getElem? (i := 13) rfl)
  have w_14 := hts (.fieldLink RX5 34 "LeastRoutes$View" "leastOne" "LLeastRoutes$Table;") (List.mem_of_getElem? (i := 14) rfl)
  have hl := lv_entry ([.ref a]) (n := 1) (Nat.le_of_ble_eq_true rfl)
  rw [lg_entry_eq]
  generalize (lg_sl ([.ref a]) ++ List.replicate (1 - (lg_sl ([.ref a])).length) Slot.unset).toArray = ls at hl ⊢
  have hl : lv_has ls 1 [(0, .ref a)] := hl
  refine lv_aload_n hx hb dX5_init_0 rfl (lv_at hl 0 rfl) ?_
  refine W.objInit hx hb hown w_0 w_1 w_2 rfl (by rw [hml]; exact hl.1) rfl dX5_init_1 (Nat.le_of_ble_eq_true rfl) (Nat.le_of_ble_eq_true rfl) ?_
  refine W.eq (g2 := F0 m 4 ls []) rfl ?_
  refine lv_aload_n hx hb dX5_init_4 rfl (lv_at hl 0 rfl) ?_
  refine lv_sipush (v := 512) hx hb dX5_init_5 (by decide) ?_
  refine va_newa (atype := .int) (a0 := (512, .inl (fun _ => 0))) hx hb w_3 rfl hK.1 hP hD hS hA (fun _ => rfl) (by decide) (by decide) (by decide) (Nat.le_of_ble_eq_true rfl) (Nat.le_of_ble_eq_true rfl) dX5_init_8 (fun q1 cA _ hK9 hP hD hS => ?_)
  obtain rfl := ar_I hK9
  refine W.widen (k := 1) (n := 512) (Nat.le_of_ble_eq_true rfl) (Nat.le_of_ble_eq_true rfl) ?_
  simp only [List.append_assoc, List.cons_append, List.nil_append, List.append_nil] at hP hD
  have hP : va_P D vwCl (w0 ++ ((a, .inr (5, [.null, .null, .null, .null, .null, .null, .null])) :: ((q1, .inl (k.1, 512, .inl (fun _ => 0))) :: []))) _ := hP
  have hD : va_D _ (w0 ++ ((a, .inr (5, [.null, .null, .null, .null, .null, .null, .null])) :: ((q1, .inl (k.1, 512, .inl (fun _ => 0))) :: []))) := hD
  refine va_putF (D := D) (ci := 5) (v := .ref q1) (ty := .array .int) (C := RX5) (T := TX5) (N := 7) hx hb hts in_X5_init_X5 tyX5 tyX5_ok nmX5 hown hK.1 hP hD hS (w0.length + 0) (gt_app 0 rfl) rfl 0 (by decide) w_4 (fun _ h9 => h9) rfl hin rfl (by decide +kernel) rfl rfl (Nat.le_of_ble_eq_true rfl) dX5_init_10 (fun _ _ hP hD hS => ?_)
  rw [st_app] at hP hD
  have hP : va_P D vwCl (w0 ++ ((a, .inr (5, [.ref q1, .null, .null, .null, .null, .null, .null])) :: ((q1, .inl (k.1, 512, .inl (fun _ => 0))) :: []))) _ := hP
  have hD : va_D _ (w0 ++ ((a, .inr (5, [.ref q1, .null, .null, .null, .null, .null, .null])) :: ((q1, .inl (k.1, 512, .inl (fun _ => 0))) :: []))) := hD
  refine lv_aload_n hx hb dX5_init_13 rfl (lv_at hl 0 rfl) ?_
  refine lv_sipush (v := 512) hx hb dX5_init_14 (by decide) ?_
  refine va_newa (atype := .int) (a0 := (512, .inl (fun _ => 0))) hx hb w_3 rfl hK.1 hP hD hS hA (fun _ => rfl) (by decide) (by decide) (by decide) (Nat.le_of_ble_eq_true rfl) (Nat.le_of_ble_eq_true rfl) dX5_init_17 (fun q2 cA _ hK9 hP hD hS => ?_)
  obtain rfl := ar_I hK9
  refine W.widen (k := 2) (n := 1024) (Nat.le_of_ble_eq_true rfl) (Nat.le_of_ble_eq_true rfl) ?_
  simp only [List.append_assoc, List.cons_append, List.nil_append, List.append_nil] at hP hD
  have hP : va_P D vwCl (w0 ++ ((a, .inr (5, [.ref q1, .null, .null, .null, .null, .null, .null])) :: ((q1, .inl (k.1, 512, .inl (fun _ => 0))) :: ((q2, .inl (k.1, 512, .inl (fun _ => 0))) :: [])))) _ := hP
  have hD : va_D _ (w0 ++ ((a, .inr (5, [.ref q1, .null, .null, .null, .null, .null, .null])) :: ((q1, .inl (k.1, 512, .inl (fun _ => 0))) :: ((q2, .inl (k.1, 512, .inl (fun _ => 0))) :: [])))) := hD
  refine va_putF (D := D) (ci := 5) (v := .ref q2) (ty := .array .int) (C := RX5) (T := TX5) (N := 7) hx hb hts in_X5_init_X5 tyX5 tyX5_ok nmX5 hown hK.1 hP hD hS (w0.length + 0) (gt_app 0 rfl) rfl 1 (by decide) w_5 (fun _ h9 => h9) rfl hin rfl (by decide +kernel) rfl rfl (Nat.le_of_ble_eq_true rfl) dX5_init_19 (fun _ _ hP hD hS => ?_)
  rw [st_app] at hP hD
  have hP : va_P D vwCl (w0 ++ ((a, .inr (5, [.ref q1, .ref q2, .null, .null, .null, .null, .null])) :: ((q1, .inl (k.1, 512, .inl (fun _ => 0))) :: ((q2, .inl (k.1, 512, .inl (fun _ => 0))) :: [])))) _ := hP
  have hD : va_D _ (w0 ++ ((a, .inr (5, [.ref q1, .ref q2, .null, .null, .null, .null, .null])) :: ((q1, .inl (k.1, 512, .inl (fun _ => 0))) :: ((q2, .inl (k.1, 512, .inl (fun _ => 0))) :: [])))) := hD
  refine lv_aload_n hx hb dX5_init_22 rfl (lv_at hl 0 rfl) ?_
  refine lv_sipush (v := 512) hx hb dX5_init_23 (by decide) ?_
  refine va_newa (atype := .int) (a0 := (512, .inl (fun _ => 0))) hx hb w_3 rfl hK.1 hP hD hS hA (fun _ => rfl) (by decide) (by decide) (by decide) (Nat.le_of_ble_eq_true rfl) (Nat.le_of_ble_eq_true rfl) dX5_init_26 (fun q3 cA _ hK9 hP hD hS => ?_)
  obtain rfl := ar_I hK9
  refine W.widen (k := 3) (n := 1536) (Nat.le_of_ble_eq_true rfl) (Nat.le_of_ble_eq_true rfl) ?_
  simp only [List.append_assoc, List.cons_append, List.nil_append, List.append_nil] at hP hD
  have hP : va_P D vwCl (w0 ++ ((a, .inr (5, [.ref q1, .ref q2, .null, .null, .null, .null, .null])) :: ((q1, .inl (k.1, 512, .inl (fun _ => 0))) :: ((q2, .inl (k.1, 512, .inl (fun _ => 0))) :: ((q3, .inl (k.1, 512, .inl (fun _ => 0))) :: []))))) _ := hP
  have hD : va_D _ (w0 ++ ((a, .inr (5, [.ref q1, .ref q2, .null, .null, .null, .null, .null])) :: ((q1, .inl (k.1, 512, .inl (fun _ => 0))) :: ((q2, .inl (k.1, 512, .inl (fun _ => 0))) :: ((q3, .inl (k.1, 512, .inl (fun _ => 0))) :: []))))) := hD
  refine va_putF (D := D) (ci := 5) (v := .ref q3) (ty := .array .int) (C := RX5) (T := TX5) (N := 7) hx hb hts in_X5_init_X5 tyX5 tyX5_ok nmX5 hown hK.1 hP hD hS (w0.length + 0) (gt_app 0 rfl) rfl 2 (by decide) w_6 (fun _ h9 => h9) rfl hin rfl (by decide +kernel) rfl rfl (Nat.le_of_ble_eq_true rfl) dX5_init_28 (fun _ _ hP hD hS => ?_)
  rw [st_app] at hP hD
  have hP : va_P D vwCl (w0 ++ ((a, .inr (5, [.ref q1, .ref q2, .ref q3, .null, .null, .null, .null])) :: ((q1, .inl (k.1, 512, .inl (fun _ => 0))) :: ((q2, .inl (k.1, 512, .inl (fun _ => 0))) :: ((q3, .inl (k.1, 512, .inl (fun _ => 0))) :: []))))) _ := hP
  have hD : va_D _ (w0 ++ ((a, .inr (5, [.ref q1, .ref q2, .ref q3, .null, .null, .null, .null])) :: ((q1, .inl (k.1, 512, .inl (fun _ => 0))) :: ((q2, .inl (k.1, 512, .inl (fun _ => 0))) :: ((q3, .inl (k.1, 512, .inl (fun _ => 0))) :: []))))) := hD
  refine lv_aload_n hx hb dX5_init_31 rfl (lv_at hl 0 rfl) ?_
  refine lv_sipush (v := 512) hx hb dX5_init_32 (by decide) ?_
  refine va_newa (atype := .int) (a0 := (512, .inl (fun _ => 0))) hx hb w_3 rfl hK.1 hP hD hS hA (fun _ => rfl) (by decide) (by decide) (by decide) (Nat.le_of_ble_eq_true rfl) (Nat.le_of_ble_eq_true rfl) dX5_init_35 (fun q4 cA _ hK9 hP hD hS => ?_)
  obtain rfl := ar_I hK9
  refine W.widen (k := 4) (n := 2048) (Nat.le_of_ble_eq_true rfl) (Nat.le_of_ble_eq_true rfl) ?_
  simp only [List.append_assoc, List.cons_append, List.nil_append, List.append_nil] at hP hD
  have hP : va_P D vwCl (w0 ++ ((a, .inr (5, [.ref q1, .ref q2, .ref q3, .null, .null, .null, .null])) :: ((q1, .inl (k.1, 512, .inl (fun _ => 0))) :: ((q2, .inl (k.1, 512, .inl (fun _ => 0))) :: ((q3, .inl (k.1, 512, .inl (fun _ => 0))) :: ((q4, .inl (k.1, 512, .inl (fun _ => 0))) :: [])))))) _ := hP
  have hD : va_D _ (w0 ++ ((a, .inr (5, [.ref q1, .ref q2, .ref q3, .null, .null, .null, .null])) :: ((q1, .inl (k.1, 512, .inl (fun _ => 0))) :: ((q2, .inl (k.1, 512, .inl (fun _ => 0))) :: ((q3, .inl (k.1, 512, .inl (fun _ => 0))) :: ((q4, .inl (k.1, 512, .inl (fun _ => 0))) :: [])))))) := hD
  refine va_putF (D := D) (ci := 5) (v := .ref q4) (ty := .array .int) (C := RX5) (T := TX5) (N := 7) hx hb hts in_X5_init_X5 tyX5 tyX5_ok nmX5 hown hK.1 hP hD hS (w0.length + 0) (gt_app 0 rfl) rfl 3 (by decide) w_7 (fun _ h9 => h9) rfl hin rfl (by decide +kernel) rfl rfl (Nat.le_of_ble_eq_true rfl) dX5_init_37 (fun _ _ hP hD hS => ?_)
  rw [st_app] at hP hD
  have hP : va_P D vwCl (w0 ++ ((a, .inr (5, [.ref q1, .ref q2, .ref q3, .ref q4, .null, .null, .null])) :: ((q1, .inl (k.1, 512, .inl (fun _ => 0))) :: ((q2, .inl (k.1, 512, .inl (fun _ => 0))) :: ((q3, .inl (k.1, 512, .inl (fun _ => 0))) :: ((q4, .inl (k.1, 512, .inl (fun _ => 0))) :: [])))))) _ := hP
  have hD : va_D _ (w0 ++ ((a, .inr (5, [.ref q1, .ref q2, .ref q3, .ref q4, .null, .null, .null])) :: ((q1, .inl (k.1, 512, .inl (fun _ => 0))) :: ((q2, .inl (k.1, 512, .inl (fun _ => 0))) :: ((q3, .inl (k.1, 512, .inl (fun _ => 0))) :: ((q4, .inl (k.1, 512, .inl (fun _ => 0))) :: [])))))) := hD
  refine lv_aload_n hx hb dX5_init_40 rfl (lv_at hl 0 rfl) ?_
  refine lv_sipush (v := 512) hx hb dX5_init_41 (by decide) ?_
  refine va_newa (atype := .int) (a0 := (512, .inl (fun _ => 0))) hx hb w_3 rfl hK.1 hP hD hS hA (fun _ => rfl) (by decide) (by decide) (by decide) (Nat.le_of_ble_eq_true rfl) (Nat.le_of_ble_eq_true rfl) dX5_init_44 (fun q5 cA _ hK9 hP hD hS => ?_)
  obtain rfl := ar_I hK9
  refine W.widen (k := 5) (n := 2560) (Nat.le_of_ble_eq_true rfl) (Nat.le_of_ble_eq_true rfl) ?_
  simp only [List.append_assoc, List.cons_append, List.nil_append, List.append_nil] at hP hD
  have hP : va_P D vwCl (w0 ++ ((a, .inr (5, [.ref q1, .ref q2, .ref q3, .ref q4, .null, .null, .null])) :: ((q1, .inl (k.1, 512, .inl (fun _ => 0))) :: ((q2, .inl (k.1, 512, .inl (fun _ => 0))) :: ((q3, .inl (k.1, 512, .inl (fun _ => 0))) :: ((q4, .inl (k.1, 512, .inl (fun _ => 0))) :: ((q5, .inl (k.1, 512, .inl (fun _ => 0))) :: []))))))) _ := hP
  have hD : va_D _ (w0 ++ ((a, .inr (5, [.ref q1, .ref q2, .ref q3, .ref q4, .null, .null, .null])) :: ((q1, .inl (k.1, 512, .inl (fun _ => 0))) :: ((q2, .inl (k.1, 512, .inl (fun _ => 0))) :: ((q3, .inl (k.1, 512, .inl (fun _ => 0))) :: ((q4, .inl (k.1, 512, .inl (fun _ => 0))) :: ((q5, .inl (k.1, 512, .inl (fun _ => 0))) :: []))))))) := hD
  refine va_putF (D := D) (ci := 5) (v := .ref q5) (ty := .array .int) (C := RX5) (T := TX5) (N := 7) hx hb hts in_X5_init_X5 tyX5 tyX5_ok nmX5 hown hK.1 hP hD hS (w0.length + 0) (gt_app 0 rfl) rfl 4 (by decide) w_8 (fun _ h9 => h9) rfl hin rfl (by decide +kernel) rfl rfl (Nat.le_of_ble_eq_true rfl) dX5_init_46 (fun _ _ hP hD hS => ?_)
  rw [st_app] at hP hD
  have hP : va_P D vwCl (w0 ++ ((a, .inr (5, [.ref q1, .ref q2, .ref q3, .ref q4, .ref q5, .null, .null])) :: ((q1, .inl (k.1, 512, .inl (fun _ => 0))) :: ((q2, .inl (k.1, 512, .inl (fun _ => 0))) :: ((q3, .inl (k.1, 512, .inl (fun _ => 0))) :: ((q4, .inl (k.1, 512, .inl (fun _ => 0))) :: ((q5, .inl (k.1, 512, .inl (fun _ => 0))) :: []))))))) _ := hP
  have hD : va_D _ (w0 ++ ((a, .inr (5, [.ref q1, .ref q2, .ref q3, .ref q4, .ref q5, .null, .null])) :: ((q1, .inl (k.1, 512, .inl (fun _ => 0))) :: ((q2, .inl (k.1, 512, .inl (fun _ => 0))) :: ((q3, .inl (k.1, 512, .inl (fun _ => 0))) :: ((q4, .inl (k.1, 512, .inl (fun _ => 0))) :: ((q5, .inl (k.1, 512, .inl (fun _ => 0))) :: []))))))) := hD
  refine lv_aload_n hx hb dX5_init_49 rfl (lv_at hl 0 rfl) ?_
  refine va_new (ci := 3) (fs := [.null, .int 0]) (C := RX3) (T := TX3) (N := 2) hx hb hts in_X5_init_X3 tyX3 tyX3_ok hown w_9 w_10 w_11 hK.1 hP hD hS hA rfl (fun j hj => by rcases (show j = 0 ∨ j = 1 by omega) with rfl | rfl <;> rfl) (Nat.le_of_ble_eq_true rfl) (Nat.le_of_ble_eq_true rfl) dX5_init_50 (fun q6 _ hP hD hS => ?_)
  refine W.widen (k := 6) (n := 2562) (Nat.le_of_ble_eq_true rfl) (Nat.le_of_ble_eq_true rfl) ?_
  refine lv_dup hx hb dX5_init_53 rfl ?_
  refine kw_v (va_runIN (As := []) (rest := [.ref q6, .ref a]) hcf (cz_X3_init l D k (w0 ++ ((a, .inr (5, [.ref q1, .ref q2, .ref q3, .ref q4, .ref q5, .null, .null])) :: ((q1, .inl (k.1, 512, .inl (fun _ => 0))) :: ((q2, .inl (k.1, 512, .inl (fun _ => 0))) :: ((q3, .inl (k.1, 512, .inl (fun _ => 0))) :: ((q4, .inl (k.1, 512, .inl (fun _ => 0))) :: ((q5, .inl (k.1, 512, .inl (fun _ => 0))) :: []))))))) q6 _) ⟨va_cnB 0 hts gX5_init_X3_init_n29 rfl rfl rfl (hK.2 (RX5, 29, yX3_init, RX6) (List.mem_of_getElem? (i := 4) rfl)) w_11 (by decide +kernel) ⟨Nat.le_of_ble_eq_true rfl, Nat.le_of_ble_eq_true rfl⟩, rfl, w_12⟩ (px_S hP hK hD) rfl rfl hl.1 rfl (lv_room (Nat.le_of_ble_eq_true rfl)) dX5_init_54 ⟨Nat.le_of_ble_eq_true rfl, Nat.le_of_ble_eq_true rfl⟩) hD hS hA (fun u7 _ _ h8 hP hD hS => ?_)
  obtain ⟨b9, rfl⟩ := h8
  refine W.widen (k := 7) (n := 2594) (Nat.le_of_ble_eq_true rfl) (Nat.le_of_ble_eq_true rfl) ?_
  simp only [List.append_assoc, List.cons_append, List.nil_append, List.append_nil] at hP hD
  have hP : va_P D vwCl (w0 ++ ((a, .inr (5, [.ref q1, .ref q2, .ref q3, .ref q4, .ref q5, .null, .null])) :: ((q1, .inl (k.1, 512, .inl (fun _ => 0))) :: ((q2, .inl (k.1, 512, .inl (fun _ => 0))) :: ((q3, .inl (k.1, 512, .inl (fun _ => 0))) :: ((q4, .inl (k.1, 512, .inl (fun _ => 0))) :: ((q5, .inl (k.1, 512, .inl (fun _ => 0))) :: (xl_X3 k q6 b9 ++ [])))))))) _ := hP
  have hD : va_D _ (w0 ++ ((a, .inr (5, [.ref q1, .ref q2, .ref q3, .ref q4, .ref q5, .null, .null])) :: ((q1, .inl (k.1, 512, .inl (fun _ => 0))) :: ((q2, .inl (k.1, 512, .inl (fun _ => 0))) :: ((q3, .inl (k.1, 512, .inl (fun _ => 0))) :: ((q4, .inl (k.1, 512, .inl (fun _ => 0))) :: ((q5, .inl (k.1, 512, .inl (fun _ => 0))) :: (xl_X3 k q6 b9 ++ [])))))))) := hD
  refine va_putF (D := D) (ci := 5) (v := .ref q6) (ty := .object "LeastRoutes$Table") (C := RX5) (T := TX5) (N := 7) hx hb hts in_X5_init_X5 tyX5 tyX5_ok nmX5 hown hK.1 hP hD hS (w0.length + 0) (gt_app 0 rfl) rfl 5 (by decide) w_13 (fun _ h9 => h9) rfl hin rfl (by decide +kernel) rfl rfl (Nat.le_of_ble_eq_true rfl) dX5_init_57 (fun _ _ hP hD hS => ?_)
  rw [st_app] at hP hD
  have hP : va_P D vwCl (w0 ++ ((a, .inr (5, [.ref q1, .ref q2, .ref q3, .ref q4, .ref q5, .ref q6, .null])) :: ((q1, .inl (k.1, 512, .inl (fun _ => 0))) :: ((q2, .inl (k.1, 512, .inl (fun _ => 0))) :: ((q3, .inl (k.1, 512, .inl (fun _ => 0))) :: ((q4, .inl (k.1, 512, .inl (fun _ => 0))) :: ((q5, .inl (k.1, 512, .inl (fun _ => 0))) :: (xl_X3 k q6 b9 ++ [])))))))) _ := hP
  have hD : va_D _ (w0 ++ ((a, .inr (5, [.ref q1, .ref q2, .ref q3, .ref q4, .ref q5, .ref q6, .null])) :: ((q1, .inl (k.1, 512, .inl (fun _ => 0))) :: ((q2, .inl (k.1, 512, .inl (fun _ => 0))) :: ((q3, .inl (k.1, 512, .inl (fun _ => 0))) :: ((q4, .inl (k.1, 512, .inl (fun _ => 0))) :: ((q5, .inl (k.1, 512, .inl (fun _ => 0))) :: (xl_X3 k q6 b9 ++ [])))))))) := hD
  refine lv_aload_n hx hb dX5_init_60 rfl (lv_at hl 0 rfl) ?_
  refine va_new (ci := 3) (fs := [.null, .int 0]) (C := RX3) (T := TX3) (N := 2) hx hb hts in_X5_init_X3 tyX3 tyX3_ok hown w_9 w_10 w_11 hK.1 hP hD hS hA rfl (fun j hj => by rcases (show j = 0 ∨ j = 1 by omega) with rfl | rfl <;> rfl) (Nat.le_of_ble_eq_true rfl) (Nat.le_of_ble_eq_true rfl) dX5_init_61 (fun q10 _ hP hD hS => ?_)
  refine W.widen (k := 8) (n := 2596) (Nat.le_of_ble_eq_true rfl) (Nat.le_of_ble_eq_true rfl) ?_
  refine lv_dup hx hb dX5_init_64 rfl ?_
  refine kw_v (va_runIN (As := []) (rest := [.ref q10, .ref a]) hcf (cz_X3_init l D k (w0 ++ ((a, .inr (5, [.ref q1, .ref q2, .ref q3, .ref q4, .ref q5, .ref q6, .null])) :: ((q1, .inl (k.1, 512, .inl (fun _ => 0))) :: ((q2, .inl (k.1, 512, .inl (fun _ => 0))) :: ((q3, .inl (k.1, 512, .inl (fun _ => 0))) :: ((q4, .inl (k.1, 512, .inl (fun _ => 0))) :: ((q5, .inl (k.1, 512, .inl (fun _ => 0))) :: (xl_X3 k q6 b9 ++ [])))))))) q10 _) ⟨va_cnB 0 hts gX5_init_X3_init_n29 rfl rfl rfl (hK.2 (RX5, 29, yX3_init, RX6) (List.mem_of_getElem? (i := 4) rfl)) w_11 (by decide +kernel) ⟨Nat.le_of_ble_eq_true rfl, Nat.le_of_ble_eq_true rfl⟩, rfl, w_12⟩ (px_S hP hK hD) rfl rfl hl.1 rfl (lv_room (Nat.le_of_ble_eq_true rfl)) dX5_init_65 ⟨Nat.le_of_ble_eq_true rfl, Nat.le_of_ble_eq_true rfl⟩) hD hS hA (fun u11 _ _ h12 hP hD hS => ?_)
  obtain ⟨b13, rfl⟩ := h12
  refine W.widen (k := 9) (n := 2628) (Nat.le_of_ble_eq_true rfl) (Nat.le_of_ble_eq_true rfl) ?_
  simp only [List.append_assoc, List.cons_append, List.nil_append, List.append_nil] at hP hD
  have hP : va_P D vwCl (w0 ++ ((a, .inr (5, [.ref q1, .ref q2, .ref q3, .ref q4, .ref q5, .ref q6, .null])) :: ((q1, .inl (k.1, 512, .inl (fun _ => 0))) :: ((q2, .inl (k.1, 512, .inl (fun _ => 0))) :: ((q3, .inl (k.1, 512, .inl (fun _ => 0))) :: ((q4, .inl (k.1, 512, .inl (fun _ => 0))) :: ((q5, .inl (k.1, 512, .inl (fun _ => 0))) :: (xl_X3 k q6 b9 ++ (xl_X3 k q10 b13 ++ []))))))))) _ := hP
  have hD : va_D _ (w0 ++ ((a, .inr (5, [.ref q1, .ref q2, .ref q3, .ref q4, .ref q5, .ref q6, .null])) :: ((q1, .inl (k.1, 512, .inl (fun _ => 0))) :: ((q2, .inl (k.1, 512, .inl (fun _ => 0))) :: ((q3, .inl (k.1, 512, .inl (fun _ => 0))) :: ((q4, .inl (k.1, 512, .inl (fun _ => 0))) :: ((q5, .inl (k.1, 512, .inl (fun _ => 0))) :: (xl_X3 k q6 b9 ++ (xl_X3 k q10 b13 ++ []))))))))) := hD
  refine va_putF (D := D) (ci := 5) (v := .ref q10) (ty := .object "LeastRoutes$Table") (C := RX5) (T := TX5) (N := 7) hx hb hts in_X5_init_X5 tyX5 tyX5_ok nmX5 hown hK.1 hP hD hS (w0.length + 0) (gt_app 0 rfl) rfl 6 (by decide) w_14 (fun _ h9 => h9) rfl hin rfl (by decide +kernel) rfl rfl (Nat.le_of_ble_eq_true rfl) dX5_init_68 (fun _ _ hP hD hS => ?_)
  rw [st_app] at hP hD
  have hP : va_P D vwCl (w0 ++ ((a, .inr (5, [.ref q1, .ref q2, .ref q3, .ref q4, .ref q5, .ref q6, .ref q10])) :: ((q1, .inl (k.1, 512, .inl (fun _ => 0))) :: ((q2, .inl (k.1, 512, .inl (fun _ => 0))) :: ((q3, .inl (k.1, 512, .inl (fun _ => 0))) :: ((q4, .inl (k.1, 512, .inl (fun _ => 0))) :: ((q5, .inl (k.1, 512, .inl (fun _ => 0))) :: (xl_X3 k q6 b9 ++ (xl_X3 k q10 b13 ++ []))))))))) _ := hP
  have hD : va_D _ (w0 ++ ((a, .inr (5, [.ref q1, .ref q2, .ref q3, .ref q4, .ref q5, .ref q6, .ref q10])) :: ((q1, .inl (k.1, 512, .inl (fun _ => 0))) :: ((q2, .inl (k.1, 512, .inl (fun _ => 0))) :: ((q3, .inl (k.1, 512, .inl (fun _ => 0))) :: ((q4, .inl (k.1, 512, .inl (fun _ => 0))) :: ((q5, .inl (k.1, 512, .inl (fun _ => 0))) :: (xl_X3 k q6 b9 ++ (xl_X3 k q10 b13 ++ []))))))))) := hD
  exact W.vret hx hb hr (qw_end hS hP hD ⟨(fun i => [q1, q2, q3, q4, q5, q6, b9 0, q10, b13 0].getD i 0), rfl⟩) hS.2.2 dX5_init_71

theorem in_X4_init_X3 : ∀ w ∈ u_ws RX3 TX3 2, w ∈ wsX4_init := fun w h => List.mem_cons_of_mem _ (List.mem_append_right _ h)
theorem in_X4_init_X4 : ∀ w ∈ u_ws RX4 TX4 5, w ∈ wsX4_init := fun w h => List.mem_cons_of_mem _ (List.mem_append_left _ (List.mem_append_right _ h))
def xl_X4 (k : kt_T) (a : Nat) (b : Nat → Nat) : va_W := [(a, .inr (4, [.ref (b 0), .ref (b 1), .int 0, .int 0, .int 1]))] ++ ([((b 0), .inl (k.1, 100, .inl (fun _ => 0)))] ++ (xl_X3 k (b 1) (fun i => b (i + 2))))
set_option maxHeartbeats 4000000 in
set_option maxRecDepth 100000 in
theorem cz_X4_init (l : Launch) (D : va_G) (k : kt_T) (w0 : va_W) (a sz0 : Nat) : Met l yX4_init wsX4_init { frames := 2, cells := 3, slots := 134, locals := 32 } (va_Pc [.ref a] (px_P D k (w0 ++ [(a, .inr (4, [.null, .null, .int 0, .int 0, .int 0]))]) sz0)) (qw_Q D (w0 ++ [(a, .inr (4, [.null, .null, .int 0, .int 0, .int 0]))]) sz0 none (fun u => ∃ b : Nat → Nat, u = w0 ++ xl_X4 k a b)) 3 134 (va_A (w0 ++ [(a, .inr (4, [.null, .null, .int 0, .int 0, .int 0]))]) sz0) := by
  refine Met.ofW (cc := cX4_init) (maxL := 1) (ret := none) (by decide) rfl ?_
  intro p e s m args below meth c s₁ B hml hv
  obtain ⟨rfl, hsz, hP, hK, hD0⟩ := hv
  subst hsz
  have hD := hD0.self (sz := s.heap.size)
  have C0 : cx_P p s m meth c [.ref a].toArray cX4_init 1 wsX4_init RX4 none := ⟨B.exec, B.bytes, hml, findClass_of_methodNamed B.named, atoms_spec (ws := wsX4_init) B.pre, B.returns, B.notSynchronized⟩
  obtain ⟨hx, hb, hml, hown, hts, hr, hlocks⟩ := id C0
  have hin : meth.name = "<init>" := (name_of_methodNamed B.named B.method).1
  have hcf : CallFix p m c cX4_init 1 s [.ref a].toArray wsX4_init RX4 := ⟨hx, hb, hml, hown, hts⟩
  have hA : ∀ q, s.heap.size ≤ q → va_A (w0 ++ [(a, .inr (4, [.null, .null, .int 0, .int 0, .int 0]))]) s.heap.size q := fun q h => Or.inr h
  have hS : va_S (va_A (w0 ++ [(a, .inr (4, [.null, .null, .int 0, .int 0, .int 0]))]) s.heap.size) s.heap s.heap [] := va_S.rf
  have w_0 := hts (.methodLink RX4 3 objectInit) (List.mem_of_getElem? (i := 1) rfl)
  have w_1 := hts (.instanceMethod objectInit) (List.mem_of_getElem? (i := 2) rfl)
  have w_2 := hts (.code objectInit ⟨#[0xb1]⟩ 1 none) (List.mem_of_getElem? (i := 3) rfl)
  have w_3 := hts (.arrayClass .int) (List.mem_of_getElem? (i := 4) rfl)
  have w_4 := hts (.fieldLink RX4 9 "LeastRoutes$Tape" "letters" "[I") (List.mem_of_getElem? (i := 5) rfl)
  have w_5 := hts (.classLink RX4 15 RX3) (List.mem_of_getElem? (i := 6) rfl)
  have w_6 := hts (.instantiable RX3 2) (List.mem_of_getElem? (i := 7) rfl)
  have w_7 := hts (.initialized RX3) (List.mem_of_getElem? (i := 8) rfl)
  have w_8 := hts (.instanceMethod yX3_init) (List.mem_of_getElem? (i := 13) rfl)
  have w_9 := hts (.fieldLink RX4 18 "LeastRoutes$Tape" "told" "LLeastRoutes$Table;") (List.mem_of_getElem? (i := 9) rfl)
  have w_10 := hts (.fieldLink RX4 22 "LeastRoutes$Tape" "size" "I") (List.mem_of_getElem? (i := 10) rfl)
  have w_11 := hts (.fieldLink RX4 26 "LeastRoutes$Tape" "place" "I") (List.mem_of_getElem? (i := 11) rfl)
  have w_12 := hts (.fieldLink RX4 29 "LeastRoutes$Tape" "number" "I") (List.mem_of_getElem? (i := 12) rfl)
  have hl := lv_entry ([.ref a]) (n := 1) (Nat.le_of_ble_eq_true rfl)
  rw [lg_entry_eq]
  generalize (lg_sl ([.ref a]) ++ List.replicate (1 - (lg_sl ([.ref a])).length) Slot.unset).toArray = ls at hl ⊢
  have hl : lv_has ls 1 [(0, .ref a)] := hl
  refine lv_aload_n hx hb dX4_init_0 rfl (lv_at hl 0 rfl) ?_
  refine W.objInit hx hb hown w_0 w_1 w_2 rfl (by rw [hml]; exact hl.1) rfl dX4_init_1 (Nat.le_of_ble_eq_true rfl) (Nat.le_of_ble_eq_true rfl) ?_
  refine W.eq (g2 := F0 m 4 ls []) rfl ?_
  refine lv_aload_n hx hb dX4_init_4 rfl (lv_at hl 0 rfl) ?_
  refine lv_bipush (v := 100) hx hb dX4_init_5 (by decide) ?_
  refine va_newa (atype := .int) (a0 := (100, .inl (fun _ => 0))) hx hb w_3 rfl hK.1 hP hD hS hA (fun _ => rfl) (by decide) (by decide) (by decide) (Nat.le_of_ble_eq_true rfl) (Nat.le_of_ble_eq_true rfl) dX4_init_7 (fun q1 cA _ hK9 hP hD hS => ?_)
  obtain rfl := ar_I hK9
  refine W.widen (k := 1) (n := 100) (Nat.le_of_ble_eq_true rfl) (Nat.le_of_ble_eq_true rfl) ?_
  simp only [List.append_assoc, List.cons_append, List.nil_append, List.append_nil] at hP hD
  have hP : va_P D vwCl (w0 ++ ((a, .inr (4, [.null, .null, .int 0, .int 0, .int 0])) :: ((q1, .inl (k.1, 100, .inl (fun _ => 0))) :: []))) _ := hP
  have hD : va_D _ (w0 ++ ((a, .inr (4, [.null, .null, .int 0, .int 0, .int 0])) :: ((q1, .inl (k.1, 100, .inl (fun _ => 0))) :: []))) := hD
  refine va_putF (D := D) (ci := 4) (v := .ref q1) (ty := .array .int) (C := RX4) (T := TX4) (N := 5) hx hb hts in_X4_init_X4 tyX4 tyX4_ok nmX4 hown hK.1 hP hD hS (w0.length + 0) (gt_app 0 rfl) rfl 0 (by decide) w_4 (fun _ h9 => h9) rfl hin rfl (by decide +kernel) rfl rfl (Nat.le_of_ble_eq_true rfl) dX4_init_9 (fun _ _ hP hD hS => ?_)
  rw [st_app] at hP hD
  have hP : va_P D vwCl (w0 ++ ((a, .inr (4, [.ref q1, .null, .int 0, .int 0, .int 0])) :: ((q1, .inl (k.1, 100, .inl (fun _ => 0))) :: []))) _ := hP
  have hD : va_D _ (w0 ++ ((a, .inr (4, [.ref q1, .null, .int 0, .int 0, .int 0])) :: ((q1, .inl (k.1, 100, .inl (fun _ => 0))) :: []))) := hD
  refine lv_aload_n hx hb dX4_init_12 rfl (lv_at hl 0 rfl) ?_
  refine va_new (ci := 3) (fs := [.null, .int 0]) (C := RX3) (T := TX3) (N := 2) hx hb hts in_X4_init_X3 tyX3 tyX3_ok hown w_5 w_6 w_7 hK.1 hP hD hS hA rfl (fun j hj => by rcases (show j = 0 ∨ j = 1 by omega) with rfl | rfl <;> rfl) (Nat.le_of_ble_eq_true rfl) (Nat.le_of_ble_eq_true rfl) dX4_init_13 (fun q2 _ hP hD hS => ?_)
  refine W.widen (k := 2) (n := 102) (Nat.le_of_ble_eq_true rfl) (Nat.le_of_ble_eq_true rfl) ?_
  refine lv_dup hx hb dX4_init_16 rfl ?_
  refine kw_v (va_runIN (As := []) (rest := [.ref q2, .ref a]) hcf (cz_X3_init l D k (w0 ++ ((a, .inr (4, [.ref q1, .null, .int 0, .int 0, .int 0])) :: ((q1, .inl (k.1, 100, .inl (fun _ => 0))) :: []))) q2 _) ⟨va_cnB 0 hts gX4_init_X3_init_n17 rfl rfl rfl (hK.2 (RX4, 17, yX3_init, RX6) (List.mem_of_getElem? (i := 6) rfl)) w_7 (by decide +kernel) ⟨Nat.le_of_ble_eq_true rfl, Nat.le_of_ble_eq_true rfl⟩, rfl, w_8⟩ (px_S hP hK hD) rfl rfl hl.1 rfl (lv_room (Nat.le_of_ble_eq_true rfl)) dX4_init_17 ⟨Nat.le_of_ble_eq_true rfl, Nat.le_of_ble_eq_true rfl⟩) hD hS hA (fun u3 _ _ h4 hP hD hS => ?_)
  obtain ⟨b5, rfl⟩ := h4
  refine W.widen (k := 3) (n := 134) (Nat.le_of_ble_eq_true rfl) (Nat.le_of_ble_eq_true rfl) ?_
  simp only [List.append_assoc, List.cons_append, List.nil_append, List.append_nil] at hP hD
  have hP : va_P D vwCl (w0 ++ ((a, .inr (4, [.ref q1, .null, .int 0, .int 0, .int 0])) :: ((q1, .inl (k.1, 100, .inl (fun _ => 0))) :: (xl_X3 k q2 b5 ++ [])))) _ := hP
  have hD : va_D _ (w0 ++ ((a, .inr (4, [.ref q1, .null, .int 0, .int 0, .int 0])) :: ((q1, .inl (k.1, 100, .inl (fun _ => 0))) :: (xl_X3 k q2 b5 ++ [])))) := hD
  refine va_putF (D := D) (ci := 4) (v := .ref q2) (ty := .object "LeastRoutes$Table") (C := RX4) (T := TX4) (N := 5) hx hb hts in_X4_init_X4 tyX4 tyX4_ok nmX4 hown hK.1 hP hD hS (w0.length + 0) (gt_app 0 rfl) rfl 1 (by decide) w_9 (fun _ h9 => h9) rfl hin rfl (by decide +kernel) rfl rfl (Nat.le_of_ble_eq_true rfl) dX4_init_20 (fun _ _ hP hD hS => ?_)
  rw [st_app] at hP hD
  have hP : va_P D vwCl (w0 ++ ((a, .inr (4, [.ref q1, .ref q2, .int 0, .int 0, .int 0])) :: ((q1, .inl (k.1, 100, .inl (fun _ => 0))) :: (xl_X3 k q2 b5 ++ [])))) _ := hP
  have hD : va_D _ (w0 ++ ((a, .inr (4, [.ref q1, .ref q2, .int 0, .int 0, .int 0])) :: ((q1, .inl (k.1, 100, .inl (fun _ => 0))) :: (xl_X3 k q2 b5 ++ [])))) := hD
  refine lv_aload_n hx hb dX4_init_23 rfl (lv_at hl 0 rfl) ?_
  refine lv_iconst (v := 0) hx hb dX4_init_24 (by decide) ?_
  refine va_put (D := D) (ci := 4) (v := .int 0) (ty := .int) (C := RX4) (T := TX4) (N := 5) hx hb hts in_X4_init_X4 tyX4 tyX4_ok nmX4 hown hK.1 hP hD hS (w0.length + 0) (gt_app 0 rfl) rfl 2 (by decide) w_10 (fun _ h9 => h9) rfl (by decide +kernel) rfl rfl (Nat.le_of_ble_eq_true rfl) dX4_init_25 (fun _ _ hP hD hS => ?_)
  rw [st_app] at hP hD
  have hP : va_P D vwCl (w0 ++ ((a, .inr (4, [.ref q1, .ref q2, .int 0, .int 0, .int 0])) :: ((q1, .inl (k.1, 100, .inl (fun _ => 0))) :: (xl_X3 k q2 b5 ++ [])))) _ := hP
  have hD : va_D _ (w0 ++ ((a, .inr (4, [.ref q1, .ref q2, .int 0, .int 0, .int 0])) :: ((q1, .inl (k.1, 100, .inl (fun _ => 0))) :: (xl_X3 k q2 b5 ++ [])))) := hD
  refine lv_aload_n hx hb dX4_init_28 rfl (lv_at hl 0 rfl) ?_
  refine lv_iconst (v := 0) hx hb dX4_init_29 (by decide) ?_
  refine va_put (D := D) (ci := 4) (v := .int 0) (ty := .int) (C := RX4) (T := TX4) (N := 5) hx hb hts in_X4_init_X4 tyX4 tyX4_ok nmX4 hown hK.1 hP hD hS (w0.length + 0) (gt_app 0 rfl) rfl 3 (by decide) w_11 (fun _ h9 => h9) rfl (by decide +kernel) rfl rfl (Nat.le_of_ble_eq_true rfl) dX4_init_30 (fun _ _ hP hD hS => ?_)
  rw [st_app] at hP hD
  have hP : va_P D vwCl (w0 ++ ((a, .inr (4, [.ref q1, .ref q2, .int 0, .int 0, .int 0])) :: ((q1, .inl (k.1, 100, .inl (fun _ => 0))) :: (xl_X3 k q2 b5 ++ [])))) _ := hP
  have hD : va_D _ (w0 ++ ((a, .inr (4, [.ref q1, .ref q2, .int 0, .int 0, .int 0])) :: ((q1, .inl (k.1, 100, .inl (fun _ => 0))) :: (xl_X3 k q2 b5 ++ [])))) := hD
  refine lv_aload_n hx hb dX4_init_33 rfl (lv_at hl 0 rfl) ?_
  refine lv_iconst (v := 1) hx hb dX4_init_34 (by decide) ?_
  refine va_put (D := D) (ci := 4) (v := .int 1) (ty := .int) (C := RX4) (T := TX4) (N := 5) hx hb hts in_X4_init_X4 tyX4 tyX4_ok nmX4 hown hK.1 hP hD hS (w0.length + 0) (gt_app 0 rfl) rfl 4 (by decide) w_12 (fun _ h9 => h9) rfl (by decide +kernel) rfl rfl (Nat.le_of_ble_eq_true rfl) dX4_init_35 (fun _ _ hP hD hS => ?_)
  rw [st_app] at hP hD
  have hP : va_P D vwCl (w0 ++ ((a, .inr (4, [.ref q1, .ref q2, .int 0, .int 0, .int 1])) :: ((q1, .inl (k.1, 100, .inl (fun _ => 0))) :: (xl_X3 k q2 b5 ++ [])))) _ := hP
  have hD : va_D _ (w0 ++ ((a, .inr (4, [.ref q1, .ref q2, .int 0, .int 0, .int 1])) :: ((q1, .inl (k.1, 100, .inl (fun _ => 0))) :: (xl_X3 k q2 b5 ++ [])))) := hD
  exact W.vret hx hb hr (qw_end hS hP hD ⟨(fun i => [q1, q2, b5 0].getD i 0), rfl⟩) hS.2.2 dX4_init_38

theorem in_X2_init_X2 : ∀ w ∈ u_ws RX2 TX2 3, w ∈ wsX2_init := fun w h => List.mem_cons_of_mem _ (List.mem_append_right _ h)
def xl_X2 (k : kt_T) (a : Nat) (b : Nat → Nat) : va_W := [(a, .inr (2, [.ref (b 0), .int (-1), .int 0]))] ++ ([((b 0), .inl (k.2.1, 30, .inr (.inl (fun _ => 0))))])
set_option maxHeartbeats 4000000 in
set_option maxRecDepth 100000 in
theorem cz_X2_init (l : Launch) (D : va_G) (k : kt_T) (w0 : va_W) (a sz0 : Nat) : Met l yX2_init wsX2_init { frames := 1, cells := 1, slots := 30, locals := 12 } (va_Pc [.ref a] (px_P D k (w0 ++ [(a, .inr (2, [.null, .int 0, .int 0]))]) sz0)) (qw_Q D (w0 ++ [(a, .inr (2, [.null, .int 0, .int 0]))]) sz0 none (fun u => ∃ b : Nat → Nat, u = w0 ++ xl_X2 k a b)) 1 30 (va_A (w0 ++ [(a, .inr (2, [.null, .int 0, .int 0]))]) sz0) := by
  refine Met.ofW (cc := cX2_init) (maxL := 1) (ret := none) (by decide) rfl ?_
  intro p e s m args below meth c s₁ B hml hv
  obtain ⟨rfl, hsz, hP, hK, hD0⟩ := hv
  subst hsz
  have hD := hD0.self (sz := s.heap.size)
  have C0 : cx_P p s m meth c [.ref a].toArray cX2_init 1 wsX2_init RX2 none := ⟨B.exec, B.bytes, hml, findClass_of_methodNamed B.named, atoms_spec (ws := wsX2_init) B.pre, B.returns, B.notSynchronized⟩
  obtain ⟨hx, hb, hml, hown, hts, hr, hlocks⟩ := id C0
  have hin : meth.name = "<init>" := (name_of_methodNamed B.named B.method).1
  have hcf : CallFix p m c cX2_init 1 s [.ref a].toArray wsX2_init RX2 := ⟨hx, hb, hml, hown, hts⟩
  have hA : ∀ q, s.heap.size ≤ q → va_A (w0 ++ [(a, .inr (2, [.null, .int 0, .int 0]))]) s.heap.size q := fun q h => Or.inr h
  have hS : va_S (va_A (w0 ++ [(a, .inr (2, [.null, .int 0, .int 0]))]) s.heap.size) s.heap s.heap [] := va_S.rf
  have w_0 := hts (.methodLink RX2 3 objectInit) (List.mem_of_getElem? (i := 1) rfl)
  have w_1 := hts (.instanceMethod objectInit) (List.mem_of_getElem? (i := 2) rfl)
  have w_2 := hts (.code objectInit ⟨#[0xb1]⟩ 1 none) (List.mem_of_getElem? (i := 3) rfl)
  have w_3 := hts (.arrayClass .long) (List.mem_of_getElem? (i := 4) rfl)
  have w_4 := hts (.fieldLink RX2 9 "LeastRoutes$Sheet" "items" "[J") (List.mem_of_getElem? (i := 5) rfl)
  have w_5 := hts (.fieldLink RX2 15 "LeastRoutes$Sheet" "ownLane" "I") (List.mem_of_getElem? (i := 6) rfl)
  have w_6 := hts (.fieldLink RX2 19 "LeastRoutes$Sheet" "size" "I") (List.mem_of_getElem? (i := 7) rfl)
  have hl := lv_entry ([.ref a]) (n := 1) (Nat.le_of_ble_eq_true rfl)
  rw [lg_entry_eq]
  generalize (lg_sl ([.ref a]) ++ List.replicate (1 - (lg_sl ([.ref a])).length) Slot.unset).toArray = ls at hl ⊢
  have hl : lv_has ls 1 [(0, .ref a)] := hl
  refine lv_aload_n hx hb dX2_init_0 rfl (lv_at hl 0 rfl) ?_
  refine W.objInit hx hb hown w_0 w_1 w_2 rfl (by rw [hml]; exact hl.1) rfl dX2_init_1 (Nat.le_of_ble_eq_true rfl) (Nat.le_of_ble_eq_true rfl) ?_
  refine W.eq (g2 := F0 m 4 ls []) rfl ?_
  refine lv_aload_n hx hb dX2_init_4 rfl (lv_at hl 0 rfl) ?_
  refine lv_bipush (v := 30) hx hb dX2_init_5 (by decide) ?_
  refine va_newa (atype := .long) (a0 := (30, .inr <| .inl (fun _ => 0))) hx hb w_3 rfl hK.1 hP hD hS hA (fun _ => rfl) (by decide) (by decide) (by decide) (Nat.le_of_ble_eq_true rfl) (Nat.le_of_ble_eq_true rfl) dX2_init_7 (fun q1 cA _ hK9 hP hD hS => ?_)
  obtain rfl := ar_J hK9
  refine W.widen (k := 1) (n := 30) (Nat.le_of_ble_eq_true rfl) (Nat.le_of_ble_eq_true rfl) ?_
  simp only [List.append_assoc, List.cons_append, List.nil_append, List.append_nil] at hP hD
  have hP : va_P D vwCl (w0 ++ ((a, .inr (2, [.null, .int 0, .int 0])) :: ((q1, .inl (k.2.1, 30, .inr (.inl (fun _ => 0)))) :: []))) _ := hP
  have hD : va_D _ (w0 ++ ((a, .inr (2, [.null, .int 0, .int 0])) :: ((q1, .inl (k.2.1, 30, .inr (.inl (fun _ => 0)))) :: []))) := hD
  refine va_putF (D := D) (ci := 2) (v := .ref q1) (ty := .array .long) (C := RX2) (T := TX2) (N := 3) hx hb hts in_X2_init_X2 tyX2 tyX2_ok nmX2 hown hK.1 hP hD hS (w0.length + 0) (gt_app 0 rfl) rfl 0 (by decide) w_4 (fun _ h9 => h9) rfl hin rfl (by decide +kernel) rfl rfl (Nat.le_of_ble_eq_true rfl) dX2_init_9 (fun _ _ hP hD hS => ?_)
  rw [st_app] at hP hD
  have hP : va_P D vwCl (w0 ++ ((a, .inr (2, [.ref q1, .int 0, .int 0])) :: ((q1, .inl (k.2.1, 30, .inr (.inl (fun _ => 0)))) :: []))) _ := hP
  have hD : va_D _ (w0 ++ ((a, .inr (2, [.ref q1, .int 0, .int 0])) :: ((q1, .inl (k.2.1, 30, .inr (.inl (fun _ => 0)))) :: []))) := hD
  refine lv_aload_n hx hb dX2_init_12 rfl (lv_at hl 0 rfl) ?_
  refine lv_iconst (v := (-1)) hx hb dX2_init_13 (by decide) ?_
  refine va_put (D := D) (ci := 2) (v := .int (-1)) (ty := .int) (C := RX2) (T := TX2) (N := 3) hx hb hts in_X2_init_X2 tyX2 tyX2_ok nmX2 hown hK.1 hP hD hS (w0.length + 0) (gt_app 0 rfl) rfl 1 (by decide) w_5 (fun _ h9 => h9) rfl (by decide +kernel) rfl rfl (Nat.le_of_ble_eq_true rfl) dX2_init_14 (fun _ _ hP hD hS => ?_)
  rw [st_app] at hP hD
  have hP : va_P D vwCl (w0 ++ ((a, .inr (2, [.ref q1, .int (-1), .int 0])) :: ((q1, .inl (k.2.1, 30, .inr (.inl (fun _ => 0)))) :: []))) _ := hP
  have hD : va_D _ (w0 ++ ((a, .inr (2, [.ref q1, .int (-1), .int 0])) :: ((q1, .inl (k.2.1, 30, .inr (.inl (fun _ => 0)))) :: []))) := hD
  refine lv_aload_n hx hb dX2_init_17 rfl (lv_at hl 0 rfl) ?_
  refine lv_iconst (v := 0) hx hb dX2_init_18 (by decide) ?_
  refine va_put (D := D) (ci := 2) (v := .int 0) (ty := .int) (C := RX2) (T := TX2) (N := 3) hx hb hts in_X2_init_X2 tyX2 tyX2_ok nmX2 hown hK.1 hP hD hS (w0.length + 0) (gt_app 0 rfl) rfl 2 (by decide) w_6 (fun _ h9 => h9) rfl (by decide +kernel) rfl rfl (Nat.le_of_ble_eq_true rfl) dX2_init_19 (fun _ _ hP hD hS => ?_)
  rw [st_app] at hP hD
  have hP : va_P D vwCl (w0 ++ ((a, .inr (2, [.ref q1, .int (-1), .int 0])) :: ((q1, .inl (k.2.1, 30, .inr (.inl (fun _ => 0)))) :: []))) _ := hP
  have hD : va_D _ (w0 ++ ((a, .inr (2, [.ref q1, .int (-1), .int 0])) :: ((q1, .inl (k.2.1, 30, .inr (.inl (fun _ => 0)))) :: []))) := hD
  exact W.vret hx hb hr (qw_end hS hP hD ⟨(fun i => [q1].getD i 0), rfl⟩) hS.2.2 dX2_init_22

