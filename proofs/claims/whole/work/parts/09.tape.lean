theorem in_X4_addLetter_X4 : ∀ w ∈ u_ws RX4 TX4 5, w ∈ wsX4_addLetter := fun w h => List.mem_cons_of_mem _ (List.mem_append_right _ h)
def pf_X4_addLetter (letters : Nat → Int32) (size : Int32)  (p1 : Int32) : Option (Int32 × (Nat → Int32) × Int32) :=
  if size < 100 then
    ck_O (in_b size 100) (
      some ((size + 1), (upd letters (Int32.toNatClampNeg size) p1), (size + 1)))
  else
    some ((-3), letters, size)

set_option maxHeartbeats 4000000 in
set_option maxRecDepth 100000 in
theorem cz_X4_addLetter (l : Launch) (D : va_G) (k : kt_T) (A : Nat → Nat) (ws : va_W) (q : Nat)  (letters : Nat → Int32) (tt_pl : Nat → Int64) (tt_sz : Int32) (size : Int32) (place : Int32) (number : Int32) (p1 : Int32) (out : Int32 × (Nat → Int32) × Int32) (hf : pf_X4_addLetter letters size p1 = some out) (h_this : is_P k A ws q letters tt_pl tt_sz size place number)  (sz0 : Nat) : Met l yX4_addLetter wsX4_addLetter { frames := 0, cells := 0, slots := 0, locals := 0 } (va_Pc [.ref (A q), .int p1] (px_P D k ws sz0)) (qw_Q D ws sz0 (some (.int out.1)) (fun u => is_P k A u q out.2.1 tt_pl tt_sz out.2.2 place number ∧ sm_W ws u q (q + 4))) 0 0 (va_A ws sz0) := by
  refine Met.ofW (cc := cX4_addLetter) (maxL := 2) (ret := (some .int)) (by decide) rfl ?_
  intro p e s m args below meth c s₁ B hml hv
  obtain ⟨rfl, hsz, hP, hK, hD0⟩ := hv
  subst hsz
  have hD := hD0.self (sz := s.heap.size)
  have C0 : cx_P p s m meth c [.ref (A q), .int p1].toArray cX4_addLetter 2 wsX4_addLetter RX4 (some .int) := ⟨B.exec, B.bytes, hml, findClass_of_methodNamed B.named, atoms_spec (ws := wsX4_addLetter) B.pre, B.returns, B.notSynchronized⟩
  obtain ⟨hx, hb, hml, hown, hts, hr, hlocks⟩ := id C0
  have hcf : CallFix p m c cX4_addLetter 2 s [.ref (A q), .int p1].toArray wsX4_addLetter RX4 := ⟨hx, hb, hml, hown, hts⟩
  have hA : ∀ q, s.heap.size ≤ q → va_A ws s.heap.size q := fun q h => Or.inr h
  have hS : va_S (va_A ws s.heap.size) s.heap s.heap [] := va_S.rf
  have hsm : sm_W ws ws q (q + 4) := sm_rf
  have w_0 := hts (.fieldLink RX4 22 "LeastRoutes$Tape" "size" "I") (List.mem_of_getElem? (i := 1) rfl)
  have w_1 := hts (.fieldLink RX4 9 "LeastRoutes$Tape" "letters" "[I") (List.mem_of_getElem? (i := 2) rfl)
  have hl := lv_entry ([.ref (A q), .int p1]) (n := 2) (Nat.le_of_ble_eq_true rfl)
  rw [lg_entry_eq]
  generalize (lg_sl ([.ref (A q), .int p1]) ++ List.replicate (2 - (lg_sl ([.ref (A q), .int p1])).length) Slot.unset).toArray = ls at hl ⊢
  have hl : lv_has ls 2 [(0, .ref (A q)), (1, .int p1)] := hl
  unfold pf_X4_addLetter at hf
  refine lv_aload_n hx hb dX4_addLetter_0 rfl (lv_at hl 0 rfl) ?_
  obtain ⟨h1, h2, h3⟩ := h_this
  refine va_get (D := D) (ci := 4) (v := .int size) (C := RX4) (T := TX4) (N := 5) hx hb hts in_X4_addLetter_X4 hown hK.1 hP (q) h1 rfl 2 (by decide) w_0 (fun _ h9 => h9) rfl dX4_addLetter_1 ?_
  refine lv_bipush (v := 100) hx hb dX4_addLetter_4 (by decide) ?_
  refine lv_icmp_lt (tgt := 12) hx hb dX4_addLetter_6 (by decide) (fun c4 => ?_) (fun c4 => ?_)
  · have hf := it_p c4 hf
    refine lv_aload_n hx hb dX4_addLetter_12 rfl (lv_at hl 0 rfl) ?_
    refine va_get (D := D) (ci := 4) (v := .ref (A (q + 1))) (C := RX4) (T := TX4) (N := 5) hx hb hts in_X4_addLetter_X4 hown hK.1 hP (q) h1 rfl 0 (by decide) w_1 (fun _ h9 => h9) rfl dX4_addLetter_13 ?_
    refine lv_aload_n hx hb dX4_addLetter_16 rfl (lv_at hl 0 rfl) ?_
    refine va_get (D := D) (ci := 4) (v := .int size) (C := RX4) (T := TX4) (N := 5) hx hb hts in_X4_addLetter_X4 hown hK.1 hP (q) h1 rfl 2 (by decide) w_0 (fun _ h9 => h9) rfl dX4_addLetter_17 ?_
    refine lv_iload_n hx hb dX4_addLetter_20 rfl (lv_at hl 1 rfl) ?_
    obtain ⟨z5, hf⟩ := ck_s hf
    refine va_iast hx hb hK.1 hP hD hS (q + 1) 0 h2 rfl (in_s z5) dX4_addLetter_21 (fun _ _ hP hD hS => ?_)
    obtain ⟨u6, h7, m8, hP, hD⟩ := wd_put hP hD h2
    have hsm := sm_tr hsm m8 (by omega) (by omega)
    refine lv_aload_n hx hb dX4_addLetter_22 rfl (lv_at hl 0 rfl) ?_
    refine lv_dup hx hb dX4_addLetter_23 rfl ?_
    have h9 := sm_at m8 (by omega) h1
    refine va_get (D := D) (ci := 4) (v := .int size) (C := RX4) (T := TX4) (N := 5) hx hb hts in_X4_addLetter_X4 hown hK.1 hP (q) h9 rfl 2 (by decide) w_0 (fun _ h9 => h9) rfl dX4_addLetter_24 ?_
    refine lv_iconst (v := 1) hx hb dX4_addLetter_27 (by decide) ?_
    refine lv_iadd hx hb dX4_addLetter_28 ?_
    refine va_put (D := D) (ci := 4) (v := .int (size + 1)) (ty := .int) (C := RX4) (T := TX4) (N := 5) hx hb hts in_X4_addLetter_X4 tyX4 tyX4_ok nmX4 hown hK.1 hP hD hS (q) h9 rfl 2 (by decide) w_0 (fun _ h9 => h9) rfl (by decide +kernel) rfl rfl (Nat.le_of_ble_eq_true rfl) dX4_addLetter_29 (fun _ _ hP hD hS => ?_)
    obtain ⟨u10, h11, m12, hP, hD⟩ := wd_put hP hD h9
    have hsm := sm_tr hsm m12 (by omega) (by omega)
    have h13 : u10[q]? = some (A (q), .inr (4, [.ref (A (q + 1)), .ref (A (q + 2)), .int (size + 1), .int place, .int number])) := h11
    refine lv_aload_n hx hb dX4_addLetter_32 rfl (lv_at hl 0 rfl) ?_
    refine va_get (D := D) (ci := 4) (v := .int (size + 1)) (C := RX4) (T := TX4) (N := 5) hx hb hts in_X4_addLetter_X4 hown hK.1 hP (q) h13 rfl 2 (by decide) w_0 (fun _ h9 => h9) rfl dX4_addLetter_33 ?_
    obtain rfl := so_i hf
    have h14 := sm_at m12 (by omega) h7
    have h15 := is_T_tr h3 m8 (by omega)
    have h16 := is_T_tr h15 m12 (by omega)
    have h17 : is_P k A u10 (q) (upd letters (Int32.toNatClampNeg size) p1) tt_pl tt_sz (size + 1) place number := ⟨h13, h14, h16⟩
    exact W.iret (v := (size + 1)) hx hb hr (qw_end hS hP hD ⟨h17, hsm⟩) hS.2.2 dX4_addLetter_36
  · have hf := it_n c4 hf
    refine lv_bipush (v := (-3)) hx hb dX4_addLetter_9 (by decide) ?_
    obtain rfl := so_i hf
    have h18 : is_P k A ws (q) letters tt_pl tt_sz size place number := ⟨h1, h2, h3⟩
    exact W.iret (v := (-3)) hx hb hr (qw_end hS hP hD ⟨h18, hsm⟩) hS.2.2 dX4_addLetter_11

theorem in_X4_makeEmpty_X4 : ∀ w ∈ u_ws RX4 TX4 5, w ∈ wsX4_makeEmpty := fun w h => List.mem_cons_of_mem _ (List.mem_append_right _ h)
def pf_X4_makeEmpty (size : Int32)   : Option (Int32) :=
  some 0

set_option maxHeartbeats 4000000 in
set_option maxRecDepth 100000 in
theorem cz_X4_makeEmpty (l : Launch) (D : va_G) (k : kt_T) (A : Nat → Nat) (ws : va_W) (q : Nat)  (letters : Nat → Int32) (tt_pl : Nat → Int64) (tt_sz : Int32) (size : Int32) (place : Int32) (number : Int32)  (out : Int32) (hf : pf_X4_makeEmpty size = some out) (h_this : is_P k A ws q letters tt_pl tt_sz size place number)  (sz0 : Nat) : Met l yX4_makeEmpty wsX4_makeEmpty { frames := 0, cells := 0, slots := 0, locals := 0 } (va_Pc [.ref (A q)] (px_P D k ws sz0)) (qw_Q D ws sz0 none (fun u => is_P k A u q letters tt_pl tt_sz out place number ∧ sm_W ws u q (q + 4))) 0 0 (va_A ws sz0) := by
  refine Met.ofW (cc := cX4_makeEmpty) (maxL := 1) (ret := none) (by decide) rfl ?_
  intro p e s m args below meth c s₁ B hml hv
  obtain ⟨rfl, hsz, hP, hK, hD0⟩ := hv
  subst hsz
  have hD := hD0.self (sz := s.heap.size)
  have C0 : cx_P p s m meth c [.ref (A q)].toArray cX4_makeEmpty 1 wsX4_makeEmpty RX4 none := ⟨B.exec, B.bytes, hml, findClass_of_methodNamed B.named, atoms_spec (ws := wsX4_makeEmpty) B.pre, B.returns, B.notSynchronized⟩
  obtain ⟨hx, hb, hml, hown, hts, hr, hlocks⟩ := id C0
  have hcf : CallFix p m c cX4_makeEmpty 1 s [.ref (A q)].toArray wsX4_makeEmpty RX4 := ⟨hx, hb, hml, hown, hts⟩
  have hA : ∀ q, s.heap.size ≤ q → va_A ws s.heap.size q := fun q h => Or.inr h
  have hS : va_S (va_A ws s.heap.size) s.heap s.heap [] := va_S.rf
  have hsm : sm_W ws ws q (q + 4) := sm_rf
  have w_0 := hts (.fieldLink RX4 22 "LeastRoutes$Tape" "size" "I") (List.mem_of_getElem? (i := 1) rfl)
  have hl := lv_entry ([.ref (A q)]) (n := 1) (Nat.le_of_ble_eq_true rfl)
  rw [lg_entry_eq]
  generalize (lg_sl ([.ref (A q)]) ++ List.replicate (1 - (lg_sl ([.ref (A q)])).length) Slot.unset).toArray = ls at hl ⊢
  have hl : lv_has ls 1 [(0, .ref (A q))] := hl
  unfold pf_X4_makeEmpty at hf
  refine lv_aload_n hx hb dX4_makeEmpty_0 rfl (lv_at hl 0 rfl) ?_
  refine lv_iconst (v := 0) hx hb dX4_makeEmpty_1 (by decide) ?_
  obtain ⟨h1, h2, h3⟩ := h_this
  refine va_put (D := D) (ci := 4) (v := .int 0) (ty := .int) (C := RX4) (T := TX4) (N := 5) hx hb hts in_X4_makeEmpty_X4 tyX4 tyX4_ok nmX4 hown hK.1 hP hD hS (q) h1 rfl 2 (by decide) w_0 (fun _ h9 => h9) rfl (by decide +kernel) rfl rfl (Nat.le_of_ble_eq_true rfl) dX4_makeEmpty_2 (fun _ _ hP hD hS => ?_)
  obtain ⟨u4, h5, m6, hP, hD⟩ := wd_put hP hD h1
  have hsm := sm_tr hsm m6 (by omega) (by omega)
  have h7 : u4[q]? = some (A (q), .inr (4, [.ref (A (q + 1)), .ref (A (q + 2)), .int 0, .int place, .int number])) := h5
  obtain rfl := so_i hf
  have h8 := sm_at m6 (by omega) h2
  have h9 := is_T_tr h3 m6 (by omega)
  have h10 : is_P k A u4 (q) letters tt_pl tt_sz 0 place number := ⟨h7, h8, h9⟩
  exact W.vret hx hb hr (qw_end hS hP hD ⟨h10, hsm⟩) hS.2.2 dX4_makeEmpty_5

theorem in_X4_toldTable_X4 : ∀ w ∈ u_ws RX4 TX4 5, w ∈ wsX4_toldTable := fun w h => List.mem_cons_of_mem _ (List.mem_append_right _ h)
set_option maxHeartbeats 4000000 in
set_option maxRecDepth 100000 in
theorem cz_X4_toldTable (l : Launch) (D : va_G) (k : kt_T) (A : Nat → Nat) (ws : va_W) (q : Nat)  (size : Int32) (place : Int32) (number : Int32)   (hc0 : ws[q]? = some (A (q), .inr (4, [.ref (A (q + 1)), .ref (A (q + 2)), .int size, .int place, .int number])))  : Met l yX4_toldTable wsX4_toldTable { frames := 0, cells := 0, slots := 0, locals := 0 } (va_Pc [.ref (A q)] (pw_P D k ws)) (qs_Q (some (.ref (A (q + 2))))) 0 0 (fun _ => False) := by
  refine Met.ofW (cc := cX4_toldTable) (maxL := 1) (ret := (some (.object "LeastRoutes$Table"))) (by decide) rfl ?_
  intro p e s m args below meth c s₁ B hml hv
  obtain ⟨rfl, hP, hK, hD⟩ := hv
  have C0 : cx_P p s m meth c [.ref (A q)].toArray cX4_toldTable 1 wsX4_toldTable RX4 (some (.object "LeastRoutes$Table")) := ⟨B.exec, B.bytes, hml, findClass_of_methodNamed B.named, atoms_spec (ws := wsX4_toldTable) B.pre, B.returns, B.notSynchronized⟩
  obtain ⟨hx, hb, hml, hown, hts, hr, hlocks⟩ := id C0
  have hcf : CallFix p m c cX4_toldTable 1 s [.ref (A q)].toArray wsX4_toldTable RX4 := ⟨hx, hb, hml, hown, hts⟩
  have w_0 := hts (.fieldLink RX4 18 "LeastRoutes$Tape" "told" "LLeastRoutes$Table;") (List.mem_of_getElem? (i := 1) rfl)
  have hl := lv_entry ([.ref (A q)]) (n := 1) (Nat.le_of_ble_eq_true rfl)
  rw [lg_entry_eq]
  generalize (lg_sl ([.ref (A q)]) ++ List.replicate (1 - (lg_sl ([.ref (A q)])).length) Slot.unset).toArray = ls at hl ⊢
  have hl : lv_has ls 1 [(0, .ref (A q))] := hl
  refine lv_aload_n hx hb dX4_toldTable_0 rfl (lv_at hl 0 rfl) ?_
  refine va_get (D := D) (ci := 4) (v := .ref (A (q + 2))) (C := RX4) (T := TX4) (N := 5) hx hb hts in_X4_toldTable_X4 hown hK.1 hP (q) hc0 rfl 1 (by decide) w_0 (fun _ h9 => h9) rfl dX4_toldTable_1 ?_
  exact W.aret (v := .ref (A (q + 2))) hx hb hr (Or.inl ⟨_, rfl⟩) (Or.inr ⟨_, rfl⟩) (fun t ht _ => ⟨rfl, ht⟩) (fun _ h => absurd h List.not_mem_nil) dX4_toldTable_4

theorem in_X4_letterHere_X4 : ∀ w ∈ u_ws RX4 TX4 5, w ∈ wsX4_letterHere := fun w h => List.mem_cons_of_mem _ (List.mem_append_right _ h)
def lp_X4_letterHere_0  (letters : Nat → Int32) (size : Int32) : Nat → Int32 → Option (Int32 × Int32)
  | 0, _ => none
  | n + 1, place =>
    if size ≤ place then
      if size ≤ place then
        some ((-1), place)
      else
        ck_O (in_b place 100) (
          some ((letters (Int32.toNatClampNeg place)), place))
    else
      ck_O (in_b place 100) (
        if (letters (Int32.toNatClampNeg place)) = 32 then
          lp_X4_letterHere_0 letters size n (place + 1)
        else
          if size ≤ place then
            some ((-1), place)
          else
            ck_O (in_b place 100) (
              some ((letters (Int32.toNatClampNeg place)), place)))

def pf_X4_letterHere (letters : Nat → Int32) (size : Int32) (place : Int32)   : Option (Int32 × Int32) :=
  lp_X4_letterHere_0 letters size fu_N place

set_option maxHeartbeats 4000000 in
set_option maxRecDepth 100000 in
theorem wl_X4_letterHere_0 {p : Program} {e : Env} {s : State} {m : MethodId} {args : Array Value} {below : List Frame} {meth : Method} {c : Code} (l : Launch) (D : va_G) (k : kt_T) (A : Nat → Nat) (ws : va_W) (q : Nat)  (out : Int32 × Int32) (hK : kk_P D k s) (C0 : cx_P p s m meth c args cX4_letterHere 1 wsX4_letterHere RX4 (some .int))  (letters : Nat → Int32) (tt_pl : Nat → Int64) (tt_sz : Int32) (size : Int32) (number : Int32)     : ∀ (n : Nat) (place : Int32) (w : va_W) (H : Heap) (locs : List Loc) (ls : Array Slot), lp_X4_letterHere_0 letters size n place = some out → is_P k A w q letters tt_pl tt_sz size place number → sm_W ws w q (q + 4) → va_P D vwCl w H → va_D (va_A ws s.heap.size) w → va_S (va_A ws s.heap.size) s.heap H locs → lv_has ls 1 [(0, .ref (A q))] → W p l e (headSpec wsX4_letterHere { frames := 0, cells := 0, slots := 0, locals := 0 }).room s m args below meth c H locs 0 0 (MQ below (qw_Q D ws s.heap.size (some (.int out.1)) (fun u => is_P k A u q letters tt_pl tt_sz size out.2 number ∧ sm_W ws u q (q + 4))) args s 0 0 (va_A ws s.heap.size)) (F0 m 0 ls []) := by
  obtain ⟨hx, hb, hml, hown, hts, hr, hlocks⟩ := id C0
  have hcf : CallFix p m c cX4_letterHere 1 s args wsX4_letterHere RX4 := ⟨hx, hb, hml, hown, hts⟩
  have hA : ∀ q, s.heap.size ≤ q → va_A ws s.heap.size q := fun q h => Or.inr h
  have w_0 := hts (.fieldLink RX4 26 "LeastRoutes$Tape" "place" "I") (List.mem_of_getElem? (i := 1) rfl)
  have w_1 := hts (.fieldLink RX4 22 "LeastRoutes$Tape" "size" "I") (List.mem_of_getElem? (i := 2) rfl)
  have w_2 := hts (.fieldLink RX4 9 "LeastRoutes$Tape" "letters" "[I") (List.mem_of_getElem? (i := 3) rfl)
  intro n
  induction n with
  | zero =>
    intro place w H locs ls hf h_this hsm hP hD hS hl
    exact (no_s hf).elim
  | succ n ih =>
    intro place w H locs ls hf h_this hsm hP hD hS hl
    rw [lp_X4_letterHere_0] at hf
    refine lv_aload_n hx hb dX4_letterHere_0 rfl (lv_at hl 0 rfl) ?_
    obtain ⟨h1, h2, h3⟩ := h_this
    refine va_get (D := D) (ci := 4) (v := .int place) (C := RX4) (T := TX4) (N := 5) hx hb hts in_X4_letterHere_X4 hown hK.1 hP (q) h1 rfl 3 (by decide) w_0 (fun _ h9 => h9) rfl dX4_letterHere_1 ?_
    refine lv_aload_n hx hb dX4_letterHere_4 rfl (lv_at hl 0 rfl) ?_
    refine va_get (D := D) (ci := 4) (v := .int size) (C := RX4) (T := TX4) (N := 5) hx hb hts in_X4_letterHere_X4 hown hK.1 hP (q) h1 rfl 2 (by decide) w_1 (fun _ h9 => h9) rfl dX4_letterHere_5 ?_
    refine lv_icmp_ge (tgt := 38) hx hb dX4_letterHere_8 (by decide) (fun c4 => ?_) (fun c4 => ?_)
    · have hf := it_p c4 hf
      refine lv_aload_n hx hb dX4_letterHere_38 rfl (lv_at hl 0 rfl) ?_
      refine va_get (D := D) (ci := 4) (v := .int place) (C := RX4) (T := TX4) (N := 5) hx hb hts in_X4_letterHere_X4 hown hK.1 hP (q) h1 rfl 3 (by decide) w_0 (fun _ h9 => h9) rfl dX4_letterHere_39 ?_
      refine lv_aload_n hx hb dX4_letterHere_42 rfl (lv_at hl 0 rfl) ?_
      refine va_get (D := D) (ci := 4) (v := .int size) (C := RX4) (T := TX4) (N := 5) hx hb hts in_X4_letterHere_X4 hown hK.1 hP (q) h1 rfl 2 (by decide) w_1 (fun _ h9 => h9) rfl dX4_letterHere_43 ?_
      refine lv_icmp_ge (tgt := 61) hx hb dX4_letterHere_46 (by decide) (fun c5 => ?_) (fun c5 => ?_)
      · have hf := it_p c5 hf
        refine lv_iconst (v := (-1)) hx hb dX4_letterHere_61 (by decide) ?_
        obtain rfl := so_i hf
        have h6 : is_P k A w (q) letters tt_pl tt_sz size place number := ⟨h1, h2, h3⟩
        exact W.iret (v := (-1)) hx hb hr (qw_end hS hP hD ⟨h6, hsm⟩) hS.2.2 dX4_letterHere_62
      · have hf := it_n c5 hf
        refine lv_aload_n hx hb dX4_letterHere_49 rfl (lv_at hl 0 rfl) ?_
        refine va_get (D := D) (ci := 4) (v := .ref (A (q + 1))) (C := RX4) (T := TX4) (N := 5) hx hb hts in_X4_letterHere_X4 hown hK.1 hP (q) h1 rfl 0 (by decide) w_2 (fun _ h9 => h9) rfl dX4_letterHere_50 ?_
        refine lv_aload_n hx hb dX4_letterHere_53 rfl (lv_at hl 0 rfl) ?_
        refine va_get (D := D) (ci := 4) (v := .int place) (C := RX4) (T := TX4) (N := 5) hx hb hts in_X4_letterHere_X4 hown hK.1 hP (q) h1 rfl 3 (by decide) w_0 (fun _ h9 => h9) rfl dX4_letterHere_54 ?_
        obtain ⟨z7, hf⟩ := ck_s hf
        refine va_iald hx hb hK.1 hP (q + 1) 0 h2 rfl (in_s z7) dX4_letterHere_57 ?_
        refine lv_goto (tgt := 62) hx hb dX4_letterHere_58 (by decide) ?_
        obtain rfl := so_i hf
        have h8 : is_P k A w (q) letters tt_pl tt_sz size place number := ⟨h1, h2, h3⟩
        exact W.iret (v := (letters (Int32.toNatClampNeg place))) hx hb hr (qw_end hS hP hD ⟨h8, hsm⟩) hS.2.2 dX4_letterHere_62
    · have hf := it_n c4 hf
      refine lv_aload_n hx hb dX4_letterHere_11 rfl (lv_at hl 0 rfl) ?_
      refine va_get (D := D) (ci := 4) (v := .ref (A (q + 1))) (C := RX4) (T := TX4) (N := 5) hx hb hts in_X4_letterHere_X4 hown hK.1 hP (q) h1 rfl 0 (by decide) w_2 (fun _ h9 => h9) rfl dX4_letterHere_12 ?_
      refine lv_aload_n hx hb dX4_letterHere_15 rfl (lv_at hl 0 rfl) ?_
      refine va_get (D := D) (ci := 4) (v := .int place) (C := RX4) (T := TX4) (N := 5) hx hb hts in_X4_letterHere_X4 hown hK.1 hP (q) h1 rfl 3 (by decide) w_0 (fun _ h9 => h9) rfl dX4_letterHere_16 ?_
      obtain ⟨z9, hf⟩ := ck_s hf
      refine va_iald hx hb hK.1 hP (q + 1) 0 h2 rfl (in_s z9) dX4_letterHere_19 ?_
      refine lv_bipush (v := 32) hx hb dX4_letterHere_20 (by decide) ?_
      refine lv_icmp_ne (tgt := 38) hx hb dX4_letterHere_22 (by decide) (fun c10 => ?_) (fun c10 => ?_)
      · have hf := it_n c10 hf
        refine lv_aload_n hx hb dX4_letterHere_38 rfl (lv_at hl 0 rfl) ?_
        refine va_get (D := D) (ci := 4) (v := .int place) (C := RX4) (T := TX4) (N := 5) hx hb hts in_X4_letterHere_X4 hown hK.1 hP (q) h1 rfl 3 (by decide) w_0 (fun _ h9 => h9) rfl dX4_letterHere_39 ?_
        refine lv_aload_n hx hb dX4_letterHere_42 rfl (lv_at hl 0 rfl) ?_
        refine va_get (D := D) (ci := 4) (v := .int size) (C := RX4) (T := TX4) (N := 5) hx hb hts in_X4_letterHere_X4 hown hK.1 hP (q) h1 rfl 2 (by decide) w_1 (fun _ h9 => h9) rfl dX4_letterHere_43 ?_
        refine lv_icmp_ge (tgt := 61) hx hb dX4_letterHere_46 (by decide) (fun c11 => ?_) (fun c11 => ?_)
        · have hf := it_p c11 hf
          refine lv_iconst (v := (-1)) hx hb dX4_letterHere_61 (by decide) ?_
          obtain rfl := so_i hf
          have h12 : is_P k A w (q) letters tt_pl tt_sz size place number := ⟨h1, h2, h3⟩
          exact W.iret (v := (-1)) hx hb hr (qw_end hS hP hD ⟨h12, hsm⟩) hS.2.2 dX4_letterHere_62
        · have hf := it_n c11 hf
          refine lv_aload_n hx hb dX4_letterHere_49 rfl (lv_at hl 0 rfl) ?_
          refine va_get (D := D) (ci := 4) (v := .ref (A (q + 1))) (C := RX4) (T := TX4) (N := 5) hx hb hts in_X4_letterHere_X4 hown hK.1 hP (q) h1 rfl 0 (by decide) w_2 (fun _ h9 => h9) rfl dX4_letterHere_50 ?_
          refine lv_aload_n hx hb dX4_letterHere_53 rfl (lv_at hl 0 rfl) ?_
          refine va_get (D := D) (ci := 4) (v := .int place) (C := RX4) (T := TX4) (N := 5) hx hb hts in_X4_letterHere_X4 hown hK.1 hP (q) h1 rfl 3 (by decide) w_0 (fun _ h9 => h9) rfl dX4_letterHere_54 ?_
          obtain ⟨z13, hf⟩ := ck_s hf
          refine va_iald hx hb hK.1 hP (q + 1) 0 h2 rfl (in_s z13) dX4_letterHere_57 ?_
          refine lv_goto (tgt := 62) hx hb dX4_letterHere_58 (by decide) ?_
          obtain rfl := so_i hf
          have h14 : is_P k A w (q) letters tt_pl tt_sz size place number := ⟨h1, h2, h3⟩
          exact W.iret (v := (letters (Int32.toNatClampNeg place))) hx hb hr (qw_end hS hP hD ⟨h14, hsm⟩) hS.2.2 dX4_letterHere_62
      · have hf := it_p c10 hf
        refine lv_aload_n hx hb dX4_letterHere_25 rfl (lv_at hl 0 rfl) ?_
        refine lv_dup hx hb dX4_letterHere_26 rfl ?_
        refine va_get (D := D) (ci := 4) (v := .int place) (C := RX4) (T := TX4) (N := 5) hx hb hts in_X4_letterHere_X4 hown hK.1 hP (q) h1 rfl 3 (by decide) w_0 (fun _ h9 => h9) rfl dX4_letterHere_27 ?_
        refine lv_iconst (v := 1) hx hb dX4_letterHere_30 (by decide) ?_
        refine lv_iadd hx hb dX4_letterHere_31 ?_
        refine va_put (D := D) (ci := 4) (v := .int (place + 1)) (ty := .int) (C := RX4) (T := TX4) (N := 5) hx hb hts in_X4_letterHere_X4 tyX4 tyX4_ok nmX4 hown hK.1 hP hD hS (q) h1 rfl 3 (by decide) w_0 (fun _ h9 => h9) rfl (by decide +kernel) rfl rfl (Nat.le_of_ble_eq_true rfl) dX4_letterHere_32 (fun _ _ hP hD hS => ?_)
        obtain ⟨u15, h16, m17, hP, hD⟩ := wd_put hP hD h1
        have hsm := sm_tr hsm m17 (by omega) (by omega)
        have h18 : u15[q]? = some (A (q), .inr (4, [.ref (A (q + 1)), .ref (A (q + 2)), .int size, .int (place + 1), .int number])) := h16
        refine lv_goto (tgt := 0) hx hb dX4_letterHere_35 (by decide) ?_
        have h19 := sm_at m17 (by omega) h2
        have h20 := is_T_tr h3 m17 (by omega)
        have h21 : is_P k A u15 (q) letters tt_pl tt_sz size (place + 1) number := ⟨h18, h19, h20⟩
        exact ih (place + 1) _ _ _ _ hf h21 hsm hP hD hS (lv_sub hl [0] rfl)

set_option maxHeartbeats 4000000 in
set_option maxRecDepth 100000 in
theorem cz_X4_letterHere (l : Launch) (D : va_G) (k : kt_T) (A : Nat → Nat) (ws : va_W) (q : Nat)  (letters : Nat → Int32) (tt_pl : Nat → Int64) (tt_sz : Int32) (size : Int32) (place : Int32) (number : Int32)  (out : Int32 × Int32) (hf : pf_X4_letterHere letters size place = some out) (h_this : is_P k A ws q letters tt_pl tt_sz size place number)  (sz0 : Nat) : Met l yX4_letterHere wsX4_letterHere { frames := 0, cells := 0, slots := 0, locals := 0 } (va_Pc [.ref (A q)] (px_P D k ws sz0)) (qw_Q D ws sz0 (some (.int out.1)) (fun u => is_P k A u q letters tt_pl tt_sz size out.2 number ∧ sm_W ws u q (q + 4))) 0 0 (va_A ws sz0) := by
  refine Met.ofW (cc := cX4_letterHere) (maxL := 1) (ret := (some .int)) (by decide) rfl ?_
  intro p e s m args below meth c s₁ B hml hv
  obtain ⟨rfl, hsz, hP, hK, hD0⟩ := hv
  subst hsz
  have hD := hD0.self (sz := s.heap.size)
  have C0 : cx_P p s m meth c [.ref (A q)].toArray cX4_letterHere 1 wsX4_letterHere RX4 (some .int) := ⟨B.exec, B.bytes, hml, findClass_of_methodNamed B.named, atoms_spec (ws := wsX4_letterHere) B.pre, B.returns, B.notSynchronized⟩
  obtain ⟨hx, hb, hml, hown, hts, hr, hlocks⟩ := id C0
  have hcf : CallFix p m c cX4_letterHere 1 s [.ref (A q)].toArray wsX4_letterHere RX4 := ⟨hx, hb, hml, hown, hts⟩
  have hA : ∀ q, s.heap.size ≤ q → va_A ws s.heap.size q := fun q h => Or.inr h
  have hS : va_S (va_A ws s.heap.size) s.heap s.heap [] := va_S.rf
  have hsm : sm_W ws ws q (q + 4) := sm_rf
  have hl := lv_entry ([.ref (A q)]) (n := 1) (Nat.le_of_ble_eq_true rfl)
  rw [lg_entry_eq]
  generalize (lg_sl ([.ref (A q)]) ++ List.replicate (1 - (lg_sl ([.ref (A q)])).length) Slot.unset).toArray = ls at hl ⊢
  have hl : lv_has ls 1 [(0, .ref (A q))] := hl
  unfold pf_X4_letterHere at hf
  exact wl_X4_letterHere_0 l D k A ws q _ hK C0 letters tt_pl tt_sz size number fu_N place _ _ _ _ hf h_this hsm hP hD hS (lv_sub hl [0] rfl)

theorem in_X4_parseFigures_X4 : ∀ w ∈ u_ws RX4 TX4 5, w ∈ wsX4_parseFigures := fun w h => List.mem_cons_of_mem _ (List.mem_append_right _ h)
def lp_X4_parseFigures_32  (place : Int32) (number : Int32) (x1 : Int32) (x2 : Int32) (g_7 : Int32 → Int32 → Int32 → Option (Int32 × Int32 × Int32)) : Option (Int32 × Int32 × Int32) :=
  g_7 (place + 1) ((2 * number) + (x2 - 48)) (x1 + 1)

def lp_X4_parseFigures_7  (letters : Nat → Int32) (size : Int32) : Nat → Int32 → Int32 → Int32 → Option (Int32 × Int32 × Int32)
  | 0, _, _, _ => none
  | n + 1, place, number, x1 =>
    if 8 ≤ x1 then
      some (8, place, number)
    else
      (pf_X4_letterHere letters size place).bind (fun r9 =>
        if r9.1 = 48 then
          lp_X4_parseFigures_32 r9.2 number x1 r9.1 (lp_X4_parseFigures_7 letters size n)
        else
          if r9.1 = 49 then
            lp_X4_parseFigures_32 r9.2 number x1 r9.1 (lp_X4_parseFigures_7 letters size n)
          else
            some (x1, r9.2, number))

def pf_X4_parseFigures (letters : Nat → Int32) (size : Int32) (place : Int32) (number : Int32)   : Option (Int32 × Int32 × Int32) :=
  lp_X4_parseFigures_7 letters size fu_N place 1 0

set_option maxHeartbeats 4000000 in
set_option maxRecDepth 100000 in
theorem wl_X4_parseFigures_32 {p : Program} {e : Env} {s : State} {m : MethodId} {args : Array Value} {below : List Frame} {meth : Method} {c : Code} (l : Launch) (D : va_G) (k : kt_T) (A : Nat → Nat) (ws : va_W) (q : Nat)  (out : Int32 × Int32 × Int32) (hK : kk_P D k s) (C0 : cx_P p s m meth c args cX4_parseFigures 3 wsX4_parseFigures RX4 (some .int))  (letters : Nat → Int32) (tt_pl : Nat → Int64) (tt_sz : Int32) (size : Int32) (place : Int32) (number : Int32) (x1 : Int32) (x2 : Int32)  (g_7 : Int32 → Int32 → Int32 → Option (Int32 × Int32 × Int32)) (hg_7 : ∀ (place : Int32) (number : Int32) (x1 : Int32) (w : va_W) (H : Heap) (locs : List Loc) (ls : Array Slot), g_7 place number x1 = some out → is_P k A w q letters tt_pl tt_sz size place number → sm_W ws w q (q + 4) → va_P D vwCl w H → va_D (va_A ws s.heap.size) w → va_S (va_A ws s.heap.size) s.heap H locs → lv_has ls 3 [(0, .ref (A q)), (1, .int x1)] → W p l e (headSpec wsX4_parseFigures { frames := 1, cells := 0, slots := 0, locals := 20 }).room s m args below meth c H locs 0 0 (MQ below (qw_Q D ws s.heap.size (some (.int out.1)) (fun u => is_P k A u q letters tt_pl tt_sz size out.2.1 out.2.2 ∧ sm_W ws u q (q + 4))) args s 0 0 (va_A ws s.heap.size)) (F0 m 7 ls []))  : ∀ (w : va_W) (H : Heap) (locs : List Loc) (ls : Array Slot), lp_X4_parseFigures_32 place number x1 x2 g_7 = some out → is_P k A w q letters tt_pl tt_sz size place number → sm_W ws w q (q + 4) → va_P D vwCl w H → va_D (va_A ws s.heap.size) w → va_S (va_A ws s.heap.size) s.heap H locs → lv_has ls 3 [(0, .ref (A q)), (1, .int x1), (2, .int x2)] → W p l e (headSpec wsX4_parseFigures { frames := 1, cells := 0, slots := 0, locals := 20 }).room s m args below meth c H locs 0 0 (MQ below (qw_Q D ws s.heap.size (some (.int out.1)) (fun u => is_P k A u q letters tt_pl tt_sz size out.2.1 out.2.2 ∧ sm_W ws u q (q + 4))) args s 0 0 (va_A ws s.heap.size)) (F0 m 32 ls []) := by
  obtain ⟨hx, hb, hml, hown, hts, hr, hlocks⟩ := id C0
  have hcf : CallFix p m c cX4_parseFigures 3 s args wsX4_parseFigures RX4 := ⟨hx, hb, hml, hown, hts⟩
  have hA : ∀ q, s.heap.size ≤ q → va_A ws s.heap.size q := fun q h => Or.inr h
  have w_0 := hts (.fieldLink RX4 29 "LeastRoutes$Tape" "number" "I") (List.mem_of_getElem? (i := 1) rfl)
  have w_1 := hts (.fieldLink RX4 26 "LeastRoutes$Tape" "place" "I") (List.mem_of_getElem? (i := 2) rfl)
  intro w H locs ls hf h_this hsm hP hD hS hl
  unfold lp_X4_parseFigures_32 at hf
  refine lv_aload_n hx hb dX4_parseFigures_32 rfl (lv_at hl 0 rfl) ?_
  refine lv_iconst (v := 2) hx hb dX4_parseFigures_33 (by decide) ?_
  refine lv_aload_n hx hb dX4_parseFigures_34 rfl (lv_at hl 0 rfl) ?_
  obtain ⟨h16, h17, h18⟩ := h_this
  refine va_get (D := D) (ci := 4) (v := .int number) (C := RX4) (T := TX4) (N := 5) hx hb hts in_X4_parseFigures_X4 hown hK.1 hP (q) h16 rfl 4 (by decide) w_0 (fun _ h9 => h9) rfl dX4_parseFigures_35 ?_
  refine lv_imul hx hb dX4_parseFigures_38 ?_
  refine lv_iload_n hx hb dX4_parseFigures_39 rfl (lv_at hl 2 rfl) ?_
  refine lv_bipush (v := 48) hx hb dX4_parseFigures_40 (by decide) ?_
  refine lv_isub hx hb dX4_parseFigures_42 ?_
  refine lv_iadd hx hb dX4_parseFigures_43 ?_
  refine va_put (D := D) (ci := 4) (v := .int ((2 * number) + (x2 - 48))) (ty := .int) (C := RX4) (T := TX4) (N := 5) hx hb hts in_X4_parseFigures_X4 tyX4 tyX4_ok nmX4 hown hK.1 hP hD hS (q) h16 rfl 4 (by decide) w_0 (fun _ h9 => h9) rfl (by decide +kernel) rfl rfl (Nat.le_of_ble_eq_true rfl) dX4_parseFigures_44 (fun _ _ hP hD hS => ?_)
  obtain ⟨u19, h20, m21, hP, hD⟩ := wd_put hP hD h16
  have hsm := sm_tr hsm m21 (by omega) (by omega)
  have h22 : u19[q]? = some (A (q), .inr (4, [.ref (A (q + 1)), .ref (A (q + 2)), .int size, .int place, .int ((2 * number) + (x2 - 48))])) := h20
  refine lv_aload_n hx hb dX4_parseFigures_47 rfl (lv_at hl 0 rfl) ?_
  refine lv_dup hx hb dX4_parseFigures_48 rfl ?_
  refine va_get (D := D) (ci := 4) (v := .int place) (C := RX4) (T := TX4) (N := 5) hx hb hts in_X4_parseFigures_X4 hown hK.1 hP (q) h22 rfl 3 (by decide) w_1 (fun _ h9 => h9) rfl dX4_parseFigures_49 ?_
  refine lv_iconst (v := 1) hx hb dX4_parseFigures_52 (by decide) ?_
  refine lv_iadd hx hb dX4_parseFigures_53 ?_
  refine va_put (D := D) (ci := 4) (v := .int (place + 1)) (ty := .int) (C := RX4) (T := TX4) (N := 5) hx hb hts in_X4_parseFigures_X4 tyX4 tyX4_ok nmX4 hown hK.1 hP hD hS (q) h22 rfl 3 (by decide) w_1 (fun _ h9 => h9) rfl (by decide +kernel) rfl rfl (Nat.le_of_ble_eq_true rfl) dX4_parseFigures_54 (fun _ _ hP hD hS => ?_)
  obtain ⟨u23, h24, m25, hP, hD⟩ := wd_put hP hD h22
  have hsm := sm_tr hsm m25 (by omega) (by omega)
  have h26 : u23[q]? = some (A (q), .inr (4, [.ref (A (q + 1)), .ref (A (q + 2)), .int size, .int (place + 1), .int ((2 * number) + (x2 - 48))])) := h24
  refine lv_iinc (v := (x1 + 1)) (lv' := [(1, .int (x1 + 1)), (0, .ref (A q)), (2, .int x2)]) hx hb dX4_parseFigures_57 hl (k := 1) rfl rfl (by decide) rfl (fun ls hl => ?_)
  refine lv_goto (tgt := 7) hx hb dX4_parseFigures_60 (by decide) ?_
  have h27 := sm_at m21 (by omega) h17
  have h28 := sm_at m25 (by omega) h27
  have h29 := is_T_tr h18 m21 (by omega)
  have h30 := is_T_tr h29 m25 (by omega)
  have h31 : is_P k A u23 (q) letters tt_pl tt_sz size (place + 1) ((2 * number) + (x2 - 48)) := ⟨h26, h28, h30⟩
  exact hg_7 (place + 1) ((2 * number) + (x2 - 48)) (x1 + 1) _ _ _ _ hf h31 hsm hP hD hS (lv_sub hl [1, 0] rfl)

set_option maxHeartbeats 4000000 in
set_option maxRecDepth 100000 in
theorem wl_X4_parseFigures_7 {p : Program} {e : Env} {s : State} {m : MethodId} {args : Array Value} {below : List Frame} {meth : Method} {c : Code} (l : Launch) (D : va_G) (k : kt_T) (A : Nat → Nat) (ws : va_W) (q : Nat)  (out : Int32 × Int32 × Int32) (hK : kk_P D k s) (C0 : cx_P p s m meth c args cX4_parseFigures 3 wsX4_parseFigures RX4 (some .int))  (letters : Nat → Int32) (tt_pl : Nat → Int64) (tt_sz : Int32) (size : Int32)     : ∀ (n : Nat) (place : Int32) (number : Int32) (x1 : Int32) (w : va_W) (H : Heap) (locs : List Loc) (ls : Array Slot), lp_X4_parseFigures_7 letters size n place number x1 = some out → is_P k A w q letters tt_pl tt_sz size place number → sm_W ws w q (q + 4) → va_P D vwCl w H → va_D (va_A ws s.heap.size) w → va_S (va_A ws s.heap.size) s.heap H locs → lv_has ls 3 [(0, .ref (A q)), (1, .int x1)] → W p l e (headSpec wsX4_parseFigures { frames := 1, cells := 0, slots := 0, locals := 20 }).room s m args below meth c H locs 0 0 (MQ below (qw_Q D ws s.heap.size (some (.int out.1)) (fun u => is_P k A u q letters tt_pl tt_sz size out.2.1 out.2.2 ∧ sm_W ws u q (q + 4))) args s 0 0 (va_A ws s.heap.size)) (F0 m 7 ls []) := by
  obtain ⟨hx, hb, hml, hown, hts, hr, hlocks⟩ := id C0
  have hcf : CallFix p m c cX4_parseFigures 3 s args wsX4_parseFigures RX4 := ⟨hx, hb, hml, hown, hts⟩
  have hA : ∀ q, s.heap.size ≤ q → va_A ws s.heap.size q := fun q h => Or.inr h
  intro n
  induction n with
  | zero =>
    intro place number x1 w H locs ls hf h_this hsm hP hD hS hl
    exact (no_s hf).elim
  | succ n ih =>
    intro place number x1 w H locs ls hf h_this hsm hP hD hS hl
    rw [lp_X4_parseFigures_7] at hf
    refine lv_iload_n hx hb dX4_parseFigures_7 rfl (lv_at hl 1 rfl) ?_
    refine lv_bipush (v := 8) hx hb dX4_parseFigures_8 (by decide) ?_
    refine lv_icmp_ge (tgt := 63) hx hb dX4_parseFigures_10 (by decide) (fun c8 => ?_) (fun c8 => ?_)
    · have hf := it_p c8 hf
      refine lv_bipush (v := 8) hx hb dX4_parseFigures_63 (by decide) ?_
      obtain rfl := so_i hf
      exact W.iret (v := 8) hx hb hr (qw_end hS hP hD ⟨h_this, hsm⟩) hS.2.2 dX4_parseFigures_65
    · have hf := it_n c8 hf
      refine lv_aload_n hx hb dX4_parseFigures_13 rfl (lv_at hl 0 rfl) ?_
      obtain ⟨r9, h10, hf⟩ := bd_s hf
      refine kw_i (va_runV (As := []) (rest := []) hcf (cz_X4_letterHere l D k A w (q) letters tt_pl tt_sz size place number r9 h10 h_this _) (cwV 0 hts gX4_parseFigures_X4_letterHere rfl rfl rfl (by decide +kernel) ⟨Nat.le_of_ble_eq_true rfl, Nat.le_of_ble_eq_true rfl⟩) (px_V hP hK hD (ci := 4) h_this.1 rfl) rfl rfl hl.1 rfl (lv_room (Nat.le_of_ble_eq_true rfl)) dX4_parseFigures_14 ⟨Nat.zero_le _, Nat.zero_le _⟩) hD hS hA (fun u11 _ _ h12 hP hD hS => ?_)
      obtain ⟨h14, m13⟩ := h12
      have hsm := sm_tr hsm m13 (by omega) (by omega)
      refine lv_istore_n (lv' := [(2, .int r9.1), (0, .ref (A q)), (1, .int x1)]) hx hb dX4_parseFigures_17 rfl hl (by decide) rfl (fun ls hl => ?_)
      refine lv_iload_n hx hb dX4_parseFigures_18 rfl (lv_at hl 0 rfl) ?_
      refine lv_bipush (v := 48) hx hb dX4_parseFigures_19 (by decide) ?_
      refine lv_icmp_eq (tgt := 32) hx hb dX4_parseFigures_21 (by decide) (fun c15 => ?_) (fun c15 => ?_)
      · have hf := it_p c15 hf
        exact wl_X4_parseFigures_32 l D k A ws q _ hK C0 letters tt_pl tt_sz size r9.2 number x1 r9.1 _ ih _ _ _ _ hf h14 hsm hP hD hS (lv_sub hl [1, 2, 0] rfl)
      · have hf := it_n c15 hf
        refine lv_iload_n hx hb dX4_parseFigures_24 rfl (lv_at hl 0 rfl) ?_
        refine lv_bipush (v := 49) hx hb dX4_parseFigures_25 (by decide) ?_
        refine lv_icmp_eq (tgt := 32) hx hb dX4_parseFigures_27 (by decide) (fun c32 => ?_) (fun c32 => ?_)
        · have hf := it_p c32 hf
          exact wl_X4_parseFigures_32 l D k A ws q _ hK C0 letters tt_pl tt_sz size r9.2 number x1 r9.1 _ ih _ _ _ _ hf h14 hsm hP hD hS (lv_sub hl [1, 2, 0] rfl)
        · have hf := it_n c32 hf
          refine lv_iload_n hx hb dX4_parseFigures_30 rfl (lv_at hl 2 rfl) ?_
          obtain rfl := so_i hf
          exact W.iret (v := x1) hx hb hr (qw_end hS hP hD ⟨h14, hsm⟩) hS.2.2 dX4_parseFigures_31

set_option maxHeartbeats 4000000 in
set_option maxRecDepth 100000 in
theorem cz_X4_parseFigures (l : Launch) (D : va_G) (k : kt_T) (A : Nat → Nat) (ws : va_W) (q : Nat)  (letters : Nat → Int32) (tt_pl : Nat → Int64) (tt_sz : Int32) (size : Int32) (place : Int32) (number : Int32)  (out : Int32 × Int32 × Int32) (hf : pf_X4_parseFigures letters size place number = some out) (h_this : is_P k A ws q letters tt_pl tt_sz size place number)  (sz0 : Nat) : Met l yX4_parseFigures wsX4_parseFigures { frames := 1, cells := 0, slots := 0, locals := 20 } (va_Pc [.ref (A q)] (px_P D k ws sz0)) (qw_Q D ws sz0 (some (.int out.1)) (fun u => is_P k A u q letters tt_pl tt_sz size out.2.1 out.2.2 ∧ sm_W ws u q (q + 4))) 0 0 (va_A ws sz0) := by
  refine Met.ofW (cc := cX4_parseFigures) (maxL := 3) (ret := (some .int)) (by decide) rfl ?_
  intro p e s m args below meth c s₁ B hml hv
  obtain ⟨rfl, hsz, hP, hK, hD0⟩ := hv
  subst hsz
  have hD := hD0.self (sz := s.heap.size)
  have C0 : cx_P p s m meth c [.ref (A q)].toArray cX4_parseFigures 3 wsX4_parseFigures RX4 (some .int) := ⟨B.exec, B.bytes, hml, findClass_of_methodNamed B.named, atoms_spec (ws := wsX4_parseFigures) B.pre, B.returns, B.notSynchronized⟩
  obtain ⟨hx, hb, hml, hown, hts, hr, hlocks⟩ := id C0
  have hcf : CallFix p m c cX4_parseFigures 3 s [.ref (A q)].toArray wsX4_parseFigures RX4 := ⟨hx, hb, hml, hown, hts⟩
  have hA : ∀ q, s.heap.size ≤ q → va_A ws s.heap.size q := fun q h => Or.inr h
  have hS : va_S (va_A ws s.heap.size) s.heap s.heap [] := va_S.rf
  have hsm : sm_W ws ws q (q + 4) := sm_rf
  have w_0 := hts (.fieldLink RX4 29 "LeastRoutes$Tape" "number" "I") (List.mem_of_getElem? (i := 1) rfl)
  have hl := lv_entry ([.ref (A q)]) (n := 3) (Nat.le_of_ble_eq_true rfl)
  rw [lg_entry_eq]
  generalize (lg_sl ([.ref (A q)]) ++ List.replicate (3 - (lg_sl ([.ref (A q)])).length) Slot.unset).toArray = ls at hl ⊢
  have hl : lv_has ls 3 [(0, .ref (A q))] := hl
  unfold pf_X4_parseFigures at hf
  refine lv_aload_n hx hb dX4_parseFigures_0 rfl (lv_at hl 0 rfl) ?_
  refine lv_iconst (v := 1) hx hb dX4_parseFigures_1 (by decide) ?_
  obtain ⟨h1, h2, h3⟩ := h_this
  refine va_put (D := D) (ci := 4) (v := .int 1) (ty := .int) (C := RX4) (T := TX4) (N := 5) hx hb hts in_X4_parseFigures_X4 tyX4 tyX4_ok nmX4 hown hK.1 hP hD hS (q) h1 rfl 4 (by decide) w_0 (fun _ h9 => h9) rfl (by decide +kernel) rfl rfl (Nat.le_of_ble_eq_true rfl) dX4_parseFigures_2 (fun _ _ hP hD hS => ?_)
  obtain ⟨u4, h5, m6, hP, hD⟩ := wd_put hP hD h1
  have hsm := sm_tr hsm m6 (by omega) (by omega)
  have h7 : u4[q]? = some (A (q), .inr (4, [.ref (A (q + 1)), .ref (A (q + 2)), .int size, .int place, .int 1])) := h5
  refine lv_iconst (v := 0) hx hb dX4_parseFigures_5 (by decide) ?_
  refine lv_istore_n (lv' := [(1, .int 0), (0, .ref (A q))]) hx hb dX4_parseFigures_6 rfl hl (by decide) rfl (fun ls hl => ?_)
  have h33 := sm_at m6 (by omega) h2
  have h34 := is_T_tr h3 m6 (by omega)
  have h35 : is_P k A u4 (q) letters tt_pl tt_sz size place 1 := ⟨h7, h33, h34⟩
  exact wl_X4_parseFigures_7 l D k A ws q _ hK C0 letters tt_pl tt_sz size fu_N place 1 0 _ _ _ _ hf h35 hsm hP hD hS (lv_sub hl [1, 0] rfl)

theorem in_X4_parseEntry_X4 : ∀ w ∈ u_ws RX4 TX4 5, w ∈ wsX4_parseEntry := fun w h => List.mem_cons_of_mem _ (List.mem_append_left _ (List.mem_append_right _ h))
def lp_X4_parseEntry_43  (letters : Nat → Int32) (tt_pl : Nat → Int64) (tt_sz : Int32) (size : Int32) (place : Int32) (number : Int32) (x1 : Int32) : Option (Int32 × (Nat → Int64) × Int32 × Int32 × Int32) :=
  (pf_X4_letterHere letters size place).bind (fun r18 =>
    if r18.1 = 58 then
      (pf_X3_hopAt tt_pl number).bind (fun r33 =>
        if r33 = (-4) then
          (pf_X4_letterHere letters size (r18.2 + 1)).bind (fun r38 =>
            (pf_X6_isHop (r38.1 - 48)).bind (fun r44 =>
              if r44 = 0 then
                some (r38.2, tt_pl, tt_sz, r38.2, number)
              else
                (pf_X3_put tt_pl tt_sz number (r38.1 - 48)).bind (fun r55 =>
                  some ((-4), r55.1, r55.2, (r38.2 + 1), number))))
        else
          some (x1, tt_pl, tt_sz, (r18.2 + 1), number))
    else
      some (r18.2, tt_pl, tt_sz, r18.2, number))

def pf_X4_parseEntry (letters : Nat → Int32) (tt_pl : Nat → Int64) (tt_sz : Int32) (size : Int32) (place : Int32) (number : Int32)   : Option (Int32 × (Nat → Int64) × Int32 × Int32 × Int32) :=
  (pf_X4_letterHere letters size place).bind (fun r1 =>
    (pf_X4_parseFigures letters size r1.2 number).bind (fun r11 =>
      if 8 ≤ r11.1 then
        lp_X4_parseEntry_43 letters tt_pl tt_sz size r11.2.1 r11.2.2 r1.2
      else
        (pf_X4_letterHere letters size r11.2.1).bind (fun r75 =>
          if r75.1 = 42 then
            lp_X4_parseEntry_43 letters tt_pl tt_sz size (r75.2 + 1) r11.2.2 r1.2
          else
            some (r75.2, tt_pl, tt_sz, r75.2, r11.2.2))))

set_option maxHeartbeats 4000000 in
set_option maxRecDepth 100000 in
theorem wl_X4_parseEntry_43 {p : Program} {e : Env} {s : State} {m : MethodId} {args : Array Value} {below : List Frame} {meth : Method} {c : Code} (l : Launch) (D : va_G) (k : kt_T) (A : Nat → Nat) (ws : va_W) (q : Nat)  (out : Int32 × (Nat → Int64) × Int32 × Int32 × Int32) (hK : kk_P D k s) (C0 : cx_P p s m meth c args cX4_parseEntry 3 wsX4_parseEntry RX4 (some .int))  (letters : Nat → Int32) (tt_pl : Nat → Int64) (tt_sz : Int32) (size : Int32) (place : Int32) (number : Int32) (x1 : Int32)    : ∀ (w : va_W) (H : Heap) (locs : List Loc) (ls : Array Slot), lp_X4_parseEntry_43 letters tt_pl tt_sz size place number x1 = some out → is_P k A w q letters tt_pl tt_sz size place number → sm_W ws w q (q + 4) → va_P D vwCl w H → va_D (va_A ws s.heap.size) w → va_S (va_A ws s.heap.size) s.heap H locs → lv_has ls 3 [(0, .ref (A q)), (1, .int x1)] → W p l e (headSpec wsX4_parseEntry { frames := 2, cells := 0, slots := 0, locals := 45 }).room s m args below meth c H locs 0 0 (MQ below (qw_Q D ws s.heap.size (some (.int out.1)) (fun u => is_P k A u q letters out.2.1 out.2.2.1 size out.2.2.2.1 out.2.2.2.2 ∧ sm_W ws u q (q + 4))) args s 0 0 (va_A ws s.heap.size)) (F0 m 43 ls []) := by
  obtain ⟨hx, hb, hml, hown, hts, hr, hlocks⟩ := id C0
  have hcf : CallFix p m c cX4_parseEntry 3 s args wsX4_parseEntry RX4 := ⟨hx, hb, hml, hown, hts⟩
  have hA : ∀ q, s.heap.size ≤ q → va_A ws s.heap.size q := fun q h => Or.inr h
  have w_0 := hts (.fieldLink RX4 26 "LeastRoutes$Tape" "place" "I") (List.mem_of_getElem? (i := 1) rfl)
  have w_1 := hts (.fieldLink RX4 18 "LeastRoutes$Tape" "told" "LLeastRoutes$Table;") (List.mem_of_getElem? (i := 2) rfl)
  have w_2 := hts (.fieldLink RX4 29 "LeastRoutes$Tape" "number" "I") (List.mem_of_getElem? (i := 3) rfl)
  have w_3 := hts (.initialized RX6) (List.mem_of_getElem? (i := 22) rfl)
  have w_4 := hts (.static yX6_isHop) (List.mem_of_getElem? (i := 21) rfl)
  intro w H locs ls hf h_this hsm hP hD hS hl
  unfold lp_X4_parseEntry_43 at hf
  refine lv_aload_n hx hb dX4_parseEntry_43 rfl (lv_at hl 0 rfl) ?_
  obtain ⟨r18, h19, hf⟩ := bd_s hf
  refine kw_i (va_runV (As := []) (rest := []) hcf (cz_X4_letterHere l D k A w (q) letters tt_pl tt_sz size place number r18 h19 h_this _) (cwV 0 hts gX4_parseEntry_X4_letterHere rfl rfl rfl (by decide +kernel) ⟨Nat.le_of_ble_eq_true rfl, Nat.le_of_ble_eq_true rfl⟩) (px_V hP hK hD (ci := 4) h_this.1 rfl) rfl rfl hl.1 rfl (lv_room (Nat.le_of_ble_eq_true rfl)) dX4_parseEntry_44 ⟨Nat.zero_le _, Nat.zero_le _⟩) hD hS hA (fun u20 _ _ h21 hP hD hS => ?_)
  obtain ⟨h23, m22⟩ := h21
  have hsm := sm_tr hsm m22 (by omega) (by omega)
  refine lv_bipush (v := 58) hx hb dX4_parseEntry_47 (by decide) ?_
  refine lv_icmp_eq (tgt := 57) hx hb dX4_parseEntry_49 (by decide) (fun c24 => ?_) (fun c24 => ?_)
  · have hf := it_p c24 hf
    refine lv_aload_n hx hb dX4_parseEntry_57 rfl (lv_at hl 0 rfl) ?_
    refine lv_dup hx hb dX4_parseEntry_58 rfl ?_
    obtain ⟨h25, h26, h27⟩ := h23
    refine va_get (D := D) (ci := 4) (v := .int r18.2) (C := RX4) (T := TX4) (N := 5) hx hb hts in_X4_parseEntry_X4 hown hK.1 hP (q) h25 rfl 3 (by decide) w_0 (fun _ h9 => h9) rfl dX4_parseEntry_59 ?_
    refine lv_iconst (v := 1) hx hb dX4_parseEntry_62 (by decide) ?_
    refine lv_iadd hx hb dX4_parseEntry_63 ?_
    refine va_put (D := D) (ci := 4) (v := .int (r18.2 + 1)) (ty := .int) (C := RX4) (T := TX4) (N := 5) hx hb hts in_X4_parseEntry_X4 tyX4 tyX4_ok nmX4 hown hK.1 hP hD hS (q) h25 rfl 3 (by decide) w_0 (fun _ h9 => h9) rfl (by decide +kernel) rfl rfl (Nat.le_of_ble_eq_true rfl) dX4_parseEntry_64 (fun _ _ hP hD hS => ?_)
    obtain ⟨u28, h29, m30, hP, hD⟩ := wd_put hP hD h25
    have hsm := sm_tr hsm m30 (by omega) (by omega)
    have h31 : u28[q]? = some (A (q), .inr (4, [.ref (A (q + 1)), .ref (A (q + 2)), .int size, .int (r18.2 + 1), .int number])) := h29
    refine lv_aload_n hx hb dX4_parseEntry_67 rfl (lv_at hl 0 rfl) ?_
    refine va_get (D := D) (ci := 4) (v := .ref (A (q + 2))) (C := RX4) (T := TX4) (N := 5) hx hb hts in_X4_parseEntry_X4 hown hK.1 hP (q) h31 rfl 1 (by decide) w_1 (fun _ h9 => h9) rfl dX4_parseEntry_68 ?_
    refine lv_aload_n hx hb dX4_parseEntry_71 rfl (lv_at hl 0 rfl) ?_
    refine va_get (D := D) (ci := 4) (v := .int number) (C := RX4) (T := TX4) (N := 5) hx hb hts in_X4_parseEntry_X4 hown hK.1 hP (q) h31 rfl 4 (by decide) w_2 (fun _ h9 => h9) rfl dX4_parseEntry_72 ?_
    have h32 := is_T_tr h27 m30 (by omega)
    obtain ⟨r33, h34, hf⟩ := bd_s hf
    refine ks_i (va_runV (As := [.int number]) (rest := []) hcf (cz_X3_hopAt l D k A u28 (q + 2) tt_pl tt_sz number r33 h34 h32) (cwV 1 hts gX4_parseEntry_X3_hopAt rfl rfl rfl (by decide +kernel) ⟨Nat.le_of_ble_eq_true rfl, Nat.le_of_ble_eq_true rfl⟩) (pw_V hP hK hD (ci := 3) h32.1 rfl) rfl rfl hl.1 rfl (lv_room (Nat.le_of_ble_eq_true rfl)) dX4_parseEntry_75 ⟨Nat.zero_le _, Nat.zero_le _⟩) ?_
    refine lv_bipush (v := (-4)) hx hb dX4_parseEntry_78 (by decide) ?_
    refine lv_icmp_eq (tgt := 85) hx hb dX4_parseEntry_80 (by decide) (fun c35 => ?_) (fun c35 => ?_)
    · have hf := it_p c35 hf
      refine lv_aload_n hx hb dX4_parseEntry_85 rfl (lv_at hl 0 rfl) ?_
      have h36 := sm_at m30 (by omega) h26
      have h37 : is_P k A u28 (q) letters tt_pl tt_sz size (r18.2 + 1) number := ⟨h31, h36, h32⟩
      obtain ⟨r38, h39, hf⟩ := bd_s hf
      refine kw_i (va_runV (As := []) (rest := []) hcf (cz_X4_letterHere l D k A u28 (q) letters tt_pl tt_sz size (r18.2 + 1) number r38 h39 h37 _) (cwV 0 hts gX4_parseEntry_X4_letterHere rfl rfl rfl (by decide +kernel) ⟨Nat.le_of_ble_eq_true rfl, Nat.le_of_ble_eq_true rfl⟩) (px_V hP hK hD (ci := 4) h37.1 rfl) rfl rfl hl.1 rfl (lv_room (Nat.le_of_ble_eq_true rfl)) dX4_parseEntry_86 ⟨Nat.zero_le _, Nat.zero_le _⟩) hD hS hA (fun u40 _ _ h41 hP hD hS => ?_)
      obtain ⟨h43, m42⟩ := h41
      have hsm := sm_tr hsm m42 (by omega) (by omega)
      refine lv_bipush (v := 48) hx hb dX4_parseEntry_89 (by decide) ?_
      refine lv_isub hx hb dX4_parseEntry_91 ?_
      refine lv_istore_n (lv' := [(2, .int (r38.1 - 48)), (0, .ref (A q)), (1, .int x1)]) hx hb dX4_parseEntry_92 rfl hl (by decide) rfl (fun ls hl => ?_)
      refine lv_iload_n hx hb dX4_parseEntry_93 rfl (lv_at hl 0 rfl) ?_
      obtain ⟨r44, h45, hf⟩ := bd_s hf
      refine ks_i (va_runSN (As := [.int (r38.1 - 48)]) (rest := []) hcf (cz_X6_isHop l D k A u40 (r38.1 - 48) r44 h45) ⟨(va_cnB 1 hts gX4_parseEntry_X6_isHop_n49 rfl rfl rfl (hK.2 (RX4, 49, yX6_isHop, RX6) (List.mem_of_getElem? (i := 5) rfl)) w_3 (by decide +kernel) ⟨Nat.le_of_ble_eq_true rfl, Nat.le_of_ble_eq_true rfl⟩), w_4, trivial⟩ (pw_S hP hK hD) rfl rfl hl.1 rfl (lv_room (Nat.le_of_ble_eq_true rfl)) dX4_parseEntry_94 ⟨Nat.zero_le _, Nat.zero_le _⟩) ?_
      refine lv_if_ne (tgt := 105) hx hb dX4_parseEntry_97 (by decide) (fun c46 => ?_) (fun c46 => ?_)
      · have hf := it_n c46 hf
        refine lv_aload_n hx hb dX4_parseEntry_105 rfl (lv_at hl 1 rfl) ?_
        refine lv_dup hx hb dX4_parseEntry_106 rfl ?_
        obtain ⟨h47, h48, h49⟩ := h43
        refine va_get (D := D) (ci := 4) (v := .int r38.2) (C := RX4) (T := TX4) (N := 5) hx hb hts in_X4_parseEntry_X4 hown hK.1 hP (q) h47 rfl 3 (by decide) w_0 (fun _ h9 => h9) rfl dX4_parseEntry_107 ?_
        refine lv_iconst (v := 1) hx hb dX4_parseEntry_110 (by decide) ?_
        refine lv_iadd hx hb dX4_parseEntry_111 ?_
        refine va_put (D := D) (ci := 4) (v := .int (r38.2 + 1)) (ty := .int) (C := RX4) (T := TX4) (N := 5) hx hb hts in_X4_parseEntry_X4 tyX4 tyX4_ok nmX4 hown hK.1 hP hD hS (q) h47 rfl 3 (by decide) w_0 (fun _ h9 => h9) rfl (by decide +kernel) rfl rfl (Nat.le_of_ble_eq_true rfl) dX4_parseEntry_112 (fun _ _ hP hD hS => ?_)
        obtain ⟨u50, h51, m52, hP, hD⟩ := wd_put hP hD h47
        have hsm := sm_tr hsm m52 (by omega) (by omega)
        have h53 : u50[q]? = some (A (q), .inr (4, [.ref (A (q + 1)), .ref (A (q + 2)), .int size, .int (r38.2 + 1), .int number])) := h51
        refine lv_aload_n hx hb dX4_parseEntry_115 rfl (lv_at hl 1 rfl) ?_
        refine va_get (D := D) (ci := 4) (v := .ref (A (q + 2))) (C := RX4) (T := TX4) (N := 5) hx hb hts in_X4_parseEntry_X4 hown hK.1 hP (q) h53 rfl 1 (by decide) w_1 (fun _ h9 => h9) rfl dX4_parseEntry_116 ?_
        refine lv_aload_n hx hb dX4_parseEntry_119 rfl (lv_at hl 1 rfl) ?_
        refine va_get (D := D) (ci := 4) (v := .int number) (C := RX4) (T := TX4) (N := 5) hx hb hts in_X4_parseEntry_X4 hown hK.1 hP (q) h53 rfl 4 (by decide) w_2 (fun _ h9 => h9) rfl dX4_parseEntry_120 ?_
        refine lv_iload_n hx hb dX4_parseEntry_123 rfl (lv_at hl 0 rfl) ?_
        have h54 := is_T_tr h49 m52 (by omega)
        obtain ⟨r55, h56, hf⟩ := bd_s hf
        refine kw_v (va_runV (As := [.int number, .int (r38.1 - 48)]) (rest := []) hcf (cz_X3_put l D k A u50 (q + 2) tt_pl tt_sz number (r38.1 - 48) r55 h56 h54 _) (cwV 2 hts gX4_parseEntry_X3_put rfl rfl rfl (by decide +kernel) ⟨Nat.le_of_ble_eq_true rfl, Nat.le_of_ble_eq_true rfl⟩) (px_V hP hK hD (ci := 3) h54.1 rfl) rfl rfl hl.1 rfl (lv_room (Nat.le_of_ble_eq_true rfl)) dX4_parseEntry_124 ⟨Nat.zero_le _, Nat.zero_le _⟩) hD hS hA (fun u57 _ _ h58 hP hD hS => ?_)
        obtain ⟨h60, m59⟩ := h58
        have hsm := sm_tr hsm m59 (by omega) (by omega)
        refine lv_bipush (v := (-4)) hx hb dX4_parseEntry_127 (by decide) ?_
        obtain rfl := so_i hf
        have h61 := sm_at m59 (by omega) h53
        have h62 := sm_at m52 (by omega) h48
        have h63 := sm_at m59 (by omega) h62
        have h64 : is_P k A u57 (q) letters r55.1 r55.2 size (r38.2 + 1) number := ⟨h61, h63, h60⟩
        exact W.iret (v := (-4)) hx hb hr (qw_end hS hP hD ⟨h64, hsm⟩) hS.2.2 dX4_parseEntry_129
      · have hf := it_p c46 hf
        refine lv_aload_n hx hb dX4_parseEntry_100 rfl (lv_at hl 1 rfl) ?_
        obtain ⟨h65, h66, h67⟩ := h43
        refine va_get (D := D) (ci := 4) (v := .int r38.2) (C := RX4) (T := TX4) (N := 5) hx hb hts in_X4_parseEntry_X4 hown hK.1 hP (q) h65 rfl 3 (by decide) w_0 (fun _ h9 => h9) rfl dX4_parseEntry_101 ?_
        obtain rfl := so_i hf
        have h68 : is_P k A u40 (q) letters tt_pl tt_sz size r38.2 number := ⟨h65, h66, h67⟩
        exact W.iret (v := r38.2) hx hb hr (qw_end hS hP hD ⟨h68, hsm⟩) hS.2.2 dX4_parseEntry_104
    · have hf := it_n c35 hf
      refine lv_iload_n hx hb dX4_parseEntry_83 rfl (lv_at hl 1 rfl) ?_
      obtain rfl := so_i hf
      have h69 := sm_at m30 (by omega) h26
      have h70 : is_P k A u28 (q) letters tt_pl tt_sz size (r18.2 + 1) number := ⟨h31, h69, h32⟩
      exact W.iret (v := x1) hx hb hr (qw_end hS hP hD ⟨h70, hsm⟩) hS.2.2 dX4_parseEntry_84
  · have hf := it_n c24 hf
    refine lv_aload_n hx hb dX4_parseEntry_52 rfl (lv_at hl 0 rfl) ?_
    obtain ⟨h71, h72, h73⟩ := h23
    refine va_get (D := D) (ci := 4) (v := .int r18.2) (C := RX4) (T := TX4) (N := 5) hx hb hts in_X4_parseEntry_X4 hown hK.1 hP (q) h71 rfl 3 (by decide) w_0 (fun _ h9 => h9) rfl dX4_parseEntry_53 ?_
    obtain rfl := so_i hf
    have h74 : is_P k A u20 (q) letters tt_pl tt_sz size r18.2 number := ⟨h71, h72, h73⟩
    exact W.iret (v := r18.2) hx hb hr (qw_end hS hP hD ⟨h74, hsm⟩) hS.2.2 dX4_parseEntry_56

set_option maxHeartbeats 4000000 in
set_option maxRecDepth 100000 in
theorem cz_X4_parseEntry (l : Launch) (D : va_G) (k : kt_T) (A : Nat → Nat) (ws : va_W) (q : Nat)  (letters : Nat → Int32) (tt_pl : Nat → Int64) (tt_sz : Int32) (size : Int32) (place : Int32) (number : Int32)  (out : Int32 × (Nat → Int64) × Int32 × Int32 × Int32) (hf : pf_X4_parseEntry letters tt_pl tt_sz size place number = some out) (h_this : is_P k A ws q letters tt_pl tt_sz size place number)  (sz0 : Nat) : Met l yX4_parseEntry wsX4_parseEntry { frames := 2, cells := 0, slots := 0, locals := 45 } (va_Pc [.ref (A q)] (px_P D k ws sz0)) (qw_Q D ws sz0 (some (.int out.1)) (fun u => is_P k A u q letters out.2.1 out.2.2.1 size out.2.2.2.1 out.2.2.2.2 ∧ sm_W ws u q (q + 4))) 0 0 (va_A ws sz0) := by
  refine Met.ofW (cc := cX4_parseEntry) (maxL := 3) (ret := (some .int)) (by decide) rfl ?_
  intro p e s m args below meth c s₁ B hml hv
  obtain ⟨rfl, hsz, hP, hK, hD0⟩ := hv
  subst hsz
  have hD := hD0.self (sz := s.heap.size)
  have C0 : cx_P p s m meth c [.ref (A q)].toArray cX4_parseEntry 3 wsX4_parseEntry RX4 (some .int) := ⟨B.exec, B.bytes, hml, findClass_of_methodNamed B.named, atoms_spec (ws := wsX4_parseEntry) B.pre, B.returns, B.notSynchronized⟩
  obtain ⟨hx, hb, hml, hown, hts, hr, hlocks⟩ := id C0
  have hcf : CallFix p m c cX4_parseEntry 3 s [.ref (A q)].toArray wsX4_parseEntry RX4 := ⟨hx, hb, hml, hown, hts⟩
  have hA : ∀ q, s.heap.size ≤ q → va_A ws s.heap.size q := fun q h => Or.inr h
  have hS : va_S (va_A ws s.heap.size) s.heap s.heap [] := va_S.rf
  have hsm : sm_W ws ws q (q + 4) := sm_rf
  have w_0 := hts (.fieldLink RX4 26 "LeastRoutes$Tape" "place" "I") (List.mem_of_getElem? (i := 1) rfl)
  have hl := lv_entry ([.ref (A q)]) (n := 3) (Nat.le_of_ble_eq_true rfl)
  rw [lg_entry_eq]
  generalize (lg_sl ([.ref (A q)]) ++ List.replicate (3 - (lg_sl ([.ref (A q)])).length) Slot.unset).toArray = ls at hl ⊢
  have hl : lv_has ls 3 [(0, .ref (A q))] := hl
  unfold pf_X4_parseEntry at hf
  refine lv_aload_n hx hb dX4_parseEntry_0 rfl (lv_at hl 0 rfl) ?_
  obtain ⟨r1, h2, hf⟩ := bd_s hf
  refine kw_i (va_runV (As := []) (rest := []) hcf (cz_X4_letterHere l D k A ws (q) letters tt_pl tt_sz size place number r1 h2 h_this _) (cwV 0 hts gX4_parseEntry_X4_letterHere rfl rfl rfl (by decide +kernel) ⟨Nat.le_of_ble_eq_true rfl, Nat.le_of_ble_eq_true rfl⟩) (px_V hP hK hD (ci := 4) h_this.1 rfl) rfl rfl hl.1 rfl (lv_room (Nat.le_of_ble_eq_true rfl)) dX4_parseEntry_1 ⟨Nat.zero_le _, Nat.zero_le _⟩) hD hS hA (fun u3 _ _ h4 hP hD hS => ?_)
  obtain ⟨h6, m5⟩ := h4
  have hsm := sm_tr hsm m5 (by omega) (by omega)
  refine lv_pop hx hb dX4_parseEntry_4 rfl ?_
  refine lv_aload_n hx hb dX4_parseEntry_5 rfl (lv_at hl 0 rfl) ?_
  obtain ⟨h7, h8, h9⟩ := h6
  refine va_get (D := D) (ci := 4) (v := .int r1.2) (C := RX4) (T := TX4) (N := 5) hx hb hts in_X4_parseEntry_X4 hown hK.1 hP (q) h7 rfl 3 (by decide) w_0 (fun _ h9 => h9) rfl dX4_parseEntry_6 ?_
  refine lv_istore_n (lv' := [(1, .int r1.2), (0, .ref (A q))]) hx hb dX4_parseEntry_9 rfl hl (by decide) rfl (fun ls hl => ?_)
  refine lv_aload_n hx hb dX4_parseEntry_10 rfl (lv_at hl 1 rfl) ?_
  have h10 : is_P k A u3 (q) letters tt_pl tt_sz size r1.2 number := ⟨h7, h8, h9⟩
  obtain ⟨r11, h12, hf⟩ := bd_s hf
  refine kw_i (va_runV (As := []) (rest := []) hcf (cz_X4_parseFigures l D k A u3 (q) letters tt_pl tt_sz size r1.2 number r11 h12 h10 _) (cwV 0 hts gX4_parseEntry_X4_parseFigures rfl rfl rfl (by decide +kernel) ⟨Nat.le_of_ble_eq_true rfl, Nat.le_of_ble_eq_true rfl⟩) (px_V hP hK hD (ci := 4) h10.1 rfl) rfl rfl hl.1 rfl (lv_room (Nat.le_of_ble_eq_true rfl)) dX4_parseEntry_11 ⟨Nat.zero_le _, Nat.zero_le _⟩) hD hS hA (fun u13 _ _ h14 hP hD hS => ?_)
  obtain ⟨h16, m15⟩ := h14
  have hsm := sm_tr hsm m15 (by omega) (by omega)
  refine lv_bipush (v := 8) hx hb dX4_parseEntry_14 (by decide) ?_
  refine lv_icmp_ge (tgt := 43) hx hb dX4_parseEntry_16 (by decide) (fun c17 => ?_) (fun c17 => ?_)
  · have hf := it_p c17 hf
    exact wl_X4_parseEntry_43 l D k A ws q _ hK C0 letters tt_pl tt_sz size r11.2.1 r11.2.2 r1.2 _ _ _ _ hf h16 hsm hP hD hS (lv_sub hl [1, 0] rfl)
  · have hf := it_n c17 hf
    refine lv_aload_n hx hb dX4_parseEntry_19 rfl (lv_at hl 1 rfl) ?_
    obtain ⟨r75, h76, hf⟩ := bd_s hf
    refine kw_i (va_runV (As := []) (rest := []) hcf (cz_X4_letterHere l D k A u13 (q) letters tt_pl tt_sz size r11.2.1 r11.2.2 r75 h76 h16 _) (cwV 0 hts gX4_parseEntry_X4_letterHere rfl rfl rfl (by decide +kernel) ⟨Nat.le_of_ble_eq_true rfl, Nat.le_of_ble_eq_true rfl⟩) (px_V hP hK hD (ci := 4) h16.1 rfl) rfl rfl hl.1 rfl (lv_room (Nat.le_of_ble_eq_true rfl)) dX4_parseEntry_20 ⟨Nat.zero_le _, Nat.zero_le _⟩) hD hS hA (fun u77 _ _ h78 hP hD hS => ?_)
    obtain ⟨h80, m79⟩ := h78
    have hsm := sm_tr hsm m79 (by omega) (by omega)
    refine lv_bipush (v := 42) hx hb dX4_parseEntry_23 (by decide) ?_
    refine lv_icmp_eq (tgt := 33) hx hb dX4_parseEntry_25 (by decide) (fun c81 => ?_) (fun c81 => ?_)
    · have hf := it_p c81 hf
      refine lv_aload_n hx hb dX4_parseEntry_33 rfl (lv_at hl 1 rfl) ?_
      refine lv_dup hx hb dX4_parseEntry_34 rfl ?_
      obtain ⟨h82, h83, h84⟩ := h80
      refine va_get (D := D) (ci := 4) (v := .int r75.2) (C := RX4) (T := TX4) (N := 5) hx hb hts in_X4_parseEntry_X4 hown hK.1 hP (q) h82 rfl 3 (by decide) w_0 (fun _ h9 => h9) rfl dX4_parseEntry_35 ?_
      refine lv_iconst (v := 1) hx hb dX4_parseEntry_38 (by decide) ?_
      refine lv_iadd hx hb dX4_parseEntry_39 ?_
      refine va_put (D := D) (ci := 4) (v := .int (r75.2 + 1)) (ty := .int) (C := RX4) (T := TX4) (N := 5) hx hb hts in_X4_parseEntry_X4 tyX4 tyX4_ok nmX4 hown hK.1 hP hD hS (q) h82 rfl 3 (by decide) w_0 (fun _ h9 => h9) rfl (by decide +kernel) rfl rfl (Nat.le_of_ble_eq_true rfl) dX4_parseEntry_40 (fun _ _ hP hD hS => ?_)
      obtain ⟨u85, h86, m87, hP, hD⟩ := wd_put hP hD h82
      have hsm := sm_tr hsm m87 (by omega) (by omega)
      have h88 : u85[q]? = some (A (q), .inr (4, [.ref (A (q + 1)), .ref (A (q + 2)), .int size, .int (r75.2 + 1), .int r11.2.2])) := h86
      have h89 := sm_at m87 (by omega) h83
      have h90 := is_T_tr h84 m87 (by omega)
      have h91 : is_P k A u85 (q) letters tt_pl tt_sz size (r75.2 + 1) r11.2.2 := ⟨h88, h89, h90⟩
      exact wl_X4_parseEntry_43 l D k A ws q _ hK C0 letters tt_pl tt_sz size (r75.2 + 1) r11.2.2 r1.2 _ _ _ _ hf h91 hsm hP hD hS (lv_sub hl [1, 0] rfl)
    · have hf := it_n c81 hf
      refine lv_aload_n hx hb dX4_parseEntry_28 rfl (lv_at hl 1 rfl) ?_
      obtain ⟨h92, h93, h94⟩ := h80
      refine va_get (D := D) (ci := 4) (v := .int r75.2) (C := RX4) (T := TX4) (N := 5) hx hb hts in_X4_parseEntry_X4 hown hK.1 hP (q) h92 rfl 3 (by decide) w_0 (fun _ h9 => h9) rfl dX4_parseEntry_29 ?_
      obtain rfl := so_i hf
      have h95 : is_P k A u77 (q) letters tt_pl tt_sz size r75.2 r11.2.2 := ⟨h92, h93, h94⟩
      exact W.iret (v := r75.2) hx hb hr (qw_end hS hP hD ⟨h95, hsm⟩) hS.2.2 dX4_parseEntry_32

theorem in_X4_parse_X4 : ∀ w ∈ u_ws RX4 TX4 5, w ∈ wsX4_parse := fun w h => List.mem_cons_of_mem _ (List.mem_append_left _ (List.mem_append_right _ h))
def lp_X4_parse_14  (letters : Nat → Int32) (size : Int32) : Nat → (Nat → Int64) → Int32 → Int32 → Int32 → Int32 → Option (Int32 × (Nat → Int64) × Int32 × Int32 × Int32)
  | 0, _, _, _, _, _ => none
  | n + 1, tt_pl, tt_sz, place, number, x1 =>
    if 100 < x1 then
      some (place, tt_pl, tt_sz, place, number)
    else
      (pf_X4_parseEntry letters tt_pl tt_sz size place number).bind (fun r20 =>
        if r20.1 = (-4) then
          (pf_X4_letterHere letters size r20.2.2.2.1).bind (fun r27 =>
            if r27.1 = (-1) then
              some ((-4), r20.2.1, r20.2.2.1, r27.2, r20.2.2.2.2)
            else
              if r27.1 = 59 then
                lp_X4_parse_14 letters size n r20.2.1 r20.2.2.1 (r27.2 + 1) r20.2.2.2.2 (x1 + 1)
              else
                some (r27.2, r20.2.1, r20.2.2.1, r27.2, r20.2.2.2.2))
        else
          some (r20.1, r20.2.1, r20.2.2.1, r20.2.2.2.1, r20.2.2.2.2))

def pf_X4_parse (letters : Nat → Int32) (tt_pl : Nat → Int64) (tt_sz : Int32) (size : Int32) (place : Int32) (number : Int32)   : Option (Int32 × (Nat → Int64) × Int32 × Int32 × Int32) :=
  (pf_X3_makeEmpty tt_pl tt_sz).bind (fun r4 =>
    lp_X4_parse_14 letters size fu_N r4.1 r4.2 0 number 0)

set_option maxHeartbeats 4000000 in
set_option maxRecDepth 100000 in
theorem wl_X4_parse_14 {p : Program} {e : Env} {s : State} {m : MethodId} {args : Array Value} {below : List Frame} {meth : Method} {c : Code} (l : Launch) (D : va_G) (k : kt_T) (A : Nat → Nat) (ws : va_W) (q : Nat)  (out : Int32 × (Nat → Int64) × Int32 × Int32 × Int32) (hK : kk_P D k s) (C0 : cx_P p s m meth c args cX4_parse 4 wsX4_parse RX4 (some .int))  (letters : Nat → Int32) (size : Int32)     : ∀ (n : Nat) (tt_pl : Nat → Int64) (tt_sz : Int32) (place : Int32) (number : Int32) (x1 : Int32) (w : va_W) (H : Heap) (locs : List Loc) (ls : Array Slot), lp_X4_parse_14 letters size n tt_pl tt_sz place number x1 = some out → is_P k A w q letters tt_pl tt_sz size place number → sm_W ws w q (q + 4) → va_P D vwCl w H → va_D (va_A ws s.heap.size) w → va_S (va_A ws s.heap.size) s.heap H locs → lv_has ls 4 [(0, .ref (A q)), (1, .int x1)] → W p l e (headSpec wsX4_parse { frames := 3, cells := 0, slots := 0, locals := 67 }).room s m args below meth c H locs 0 0 (MQ below (qw_Q D ws s.heap.size (some (.int out.1)) (fun u => is_P k A u q letters out.2.1 out.2.2.1 size out.2.2.2.1 out.2.2.2.2 ∧ sm_W ws u q (q + 4))) args s 0 0 (va_A ws s.heap.size)) (F0 m 14 ls []) := by
  obtain ⟨hx, hb, hml, hown, hts, hr, hlocks⟩ := id C0
  have hcf : CallFix p m c cX4_parse 4 s args wsX4_parse RX4 := ⟨hx, hb, hml, hown, hts⟩
  have hA : ∀ q, s.heap.size ≤ q → va_A ws s.heap.size q := fun q h => Or.inr h
  have w_1 := hts (.fieldLink RX4 26 "LeastRoutes$Tape" "place" "I") (List.mem_of_getElem? (i := 2) rfl)
  intro n
  induction n with
  | zero =>
    intro tt_pl tt_sz place number x1 w H locs ls hf h_this hsm hP hD hS hl
    exact (no_s hf).elim
  | succ n ih =>
    intro tt_pl tt_sz place number x1 w H locs ls hf h_this hsm hP hD hS hl
    rw [lp_X4_parse_14] at hf
    refine lv_iload_n hx hb dX4_parse_14 rfl (lv_at hl 1 rfl) ?_
    refine lv_bipush (v := 100) hx hb dX4_parse_15 (by decide) ?_
    refine lv_icmp_gt (tgt := 73) hx hb dX4_parse_17 (by decide) (fun c15 => ?_) (fun c15 => ?_)
    · have hf := it_p c15 hf
      refine lv_aload_n hx hb dX4_parse_73 rfl (lv_at hl 0 rfl) ?_
      obtain ⟨h16, h17, h18⟩ := h_this
      refine va_get (D := D) (ci := 4) (v := .int place) (C := RX4) (T := TX4) (N := 5) hx hb hts in_X4_parse_X4 hown hK.1 hP (q) h16 rfl 3 (by decide) w_1 (fun _ h9 => h9) rfl dX4_parse_74 ?_
      obtain rfl := so_i hf
      have h19 : is_P k A w (q) letters tt_pl tt_sz size place number := ⟨h16, h17, h18⟩
      exact W.iret (v := place) hx hb hr (qw_end hS hP hD ⟨h19, hsm⟩) hS.2.2 dX4_parse_77
    · have hf := it_n c15 hf
      refine lv_aload_n hx hb dX4_parse_20 rfl (lv_at hl 0 rfl) ?_
      obtain ⟨r20, h21, hf⟩ := bd_s hf
      refine kw_i (va_runV (As := []) (rest := []) hcf (cz_X4_parseEntry l D k A w (q) letters tt_pl tt_sz size place number r20 h21 h_this _) (cwV 0 hts gX4_parse_X4_parseEntry rfl rfl rfl (by decide +kernel) ⟨Nat.le_of_ble_eq_true rfl, Nat.le_of_ble_eq_true rfl⟩) (px_V hP hK hD (ci := 4) h_this.1 rfl) rfl rfl hl.1 rfl (lv_room (Nat.le_of_ble_eq_true rfl)) dX4_parse_21 ⟨Nat.zero_le _, Nat.zero_le _⟩) hD hS hA (fun u22 _ _ h23 hP hD hS => ?_)
      obtain ⟨h25, m24⟩ := h23
      have hsm := sm_tr hsm m24 (by omega) (by omega)
      refine lv_istore_n (lv' := [(2, .int r20.1), (0, .ref (A q)), (1, .int x1)]) hx hb dX4_parse_24 rfl hl (by decide) rfl (fun ls hl => ?_)
      refine lv_iload_n hx hb dX4_parse_25 rfl (lv_at hl 0 rfl) ?_
      refine lv_bipush (v := (-4)) hx hb dX4_parse_26 (by decide) ?_
      refine lv_icmp_eq (tgt := 33) hx hb dX4_parse_28 (by decide) (fun c26 => ?_) (fun c26 => ?_)
      · have hf := it_p c26 hf
        refine lv_aload_n hx hb dX4_parse_33 rfl (lv_at hl 1 rfl) ?_
        obtain ⟨r27, h28, hf⟩ := bd_s hf
        refine kw_i (va_runV (As := []) (rest := []) hcf (cz_X4_letterHere l D k A u22 (q) letters r20.2.1 r20.2.2.1 size r20.2.2.2.1 r20.2.2.2.2 r27 h28 h25 _) (cwV 0 hts gX4_parse_X4_letterHere rfl rfl rfl (by decide +kernel) ⟨Nat.le_of_ble_eq_true rfl, Nat.le_of_ble_eq_true rfl⟩) (px_V hP hK hD (ci := 4) h25.1 rfl) rfl rfl hl.1 rfl (lv_room (Nat.le_of_ble_eq_true rfl)) dX4_parse_34 ⟨Nat.zero_le _, Nat.zero_le _⟩) hD hS hA (fun u29 _ _ h30 hP hD hS => ?_)
        obtain ⟨h32, m31⟩ := h30
        have hsm := sm_tr hsm m31 (by omega) (by omega)
        refine lv_istore_n (lv' := [(3, .int r27.1), (2, .int r20.1), (0, .ref (A q)), (1, .int x1)]) hx hb dX4_parse_37 rfl hl (by decide) rfl (fun ls hl => ?_)
        refine lv_iload_n hx hb dX4_parse_38 rfl (lv_at hl 0 rfl) ?_
        refine lv_iconst (v := (-1)) hx hb dX4_parse_39 (by decide) ?_
        refine lv_icmp_ne (tgt := 46) hx hb dX4_parse_40 (by decide) (fun c33 => ?_) (fun c33 => ?_)
        · have hf := it_n c33 hf
          refine lv_iload_n hx hb dX4_parse_46 rfl (lv_at hl 0 rfl) ?_
          refine lv_bipush (v := 59) hx hb dX4_parse_47 (by decide) ?_
          refine lv_icmp_eq (tgt := 57) hx hb dX4_parse_49 (by decide) (fun c34 => ?_) (fun c34 => ?_)
          · have hf := it_p c34 hf
            refine lv_aload_n hx hb dX4_parse_57 rfl (lv_at hl 2 rfl) ?_
            refine lv_dup hx hb dX4_parse_58 rfl ?_
            obtain ⟨h35, h36, h37⟩ := h32
            refine va_get (D := D) (ci := 4) (v := .int r27.2) (C := RX4) (T := TX4) (N := 5) hx hb hts in_X4_parse_X4 hown hK.1 hP (q) h35 rfl 3 (by decide) w_1 (fun _ h9 => h9) rfl dX4_parse_59 ?_
            refine lv_iconst (v := 1) hx hb dX4_parse_62 (by decide) ?_
            refine lv_iadd hx hb dX4_parse_63 ?_
            refine va_put (D := D) (ci := 4) (v := .int (r27.2 + 1)) (ty := .int) (C := RX4) (T := TX4) (N := 5) hx hb hts in_X4_parse_X4 tyX4 tyX4_ok nmX4 hown hK.1 hP hD hS (q) h35 rfl 3 (by decide) w_1 (fun _ h9 => h9) rfl (by decide +kernel) rfl rfl (Nat.le_of_ble_eq_true rfl) dX4_parse_64 (fun _ _ hP hD hS => ?_)
            obtain ⟨u38, h39, m40, hP, hD⟩ := wd_put hP hD h35
            have hsm := sm_tr hsm m40 (by omega) (by omega)
            have h41 : u38[q]? = some (A (q), .inr (4, [.ref (A (q + 1)), .ref (A (q + 2)), .int size, .int (r27.2 + 1), .int r20.2.2.2.2])) := h39
            refine lv_iinc (v := (x1 + 1)) (lv' := [(1, .int (x1 + 1)), (3, .int r27.1), (2, .int r20.1), (0, .ref (A q))]) hx hb dX4_parse_67 hl (k := 3) rfl rfl (by decide) rfl (fun ls hl => ?_)
            refine lv_goto (tgt := 14) hx hb dX4_parse_70 (by decide) ?_
            have h42 := sm_at m40 (by omega) h36
            have h43 := is_T_tr h37 m40 (by omega)
            have h44 : is_P k A u38 (q) letters r20.2.1 r20.2.2.1 size (r27.2 + 1) r20.2.2.2.2 := ⟨h41, h42, h43⟩
            exact ih r20.2.1 r20.2.2.1 (r27.2 + 1) r20.2.2.2.2 (x1 + 1) _ _ _ _ hf h44 hsm hP hD hS (lv_sub hl [3, 0] rfl)
          · have hf := it_n c34 hf
            refine lv_aload_n hx hb dX4_parse_52 rfl (lv_at hl 2 rfl) ?_
            obtain ⟨h45, h46, h47⟩ := h32
            refine va_get (D := D) (ci := 4) (v := .int r27.2) (C := RX4) (T := TX4) (N := 5) hx hb hts in_X4_parse_X4 hown hK.1 hP (q) h45 rfl 3 (by decide) w_1 (fun _ h9 => h9) rfl dX4_parse_53 ?_
            obtain rfl := so_i hf
            have h48 : is_P k A u29 (q) letters r20.2.1 r20.2.2.1 size r27.2 r20.2.2.2.2 := ⟨h45, h46, h47⟩
            exact W.iret (v := r27.2) hx hb hr (qw_end hS hP hD ⟨h48, hsm⟩) hS.2.2 dX4_parse_56
        · have hf := it_p c33 hf
          refine lv_bipush (v := (-4)) hx hb dX4_parse_43 (by decide) ?_
          obtain rfl := so_i hf
          exact W.iret (v := (-4)) hx hb hr (qw_end hS hP hD ⟨h32, hsm⟩) hS.2.2 dX4_parse_45
      · have hf := it_n c26 hf
        refine lv_iload_n hx hb dX4_parse_31 rfl (lv_at hl 0 rfl) ?_
        obtain rfl := so_i hf
        exact W.iret (v := r20.1) hx hb hr (qw_end hS hP hD ⟨h25, hsm⟩) hS.2.2 dX4_parse_32

set_option maxHeartbeats 4000000 in
set_option maxRecDepth 100000 in
theorem cz_X4_parse (l : Launch) (D : va_G) (k : kt_T) (A : Nat → Nat) (ws : va_W) (q : Nat)  (letters : Nat → Int32) (tt_pl : Nat → Int64) (tt_sz : Int32) (size : Int32) (place : Int32) (number : Int32)  (out : Int32 × (Nat → Int64) × Int32 × Int32 × Int32) (hf : pf_X4_parse letters tt_pl tt_sz size place number = some out) (h_this : is_P k A ws q letters tt_pl tt_sz size place number)  (sz0 : Nat) : Met l yX4_parse wsX4_parse { frames := 3, cells := 0, slots := 0, locals := 67 } (va_Pc [.ref (A q)] (px_P D k ws sz0)) (qw_Q D ws sz0 (some (.int out.1)) (fun u => is_P k A u q letters out.2.1 out.2.2.1 size out.2.2.2.1 out.2.2.2.2 ∧ sm_W ws u q (q + 4))) 0 0 (va_A ws sz0) := by
  refine Met.ofW (cc := cX4_parse) (maxL := 4) (ret := (some .int)) (by decide) rfl ?_
  intro p e s m args below meth c s₁ B hml hv
  obtain ⟨rfl, hsz, hP, hK, hD0⟩ := hv
  subst hsz
  have hD := hD0.self (sz := s.heap.size)
  have C0 : cx_P p s m meth c [.ref (A q)].toArray cX4_parse 4 wsX4_parse RX4 (some .int) := ⟨B.exec, B.bytes, hml, findClass_of_methodNamed B.named, atoms_spec (ws := wsX4_parse) B.pre, B.returns, B.notSynchronized⟩
  obtain ⟨hx, hb, hml, hown, hts, hr, hlocks⟩ := id C0
  have hcf : CallFix p m c cX4_parse 4 s [.ref (A q)].toArray wsX4_parse RX4 := ⟨hx, hb, hml, hown, hts⟩
  have hA : ∀ q, s.heap.size ≤ q → va_A ws s.heap.size q := fun q h => Or.inr h
  have hS : va_S (va_A ws s.heap.size) s.heap s.heap [] := va_S.rf
  have hsm : sm_W ws ws q (q + 4) := sm_rf
  have w_0 := hts (.fieldLink RX4 18 "LeastRoutes$Tape" "told" "LLeastRoutes$Table;") (List.mem_of_getElem? (i := 1) rfl)
  have w_1 := hts (.fieldLink RX4 26 "LeastRoutes$Tape" "place" "I") (List.mem_of_getElem? (i := 2) rfl)
  have hl := lv_entry ([.ref (A q)]) (n := 4) (Nat.le_of_ble_eq_true rfl)
  rw [lg_entry_eq]
  generalize (lg_sl ([.ref (A q)]) ++ List.replicate (4 - (lg_sl ([.ref (A q)])).length) Slot.unset).toArray = ls at hl ⊢
  have hl : lv_has ls 4 [(0, .ref (A q))] := hl
  unfold pf_X4_parse at hf
  refine lv_aload_n hx hb dX4_parse_0 rfl (lv_at hl 0 rfl) ?_
  obtain ⟨h1, h2, h3⟩ := h_this
  refine va_get (D := D) (ci := 4) (v := .ref (A (q + 2))) (C := RX4) (T := TX4) (N := 5) hx hb hts in_X4_parse_X4 hown hK.1 hP (q) h1 rfl 1 (by decide) w_0 (fun _ h9 => h9) rfl dX4_parse_1 ?_
  obtain ⟨r4, h5, hf⟩ := bd_s hf
  refine kw_v (va_runV (As := []) (rest := []) hcf (cz_X3_makeEmpty l D k A ws (q + 2) tt_pl tt_sz r4 h5 h3 _) (cwV 0 hts gX4_parse_X3_makeEmpty rfl rfl rfl (by decide +kernel) ⟨Nat.le_of_ble_eq_true rfl, Nat.le_of_ble_eq_true rfl⟩) (px_V hP hK hD (ci := 3) h3.1 rfl) rfl rfl hl.1 rfl (lv_room (Nat.le_of_ble_eq_true rfl)) dX4_parse_4 ⟨Nat.zero_le _, Nat.zero_le _⟩) hD hS hA (fun u6 _ _ h7 hP hD hS => ?_)
  obtain ⟨h9, m8⟩ := h7
  have hsm := sm_tr hsm m8 (by omega) (by omega)
  refine lv_aload_n hx hb dX4_parse_7 rfl (lv_at hl 0 rfl) ?_
  refine lv_iconst (v := 0) hx hb dX4_parse_8 (by decide) ?_
  have h10 := sm_at m8 (by omega) h1
  refine va_put (D := D) (ci := 4) (v := .int 0) (ty := .int) (C := RX4) (T := TX4) (N := 5) hx hb hts in_X4_parse_X4 tyX4 tyX4_ok nmX4 hown hK.1 hP hD hS (q) h10 rfl 3 (by decide) w_1 (fun _ h9 => h9) rfl (by decide +kernel) rfl rfl (Nat.le_of_ble_eq_true rfl) dX4_parse_9 (fun _ _ hP hD hS => ?_)
  obtain ⟨u11, h12, m13, hP, hD⟩ := wd_put hP hD h10
  have hsm := sm_tr hsm m13 (by omega) (by omega)
  have h14 : u11[q]? = some (A (q), .inr (4, [.ref (A (q + 1)), .ref (A (q + 2)), .int size, .int 0, .int number])) := h12
  refine lv_iconst (v := 0) hx hb dX4_parse_12 (by decide) ?_
  refine lv_istore_n (lv' := [(1, .int 0), (0, .ref (A q))]) hx hb dX4_parse_13 rfl hl (by decide) rfl (fun ls hl => ?_)
  have h49 := sm_at m8 (by omega) h2
  have h50 := sm_at m13 (by omega) h49
  have h51 := is_T_tr h9 m13 (by omega)
  have h52 : is_P k A u11 (q) letters r4.1 r4.2 size 0 number := ⟨h14, h50, h51⟩
  exact wl_X4_parse_14 l D k A ws q _ hK C0 letters size fu_N r4.1 r4.2 0 number 0 _ _ _ _ hf h52 hsm hP hD hS (lv_sub hl [1, 0] rfl)

