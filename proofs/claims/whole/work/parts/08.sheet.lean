theorem in_X2_holdsNothing_X2 : ∀ w ∈ u_ws RX2 TX2 3, w ∈ wsX2_holdsNothing := fun w h => List.mem_cons_of_mem _ (List.mem_append_right _ h)
def pf_X2_holdsNothing (lane : Int32)   : Option (Int32) :=
  if lane = (-1) then
    some 1
  else
    some 0

set_option maxHeartbeats 4000000 in
set_option maxRecDepth 100000 in
theorem cz_X2_holdsNothing (l : Launch) (D : va_G) (k : kt_T) (A : Nat → Nat) (ws : va_W) (q : Nat)  (items : Nat → Int64) (lane : Int32) (size : Int32)  (out : Int32) (hf : pf_X2_holdsNothing lane = some out) (h_this : is_S k A ws q items lane size)  : Met l yX2_holdsNothing wsX2_holdsNothing { frames := 0, cells := 0, slots := 0, locals := 0 } (va_Pc [.ref (A q)] (pw_P D k ws)) (qs_Q (some (.int out))) 0 0 (fun _ => False) := by
  refine Met.ofW (cc := cX2_holdsNothing) (maxL := 1) (ret := (some .boolean)) (by decide) rfl ?_
  intro p e s m args below meth c s₁ B hml hv
  obtain ⟨rfl, hP, hK, hD⟩ := hv
  have C0 : cx_P p s m meth c [.ref (A q)].toArray cX2_holdsNothing 1 wsX2_holdsNothing RX2 (some .boolean) := ⟨B.exec, B.bytes, hml, findClass_of_methodNamed B.named, atoms_spec (ws := wsX2_holdsNothing) B.pre, B.returns, B.notSynchronized⟩
  obtain ⟨hx, hb, hml, hown, hts, hr, hlocks⟩ := id C0
  have hcf : CallFix p m c cX2_holdsNothing 1 s [.ref (A q)].toArray wsX2_holdsNothing RX2 := ⟨hx, hb, hml, hown, hts⟩
  have w_0 := hts (.fieldLink RX2 15 "LeastRoutes$Sheet" "ownLane" "I") (List.mem_of_getElem? (i := 1) rfl)
  have hl := lv_entry ([.ref (A q)]) (n := 1) (Nat.le_of_ble_eq_true rfl)
  rw [lg_entry_eq]
  generalize (lg_sl ([.ref (A q)]) ++ List.replicate (1 - (lg_sl ([.ref (A q)])).length) Slot.unset).toArray = ls at hl ⊢
  have hl : lv_has ls 1 [(0, .ref (A q))] := hl
  unfold pf_X2_holdsNothing at hf
  refine lv_aload_n hx hb dX2_holdsNothing_0 rfl (lv_at hl 0 rfl) ?_
  obtain ⟨h1, h2⟩ := h_this
  refine va_get (D := D) (ci := 2) (v := .int lane) (C := RX2) (T := TX2) (N := 3) hx hb hts in_X2_holdsNothing_X2 hown hK.1 hP (q) h1 rfl 1 (by decide) w_0 (fun _ h9 => h9) rfl dX2_holdsNothing_1 ?_
  refine lv_iconst (v := (-1)) hx hb dX2_holdsNothing_4 (by decide) ?_
  refine lv_icmp_ne (tgt := 12) hx hb dX2_holdsNothing_5 (by decide) (fun c3 => ?_) (fun c3 => ?_)
  · have hf := it_n c3 hf
    refine lv_iconst (v := 0) hx hb dX2_holdsNothing_12 (by decide) ?_
    obtain rfl := so_i hf
    exact W.zret (v := 0) (ty := .boolean) hx hb hr rfl (fun t ht _ => ⟨rfl, ht⟩) (fun _ h => absurd h List.not_mem_nil) dX2_holdsNothing_13
  · have hf := it_p c3 hf
    refine lv_iconst (v := 1) hx hb dX2_holdsNothing_8 (by decide) ?_
    refine lv_goto (tgt := 13) hx hb dX2_holdsNothing_9 (by decide) ?_
    obtain rfl := so_i hf
    exact W.zret (v := 1) (ty := .boolean) hx hb hr rfl (fun t ht _ => ⟨rfl, ht⟩) (fun _ h => absurd h List.not_mem_nil) dX2_holdsNothing_13

theorem in_X2_hasLaneOf_X2 : ∀ w ∈ u_ws RX2 TX2 3, w ∈ wsX2_hasLaneOf := fun w h => List.mem_cons_of_mem _ (List.mem_append_right _ h)
def pf_X2_hasLaneOf_s (lane : Int32)   : Option (Int32) :=
  if lane = lane then
    some 1
  else
    some 0

set_option maxHeartbeats 4000000 in
set_option maxRecDepth 100000 in
theorem cz_X2_hasLaneOf_s (l : Launch) (D : va_G) (k : kt_T) (A : Nat → Nat) (ws : va_W) (q : Nat)  (items : Nat → Int64) (lane : Int32) (size : Int32)  (out : Int32) (hf : pf_X2_hasLaneOf_s lane = some out) (h_this : is_S k A ws q items lane size)  : Met l yX2_hasLaneOf wsX2_hasLaneOf { frames := 0, cells := 0, slots := 0, locals := 0 } (va_Pc [.ref (A q), .ref (A q)] (pw_P D k ws)) (qs_Q (some (.int out))) 0 0 (fun _ => False) := by
  refine Met.ofW (cc := cX2_hasLaneOf) (maxL := 2) (ret := (some .boolean)) (by decide) rfl ?_
  intro p e s m args below meth c s₁ B hml hv
  obtain ⟨rfl, hP, hK, hD⟩ := hv
  have C0 : cx_P p s m meth c [.ref (A q), .ref (A q)].toArray cX2_hasLaneOf 2 wsX2_hasLaneOf RX2 (some .boolean) := ⟨B.exec, B.bytes, hml, findClass_of_methodNamed B.named, atoms_spec (ws := wsX2_hasLaneOf) B.pre, B.returns, B.notSynchronized⟩
  obtain ⟨hx, hb, hml, hown, hts, hr, hlocks⟩ := id C0
  have hcf : CallFix p m c cX2_hasLaneOf 2 s [.ref (A q), .ref (A q)].toArray wsX2_hasLaneOf RX2 := ⟨hx, hb, hml, hown, hts⟩
  have w_0 := hts (.fieldLink RX2 15 "LeastRoutes$Sheet" "ownLane" "I") (List.mem_of_getElem? (i := 1) rfl)
  have hl := lv_entry ([.ref (A q), .ref (A q)]) (n := 2) (Nat.le_of_ble_eq_true rfl)
  rw [lg_entry_eq]
  generalize (lg_sl ([.ref (A q), .ref (A q)]) ++ List.replicate (2 - (lg_sl ([.ref (A q), .ref (A q)])).length) Slot.unset).toArray = ls at hl ⊢
  have hl : lv_has ls 2 [(0, .ref (A q)), (1, .ref (A q))] := hl
  unfold pf_X2_hasLaneOf_s at hf
  refine lv_aload_n hx hb dX2_hasLaneOf_0 rfl (lv_at hl 0 rfl) ?_
  obtain ⟨h1, h2⟩ := h_this
  refine va_get (D := D) (ci := 2) (v := .int lane) (C := RX2) (T := TX2) (N := 3) hx hb hts in_X2_hasLaneOf_X2 hown hK.1 hP (q) h1 rfl 1 (by decide) w_0 (fun _ h9 => h9) rfl dX2_hasLaneOf_1 ?_
  refine lv_aload_n hx hb dX2_hasLaneOf_4 rfl (lv_at hl 1 rfl) ?_
  refine va_get (D := D) (ci := 2) (v := .int lane) (C := RX2) (T := TX2) (N := 3) hx hb hts in_X2_hasLaneOf_X2 hown hK.1 hP (q) h1 rfl 1 (by decide) w_0 (fun _ h9 => h9) rfl dX2_hasLaneOf_5 ?_
  refine lv_icmp_ne (tgt := 15) hx hb dX2_hasLaneOf_8 (by decide) (fun c3 => ?_) (fun c3 => ?_)
  · have hf := it_n c3 hf
    refine lv_iconst (v := 0) hx hb dX2_hasLaneOf_15 (by decide) ?_
    obtain rfl := so_i hf
    exact W.zret (v := 0) (ty := .boolean) hx hb hr rfl (fun t ht _ => ⟨rfl, ht⟩) (fun _ h => absurd h List.not_mem_nil) dX2_hasLaneOf_16
  · have hf := it_p c3 hf
    refine lv_iconst (v := 1) hx hb dX2_hasLaneOf_11 (by decide) ?_
    refine lv_goto (tgt := 16) hx hb dX2_hasLaneOf_12 (by decide) ?_
    obtain rfl := so_i hf
    exact W.zret (v := 1) (ty := .boolean) hx hb hr rfl (fun t ht _ => ⟨rfl, ht⟩) (fun _ h => absurd h List.not_mem_nil) dX2_hasLaneOf_16

def pf_X2_hasLaneOf (lane : Int32) (o1_lane : Int32)   : Option (Int32) :=
  if lane = o1_lane then
    some 1
  else
    some 0

set_option maxHeartbeats 4000000 in
set_option maxRecDepth 100000 in
theorem cz_X2_hasLaneOf (l : Launch) (D : va_G) (k : kt_T) (A : Nat → Nat) (ws : va_W) (q q1 : Nat)  (items : Nat → Int64) (lane : Int32) (size : Int32) (o1_items : Nat → Int64) (o1_lane : Int32) (o1_size : Int32)  (out : Int32) (hf : pf_X2_hasLaneOf lane o1_lane = some out) (h_this : is_S k A ws q items lane size) (h_o1 : is_S k A ws q1 o1_items o1_lane o1_size)  : Met l yX2_hasLaneOf wsX2_hasLaneOf { frames := 0, cells := 0, slots := 0, locals := 0 } (va_Pc [.ref (A q), .ref (A q1)] (pw_P D k ws)) (qs_Q (some (.int out))) 0 0 (fun _ => False) := by
  refine Met.ofW (cc := cX2_hasLaneOf) (maxL := 2) (ret := (some .boolean)) (by decide) rfl ?_
  intro p e s m args below meth c s₁ B hml hv
  obtain ⟨rfl, hP, hK, hD⟩ := hv
  have C0 : cx_P p s m meth c [.ref (A q), .ref (A q1)].toArray cX2_hasLaneOf 2 wsX2_hasLaneOf RX2 (some .boolean) := ⟨B.exec, B.bytes, hml, findClass_of_methodNamed B.named, atoms_spec (ws := wsX2_hasLaneOf) B.pre, B.returns, B.notSynchronized⟩
  obtain ⟨hx, hb, hml, hown, hts, hr, hlocks⟩ := id C0
  have hcf : CallFix p m c cX2_hasLaneOf 2 s [.ref (A q), .ref (A q1)].toArray wsX2_hasLaneOf RX2 := ⟨hx, hb, hml, hown, hts⟩
  have w_0 := hts (.fieldLink RX2 15 "LeastRoutes$Sheet" "ownLane" "I") (List.mem_of_getElem? (i := 1) rfl)
  have hl := lv_entry ([.ref (A q), .ref (A q1)]) (n := 2) (Nat.le_of_ble_eq_true rfl)
  rw [lg_entry_eq]
  generalize (lg_sl ([.ref (A q), .ref (A q1)]) ++ List.replicate (2 - (lg_sl ([.ref (A q), .ref (A q1)])).length) Slot.unset).toArray = ls at hl ⊢
  have hl : lv_has ls 2 [(0, .ref (A q)), (1, .ref (A q1))] := hl
  unfold pf_X2_hasLaneOf at hf
  refine lv_aload_n hx hb dX2_hasLaneOf_0 rfl (lv_at hl 0 rfl) ?_
  obtain ⟨h1, h2⟩ := h_this
  refine va_get (D := D) (ci := 2) (v := .int lane) (C := RX2) (T := TX2) (N := 3) hx hb hts in_X2_hasLaneOf_X2 hown hK.1 hP (q) h1 rfl 1 (by decide) w_0 (fun _ h9 => h9) rfl dX2_hasLaneOf_1 ?_
  refine lv_aload_n hx hb dX2_hasLaneOf_4 rfl (lv_at hl 1 rfl) ?_
  obtain ⟨h3, h4⟩ := h_o1
  refine va_get (D := D) (ci := 2) (v := .int o1_lane) (C := RX2) (T := TX2) (N := 3) hx hb hts in_X2_hasLaneOf_X2 hown hK.1 hP (q1) h3 rfl 1 (by decide) w_0 (fun _ h9 => h9) rfl dX2_hasLaneOf_5 ?_
  refine lv_icmp_ne (tgt := 15) hx hb dX2_hasLaneOf_8 (by decide) (fun c5 => ?_) (fun c5 => ?_)
  · have hf := it_n c5 hf
    refine lv_iconst (v := 0) hx hb dX2_hasLaneOf_15 (by decide) ?_
    obtain rfl := so_i hf
    exact W.zret (v := 0) (ty := .boolean) hx hb hr rfl (fun t ht _ => ⟨rfl, ht⟩) (fun _ h => absurd h List.not_mem_nil) dX2_hasLaneOf_16
  · have hf := it_p c5 hf
    refine lv_iconst (v := 1) hx hb dX2_hasLaneOf_11 (by decide) ?_
    refine lv_goto (tgt := 16) hx hb dX2_hasLaneOf_12 (by decide) ?_
    obtain rfl := so_i hf
    exact W.zret (v := 1) (ty := .boolean) hx hb hr rfl (fun t ht _ => ⟨rfl, ht⟩) (fun _ h => absurd h List.not_mem_nil) dX2_hasLaneOf_16

theorem in_X2_hasItems_X2 : ∀ w ∈ u_ws RX2 TX2 3, w ∈ wsX2_hasItems := fun w h => List.mem_cons_of_mem _ (List.mem_append_right _ h)
def pf_X2_hasItems (size : Int32)  (p1 : Int32) (p2 : Int32) : Option (Int32) :=
  if p2 < 0 then
    some 0
  else
    if p1 < 0 then
      some 0
    else
      if (size - p2) < p1 then
        some 0
      else
        some 1

set_option maxHeartbeats 4000000 in
set_option maxRecDepth 100000 in
theorem cz_X2_hasItems (l : Launch) (D : va_G) (k : kt_T) (A : Nat → Nat) (ws : va_W) (q : Nat)  (items : Nat → Int64) (lane : Int32) (size : Int32) (p1 : Int32) (p2 : Int32) (out : Int32) (hf : pf_X2_hasItems size p1 p2 = some out) (h_this : is_S k A ws q items lane size)  : Met l yX2_hasItems wsX2_hasItems { frames := 0, cells := 0, slots := 0, locals := 0 } (va_Pc [.ref (A q), .int p1, .int p2] (pw_P D k ws)) (qs_Q (some (.int out))) 0 0 (fun _ => False) := by
  refine Met.ofW (cc := cX2_hasItems) (maxL := 3) (ret := (some .boolean)) (by decide) rfl ?_
  intro p e s m args below meth c s₁ B hml hv
  obtain ⟨rfl, hP, hK, hD⟩ := hv
  have C0 : cx_P p s m meth c [.ref (A q), .int p1, .int p2].toArray cX2_hasItems 3 wsX2_hasItems RX2 (some .boolean) := ⟨B.exec, B.bytes, hml, findClass_of_methodNamed B.named, atoms_spec (ws := wsX2_hasItems) B.pre, B.returns, B.notSynchronized⟩
  obtain ⟨hx, hb, hml, hown, hts, hr, hlocks⟩ := id C0
  have hcf : CallFix p m c cX2_hasItems 3 s [.ref (A q), .int p1, .int p2].toArray wsX2_hasItems RX2 := ⟨hx, hb, hml, hown, hts⟩
  have w_0 := hts (.fieldLink RX2 19 "LeastRoutes$Sheet" "size" "I") (List.mem_of_getElem? (i := 1) rfl)
  have hl := lv_entry ([.ref (A q), .int p1, .int p2]) (n := 3) (Nat.le_of_ble_eq_true rfl)
  rw [lg_entry_eq]
  generalize (lg_sl ([.ref (A q), .int p1, .int p2]) ++ List.replicate (3 - (lg_sl ([.ref (A q), .int p1, .int p2])).length) Slot.unset).toArray = ls at hl ⊢
  have hl : lv_has ls 3 [(0, .ref (A q)), (1, .int p1), (2, .int p2)] := hl
  unfold pf_X2_hasItems at hf
  refine lv_iload_n hx hb dX2_hasItems_0 rfl (lv_at hl 2 rfl) ?_
  refine lv_if_lt (tgt := 22) hx hb dX2_hasItems_1 (by decide) (fun c1 => ?_) (fun c1 => ?_)
  · have hf := it_p c1 hf
    refine lv_iconst (v := 0) hx hb dX2_hasItems_22 (by decide) ?_
    obtain rfl := so_i hf
    exact W.zret (v := 0) (ty := .boolean) hx hb hr rfl (fun t ht _ => ⟨rfl, ht⟩) (fun _ h => absurd h List.not_mem_nil) dX2_hasItems_23
  · have hf := it_n c1 hf
    refine lv_iload_n hx hb dX2_hasItems_4 rfl (lv_at hl 1 rfl) ?_
    refine lv_if_lt (tgt := 22) hx hb dX2_hasItems_5 (by decide) (fun c2 => ?_) (fun c2 => ?_)
    · have hf := it_p c2 hf
      refine lv_iconst (v := 0) hx hb dX2_hasItems_22 (by decide) ?_
      obtain rfl := so_i hf
      exact W.zret (v := 0) (ty := .boolean) hx hb hr rfl (fun t ht _ => ⟨rfl, ht⟩) (fun _ h => absurd h List.not_mem_nil) dX2_hasItems_23
    · have hf := it_n c2 hf
      refine lv_iload_n hx hb dX2_hasItems_8 rfl (lv_at hl 1 rfl) ?_
      refine lv_aload_n hx hb dX2_hasItems_9 rfl (lv_at hl 0 rfl) ?_
      obtain ⟨h3, h4⟩ := h_this
      refine va_get (D := D) (ci := 2) (v := .int size) (C := RX2) (T := TX2) (N := 3) hx hb hts in_X2_hasItems_X2 hown hK.1 hP (q) h3 rfl 2 (by decide) w_0 (fun _ h9 => h9) rfl dX2_hasItems_10 ?_
      refine lv_iload_n hx hb dX2_hasItems_13 rfl (lv_at hl 2 rfl) ?_
      refine lv_isub hx hb dX2_hasItems_14 ?_
      refine lv_icmp_gt (tgt := 22) hx hb dX2_hasItems_15 (by decide) (fun c5 => ?_) (fun c5 => ?_)
      · have hf := it_p c5 hf
        refine lv_iconst (v := 0) hx hb dX2_hasItems_22 (by decide) ?_
        obtain rfl := so_i hf
        exact W.zret (v := 0) (ty := .boolean) hx hb hr rfl (fun t ht _ => ⟨rfl, ht⟩) (fun _ h => absurd h List.not_mem_nil) dX2_hasItems_23
      · have hf := it_n c5 hf
        refine lv_iconst (v := 1) hx hb dX2_hasItems_18 (by decide) ?_
        refine lv_goto (tgt := 23) hx hb dX2_hasItems_19 (by decide) ?_
        obtain rfl := so_i hf
        exact W.zret (v := 1) (ty := .boolean) hx hb hr rfl (fun t ht _ => ⟨rfl, ht⟩) (fun _ h => absurd h List.not_mem_nil) dX2_hasItems_23

theorem in_X2_refusal_X2 : ∀ w ∈ u_ws RX2 TX2 3, w ∈ wsX2_refusal := fun w h => List.mem_cons_of_mem _ (List.mem_append_right _ h)
def pf_X2_refusal (lane : Int32) (size : Int32)  (p1 : Int32) (p2 : Int32) (p3 : Int32) : Option (Int32) :=
  (pf_X2_holdsNothing lane).bind (fun r1 =>
    if r1 = 0 then
      if lane = p1 then
        (pf_X2_hasItems size p2 p3).bind (fun r8 =>
          if r8 = 0 then
            some (-13)
          else
            some 0)
      else
        some (-12)
    else
      some (-11))

set_option maxHeartbeats 4000000 in
set_option maxRecDepth 100000 in
theorem cz_X2_refusal (l : Launch) (D : va_G) (k : kt_T) (A : Nat → Nat) (ws : va_W) (q : Nat)  (items : Nat → Int64) (lane : Int32) (size : Int32) (p1 : Int32) (p2 : Int32) (p3 : Int32) (out : Int32) (hf : pf_X2_refusal lane size p1 p2 p3 = some out) (h_this : is_S k A ws q items lane size)  : Met l yX2_refusal wsX2_refusal { frames := 1, cells := 0, slots := 0, locals := 22 } (va_Pc [.ref (A q), .int p1, .int p2, .int p3] (pw_P D k ws)) (qs_Q (some (.int out))) 0 0 (fun _ => False) := by
  refine Met.ofW (cc := cX2_refusal) (maxL := 4) (ret := (some .int)) (by decide) rfl ?_
  intro p e s m args below meth c s₁ B hml hv
  obtain ⟨rfl, hP, hK, hD⟩ := hv
  have C0 : cx_P p s m meth c [.ref (A q), .int p1, .int p2, .int p3].toArray cX2_refusal 4 wsX2_refusal RX2 (some .int) := ⟨B.exec, B.bytes, hml, findClass_of_methodNamed B.named, atoms_spec (ws := wsX2_refusal) B.pre, B.returns, B.notSynchronized⟩
  obtain ⟨hx, hb, hml, hown, hts, hr, hlocks⟩ := id C0
  have hcf : CallFix p m c cX2_refusal 4 s [.ref (A q), .int p1, .int p2, .int p3].toArray wsX2_refusal RX2 := ⟨hx, hb, hml, hown, hts⟩
  have w_0 := hts (.fieldLink RX2 15 "LeastRoutes$Sheet" "ownLane" "I") (List.mem_of_getElem? (i := 1) rfl)
  have hl := lv_entry ([.ref (A q), .int p1, .int p2, .int p3]) (n := 4) (Nat.le_of_ble_eq_true rfl)
  rw [lg_entry_eq]
  generalize (lg_sl ([.ref (A q), .int p1, .int p2, .int p3]) ++ List.replicate (4 - (lg_sl ([.ref (A q), .int p1, .int p2, .int p3])).length) Slot.unset).toArray = ls at hl ⊢
  have hl : lv_has ls 4 [(0, .ref (A q)), (1, .int p1), (2, .int p2), (3, .int p3)] := hl
  unfold pf_X2_refusal at hf
  refine lv_aload_n hx hb dX2_refusal_0 rfl (lv_at hl 0 rfl) ?_
  obtain ⟨r1, h2, hf⟩ := bd_s hf
  refine ks_i (va_runV (As := []) (rest := []) hcf (cz_X2_holdsNothing l D k A ws (q) items lane size r1 h2 h_this) (cwV 0 hts gX2_refusal_X2_holdsNothing rfl rfl rfl (by decide +kernel) ⟨Nat.le_of_ble_eq_true rfl, Nat.le_of_ble_eq_true rfl⟩) (pw_V hP hK hD (ci := 2) h_this.1 rfl) rfl rfl hl.1 rfl (lv_room (Nat.le_of_ble_eq_true rfl)) dX2_refusal_1 ⟨Nat.zero_le _, Nat.zero_le _⟩) ?_
  refine lv_if_eq (tgt := 10) hx hb dX2_refusal_4 (by decide) (fun c3 => ?_) (fun c3 => ?_)
  · have hf := it_p c3 hf
    refine lv_aload_n hx hb dX2_refusal_10 rfl (lv_at hl 0 rfl) ?_
    obtain ⟨h4, h5⟩ := h_this
    refine va_get (D := D) (ci := 2) (v := .int lane) (C := RX2) (T := TX2) (N := 3) hx hb hts in_X2_refusal_X2 hown hK.1 hP (q) h4 rfl 1 (by decide) w_0 (fun _ h9 => h9) rfl dX2_refusal_11 ?_
    refine lv_iload_n hx hb dX2_refusal_14 rfl (lv_at hl 1 rfl) ?_
    refine lv_icmp_eq (tgt := 21) hx hb dX2_refusal_15 (by decide) (fun c6 => ?_) (fun c6 => ?_)
    · have hf := it_p c6 hf
      refine lv_aload_n hx hb dX2_refusal_21 rfl (lv_at hl 0 rfl) ?_
      refine lv_iload_n hx hb dX2_refusal_22 rfl (lv_at hl 2 rfl) ?_
      refine lv_iload_n hx hb dX2_refusal_23 rfl (lv_at hl 3 rfl) ?_
      have h7 : is_S k A ws (q) items lane size := ⟨h4, h5⟩
      obtain ⟨r8, h9, hf⟩ := bd_s hf
      refine ks_i (va_runV (As := [.int p2, .int p3]) (rest := []) hcf (cz_X2_hasItems l D k A ws (q) items lane size p2 p3 r8 h9 h7) (cwV 2 hts gX2_refusal_X2_hasItems rfl rfl rfl (by decide +kernel) ⟨Nat.le_of_ble_eq_true rfl, Nat.le_of_ble_eq_true rfl⟩) (pw_V hP hK hD (ci := 2) h7.1 rfl) rfl rfl hl.1 rfl (lv_room (Nat.le_of_ble_eq_true rfl)) dX2_refusal_24 ⟨Nat.zero_le _, Nat.zero_le _⟩) ?_
      refine lv_if_eq (tgt := 34) hx hb dX2_refusal_27 (by decide) (fun c10 => ?_) (fun c10 => ?_)
      · have hf := it_p c10 hf
        refine lv_bipush (v := (-13)) hx hb dX2_refusal_34 (by decide) ?_
        obtain rfl := so_i hf
        exact W.iret (v := (-13)) hx hb hr (fun t ht _ => ⟨rfl, ht⟩) (fun _ h => absurd h List.not_mem_nil) dX2_refusal_36
      · have hf := it_n c10 hf
        refine lv_iconst (v := 0) hx hb dX2_refusal_30 (by decide) ?_
        refine lv_goto (tgt := 36) hx hb dX2_refusal_31 (by decide) ?_
        obtain rfl := so_i hf
        exact W.iret (v := 0) hx hb hr (fun t ht _ => ⟨rfl, ht⟩) (fun _ h => absurd h List.not_mem_nil) dX2_refusal_36
    · have hf := it_n c6 hf
      refine lv_bipush (v := (-12)) hx hb dX2_refusal_18 (by decide) ?_
      obtain rfl := so_i hf
      exact W.iret (v := (-12)) hx hb hr (fun t ht _ => ⟨rfl, ht⟩) (fun _ h => absurd h List.not_mem_nil) dX2_refusal_20
  · have hf := it_n c3 hf
    refine lv_bipush (v := (-11)) hx hb dX2_refusal_7 (by decide) ?_
    obtain rfl := so_i hf
    exact W.iret (v := (-11)) hx hb hr (fun t ht _ => ⟨rfl, ht⟩) (fun _ h => absurd h List.not_mem_nil) dX2_refusal_9

theorem in_X2_startRow_X2 : ∀ w ∈ u_ws RX2 TX2 3, w ∈ wsX2_startRow := fun w h => List.mem_cons_of_mem _ (List.mem_append_right _ h)
def pf_X2_startRow (items : Nat → Int64) (lane : Int32) (size : Int32)  (p1 : Int32) (p2 : Int32) : Option ((Nat → Int64) × Int32 × Int32) :=
  (pf_J7_fill_d0a16 items 30 0).bind (fun r3 =>
    some (r3, p1, p2))

set_option maxHeartbeats 4000000 in
set_option maxRecDepth 100000 in
theorem cz_X2_startRow (l : Launch) (D : va_G) (k : kt_T) (A : Nat → Nat) (ws : va_W) (q : Nat)  (items : Nat → Int64) (lane : Int32) (size : Int32) (p1 : Int32) (p2 : Int32) (out : (Nat → Int64) × Int32 × Int32) (hf : pf_X2_startRow items lane size p1 p2 = some out) (h_this : is_S k A ws q items lane size)  (sz0 : Nat) : Met l yX2_startRow wsX2_startRow { frames := 1, cells := 0, slots := 0, locals := 24 } (va_Pc [.ref (A q), .int p1, .int p2] (px_P D k ws sz0)) (qw_Q D ws sz0 none (fun u => is_S k A u q out.1 out.2.1 out.2.2 ∧ sm_W ws u q (q + 2))) 0 0 (va_A ws sz0) := by
  refine Met.ofW (cc := cX2_startRow) (maxL := 3) (ret := none) (by decide) rfl ?_
  intro p e s m args below meth c s₁ B hml hv
  obtain ⟨rfl, hsz, hP, hK, hD0⟩ := hv
  subst hsz
  have hD := hD0.self (sz := s.heap.size)
  have C0 : cx_P p s m meth c [.ref (A q), .int p1, .int p2].toArray cX2_startRow 3 wsX2_startRow RX2 none := ⟨B.exec, B.bytes, hml, findClass_of_methodNamed B.named, atoms_spec (ws := wsX2_startRow) B.pre, B.returns, B.notSynchronized⟩
  obtain ⟨hx, hb, hml, hown, hts, hr, hlocks⟩ := id C0
  have hcf : CallFix p m c cX2_startRow 3 s [.ref (A q), .int p1, .int p2].toArray wsX2_startRow RX2 := ⟨hx, hb, hml, hown, hts⟩
  have hA : ∀ q, s.heap.size ≤ q → va_A ws s.heap.size q := fun q h => Or.inr h
  have hS : va_S (va_A ws s.heap.size) s.heap s.heap [] := va_S.rf
  have hsm : sm_W ws ws q (q + 2) := sm_rf
  have w_0 := hts (.fieldLink RX2 9 "LeastRoutes$Sheet" "items" "[J") (List.mem_of_getElem? (i := 1) rfl)
  have w_1 := hts (.fieldLink RX2 15 "LeastRoutes$Sheet" "ownLane" "I") (List.mem_of_getElem? (i := 2) rfl)
  have w_2 := hts (.fieldLink RX2 19 "LeastRoutes$Sheet" "size" "I") (List.mem_of_getElem? (i := 3) rfl)
  have hl := lv_entry ([.ref (A q), .int p1, .int p2]) (n := 3) (Nat.le_of_ble_eq_true rfl)
  rw [lg_entry_eq]
  generalize (lg_sl ([.ref (A q), .int p1, .int p2]) ++ List.replicate (3 - (lg_sl ([.ref (A q), .int p1, .int p2])).length) Slot.unset).toArray = ls at hl ⊢
  have hl : lv_has ls 3 [(0, .ref (A q)), (1, .int p1), (2, .int p2)] := hl
  unfold pf_X2_startRow at hf
  refine lv_aload_n hx hb dX2_startRow_0 rfl (lv_at hl 0 rfl) ?_
  obtain ⟨h1, h2⟩ := h_this
  refine va_get (D := D) (ci := 2) (v := .ref (A (q + 1))) (C := RX2) (T := TX2) (N := 3) hx hb hts in_X2_startRow_X2 hown hK.1 hP (q) h1 rfl 0 (by decide) w_0 (fun _ h9 => h9) rfl dX2_startRow_1 ?_
  refine lv_lconst (v := 0) hx hb dX2_startRow_4 (by decide) ?_
  obtain ⟨r3, h4, hf⟩ := bd_s hf
  refine kw_v (va_runS (As := [.ref (A (q + 1)), .long 0]) (rest := []) hcf (cz_J7_fill_d0a16 l D k A ws (q + 1) 30 items 0 r3 h4 h2 _) (va_cwS 2 hts gX2_startRow_J7_fill_d0a16 rfl rfl rfl (by decide +kernel) ⟨Nat.le_of_ble_eq_true rfl, Nat.le_of_ble_eq_true rfl⟩) (px_S hP hK hD) rfl rfl hl.1 rfl (lv_room (Nat.le_of_ble_eq_true rfl)) dX2_startRow_5 ⟨Nat.zero_le _, Nat.zero_le _⟩) hD hS hA (fun u5 _ _ h6 hP hD hS => ?_)
  obtain ⟨h8, m7⟩ := h6
  have hsm := sm_tr hsm m7 (by omega) (by omega)
  refine lv_aload_n hx hb dX2_startRow_8 rfl (lv_at hl 0 rfl) ?_
  refine lv_iload_n hx hb dX2_startRow_9 rfl (lv_at hl 1 rfl) ?_
  have h9 := sm_at m7 (by omega) h1
  refine va_put (D := D) (ci := 2) (v := .int p1) (ty := .int) (C := RX2) (T := TX2) (N := 3) hx hb hts in_X2_startRow_X2 tyX2 tyX2_ok nmX2 hown hK.1 hP hD hS (q) h9 rfl 1 (by decide) w_1 (fun _ h9 => h9) rfl (by decide +kernel) rfl rfl (Nat.le_of_ble_eq_true rfl) dX2_startRow_10 (fun _ _ hP hD hS => ?_)
  obtain ⟨u10, h11, m12, hP, hD⟩ := wd_put hP hD h9
  have hsm := sm_tr hsm m12 (by omega) (by omega)
  have h13 : u10[q]? = some (A (q), .inr (2, [.ref (A (q + 1)), .int p1, .int size])) := h11
  refine lv_aload_n hx hb dX2_startRow_13 rfl (lv_at hl 0 rfl) ?_
  refine lv_iload_n hx hb dX2_startRow_14 rfl (lv_at hl 2 rfl) ?_
  refine va_put (D := D) (ci := 2) (v := .int p2) (ty := .int) (C := RX2) (T := TX2) (N := 3) hx hb hts in_X2_startRow_X2 tyX2 tyX2_ok nmX2 hown hK.1 hP hD hS (q) h13 rfl 2 (by decide) w_2 (fun _ h9 => h9) rfl (by decide +kernel) rfl rfl (Nat.le_of_ble_eq_true rfl) dX2_startRow_15 (fun _ _ hP hD hS => ?_)
  obtain ⟨u14, h15, m16, hP, hD⟩ := wd_put hP hD h13
  have hsm := sm_tr hsm m16 (by omega) (by omega)
  have h17 : u14[q]? = some (A (q), .inr (2, [.ref (A (q + 1)), .int p1, .int p2])) := h15
  obtain rfl := so_i hf
  have h18 := sm_at m12 (by omega) h8
  have h19 := sm_at m16 (by omega) h18
  have h20 : is_S k A u14 (q) r3 p1 p2 := ⟨h17, h19⟩
  exact W.vret hx hb hr (qw_end hS hP hD ⟨h20, hsm⟩) hS.2.2 dX2_startRow_18

theorem in_X2_makeNothing_X2 : ∀ w ∈ u_ws RX2 TX2 3, w ∈ wsX2_makeNothing := fun w h => List.mem_cons_of_mem _ (List.mem_append_right _ h)
def pf_X2_makeNothing (lane : Int32) (size : Int32)   : Option (Int32 × Int32 × Int32) :=
  some (size, (-1), 0)

set_option maxHeartbeats 4000000 in
set_option maxRecDepth 100000 in
theorem cz_X2_makeNothing (l : Launch) (D : va_G) (k : kt_T) (A : Nat → Nat) (ws : va_W) (q : Nat)  (items : Nat → Int64) (lane : Int32) (size : Int32)  (out : Int32 × Int32 × Int32) (hf : pf_X2_makeNothing lane size = some out) (h_this : is_S k A ws q items lane size)  (sz0 : Nat) : Met l yX2_makeNothing wsX2_makeNothing { frames := 0, cells := 0, slots := 0, locals := 0 } (va_Pc [.ref (A q)] (px_P D k ws sz0)) (qw_Q D ws sz0 (some (.int out.1)) (fun u => is_S k A u q items out.2.1 out.2.2 ∧ sm_W ws u q (q + 2))) 0 0 (va_A ws sz0) := by
  refine Met.ofW (cc := cX2_makeNothing) (maxL := 2) (ret := (some .int)) (by decide) rfl ?_
  intro p e s m args below meth c s₁ B hml hv
  obtain ⟨rfl, hsz, hP, hK, hD0⟩ := hv
  subst hsz
  have hD := hD0.self (sz := s.heap.size)
  have C0 : cx_P p s m meth c [.ref (A q)].toArray cX2_makeNothing 2 wsX2_makeNothing RX2 (some .int) := ⟨B.exec, B.bytes, hml, findClass_of_methodNamed B.named, atoms_spec (ws := wsX2_makeNothing) B.pre, B.returns, B.notSynchronized⟩
  obtain ⟨hx, hb, hml, hown, hts, hr, hlocks⟩ := id C0
  have hcf : CallFix p m c cX2_makeNothing 2 s [.ref (A q)].toArray wsX2_makeNothing RX2 := ⟨hx, hb, hml, hown, hts⟩
  have hA : ∀ q, s.heap.size ≤ q → va_A ws s.heap.size q := fun q h => Or.inr h
  have hS : va_S (va_A ws s.heap.size) s.heap s.heap [] := va_S.rf
  have hsm : sm_W ws ws q (q + 2) := sm_rf
  have w_0 := hts (.fieldLink RX2 19 "LeastRoutes$Sheet" "size" "I") (List.mem_of_getElem? (i := 1) rfl)
  have w_1 := hts (.fieldLink RX2 15 "LeastRoutes$Sheet" "ownLane" "I") (List.mem_of_getElem? (i := 2) rfl)
  have hl := lv_entry ([.ref (A q)]) (n := 2) (Nat.le_of_ble_eq_true rfl)
  rw [lg_entry_eq]
  generalize (lg_sl ([.ref (A q)]) ++ List.replicate (2 - (lg_sl ([.ref (A q)])).length) Slot.unset).toArray = ls at hl ⊢
  have hl : lv_has ls 2 [(0, .ref (A q))] := hl
  unfold pf_X2_makeNothing at hf
  refine lv_aload_n hx hb dX2_makeNothing_0 rfl (lv_at hl 0 rfl) ?_
  obtain ⟨h1, h2⟩ := h_this
  refine va_get (D := D) (ci := 2) (v := .int size) (C := RX2) (T := TX2) (N := 3) hx hb hts in_X2_makeNothing_X2 hown hK.1 hP (q) h1 rfl 2 (by decide) w_0 (fun _ h9 => h9) rfl dX2_makeNothing_1 ?_
  refine lv_istore_n (lv' := [(1, .int size), (0, .ref (A q))]) hx hb dX2_makeNothing_4 rfl hl (by decide) rfl (fun ls hl => ?_)
  refine lv_aload_n hx hb dX2_makeNothing_5 rfl (lv_at hl 1 rfl) ?_
  refine lv_iconst (v := (-1)) hx hb dX2_makeNothing_6 (by decide) ?_
  refine va_put (D := D) (ci := 2) (v := .int (-1)) (ty := .int) (C := RX2) (T := TX2) (N := 3) hx hb hts in_X2_makeNothing_X2 tyX2 tyX2_ok nmX2 hown hK.1 hP hD hS (q) h1 rfl 1 (by decide) w_1 (fun _ h9 => h9) rfl (by decide +kernel) rfl rfl (Nat.le_of_ble_eq_true rfl) dX2_makeNothing_7 (fun _ _ hP hD hS => ?_)
  obtain ⟨u3, h4, m5, hP, hD⟩ := wd_put hP hD h1
  have hsm := sm_tr hsm m5 (by omega) (by omega)
  have h6 : u3[q]? = some (A (q), .inr (2, [.ref (A (q + 1)), .int (-1), .int size])) := h4
  refine lv_aload_n hx hb dX2_makeNothing_10 rfl (lv_at hl 1 rfl) ?_
  refine lv_iconst (v := 0) hx hb dX2_makeNothing_11 (by decide) ?_
  refine va_put (D := D) (ci := 2) (v := .int 0) (ty := .int) (C := RX2) (T := TX2) (N := 3) hx hb hts in_X2_makeNothing_X2 tyX2 tyX2_ok nmX2 hown hK.1 hP hD hS (q) h6 rfl 2 (by decide) w_0 (fun _ h9 => h9) rfl (by decide +kernel) rfl rfl (Nat.le_of_ble_eq_true rfl) dX2_makeNothing_12 (fun _ _ hP hD hS => ?_)
  obtain ⟨u7, h8, m9, hP, hD⟩ := wd_put hP hD h6
  have hsm := sm_tr hsm m9 (by omega) (by omega)
  have h10 : u7[q]? = some (A (q), .inr (2, [.ref (A (q + 1)), .int (-1), .int 0])) := h8
  refine lv_iload_n hx hb dX2_makeNothing_15 rfl (lv_at hl 0 rfl) ?_
  obtain rfl := so_i hf
  have h11 := sm_at m5 (by omega) h2
  have h12 := sm_at m9 (by omega) h11
  have h13 : is_S k A u7 (q) items (-1) 0 := ⟨h10, h12⟩
  exact W.iret (v := size) hx hb hr (qw_end hS hP hD ⟨h13, hsm⟩) hS.2.2 dX2_makeNothing_16

theorem sw_0_2 {x : Int32} (h0 : ¬ x = 0) (h1 : ¬ x = 1) (h2 : ¬ x = 2) : x.toInt < 0 ∨ 2 < x.toInt := by
  have g0 : ¬ x.toInt = 0 := fun h => h0 (Int32.toInt.inj (h.trans (by decide)))
  have g1 : ¬ x.toInt = 1 := fun h => h1 (Int32.toInt.inj (h.trans (by decide)))
  have g2 : ¬ x.toInt = 2 := fun h => h2 (Int32.toInt.inj (h.trans (by decide)))
  omega
theorem in_X2_lowestBits_X2 : ∀ w ∈ u_ws RX2 TX2 3, w ∈ wsX2_lowestBits := fun w h => List.mem_cons_of_mem _ (List.mem_append_right _ h)
def pf_X2_lowestBits (lane : Int32)  (p1 : Int64) : Option (Int64) :=
  if lane = 0 then
    some (Int32.toInt64 (Int8.toInt32 (Int32.toInt8 (Int64.toInt32 p1))))
  else if lane = 1 then
    some (Int32.toInt64 (Int16.toInt32 (Int32.toInt16 (Int64.toInt32 p1))))
  else if lane = 2 then
    some (Int32.toInt64 (Int64.toInt32 p1))
  else some p1

set_option maxHeartbeats 4000000 in
set_option maxRecDepth 100000 in
theorem cz_X2_lowestBits (l : Launch) (D : va_G) (k : kt_T) (A : Nat → Nat) (ws : va_W) (q : Nat)  (items : Nat → Int64) (lane : Int32) (size : Int32) (p1 : Int64) (out : Int64) (hf : pf_X2_lowestBits lane p1 = some out) (h_this : is_S k A ws q items lane size)  : Met l yX2_lowestBits wsX2_lowestBits { frames := 0, cells := 0, slots := 0, locals := 0 } (va_Pc [.ref (A q), .long p1] (pw_P D k ws)) (qs_Q (some (.long out))) 0 0 (fun _ => False) := by
  refine Met.ofW (cc := cX2_lowestBits) (maxL := 3) (ret := (some .long)) (by decide) rfl ?_
  intro p e s m args below meth c s₁ B hml hv
  obtain ⟨rfl, hP, hK, hD⟩ := hv
  have C0 : cx_P p s m meth c [.ref (A q), .long p1].toArray cX2_lowestBits 3 wsX2_lowestBits RX2 (some .long) := ⟨B.exec, B.bytes, hml, findClass_of_methodNamed B.named, atoms_spec (ws := wsX2_lowestBits) B.pre, B.returns, B.notSynchronized⟩
  obtain ⟨hx, hb, hml, hown, hts, hr, hlocks⟩ := id C0
  have hcf : CallFix p m c cX2_lowestBits 3 s [.ref (A q), .long p1].toArray wsX2_lowestBits RX2 := ⟨hx, hb, hml, hown, hts⟩
  have w_0 := hts (.fieldLink RX2 15 "LeastRoutes$Sheet" "ownLane" "I") (List.mem_of_getElem? (i := 1) rfl)
  have hl := lv_entry ([.ref (A q), .long p1]) (n := 3) (Nat.le_of_ble_eq_true rfl)
  rw [lg_entry_eq]
  generalize (lg_sl ([.ref (A q), .long p1]) ++ List.replicate (3 - (lg_sl ([.ref (A q), .long p1])).length) Slot.unset).toArray = ls at hl ⊢
  have hl : lv_has ls 3 [(0, .ref (A q)), (1, .long p1)] := hl
  unfold pf_X2_lowestBits at hf
  refine lv_aload_n hx hb dX2_lowestBits_0 rfl (lv_at hl 0 rfl) ?_
  obtain ⟨h1, h2⟩ := h_this
  refine va_get (D := D) (ci := 2) (v := .int lane) (C := RX2) (T := TX2) (N := 3) hx hb hts in_X2_lowestBits_X2 hown hK.1 hP (q) h1 rfl 1 (by decide) w_0 (fun _ h9 => h9) rfl dX2_lowestBits_1 ?_
  by_cases c3 : lane = 0
  · have hf := it_p c3 hf
    refine lv_tableIn (tgt := 32) hx hb dX2_lowestBits_4 (by rw [c3]; decide) (by rw [c3]; decide) (by rw [c3]; rfl) (by decide) ?_
    refine lv_lload_n hx hb dX2_lowestBits_32 rfl (lv_at hl 1 rfl) ?_
    refine lv_l2i hx hb dX2_lowestBits_33 rfl ?_
    refine lv_i2b hx hb dX2_lowestBits_34 rfl ?_
    refine lv_i2l hx hb dX2_lowestBits_35 rfl ?_
    obtain rfl := so_i hf
    exact W.lret (v := (Int32.toInt64 (Int8.toInt32 (Int32.toInt8 (Int64.toInt32 p1))))) hx hb hr (fun t ht _ => ⟨rfl, ht⟩) (fun _ h => absurd h List.not_mem_nil) dX2_lowestBits_36
  have hf := it_n c3 hf
  by_cases c4 : lane = 1
  · have hf := it_p c4 hf
    refine lv_tableIn (tgt := 37) hx hb dX2_lowestBits_4 (by rw [c4]; decide) (by rw [c4]; decide) (by rw [c4]; rfl) (by decide) ?_
    refine lv_lload_n hx hb dX2_lowestBits_37 rfl (lv_at hl 1 rfl) ?_
    refine lv_l2i hx hb dX2_lowestBits_38 rfl ?_
    refine lv_i2s hx hb dX2_lowestBits_39 rfl ?_
    refine lv_i2l hx hb dX2_lowestBits_40 rfl ?_
    obtain rfl := so_i hf
    exact W.lret (v := (Int32.toInt64 (Int16.toInt32 (Int32.toInt16 (Int64.toInt32 p1))))) hx hb hr (fun t ht _ => ⟨rfl, ht⟩) (fun _ h => absurd h List.not_mem_nil) dX2_lowestBits_41
  have hf := it_n c4 hf
  by_cases c5 : lane = 2
  · have hf := it_p c5 hf
    refine lv_tableIn (tgt := 42) hx hb dX2_lowestBits_4 (by rw [c5]; decide) (by rw [c5]; decide) (by rw [c5]; rfl) (by decide) ?_
    refine lv_lload_n hx hb dX2_lowestBits_42 rfl (lv_at hl 1 rfl) ?_
    refine lv_l2i hx hb dX2_lowestBits_43 rfl ?_
    refine lv_i2l hx hb dX2_lowestBits_44 rfl ?_
    obtain rfl := so_i hf
    exact W.lret (v := (Int32.toInt64 (Int64.toInt32 p1))) hx hb hr (fun t ht _ => ⟨rfl, ht⟩) (fun _ h => absurd h List.not_mem_nil) dX2_lowestBits_45
  have hf := it_n c5 hf
  refine lv_tableOut (tgt := 46) hx hb dX2_lowestBits_4 (sw_0_2 c3 c4 c5) (by decide) ?_
  refine lv_lload_n hx hb dX2_lowestBits_46 rfl (lv_at hl 1 rfl) ?_
  obtain rfl := so_i hf
  exact W.lret (v := p1) hx hb hr (fun t ht _ => ⟨rfl, ht⟩) (fun _ h => absurd h List.not_mem_nil) dX2_lowestBits_47

theorem in_X2_setItem_X2 : ∀ w ∈ u_ws RX2 TX2 3, w ∈ wsX2_setItem := fun w h => List.mem_cons_of_mem _ (List.mem_append_right _ h)
def pf_X2_setItem (items : Nat → Int64) (lane : Int32) (size : Int32)  (p1 : Int32) (p2 : Int64) : Option ((Nat → Int64)) :=
  (pf_X2_hasItems size p1 1).bind (fun r1 =>
    if r1 = 0 then
      some items
    else
      (pf_X2_lowestBits lane p2).bind (fun r7 =>
        ck_O (in_b p1 30) (
          some (vp_updL items (Int32.toNatClampNeg p1) r7))))

set_option maxHeartbeats 4000000 in
set_option maxRecDepth 100000 in
theorem cz_X2_setItem (l : Launch) (D : va_G) (k : kt_T) (A : Nat → Nat) (ws : va_W) (q : Nat)  (items : Nat → Int64) (lane : Int32) (size : Int32) (p1 : Int32) (p2 : Int64) (out : (Nat → Int64)) (hf : pf_X2_setItem items lane size p1 p2 = some out) (h_this : is_S k A ws q items lane size)  (sz0 : Nat) : Met l yX2_setItem wsX2_setItem { frames := 1, cells := 0, slots := 0, locals := 22 } (va_Pc [.ref (A q), .int p1, .long p2] (px_P D k ws sz0)) (qw_Q D ws sz0 none (fun u => is_S k A u q out lane size ∧ sm_W ws u q (q + 2))) 0 0 (va_A ws sz0) := by
  refine Met.ofW (cc := cX2_setItem) (maxL := 4) (ret := none) (by decide) rfl ?_
  intro p e s m args below meth c s₁ B hml hv
  obtain ⟨rfl, hsz, hP, hK, hD0⟩ := hv
  subst hsz
  have hD := hD0.self (sz := s.heap.size)
  have C0 : cx_P p s m meth c [.ref (A q), .int p1, .long p2].toArray cX2_setItem 4 wsX2_setItem RX2 none := ⟨B.exec, B.bytes, hml, findClass_of_methodNamed B.named, atoms_spec (ws := wsX2_setItem) B.pre, B.returns, B.notSynchronized⟩
  obtain ⟨hx, hb, hml, hown, hts, hr, hlocks⟩ := id C0
  have hcf : CallFix p m c cX2_setItem 4 s [.ref (A q), .int p1, .long p2].toArray wsX2_setItem RX2 := ⟨hx, hb, hml, hown, hts⟩
  have hA : ∀ q, s.heap.size ≤ q → va_A ws s.heap.size q := fun q h => Or.inr h
  have hS : va_S (va_A ws s.heap.size) s.heap s.heap [] := va_S.rf
  have hsm : sm_W ws ws q (q + 2) := sm_rf
  have w_0 := hts (.fieldLink RX2 9 "LeastRoutes$Sheet" "items" "[J") (List.mem_of_getElem? (i := 1) rfl)
  have hl := lv_entry ([.ref (A q), .int p1, .long p2]) (n := 4) (Nat.le_of_ble_eq_true rfl)
  rw [lg_entry_eq]
  generalize (lg_sl ([.ref (A q), .int p1, .long p2]) ++ List.replicate (4 - (lg_sl ([.ref (A q), .int p1, .long p2])).length) Slot.unset).toArray = ls at hl ⊢
  have hl : lv_has ls 4 [(0, .ref (A q)), (1, .int p1), (2, .long p2)] := hl
  unfold pf_X2_setItem at hf
  refine lv_aload_n hx hb dX2_setItem_0 rfl (lv_at hl 0 rfl) ?_
  refine lv_iload_n hx hb dX2_setItem_1 rfl (lv_at hl 1 rfl) ?_
  refine lv_iconst (v := 1) hx hb dX2_setItem_2 (by decide) ?_
  obtain ⟨r1, h2, hf⟩ := bd_s hf
  refine ks_i (va_runV (As := [.int p1, .int 1]) (rest := []) hcf (cz_X2_hasItems l D k A ws (q) items lane size p1 1 r1 h2 h_this) (cwV 2 hts gX2_setItem_X2_hasItems rfl rfl rfl (by decide +kernel) ⟨Nat.le_of_ble_eq_true rfl, Nat.le_of_ble_eq_true rfl⟩) (pw_V hP hK hD (ci := 2) h_this.1 rfl) rfl rfl hl.1 rfl (lv_room (Nat.le_of_ble_eq_true rfl)) dX2_setItem_3 ⟨Nat.zero_le _, Nat.zero_le _⟩) ?_
  refine lv_if_eq (tgt := 20) hx hb dX2_setItem_6 (by decide) (fun c3 => ?_) (fun c3 => ?_)
  · have hf := it_p c3 hf
    obtain rfl := so_i hf
    exact W.vret hx hb hr (qw_end hS hP hD ⟨h_this, hsm⟩) hS.2.2 dX2_setItem_20
  · have hf := it_n c3 hf
    refine lv_aload_n hx hb dX2_setItem_9 rfl (lv_at hl 0 rfl) ?_
    obtain ⟨h4, h5⟩ := h_this
    refine va_get (D := D) (ci := 2) (v := .ref (A (q + 1))) (C := RX2) (T := TX2) (N := 3) hx hb hts in_X2_setItem_X2 hown hK.1 hP (q) h4 rfl 0 (by decide) w_0 (fun _ h9 => h9) rfl dX2_setItem_10 ?_
    refine lv_iload_n hx hb dX2_setItem_13 rfl (lv_at hl 1 rfl) ?_
    refine lv_aload_n hx hb dX2_setItem_14 rfl (lv_at hl 0 rfl) ?_
    refine lv_lload_n hx hb dX2_setItem_15 rfl (lv_at hl 2 rfl) ?_
    have h6 : is_S k A ws (q) items lane size := ⟨h4, h5⟩
    obtain ⟨r7, h8, hf⟩ := bd_s hf
    refine ks_l (va_runV (As := [.long p2]) (rest := [.int p1, .ref (A (q + 1))]) hcf (cz_X2_lowestBits l D k A ws (q) items lane size p2 r7 h8 h6) (cwV 1 hts gX2_setItem_X2_lowestBits rfl rfl rfl (by decide +kernel) ⟨Nat.le_of_ble_eq_true rfl, Nat.le_of_ble_eq_true rfl⟩) (pw_V hP hK hD (ci := 2) h6.1 rfl) rfl rfl hl.1 rfl (lv_room (Nat.le_of_ble_eq_true rfl)) dX2_setItem_16 ⟨Nat.zero_le _, Nat.zero_le _⟩) ?_
    obtain ⟨h9, h10⟩ := h6
    obtain ⟨z11, hf⟩ := ck_s hf
    refine va_last hx hb hK.1 hP hD hS (q + 1) 1 h10 rfl (in_s z11) dX2_setItem_19 (fun _ _ hP hD hS => ?_)
    obtain ⟨u12, h13, m14, hP, hD⟩ := wd_put hP hD h10
    have hsm := sm_tr hsm m14 (by omega) (by omega)
    obtain rfl := so_i hf
    have h15 := sm_at m14 (by omega) h9
    have h16 : is_S k A u12 (q) (vp_updL items (Int32.toNatClampNeg p1) r7) lane size := ⟨h15, h13⟩
    exact W.vret hx hb hr (qw_end hS hP hD ⟨h16, hsm⟩) hS.2.2 dX2_setItem_20

theorem in_X2_takeItems_X2 : ∀ w ∈ u_ws RX2 TX2 3, w ∈ wsX2_takeItems := fun w h => List.mem_cons_of_mem _ (List.mem_append_right _ h)
def pf_X2_takeItems_s (items : Nat → Int64) (size : Int32)  (p1 : Int32) (p3 : Int32) (p4 : Int32) : Option ((Nat → Int64)) :=
  (pf_X2_hasItems size p3 p4).bind (fun r1 =>
    if r1 = 0 then
      some items
    else
      (pf_X2_hasItems size p1 p4).bind (fun r4 =>
        if r4 = 0 then
          some items
        else
          ck_O (cp_b p3 p1 p4 30 30) (
            some (va_cpy items items (Int32.toNatClampNeg p3) (Int32.toNatClampNeg p1) (Int32.toNatClampNeg p4)))))

set_option maxHeartbeats 4000000 in
set_option maxRecDepth 100000 in
theorem cz_X2_takeItems_s (l : Launch) (D : va_G) (k : kt_T) (A : Nat → Nat) (ws : va_W) (q : Nat)  (items : Nat → Int64) (lane : Int32) (size : Int32) (p1 : Int32) (p3 : Int32) (p4 : Int32) (out : (Nat → Int64)) (hf : pf_X2_takeItems_s items size p1 p3 p4 = some out) (h_this : is_S k A ws q items lane size)  (sz0 : Nat) : Met l yX2_takeItems wsX2_takeItems { frames := 1, cells := 0, slots := 0, locals := 60 } (va_Pc [.ref (A q), .int p1, .ref (A q), .int p3, .int p4] (px_P D k ws sz0)) (qw_Q D ws sz0 none (fun u => is_S k A u q out lane size ∧ sm_W ws u q (q + 2))) 0 0 (va_A ws sz0) := by
  refine Met.ofW (cc := cX2_takeItems) (maxL := 5) (ret := none) (by decide) rfl ?_
  intro p e s m args below meth c s₁ B hml hv
  obtain ⟨rfl, hsz, hP, hK, hD0⟩ := hv
  subst hsz
  have hD := hD0.self (sz := s.heap.size)
  have C0 : cx_P p s m meth c [.ref (A q), .int p1, .ref (A q), .int p3, .int p4].toArray cX2_takeItems 5 wsX2_takeItems RX2 none := ⟨B.exec, B.bytes, hml, findClass_of_methodNamed B.named, atoms_spec (ws := wsX2_takeItems) B.pre, B.returns, B.notSynchronized⟩
  obtain ⟨hx, hb, hml, hown, hts, hr, hlocks⟩ := id C0
  have hcf : CallFix p m c cX2_takeItems 5 s [.ref (A q), .int p1, .ref (A q), .int p3, .int p4].toArray wsX2_takeItems RX2 := ⟨hx, hb, hml, hown, hts⟩
  have hA : ∀ q, s.heap.size ≤ q → va_A ws s.heap.size q := fun q h => Or.inr h
  have hS : va_S (va_A ws s.heap.size) s.heap s.heap [] := va_S.rf
  have hsm : sm_W ws ws q (q + 2) := sm_rf
  have w_0 := hts (.fieldLink RX2 9 "LeastRoutes$Sheet" "items" "[J") (List.mem_of_getElem? (i := 1) rfl)
  have w_1 := hts (.methodLink RX2 40 arraycopyName) (List.mem_of_getElem? (i := 2) rfl)
  have w_2 := hts (.native arraycopyName) (List.mem_of_getElem? (i := 3) rfl)
  have w_3 := hts (.static arraycopyName) (List.mem_of_getElem? (i := 4) rfl)
  have w_4 := hts (.initialized "java/lang/System") (List.mem_of_getElem? (i := 5) rfl)
  have hl := lv_entry ([.ref (A q), .int p1, .ref (A q), .int p3, .int p4]) (n := 5) (Nat.le_of_ble_eq_true rfl)
  rw [lg_entry_eq]
  generalize (lg_sl ([.ref (A q), .int p1, .ref (A q), .int p3, .int p4]) ++ List.replicate (5 - (lg_sl ([.ref (A q), .int p1, .ref (A q), .int p3, .int p4])).length) Slot.unset).toArray = ls at hl ⊢
  have hl : lv_has ls 5 [(0, .ref (A q)), (1, .int p1), (2, .ref (A q)), (3, .int p3), (4, .int p4)] := hl
  unfold pf_X2_takeItems_s at hf
  refine lv_aload_n hx hb dX2_takeItems_0 rfl (lv_at hl 2 rfl) ?_
  refine lv_iload_n hx hb dX2_takeItems_1 rfl (lv_at hl 3 rfl) ?_
  refine lv_iload hx hb dX2_takeItems_2 (lv_at hl 4 rfl) ?_
  obtain ⟨r1, h2, hf⟩ := bd_s hf
  refine ks_i (va_runV (As := [.int p3, .int p4]) (rest := []) hcf (cz_X2_hasItems l D k A ws (q) items lane size p3 p4 r1 h2 h_this) (cwV 2 hts gX2_takeItems_X2_hasItems rfl rfl rfl (by decide +kernel) ⟨Nat.le_of_ble_eq_true rfl, Nat.le_of_ble_eq_true rfl⟩) (pw_V hP hK hD (ci := 2) h_this.1 rfl) rfl rfl hl.1 rfl (lv_room (Nat.le_of_ble_eq_true rfl)) dX2_takeItems_4 ⟨Nat.zero_le _, Nat.zero_le _⟩) ?_
  refine lv_if_eq (tgt := 35) hx hb dX2_takeItems_7 (by decide) (fun c3 => ?_) (fun c3 => ?_)
  · have hf := it_p c3 hf
    obtain rfl := so_i hf
    exact W.vret hx hb hr (qw_end hS hP hD ⟨h_this, hsm⟩) hS.2.2 dX2_takeItems_35
  · have hf := it_n c3 hf
    refine lv_aload_n hx hb dX2_takeItems_10 rfl (lv_at hl 0 rfl) ?_
    refine lv_iload_n hx hb dX2_takeItems_11 rfl (lv_at hl 1 rfl) ?_
    refine lv_iload hx hb dX2_takeItems_12 (lv_at hl 4 rfl) ?_
    obtain ⟨r4, h5, hf⟩ := bd_s hf
    refine ks_i (va_runV (As := [.int p1, .int p4]) (rest := []) hcf (cz_X2_hasItems l D k A ws (q) items lane size p1 p4 r4 h5 h_this) (cwV 2 hts gX2_takeItems_X2_hasItems rfl rfl rfl (by decide +kernel) ⟨Nat.le_of_ble_eq_true rfl, Nat.le_of_ble_eq_true rfl⟩) (pw_V hP hK hD (ci := 2) h_this.1 rfl) rfl rfl hl.1 rfl (lv_room (Nat.le_of_ble_eq_true rfl)) dX2_takeItems_14 ⟨Nat.zero_le _, Nat.zero_le _⟩) ?_
    refine lv_if_eq (tgt := 35) hx hb dX2_takeItems_17 (by decide) (fun c6 => ?_) (fun c6 => ?_)
    · have hf := it_p c6 hf
      obtain rfl := so_i hf
      exact W.vret hx hb hr (qw_end hS hP hD ⟨h_this, hsm⟩) hS.2.2 dX2_takeItems_35
    · have hf := it_n c6 hf
      refine lv_aload_n hx hb dX2_takeItems_20 rfl (lv_at hl 2 rfl) ?_
      obtain ⟨h7, h8⟩ := h_this
      refine va_get (D := D) (ci := 2) (v := .ref (A (q + 1))) (C := RX2) (T := TX2) (N := 3) hx hb hts in_X2_takeItems_X2 hown hK.1 hP (q) h7 rfl 0 (by decide) w_0 (fun _ h9 => h9) rfl dX2_takeItems_21 ?_
      refine lv_iload_n hx hb dX2_takeItems_24 rfl (lv_at hl 3 rfl) ?_
      refine lv_aload_n hx hb dX2_takeItems_25 rfl (lv_at hl 0 rfl) ?_
      refine va_get (D := D) (ci := 2) (v := .ref (A (q + 1))) (C := RX2) (T := TX2) (N := 3) hx hb hts in_X2_takeItems_X2 hown hK.1 hP (q) h7 rfl 0 (by decide) w_0 (fun _ h9 => h9) rfl dX2_takeItems_26 ?_
      refine lv_iload_n hx hb dX2_takeItems_29 rfl (lv_at hl 1 rfl) ?_
      refine lv_iload hx hb dX2_takeItems_30 (lv_at hl 4 rfl) ?_
      obtain ⟨z9, hf⟩ := ck_s hf
      obtain ⟨z9a, z9b, z9c, z9d, z9e⟩ := cp_s z9
      refine va_copyl hx hb (hml.trans hl.1.symm) hown w_1 w_2 w_3 w_4 hK.1 hP hD hS (q + 1) (q + 1) 1 1 h8 h8 rfl rfl rfl z9a z9b z9c z9d z9e (fun _ _ => rfl) (Nat.le_of_ble_eq_true rfl) (by decide +kernel) dX2_takeItems_32 (fun _ _ hP hD hS => ?_)
      obtain ⟨u10, h11, m12, hP, hD⟩ := wd_put hP hD h8
      have hsm := sm_tr hsm m12 (by omega) (by omega)
      obtain rfl := so_i hf
      have h13 := sm_at m12 (by omega) h7
      have h14 : is_S k A u10 (q) (va_cpy items items (Int32.toNatClampNeg p3) (Int32.toNatClampNeg p1) (Int32.toNatClampNeg p4)) lane size := ⟨h13, h11⟩
      exact W.vret hx hb hr (qw_end hS hP hD ⟨h14, hsm⟩) hS.2.2 dX2_takeItems_35

def pf_X2_takeItems (items : Nat → Int64) (size : Int32) (o2_items : Nat → Int64) (o2_size : Int32)  (p1 : Int32) (p3 : Int32) (p4 : Int32) : Option ((Nat → Int64)) :=
  (pf_X2_hasItems o2_size p3 p4).bind (fun r1 =>
    if r1 = 0 then
      some items
    else
      (pf_X2_hasItems size p1 p4).bind (fun r4 =>
        if r4 = 0 then
          some items
        else
          ck_O (cp_b p3 p1 p4 30 30) (
            some (va_cpy o2_items items (Int32.toNatClampNeg p3) (Int32.toNatClampNeg p1) (Int32.toNatClampNeg p4)))))

set_option maxHeartbeats 4000000 in
set_option maxRecDepth 100000 in
theorem cz_X2_takeItems (l : Launch) (D : va_G) (k : kt_T) (A : Nat → Nat) (ws : va_W) (q q2 : Nat)  (items : Nat → Int64) (lane : Int32) (size : Int32) (o2_items : Nat → Int64) (o2_lane : Int32) (o2_size : Int32) (p1 : Int32) (p3 : Int32) (p4 : Int32) (out : (Nat → Int64)) (hf : pf_X2_takeItems items size o2_items o2_size p1 p3 p4 = some out) (h_this : is_S k A ws q items lane size) (h_o2 : is_S k A ws q2 o2_items o2_lane o2_size) (hdis : (q + 2 ≤ q2 ∨ q2 + 2 ≤ q)) (sz0 : Nat) : Met l yX2_takeItems wsX2_takeItems { frames := 1, cells := 0, slots := 0, locals := 60 } (va_Pc [.ref (A q), .int p1, .ref (A q2), .int p3, .int p4] (px_P D k ws sz0)) (qw_Q D ws sz0 none (fun u => is_S k A u q out lane size ∧ sm_W ws u q (q + 2))) 0 0 (va_A ws sz0) := by
  refine Met.ofW (cc := cX2_takeItems) (maxL := 5) (ret := none) (by decide) rfl ?_
  intro p e s m args below meth c s₁ B hml hv
  obtain ⟨rfl, hsz, hP, hK, hD0⟩ := hv
  subst hsz
  have hD := hD0.self (sz := s.heap.size)
  have C0 : cx_P p s m meth c [.ref (A q), .int p1, .ref (A q2), .int p3, .int p4].toArray cX2_takeItems 5 wsX2_takeItems RX2 none := ⟨B.exec, B.bytes, hml, findClass_of_methodNamed B.named, atoms_spec (ws := wsX2_takeItems) B.pre, B.returns, B.notSynchronized⟩
  obtain ⟨hx, hb, hml, hown, hts, hr, hlocks⟩ := id C0
  have hcf : CallFix p m c cX2_takeItems 5 s [.ref (A q), .int p1, .ref (A q2), .int p3, .int p4].toArray wsX2_takeItems RX2 := ⟨hx, hb, hml, hown, hts⟩
  have hA : ∀ q, s.heap.size ≤ q → va_A ws s.heap.size q := fun q h => Or.inr h
  have hS : va_S (va_A ws s.heap.size) s.heap s.heap [] := va_S.rf
  have hsm : sm_W ws ws q (q + 2) := sm_rf
  have w_0 := hts (.fieldLink RX2 9 "LeastRoutes$Sheet" "items" "[J") (List.mem_of_getElem? (i := 1) rfl)
  have w_1 := hts (.methodLink RX2 40 arraycopyName) (List.mem_of_getElem? (i := 2) rfl)
  have w_2 := hts (.native arraycopyName) (List.mem_of_getElem? (i := 3) rfl)
  have w_3 := hts (.static arraycopyName) (List.mem_of_getElem? (i := 4) rfl)
  have w_4 := hts (.initialized "java/lang/System") (List.mem_of_getElem? (i := 5) rfl)
  have hl := lv_entry ([.ref (A q), .int p1, .ref (A q2), .int p3, .int p4]) (n := 5) (Nat.le_of_ble_eq_true rfl)
  rw [lg_entry_eq]
  generalize (lg_sl ([.ref (A q), .int p1, .ref (A q2), .int p3, .int p4]) ++ List.replicate (5 - (lg_sl ([.ref (A q), .int p1, .ref (A q2), .int p3, .int p4])).length) Slot.unset).toArray = ls at hl ⊢
  have hl : lv_has ls 5 [(0, .ref (A q)), (1, .int p1), (2, .ref (A q2)), (3, .int p3), (4, .int p4)] := hl
  unfold pf_X2_takeItems at hf
  refine lv_aload_n hx hb dX2_takeItems_0 rfl (lv_at hl 2 rfl) ?_
  refine lv_iload_n hx hb dX2_takeItems_1 rfl (lv_at hl 3 rfl) ?_
  refine lv_iload hx hb dX2_takeItems_2 (lv_at hl 4 rfl) ?_
  obtain ⟨r1, h2, hf⟩ := bd_s hf
  refine ks_i (va_runV (As := [.int p3, .int p4]) (rest := []) hcf (cz_X2_hasItems l D k A ws (q2) o2_items o2_lane o2_size p3 p4 r1 h2 h_o2) (cwV 2 hts gX2_takeItems_X2_hasItems rfl rfl rfl (by decide +kernel) ⟨Nat.le_of_ble_eq_true rfl, Nat.le_of_ble_eq_true rfl⟩) (pw_V hP hK hD (ci := 2) h_o2.1 rfl) rfl rfl hl.1 rfl (lv_room (Nat.le_of_ble_eq_true rfl)) dX2_takeItems_4 ⟨Nat.zero_le _, Nat.zero_le _⟩) ?_
  refine lv_if_eq (tgt := 35) hx hb dX2_takeItems_7 (by decide) (fun c3 => ?_) (fun c3 => ?_)
  · have hf := it_p c3 hf
    obtain rfl := so_i hf
    exact W.vret hx hb hr (qw_end hS hP hD ⟨h_this, hsm⟩) hS.2.2 dX2_takeItems_35
  · have hf := it_n c3 hf
    refine lv_aload_n hx hb dX2_takeItems_10 rfl (lv_at hl 0 rfl) ?_
    refine lv_iload_n hx hb dX2_takeItems_11 rfl (lv_at hl 1 rfl) ?_
    refine lv_iload hx hb dX2_takeItems_12 (lv_at hl 4 rfl) ?_
    obtain ⟨r4, h5, hf⟩ := bd_s hf
    refine ks_i (va_runV (As := [.int p1, .int p4]) (rest := []) hcf (cz_X2_hasItems l D k A ws (q) items lane size p1 p4 r4 h5 h_this) (cwV 2 hts gX2_takeItems_X2_hasItems rfl rfl rfl (by decide +kernel) ⟨Nat.le_of_ble_eq_true rfl, Nat.le_of_ble_eq_true rfl⟩) (pw_V hP hK hD (ci := 2) h_this.1 rfl) rfl rfl hl.1 rfl (lv_room (Nat.le_of_ble_eq_true rfl)) dX2_takeItems_14 ⟨Nat.zero_le _, Nat.zero_le _⟩) ?_
    refine lv_if_eq (tgt := 35) hx hb dX2_takeItems_17 (by decide) (fun c6 => ?_) (fun c6 => ?_)
    · have hf := it_p c6 hf
      obtain rfl := so_i hf
      exact W.vret hx hb hr (qw_end hS hP hD ⟨h_this, hsm⟩) hS.2.2 dX2_takeItems_35
    · have hf := it_n c6 hf
      refine lv_aload_n hx hb dX2_takeItems_20 rfl (lv_at hl 2 rfl) ?_
      obtain ⟨h7, h8⟩ := h_o2
      refine va_get (D := D) (ci := 2) (v := .ref (A (q2 + 1))) (C := RX2) (T := TX2) (N := 3) hx hb hts in_X2_takeItems_X2 hown hK.1 hP (q2) h7 rfl 0 (by decide) w_0 (fun _ h9 => h9) rfl dX2_takeItems_21 ?_
      refine lv_iload_n hx hb dX2_takeItems_24 rfl (lv_at hl 3 rfl) ?_
      refine lv_aload_n hx hb dX2_takeItems_25 rfl (lv_at hl 0 rfl) ?_
      obtain ⟨h9, h10⟩ := h_this
      refine va_get (D := D) (ci := 2) (v := .ref (A (q + 1))) (C := RX2) (T := TX2) (N := 3) hx hb hts in_X2_takeItems_X2 hown hK.1 hP (q) h9 rfl 0 (by decide) w_0 (fun _ h9 => h9) rfl dX2_takeItems_26 ?_
      refine lv_iload_n hx hb dX2_takeItems_29 rfl (lv_at hl 1 rfl) ?_
      refine lv_iload hx hb dX2_takeItems_30 (lv_at hl 4 rfl) ?_
      obtain ⟨z11, hf⟩ := ck_s hf
      obtain ⟨z11a, z11b, z11c, z11d, z11e⟩ := cp_s z11
      refine va_copyl hx hb (hml.trans hl.1.symm) hown w_1 w_2 w_3 w_4 hK.1 hP hD hS (q2 + 1) (q + 1) 1 1 h8 h10 rfl rfl rfl z11a z11b z11c z11d z11e (fun _ _ => rfl) (Nat.le_of_ble_eq_true rfl) (by decide +kernel) dX2_takeItems_32 (fun _ _ hP hD hS => ?_)
      obtain ⟨u12, h13, m14, hP, hD⟩ := wd_put hP hD h10
      have hsm := sm_tr hsm m14 (by omega) (by omega)
      obtain rfl := so_i hf
      have h15 := sm_at m14 (by omega) h9
      have h16 : is_S k A u12 (q) (va_cpy o2_items items (Int32.toNatClampNeg p3) (Int32.toNatClampNeg p1) (Int32.toNatClampNeg p4)) lane size := ⟨h15, h13⟩
      exact W.vret hx hb hr (qw_end hS hP hD ⟨h16, hsm⟩) hS.2.2 dX2_takeItems_35

theorem in_X2_holdsPairs_X2 : ∀ w ∈ u_ws RX2 TX2 3, w ∈ wsX2_holdsPairs := fun w h => List.mem_cons_of_mem _ (List.mem_append_right _ h)
def lp_X2_holdsPairs_15  (items : Nat → Int64) (x1 : Int32) (x2 : Int32) : Nat → Int32 → Option (Int32)
  | 0, _ => none
  | n + 1, x3 =>
    if x2 ≤ x3 then
      some 1
    else
      ck_O (in_b (x1 + (2 * x3)) 30) (
        lt_O (items (Int32.toNatClampNeg (x1 + (2 * x3)))) (fun y8 =>
          ck_O (in_b ((x1 + (2 * x3)) + 1) 30) (
            lt_O (items (Int32.toNatClampNeg ((x1 + (2 * x3)) + 1))) (fun y11 =>
              if (lg_cmp y8 0) < 0 then
                some 0
              else
                if 0 ≤ (lg_cmp y8 256) then
                  some 0
                else
                  if (lg_cmp y11 0) < 0 then
                    some 0
                  else
                    if (lg_cmp y11 8) < 0 then
                      lp_X2_holdsPairs_15 items x1 x2 n (x3 + 1)
                    else
                      some 0))))

def pf_X2_holdsPairs (items : Nat → Int64) (size : Int32)  (p1 : Int32) (p2 : Int32) : Option (Int32) :=
  (pf_X2_hasItems size p1 (2 * p2)).bind (fun r1 =>
    if r1 = 0 then
      some 0
    else
      lp_X2_holdsPairs_15 items p1 p2 fu_N 0)

set_option maxHeartbeats 4000000 in
set_option maxRecDepth 100000 in
theorem wl_X2_holdsPairs_15 {p : Program} {e : Env} {s : State} {m : MethodId} {args : Array Value} {below : List Frame} {meth : Method} {c : Code} (l : Launch) (D : va_G) (k : kt_T) (A : Nat → Nat) (ws : va_W) (q : Nat)  (out : Int32) (hK : kk_P D k s) (C0 : cx_P p s m meth c args cX2_holdsPairs 8 wsX2_holdsPairs RX2 (some .boolean))  (items : Nat → Int64) (lane : Int32) (size : Int32) (x1 : Int32) (x2 : Int32)   (h_this : is_S k A ws q items lane size) (hP : va_P D vwCl ws s.heap) (hD : va_D (fun _ => True) ws) : ∀ (n : Nat) (x3 : Int32) (ls : Array Slot), lp_X2_holdsPairs_15 items x1 x2 n x3 = some out → lv_has ls 8 [(0, .ref (A q)), (1, .int x1), (2, .int x2), (3, .int x3)] → W p l e (headSpec wsX2_holdsPairs { frames := 1, cells := 0, slots := 0, locals := 22 }).room s m args below meth c s.heap [] 0 0 (MQ below (qs_Q (some (.int out))) args s 0 0 (fun _ => False)) (F0 m 15 ls []) := by
  obtain ⟨hx, hb, hml, hown, hts, hr, hlocks⟩ := id C0
  have hcf : CallFix p m c cX2_holdsPairs 8 s args wsX2_holdsPairs RX2 := ⟨hx, hb, hml, hown, hts⟩
  have w_0 := hts (.fieldLink RX2 9 "LeastRoutes$Sheet" "items" "[J") (List.mem_of_getElem? (i := 1) rfl)
  have w_1 := hts (.constantLong RX2 46 (256)) (List.mem_of_getElem? (i := 2) rfl)
  have w_2 := hts (.constantLong RX2 48 (8)) (List.mem_of_getElem? (i := 3) rfl)
  intro n
  induction n with
  | zero =>
    intro x3 ls hf hl
    exact (no_s hf).elim
  | succ n ih =>
    intro x3 ls hf hl
    rw [lp_X2_holdsPairs_15] at hf
    refine lv_iload_n hx hb dX2_holdsPairs_15 rfl (lv_at hl 3 rfl) ?_
    refine lv_iload_n hx hb dX2_holdsPairs_16 rfl (lv_at hl 2 rfl) ?_
    refine lv_icmp_ge (tgt := 86) hx hb dX2_holdsPairs_17 (by decide) (fun c4 => ?_) (fun c4 => ?_)
    · have hf := it_p c4 hf
      refine lv_iconst (v := 1) hx hb dX2_holdsPairs_86 (by decide) ?_
      obtain rfl := so_i hf
      exact W.zret (v := 1) (ty := .boolean) hx hb hr rfl (fun t ht _ => ⟨rfl, ht⟩) (fun _ h => absurd h List.not_mem_nil) dX2_holdsPairs_87
    · have hf := it_n c4 hf
      refine lv_aload_n hx hb dX2_holdsPairs_20 rfl (lv_at hl 0 rfl) ?_
      obtain ⟨h5, h6⟩ := h_this
      refine va_get (D := D) (ci := 2) (v := .ref (A (q + 1))) (C := RX2) (T := TX2) (N := 3) hx hb hts in_X2_holdsPairs_X2 hown hK.1 hP (q) h5 rfl 0 (by decide) w_0 (fun _ h9 => h9) rfl dX2_holdsPairs_21 ?_
      refine lv_iload_n hx hb dX2_holdsPairs_24 rfl (lv_at hl 1 rfl) ?_
      refine lv_iconst (v := 2) hx hb dX2_holdsPairs_25 (by decide) ?_
      refine lv_iload_n hx hb dX2_holdsPairs_26 rfl (lv_at hl 3 rfl) ?_
      refine lv_imul hx hb dX2_holdsPairs_27 ?_
      refine lv_iadd hx hb dX2_holdsPairs_28 ?_
      obtain ⟨z7, hf⟩ := ck_s hf
      refine va_lald hx hb hK.1 hP (q + 1) 1 h6 rfl (in_s z7) dX2_holdsPairs_29 ?_
      refine lv_topl (fun y8 e9 => ?_)
      have hf := lt_s' e9 hf
      refine lv_lstore (lv' := [(4, .long y8), (0, .ref (A q)), (1, .int x1), (2, .int x2), (3, .int x3)]) hx hb dX2_holdsPairs_30 hl (by decide) rfl (fun ls hl => ?_)
      refine lv_aload_n hx hb dX2_holdsPairs_32 rfl (lv_at hl 1 rfl) ?_
      refine va_get (D := D) (ci := 2) (v := .ref (A (q + 1))) (C := RX2) (T := TX2) (N := 3) hx hb hts in_X2_holdsPairs_X2 hown hK.1 hP (q) h5 rfl 0 (by decide) w_0 (fun _ h9 => h9) rfl dX2_holdsPairs_33 ?_
      refine lv_iload_n hx hb dX2_holdsPairs_36 rfl (lv_at hl 2 rfl) ?_
      refine lv_iconst (v := 2) hx hb dX2_holdsPairs_37 (by decide) ?_
      refine lv_iload_n hx hb dX2_holdsPairs_38 rfl (lv_at hl 4 rfl) ?_
      refine lv_imul hx hb dX2_holdsPairs_39 ?_
      refine lv_iadd hx hb dX2_holdsPairs_40 ?_
      refine lv_iconst (v := 1) hx hb dX2_holdsPairs_41 (by decide) ?_
      refine lv_iadd hx hb dX2_holdsPairs_42 ?_
      obtain ⟨z10, hf⟩ := ck_s hf
      refine va_lald hx hb hK.1 hP (q + 1) 1 h6 rfl (in_s z10) dX2_holdsPairs_43 ?_
      refine lv_topl (fun y11 e12 => ?_)
      have hf := lt_s' e12 hf
      refine lv_lstore (lv' := [(6, .long y11), (4, .long y8), (0, .ref (A q)), (1, .int x1), (2, .int x2), (3, .int x3)]) hx hb dX2_holdsPairs_44 hl (by decide) rfl (fun ls hl => ?_)
      refine lv_lload hx hb dX2_holdsPairs_46 (lv_at hl 1 rfl) ?_
      refine lv_lconst (v := 0) hx hb dX2_holdsPairs_48 (by decide) ?_
      refine W.lcmp hx hb dX2_holdsPairs_49 ?_
      refine lv_if_lt (tgt := 78) hx hb dX2_holdsPairs_50 (by decide) (fun c13 => ?_) (fun c13 => ?_)
      · have hf := it_p c13 hf
        refine lv_iconst (v := 0) hx hb dX2_holdsPairs_78 (by decide) ?_
        obtain rfl := so_i hf
        exact W.zret (v := 0) (ty := .boolean) hx hb hr rfl (fun t ht _ => ⟨rfl, ht⟩) (fun _ h => absurd h List.not_mem_nil) dX2_holdsPairs_79
      · have hf := it_n c13 hf
        refine lv_lload hx hb dX2_holdsPairs_53 (lv_at hl 1 rfl) ?_
        refine lv_ldc2 hx hb hown w_1 dX2_holdsPairs_55 ?_
        refine W.lcmp hx hb dX2_holdsPairs_58 ?_
        refine lv_if_ge (tgt := 78) hx hb dX2_holdsPairs_59 (by decide) (fun c14 => ?_) (fun c14 => ?_)
        · have hf := it_p c14 hf
          refine lv_iconst (v := 0) hx hb dX2_holdsPairs_78 (by decide) ?_
          obtain rfl := so_i hf
          exact W.zret (v := 0) (ty := .boolean) hx hb hr rfl (fun t ht _ => ⟨rfl, ht⟩) (fun _ h => absurd h List.not_mem_nil) dX2_holdsPairs_79
        · have hf := it_n c14 hf
          refine lv_lload hx hb dX2_holdsPairs_62 (lv_at hl 0 rfl) ?_
          refine lv_lconst (v := 0) hx hb dX2_holdsPairs_64 (by decide) ?_
          refine W.lcmp hx hb dX2_holdsPairs_65 ?_
          refine lv_if_lt (tgt := 78) hx hb dX2_holdsPairs_66 (by decide) (fun c15 => ?_) (fun c15 => ?_)
          · have hf := it_p c15 hf
            refine lv_iconst (v := 0) hx hb dX2_holdsPairs_78 (by decide) ?_
            obtain rfl := so_i hf
            exact W.zret (v := 0) (ty := .boolean) hx hb hr rfl (fun t ht _ => ⟨rfl, ht⟩) (fun _ h => absurd h List.not_mem_nil) dX2_holdsPairs_79
          · have hf := it_n c15 hf
            refine lv_lload hx hb dX2_holdsPairs_69 (lv_at hl 0 rfl) ?_
            refine lv_ldc2 hx hb hown w_2 dX2_holdsPairs_71 ?_
            refine W.lcmp hx hb dX2_holdsPairs_74 ?_
            refine lv_if_lt (tgt := 80) hx hb dX2_holdsPairs_75 (by decide) (fun c16 => ?_) (fun c16 => ?_)
            · have hf := it_p c16 hf
              refine lv_iinc (v := (x3 + 1)) (lv' := [(3, .int (x3 + 1)), (6, .long y11), (4, .long y8), (0, .ref (A q)), (1, .int x1), (2, .int x2)]) hx hb dX2_holdsPairs_80 hl (k := 5) rfl rfl (by decide) rfl (fun ls hl => ?_)
              refine lv_goto (tgt := 15) hx hb dX2_holdsPairs_83 (by decide) ?_
              exact ih (x3 + 1) _ hf (lv_sub hl [3, 4, 5, 0] rfl)
            · have hf := it_n c16 hf
              refine lv_iconst (v := 0) hx hb dX2_holdsPairs_78 (by decide) ?_
              obtain rfl := so_i hf
              exact W.zret (v := 0) (ty := .boolean) hx hb hr rfl (fun t ht _ => ⟨rfl, ht⟩) (fun _ h => absurd h List.not_mem_nil) dX2_holdsPairs_79

set_option maxHeartbeats 4000000 in
set_option maxRecDepth 100000 in
theorem cz_X2_holdsPairs (l : Launch) (D : va_G) (k : kt_T) (A : Nat → Nat) (ws : va_W) (q : Nat)  (items : Nat → Int64) (lane : Int32) (size : Int32) (p1 : Int32) (p2 : Int32) (out : Int32) (hf : pf_X2_holdsPairs items size p1 p2 = some out) (h_this : is_S k A ws q items lane size)  : Met l yX2_holdsPairs wsX2_holdsPairs { frames := 1, cells := 0, slots := 0, locals := 22 } (va_Pc [.ref (A q), .int p1, .int p2] (pw_P D k ws)) (qs_Q (some (.int out))) 0 0 (fun _ => False) := by
  refine Met.ofW (cc := cX2_holdsPairs) (maxL := 8) (ret := (some .boolean)) (by decide) rfl ?_
  intro p e s m args below meth c s₁ B hml hv
  obtain ⟨rfl, hP, hK, hD⟩ := hv
  have C0 : cx_P p s m meth c [.ref (A q), .int p1, .int p2].toArray cX2_holdsPairs 8 wsX2_holdsPairs RX2 (some .boolean) := ⟨B.exec, B.bytes, hml, findClass_of_methodNamed B.named, atoms_spec (ws := wsX2_holdsPairs) B.pre, B.returns, B.notSynchronized⟩
  obtain ⟨hx, hb, hml, hown, hts, hr, hlocks⟩ := id C0
  have hcf : CallFix p m c cX2_holdsPairs 8 s [.ref (A q), .int p1, .int p2].toArray wsX2_holdsPairs RX2 := ⟨hx, hb, hml, hown, hts⟩
  have hl := lv_entry ([.ref (A q), .int p1, .int p2]) (n := 8) (Nat.le_of_ble_eq_true rfl)
  rw [lg_entry_eq]
  generalize (lg_sl ([.ref (A q), .int p1, .int p2]) ++ List.replicate (8 - (lg_sl ([.ref (A q), .int p1, .int p2])).length) Slot.unset).toArray = ls at hl ⊢
  have hl : lv_has ls 8 [(0, .ref (A q)), (1, .int p1), (2, .int p2)] := hl
  unfold pf_X2_holdsPairs at hf
  refine lv_aload_n hx hb dX2_holdsPairs_0 rfl (lv_at hl 0 rfl) ?_
  refine lv_iload_n hx hb dX2_holdsPairs_1 rfl (lv_at hl 1 rfl) ?_
  refine lv_iconst (v := 2) hx hb dX2_holdsPairs_2 (by decide) ?_
  refine lv_iload_n hx hb dX2_holdsPairs_3 rfl (lv_at hl 2 rfl) ?_
  refine lv_imul hx hb dX2_holdsPairs_4 ?_
  obtain ⟨r1, h2, hf⟩ := bd_s hf
  refine ks_i (va_runV (As := [.int p1, .int (2 * p2)]) (rest := []) hcf (cz_X2_hasItems l D k A ws (q) items lane size p1 (2 * p2) r1 h2 h_this) (cwV 2 hts gX2_holdsPairs_X2_hasItems rfl rfl rfl (by decide +kernel) ⟨Nat.le_of_ble_eq_true rfl, Nat.le_of_ble_eq_true rfl⟩) (pw_V hP hK hD (ci := 2) h_this.1 rfl) rfl rfl hl.1 rfl (lv_room (Nat.le_of_ble_eq_true rfl)) dX2_holdsPairs_5 ⟨Nat.zero_le _, Nat.zero_le _⟩) ?_
  refine lv_if_ne (tgt := 13) hx hb dX2_holdsPairs_8 (by decide) (fun c3 => ?_) (fun c3 => ?_)
  · have hf := it_n c3 hf
    refine lv_iconst (v := 0) hx hb dX2_holdsPairs_13 (by decide) ?_
    refine lv_istore_n (lv' := [(3, .int 0), (0, .ref (A q)), (1, .int p1), (2, .int p2)]) hx hb dX2_holdsPairs_14 rfl hl (by decide) rfl (fun ls hl => ?_)
    exact wl_X2_holdsPairs_15 l D k A ws q _ hK C0 items lane size p1 p2 h_this hP hD fu_N 0 _ hf (lv_sub hl [1, 2, 3, 0] rfl)
  · have hf := it_p c3 hf
    refine lv_iconst (v := 0) hx hb dX2_holdsPairs_11 (by decide) ?_
    obtain rfl := so_i hf
    exact W.zret (v := 0) (ty := .boolean) hx hb hr rfl (fun t ht _ => ⟨rfl, ht⟩) (fun _ h => absurd h List.not_mem_nil) dX2_holdsPairs_12

theorem in_X2_isToldBy_X2 : ∀ w ∈ u_ws RX2 TX2 3, w ∈ wsX2_isToldBy := fun w h => List.mem_cons_of_mem _ (List.mem_append_right _ h)
def lp_X2_isToldBy_75  (items : Nat → Int64) (x2 : Int32) (x3 : Int32) (x4 : Int32) (x5 : Int32) (x6 : Int32) (v0 : Int32) (g_31 : Int32 → Option (Int32)) : Option (Int32) :=
  if v0 = 0 then
    g_31 (x6 + 1)
  else
    ck_O (in_b ((x2 + (2 * x5)) + 1) 30) (
      ck_O (in_b ((x2 + (2 * x6)) + 1) 30) (
        if (lg_cmp (items (Int32.toNatClampNeg ((x2 + (2 * x5)) + 1))) (items (Int32.toNatClampNeg ((x2 + (2 * x6)) + 1)))) = 0 then
          g_31 (x6 + 1)
        else
          some 0))

def lp_X2_isToldBy_31  (items : Nat → Int64) (x2 : Int32) (x3 : Int32) (x4 : Int32) (x5 : Int32) (g_22 : Int32 → Option (Int32)) : Nat → Int32 → Option (Int32)
  | 0, _ => none
  | n + 1, x6 =>
    if x5 ≤ x6 then
      g_22 (x5 + 1)
    else
      ck_O (in_b (x2 + (2 * x5)) 30) (
        ck_O (in_b (x2 + (2 * x6)) 30) (
          if (lg_cmp ((items (Int32.toNatClampNeg (x2 + (2 * x5)))) >>> ((Int32.toInt64 x4) &&& 63)) ((items (Int32.toNatClampNeg (x2 + (2 * x6)))) >>> ((Int32.toInt64 x4) &&& 63))) = 0 then
            lp_X2_isToldBy_75 items x2 x3 x4 x5 x6 1 (lp_X2_isToldBy_31 items x2 x3 x4 x5 g_22 n)
          else
            lp_X2_isToldBy_75 items x2 x3 x4 x5 x6 0 (lp_X2_isToldBy_31 items x2 x3 x4 x5 g_22 n)))

def lp_X2_isToldBy_22  (items : Nat → Int64) (x2 : Int32) (x3 : Int32) (x4 : Int32) : Nat → Int32 → Option (Int32)
  | 0, _ => none
  | n + 1, x5 =>
    if x3 ≤ x5 then
      some 1
    else
      lp_X2_isToldBy_31 items x2 x3 x4 x5 (lp_X2_isToldBy_22 items x2 x3 x4 n) fu_N 0

def pf_X2_isToldBy (items : Nat → Int64) (size : Int32)  (p1 : Int32) (p2 : Int32) (p3 : Int32) : Option (Int32) :=
  (pf_X2_hasItems size p2 (2 * p3)).bind (fun r1 =>
    if r1 = 0 then
      some 0
    else
      lp_X2_isToldBy_22 items p2 p3 (8 - p1) fu_N 0)

set_option maxHeartbeats 4000000 in
set_option maxRecDepth 100000 in
theorem wl_X2_isToldBy_75 {p : Program} {e : Env} {s : State} {m : MethodId} {args : Array Value} {below : List Frame} {meth : Method} {c : Code} (l : Launch) (D : va_G) (k : kt_T) (A : Nat → Nat) (ws : va_W) (q : Nat)  (out : Int32) (hK : kk_P D k s) (C0 : cx_P p s m meth c args cX2_isToldBy 8 wsX2_isToldBy RX2 (some .boolean))  (items : Nat → Int64) (lane : Int32) (size : Int32) (x2 : Int32) (x3 : Int32) (x4 : Int32) (x5 : Int32) (x6 : Int32) (v0 : Int32) (g_31 : Int32 → Option (Int32)) (hg_31 : ∀ (x6 : Int32) (ls : Array Slot), g_31 x6 = some out → lv_has ls 8 [(0, .ref (A q)), (2, .int x2), (3, .int x3), (4, .int x4), (5, .int x5), (6, .int x6)] → W p l e (headSpec wsX2_isToldBy { frames := 1, cells := 0, slots := 0, locals := 22 }).room s m args below meth c s.heap [] 0 0 (MQ below (qs_Q (some (.int out))) args s 0 0 (fun _ => False)) (F0 m 31 ls [])) (h_this : is_S k A ws q items lane size) (hP : va_P D vwCl ws s.heap) (hD : va_D (fun _ => True) ws) : ∀ (ls : Array Slot), lp_X2_isToldBy_75 items x2 x3 x4 x5 x6 v0 g_31 = some out → lv_has ls 8 [(0, .ref (A q)), (2, .int x2), (3, .int x3), (4, .int x4), (5, .int x5), (6, .int x6)] → W p l e (headSpec wsX2_isToldBy { frames := 1, cells := 0, slots := 0, locals := 22 }).room s m args below meth c s.heap [] 0 0 (MQ below (qs_Q (some (.int out))) args s 0 0 (fun _ => False)) (F0 m 75 ls [.int v0]) := by
  obtain ⟨hx, hb, hml, hown, hts, hr, hlocks⟩ := id C0
  have hcf : CallFix p m c cX2_isToldBy 8 s args wsX2_isToldBy RX2 := ⟨hx, hb, hml, hown, hts⟩
  have w_0 := hts (.fieldLink RX2 9 "LeastRoutes$Sheet" "items" "[J") (List.mem_of_getElem? (i := 1) rfl)
  intro ls hf hl
  unfold lp_X2_isToldBy_75 at hf
  refine lv_istore (lv' := [(7, .int v0), (0, .ref (A q)), (2, .int x2), (3, .int x3), (4, .int x4), (5, .int x5), (6, .int x6)]) hx hb dX2_isToldBy_75 hl (by decide) rfl (fun ls hl => ?_)
  refine lv_iload hx hb dX2_isToldBy_77 (lv_at hl 0 rfl) ?_
  refine lv_if_eq (tgt := 114) hx hb dX2_isToldBy_79 (by decide) (fun c11 => ?_) (fun c11 => ?_)
  · have hf := it_p c11 hf
    refine lv_iinc (v := (x6 + 1)) (lv' := [(6, .int (x6 + 1)), (7, .int v0), (0, .ref (A q)), (2, .int x2), (3, .int x3), (4, .int x4), (5, .int x5)]) hx hb dX2_isToldBy_114 hl (k := 6) rfl rfl (by decide) rfl (fun ls hl => ?_)
    refine lv_goto (tgt := 31) hx hb dX2_isToldBy_117 (by decide) ?_
    exact hg_31 (x6 + 1) _ hf (lv_sub hl [2, 3, 4, 5, 6, 0] rfl)
  · have hf := it_n c11 hf
    refine lv_aload_n hx hb dX2_isToldBy_82 rfl (lv_at hl 1 rfl) ?_
    obtain ⟨h12, h13⟩ := h_this
    refine va_get (D := D) (ci := 2) (v := .ref (A (q + 1))) (C := RX2) (T := TX2) (N := 3) hx hb hts in_X2_isToldBy_X2 hown hK.1 hP (q) h12 rfl 0 (by decide) w_0 (fun _ h9 => h9) rfl dX2_isToldBy_83 ?_
    refine lv_iload_n hx hb dX2_isToldBy_86 rfl (lv_at hl 2 rfl) ?_
    refine lv_iconst (v := 2) hx hb dX2_isToldBy_87 (by decide) ?_
    refine lv_iload hx hb dX2_isToldBy_88 (lv_at hl 5 rfl) ?_
    refine lv_imul hx hb dX2_isToldBy_90 ?_
    refine lv_iadd hx hb dX2_isToldBy_91 ?_
    refine lv_iconst (v := 1) hx hb dX2_isToldBy_92 (by decide) ?_
    refine lv_iadd hx hb dX2_isToldBy_93 ?_
    obtain ⟨z14, hf⟩ := ck_s hf
    refine va_lald hx hb hK.1 hP (q + 1) 1 h13 rfl (in_s z14) dX2_isToldBy_94 ?_
    refine lv_aload_n hx hb dX2_isToldBy_95 rfl (lv_at hl 1 rfl) ?_
    refine va_get (D := D) (ci := 2) (v := .ref (A (q + 1))) (C := RX2) (T := TX2) (N := 3) hx hb hts in_X2_isToldBy_X2 hown hK.1 hP (q) h12 rfl 0 (by decide) w_0 (fun _ h9 => h9) rfl dX2_isToldBy_96 ?_
    refine lv_iload_n hx hb dX2_isToldBy_99 rfl (lv_at hl 2 rfl) ?_
    refine lv_iconst (v := 2) hx hb dX2_isToldBy_100 (by decide) ?_
    refine lv_iload hx hb dX2_isToldBy_101 (lv_at hl 6 rfl) ?_
    refine lv_imul hx hb dX2_isToldBy_103 ?_
    refine lv_iadd hx hb dX2_isToldBy_104 ?_
    refine lv_iconst (v := 1) hx hb dX2_isToldBy_105 (by decide) ?_
    refine lv_iadd hx hb dX2_isToldBy_106 ?_
    obtain ⟨z15, hf⟩ := ck_s hf
    refine va_lald hx hb hK.1 hP (q + 1) 1 h13 rfl (in_s z15) dX2_isToldBy_107 ?_
    refine W.lcmp hx hb dX2_isToldBy_108 ?_
    refine lv_if_eq (tgt := 114) hx hb dX2_isToldBy_109 (by decide) (fun c16 => ?_) (fun c16 => ?_)
    · have hf := it_p c16 hf
      refine lv_iinc (v := (x6 + 1)) (lv' := [(6, .int (x6 + 1)), (7, .int v0), (0, .ref (A q)), (2, .int x2), (3, .int x3), (4, .int x4), (5, .int x5)]) hx hb dX2_isToldBy_114 hl (k := 6) rfl rfl (by decide) rfl (fun ls hl => ?_)
      refine lv_goto (tgt := 31) hx hb dX2_isToldBy_117 (by decide) ?_
      exact hg_31 (x6 + 1) _ hf (lv_sub hl [2, 3, 4, 5, 6, 0] rfl)
    · have hf := it_n c16 hf
      refine lv_iconst (v := 0) hx hb dX2_isToldBy_112 (by decide) ?_
      obtain rfl := so_i hf
      exact W.zret (v := 0) (ty := .boolean) hx hb hr rfl (fun t ht _ => ⟨rfl, ht⟩) (fun _ h => absurd h List.not_mem_nil) dX2_isToldBy_113

set_option maxHeartbeats 4000000 in
set_option maxRecDepth 100000 in
theorem wl_X2_isToldBy_31 {p : Program} {e : Env} {s : State} {m : MethodId} {args : Array Value} {below : List Frame} {meth : Method} {c : Code} (l : Launch) (D : va_G) (k : kt_T) (A : Nat → Nat) (ws : va_W) (q : Nat)  (out : Int32) (hK : kk_P D k s) (C0 : cx_P p s m meth c args cX2_isToldBy 8 wsX2_isToldBy RX2 (some .boolean))  (items : Nat → Int64) (lane : Int32) (size : Int32) (x2 : Int32) (x3 : Int32) (x4 : Int32) (x5 : Int32)  (g_22 : Int32 → Option (Int32)) (hg_22 : ∀ (x5 : Int32) (ls : Array Slot), g_22 x5 = some out → lv_has ls 8 [(0, .ref (A q)), (2, .int x2), (3, .int x3), (4, .int x4), (5, .int x5)] → W p l e (headSpec wsX2_isToldBy { frames := 1, cells := 0, slots := 0, locals := 22 }).room s m args below meth c s.heap [] 0 0 (MQ below (qs_Q (some (.int out))) args s 0 0 (fun _ => False)) (F0 m 22 ls [])) (h_this : is_S k A ws q items lane size) (hP : va_P D vwCl ws s.heap) (hD : va_D (fun _ => True) ws) : ∀ (n : Nat) (x6 : Int32) (ls : Array Slot), lp_X2_isToldBy_31 items x2 x3 x4 x5 g_22 n x6 = some out → lv_has ls 8 [(0, .ref (A q)), (2, .int x2), (3, .int x3), (4, .int x4), (5, .int x5), (6, .int x6)] → W p l e (headSpec wsX2_isToldBy { frames := 1, cells := 0, slots := 0, locals := 22 }).room s m args below meth c s.heap [] 0 0 (MQ below (qs_Q (some (.int out))) args s 0 0 (fun _ => False)) (F0 m 31 ls []) := by
  obtain ⟨hx, hb, hml, hown, hts, hr, hlocks⟩ := id C0
  have hcf : CallFix p m c cX2_isToldBy 8 s args wsX2_isToldBy RX2 := ⟨hx, hb, hml, hown, hts⟩
  have w_0 := hts (.fieldLink RX2 9 "LeastRoutes$Sheet" "items" "[J") (List.mem_of_getElem? (i := 1) rfl)
  intro n
  induction n with
  | zero =>
    intro x6 ls hf hl
    exact (no_s hf).elim
  | succ n ih =>
    intro x6 ls hf hl
    rw [lp_X2_isToldBy_31] at hf
    refine lv_iload hx hb dX2_isToldBy_31 (lv_at hl 5 rfl) ?_
    refine lv_iload hx hb dX2_isToldBy_33 (lv_at hl 4 rfl) ?_
    refine lv_icmp_ge (tgt := 120) hx hb dX2_isToldBy_35 (by decide) (fun c5 => ?_) (fun c5 => ?_)
    · have hf := it_p c5 hf
      refine lv_iinc (v := (x5 + 1)) (lv' := [(5, .int (x5 + 1)), (0, .ref (A q)), (2, .int x2), (3, .int x3), (4, .int x4), (6, .int x6)]) hx hb dX2_isToldBy_120 hl (k := 4) rfl rfl (by decide) rfl (fun ls hl => ?_)
      refine lv_goto (tgt := 22) hx hb dX2_isToldBy_123 (by decide) ?_
      exact hg_22 (x5 + 1) _ hf (lv_sub hl [1, 2, 3, 4, 0] rfl)
    · have hf := it_n c5 hf
      refine lv_aload_n hx hb dX2_isToldBy_38 rfl (lv_at hl 0 rfl) ?_
      obtain ⟨h6, h7⟩ := h_this
      refine va_get (D := D) (ci := 2) (v := .ref (A (q + 1))) (C := RX2) (T := TX2) (N := 3) hx hb hts in_X2_isToldBy_X2 hown hK.1 hP (q) h6 rfl 0 (by decide) w_0 (fun _ h9 => h9) rfl dX2_isToldBy_39 ?_
      refine lv_iload_n hx hb dX2_isToldBy_42 rfl (lv_at hl 1 rfl) ?_
      refine lv_iconst (v := 2) hx hb dX2_isToldBy_43 (by decide) ?_
      refine lv_iload hx hb dX2_isToldBy_44 (lv_at hl 4 rfl) ?_
      refine lv_imul hx hb dX2_isToldBy_46 ?_
      refine lv_iadd hx hb dX2_isToldBy_47 ?_
      obtain ⟨z8, hf⟩ := ck_s hf
      refine va_lald hx hb hK.1 hP (q + 1) 1 h7 rfl (in_s z8) dX2_isToldBy_48 ?_
      refine lv_iload hx hb dX2_isToldBy_49 (lv_at hl 3 rfl) ?_
      refine lv_lshr hx hb dX2_isToldBy_51 rfl ?_
      refine lv_aload_n hx hb dX2_isToldBy_52 rfl (lv_at hl 0 rfl) ?_
      refine va_get (D := D) (ci := 2) (v := .ref (A (q + 1))) (C := RX2) (T := TX2) (N := 3) hx hb hts in_X2_isToldBy_X2 hown hK.1 hP (q) h6 rfl 0 (by decide) w_0 (fun _ h9 => h9) rfl dX2_isToldBy_53 ?_
      refine lv_iload_n hx hb dX2_isToldBy_56 rfl (lv_at hl 1 rfl) ?_
      refine lv_iconst (v := 2) hx hb dX2_isToldBy_57 (by decide) ?_
      refine lv_iload hx hb dX2_isToldBy_58 (lv_at hl 5 rfl) ?_
      refine lv_imul hx hb dX2_isToldBy_60 ?_
      refine lv_iadd hx hb dX2_isToldBy_61 ?_
      obtain ⟨z9, hf⟩ := ck_s hf
      refine va_lald hx hb hK.1 hP (q + 1) 1 h7 rfl (in_s z9) dX2_isToldBy_62 ?_
      refine lv_iload hx hb dX2_isToldBy_63 (lv_at hl 3 rfl) ?_
      refine lv_lshr hx hb dX2_isToldBy_65 rfl ?_
      refine W.lcmp hx hb dX2_isToldBy_66 ?_
      refine lv_if_ne (tgt := 74) hx hb dX2_isToldBy_67 (by decide) (fun c10 => ?_) (fun c10 => ?_)
      · have hf := it_n c10 hf
        refine lv_iconst (v := 0) hx hb dX2_isToldBy_74 (by decide) ?_
        have h17 : is_S k A ws (q) items lane size := ⟨h6, h7⟩
        exact wl_X2_isToldBy_75 l D k A ws q _ hK C0 items lane size x2 x3 x4 x5 x6 0 _ ih h17 hP hD _ hf (lv_sub hl [0, 1, 2, 3, 4, 5] rfl)
      · have hf := it_p c10 hf
        refine lv_iconst (v := 1) hx hb dX2_isToldBy_70 (by decide) ?_
        refine lv_goto (tgt := 75) hx hb dX2_isToldBy_71 (by decide) ?_
        have h18 : is_S k A ws (q) items lane size := ⟨h6, h7⟩
        exact wl_X2_isToldBy_75 l D k A ws q _ hK C0 items lane size x2 x3 x4 x5 x6 1 _ ih h18 hP hD _ hf (lv_sub hl [0, 1, 2, 3, 4, 5] rfl)

set_option maxHeartbeats 4000000 in
set_option maxRecDepth 100000 in
theorem wl_X2_isToldBy_22 {p : Program} {e : Env} {s : State} {m : MethodId} {args : Array Value} {below : List Frame} {meth : Method} {c : Code} (l : Launch) (D : va_G) (k : kt_T) (A : Nat → Nat) (ws : va_W) (q : Nat)  (out : Int32) (hK : kk_P D k s) (C0 : cx_P p s m meth c args cX2_isToldBy 8 wsX2_isToldBy RX2 (some .boolean))  (items : Nat → Int64) (lane : Int32) (size : Int32) (x2 : Int32) (x3 : Int32) (x4 : Int32)   (h_this : is_S k A ws q items lane size) (hP : va_P D vwCl ws s.heap) (hD : va_D (fun _ => True) ws) : ∀ (n : Nat) (x5 : Int32) (ls : Array Slot), lp_X2_isToldBy_22 items x2 x3 x4 n x5 = some out → lv_has ls 8 [(0, .ref (A q)), (2, .int x2), (3, .int x3), (4, .int x4), (5, .int x5)] → W p l e (headSpec wsX2_isToldBy { frames := 1, cells := 0, slots := 0, locals := 22 }).room s m args below meth c s.heap [] 0 0 (MQ below (qs_Q (some (.int out))) args s 0 0 (fun _ => False)) (F0 m 22 ls []) := by
  obtain ⟨hx, hb, hml, hown, hts, hr, hlocks⟩ := id C0
  have hcf : CallFix p m c cX2_isToldBy 8 s args wsX2_isToldBy RX2 := ⟨hx, hb, hml, hown, hts⟩
  intro n
  induction n with
  | zero =>
    intro x5 ls hf hl
    exact (no_s hf).elim
  | succ n ih =>
    intro x5 ls hf hl
    rw [lp_X2_isToldBy_22] at hf
    refine lv_iload hx hb dX2_isToldBy_22 (lv_at hl 4 rfl) ?_
    refine lv_iload_n hx hb dX2_isToldBy_24 rfl (lv_at hl 2 rfl) ?_
    refine lv_icmp_ge (tgt := 126) hx hb dX2_isToldBy_25 (by decide) (fun c4 => ?_) (fun c4 => ?_)
    · have hf := it_p c4 hf
      refine lv_iconst (v := 1) hx hb dX2_isToldBy_126 (by decide) ?_
      obtain rfl := so_i hf
      exact W.zret (v := 1) (ty := .boolean) hx hb hr rfl (fun t ht _ => ⟨rfl, ht⟩) (fun _ h => absurd h List.not_mem_nil) dX2_isToldBy_127
    · have hf := it_n c4 hf
      refine lv_iconst (v := 0) hx hb dX2_isToldBy_28 (by decide) ?_
      refine lv_istore (lv' := [(6, .int 0), (0, .ref (A q)), (2, .int x2), (3, .int x3), (4, .int x4), (5, .int x5)]) hx hb dX2_isToldBy_29 hl (by decide) rfl (fun ls hl => ?_)
      exact wl_X2_isToldBy_31 l D k A ws q _ hK C0 items lane size x2 x3 x4 x5 _ ih h_this hP hD fu_N 0 _ hf (lv_sub hl [1, 2, 3, 4, 5, 0] rfl)

set_option maxHeartbeats 4000000 in
set_option maxRecDepth 100000 in
theorem cz_X2_isToldBy (l : Launch) (D : va_G) (k : kt_T) (A : Nat → Nat) (ws : va_W) (q : Nat)  (items : Nat → Int64) (lane : Int32) (size : Int32) (p1 : Int32) (p2 : Int32) (p3 : Int32) (out : Int32) (hf : pf_X2_isToldBy items size p1 p2 p3 = some out) (h_this : is_S k A ws q items lane size)  : Met l yX2_isToldBy wsX2_isToldBy { frames := 1, cells := 0, slots := 0, locals := 22 } (va_Pc [.ref (A q), .int p1, .int p2, .int p3] (pw_P D k ws)) (qs_Q (some (.int out))) 0 0 (fun _ => False) := by
  refine Met.ofW (cc := cX2_isToldBy) (maxL := 8) (ret := (some .boolean)) (by decide) rfl ?_
  intro p e s m args below meth c s₁ B hml hv
  obtain ⟨rfl, hP, hK, hD⟩ := hv
  have C0 : cx_P p s m meth c [.ref (A q), .int p1, .int p2, .int p3].toArray cX2_isToldBy 8 wsX2_isToldBy RX2 (some .boolean) := ⟨B.exec, B.bytes, hml, findClass_of_methodNamed B.named, atoms_spec (ws := wsX2_isToldBy) B.pre, B.returns, B.notSynchronized⟩
  obtain ⟨hx, hb, hml, hown, hts, hr, hlocks⟩ := id C0
  have hcf : CallFix p m c cX2_isToldBy 8 s [.ref (A q), .int p1, .int p2, .int p3].toArray wsX2_isToldBy RX2 := ⟨hx, hb, hml, hown, hts⟩
  have hl := lv_entry ([.ref (A q), .int p1, .int p2, .int p3]) (n := 8) (Nat.le_of_ble_eq_true rfl)
  rw [lg_entry_eq]
  generalize (lg_sl ([.ref (A q), .int p1, .int p2, .int p3]) ++ List.replicate (8 - (lg_sl ([.ref (A q), .int p1, .int p2, .int p3])).length) Slot.unset).toArray = ls at hl ⊢
  have hl : lv_has ls 8 [(0, .ref (A q)), (1, .int p1), (2, .int p2), (3, .int p3)] := hl
  unfold pf_X2_isToldBy at hf
  refine lv_aload_n hx hb dX2_isToldBy_0 rfl (lv_at hl 0 rfl) ?_
  refine lv_iload_n hx hb dX2_isToldBy_1 rfl (lv_at hl 2 rfl) ?_
  refine lv_iconst (v := 2) hx hb dX2_isToldBy_2 (by decide) ?_
  refine lv_iload_n hx hb dX2_isToldBy_3 rfl (lv_at hl 3 rfl) ?_
  refine lv_imul hx hb dX2_isToldBy_4 ?_
  obtain ⟨r1, h2, hf⟩ := bd_s hf
  refine ks_i (va_runV (As := [.int p2, .int (2 * p3)]) (rest := []) hcf (cz_X2_hasItems l D k A ws (q) items lane size p2 (2 * p3) r1 h2 h_this) (cwV 2 hts gX2_isToldBy_X2_hasItems rfl rfl rfl (by decide +kernel) ⟨Nat.le_of_ble_eq_true rfl, Nat.le_of_ble_eq_true rfl⟩) (pw_V hP hK hD (ci := 2) h_this.1 rfl) rfl rfl hl.1 rfl (lv_room (Nat.le_of_ble_eq_true rfl)) dX2_isToldBy_5 ⟨Nat.zero_le _, Nat.zero_le _⟩) ?_
  refine lv_if_ne (tgt := 13) hx hb dX2_isToldBy_8 (by decide) (fun c3 => ?_) (fun c3 => ?_)
  · have hf := it_n c3 hf
    refine lv_bipush (v := 8) hx hb dX2_isToldBy_13 (by decide) ?_
    refine lv_iload_n hx hb dX2_isToldBy_15 rfl (lv_at hl 1 rfl) ?_
    refine lv_isub hx hb dX2_isToldBy_16 ?_
    refine lv_istore (lv' := [(4, .int (8 - p1)), (0, .ref (A q)), (1, .int p1), (2, .int p2), (3, .int p3)]) hx hb dX2_isToldBy_17 hl (by decide) rfl (fun ls hl => ?_)
    refine lv_iconst (v := 0) hx hb dX2_isToldBy_19 (by decide) ?_
    refine lv_istore (lv' := [(5, .int 0), (4, .int (8 - p1)), (0, .ref (A q)), (1, .int p1), (2, .int p2), (3, .int p3)]) hx hb dX2_isToldBy_20 hl (by decide) rfl (fun ls hl => ?_)
    exact wl_X2_isToldBy_22 l D k A ws q _ hK C0 items lane size p2 p3 (8 - p1) h_this hP hD fu_N 0 _ hf (lv_sub hl [2, 4, 5, 1, 0] rfl)
  · have hf := it_p c3 hf
    refine lv_iconst (v := 0) hx hb dX2_isToldBy_11 (by decide) ?_
    obtain rfl := so_i hf
    exact W.zret (v := 0) (ty := .boolean) hx hb hr rfl (fun t ht _ => ⟨rfl, ht⟩) (fun _ h => absurd h List.not_mem_nil) dX2_isToldBy_12

