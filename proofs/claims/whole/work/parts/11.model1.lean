def pf_X7_in   (p1 : Int64) (p2 : Int64) (p3 : Int64) : Option (Int32) :=
  if (lg_cmp p1 p2) < 0 then
    some 0
  else
    if 0 < (lg_cmp p1 p3) then
      some 0
    else
      some 1

set_option maxHeartbeats 4000000 in
set_option maxRecDepth 100000 in
theorem cz_X7_in (l : Launch) (D : va_G) (k : kt_T) (A : Nat → Nat) (ws : va_W)    (p1 : Int64) (p2 : Int64) (p3 : Int64) (out : Int32) (hf : pf_X7_in p1 p2 p3 = some out)   : Met l yX7_in wsX7_in { frames := 0, cells := 0, slots := 0, locals := 0 } (va_Pc [.long p1, .long p2, .long p3] (pw_P D k ws)) (qs_Q (some (.int out))) 0 0 (fun _ => False) := by
  refine Met.ofW (cc := cX7_in) (maxL := 6) (ret := (some .boolean)) (by decide) rfl ?_
  intro p e s m args below meth c s₁ B hml hv
  obtain ⟨rfl, hP, hK, hD⟩ := hv
  have C0 : cx_P p s m meth c [.long p1, .long p2, .long p3].toArray cX7_in 6 wsX7_in RX7 (some .boolean) := ⟨B.exec, B.bytes, hml, findClass_of_methodNamed B.named, atoms_spec (ws := wsX7_in) B.pre, B.returns, B.notSynchronized⟩
  obtain ⟨hx, hb, hml, hown, hts, hr, hlocks⟩ := id C0
  have hcf : CallFix p m c cX7_in 6 s [.long p1, .long p2, .long p3].toArray wsX7_in RX7 := ⟨hx, hb, hml, hown, hts⟩
  have hl := lv_entry ([.long p1, .long p2, .long p3]) (n := 6) (Nat.le_of_ble_eq_true rfl)
  rw [lg_entry_eq]
  generalize (lg_sl ([.long p1, .long p2, .long p3]) ++ List.replicate (6 - (lg_sl ([.long p1, .long p2, .long p3])).length) Slot.unset).toArray = ls at hl ⊢
  have hl : lv_has ls 6 [(0, .long p1), (2, .long p2), (4, .long p3)] := hl
  unfold pf_X7_in at hf
  refine lv_lload_n hx hb dX7_in_0 rfl (lv_at hl 0 rfl) ?_
  refine lv_lload_n hx hb dX7_in_1 rfl (lv_at hl 1 rfl) ?_
  refine W.lcmp hx hb dX7_in_2 ?_
  refine lv_if_lt (tgt := 17) hx hb dX7_in_3 (by decide) (fun c1 => ?_) (fun c1 => ?_)
  · have hf := it_p c1 hf
    refine lv_iconst (v := 0) hx hb dX7_in_17 (by decide) ?_
    obtain rfl := so_i hf
    exact W.zret (v := 0) (ty := .boolean) hx hb hr rfl (fun t ht _ => ⟨rfl, ht⟩) (fun _ h => absurd h List.not_mem_nil) dX7_in_18
  · have hf := it_n c1 hf
    refine lv_lload_n hx hb dX7_in_6 rfl (lv_at hl 0 rfl) ?_
    refine lv_lload hx hb dX7_in_7 (lv_at hl 2 rfl) ?_
    refine W.lcmp hx hb dX7_in_9 ?_
    refine lv_if_gt (tgt := 17) hx hb dX7_in_10 (by decide) (fun c2 => ?_) (fun c2 => ?_)
    · have hf := it_p c2 hf
      refine lv_iconst (v := 0) hx hb dX7_in_17 (by decide) ?_
      obtain rfl := so_i hf
      exact W.zret (v := 0) (ty := .boolean) hx hb hr rfl (fun t ht _ => ⟨rfl, ht⟩) (fun _ h => absurd h List.not_mem_nil) dX7_in_18
    · have hf := it_n c2 hf
      refine lv_iconst (v := 1) hx hb dX7_in_13 (by decide) ?_
      refine lv_goto (tgt := 18) hx hb dX7_in_14 (by decide) ?_
      obtain rfl := so_i hf
      exact W.zret (v := 1) (ty := .boolean) hx hb hr rfl (fun t ht _ => ⟨rfl, ht⟩) (fun _ h => absurd h List.not_mem_nil) dX7_in_18

def lp_X7_bring_s_3 (n1 : Nat) (x1 : Int32) (x3 : Int32) (x4 : Int32) : Nat → (Nat → Int32) → Int32 → Option ((Nat → Int32))
  | 0, _, _ => none
  | n + 1, f1, x5 =>
    if x4 ≤ x5 then
      some f1
    else
      ck_O (in_b (x1 + x5) n1) (
        ck_O (in_b (x3 + x5) n1) (
          lp_X7_bring_s_3 n1 x1 x3 x4 n (upd f1 (Int32.toNatClampNeg (x3 + x5)) (f1 (Int32.toNatClampNeg (x1 + x5)))) (x5 + 1)))

def pf_X7_bring_s (f1 : Nat → Int32) (n1 : Nat) (p2 : Int32) (p4 : Int32) (p5 : Int32) : Option ((Nat → Int32)) :=
  lp_X7_bring_s_3 n1 p2 p4 p5 fu_N f1 0

set_option maxHeartbeats 4000000 in
set_option maxRecDepth 100000 in
theorem wl_X7_bring_s_3 {p : Program} {e : Env} {s : State} {m : MethodId} {args : Array Value} {below : List Frame} {meth : Method} {c : Code} (l : Launch) (D : va_G) (k : kt_T) (A : Nat → Nat) (ws : va_W) (q1 : Nat) (n1 : Nat) (out : (Nat → Int32)) (hK : kk_P D k s) (C0 : cx_P p s m meth c args cX7_bring 6 wsX7_bring RX7 none)   (x1 : Int32) (x3 : Int32) (x4 : Int32)    : ∀ (n : Nat) (f1 : Nat → Int32) (x5 : Int32) (w : va_W) (H : Heap) (locs : List Loc) (ls : Array Slot), lp_X7_bring_s_3 n1 x1 x3 x4 n f1 x5 = some out → w[q1]? = some (A q1, .inl (k.1, n1, .inl f1)) → sm_W ws w q1 (q1 + 1) → va_P D vwCl w H → va_D (va_A ws s.heap.size) w → va_S (va_A ws s.heap.size) s.heap H locs → lv_has ls 6 [(0, .ref (A q1)), (1, .int x1), (2, .ref (A q1)), (3, .int x3), (4, .int x4), (5, .int x5)] → W p l e (headSpec wsX7_bring { frames := 0, cells := 0, slots := 0, locals := 0 }).room s m args below meth c H locs 0 0 (MQ below (qw_Q D ws s.heap.size none (fun u => u[q1]? = some (A q1, .inl (k.1, n1, .inl out)) ∧ sm_W ws u q1 (q1 + 1))) args s 0 0 (va_A ws s.heap.size)) (F0 m 3 ls []) := by
  obtain ⟨hx, hb, hml, hown, hts, hr, hlocks⟩ := id C0
  have hcf : CallFix p m c cX7_bring 6 s args wsX7_bring RX7 := ⟨hx, hb, hml, hown, hts⟩
  have hA : ∀ q, s.heap.size ≤ q → va_A ws s.heap.size q := fun q h => Or.inr h
  intro n
  induction n with
  | zero =>
    intro f1 x5 w H locs ls hf h_f1 hsm hP hD hS hl
    exact (no_s hf).elim
  | succ n ih =>
    intro f1 x5 w H locs ls hf h_f1 hsm hP hD hS hl
    rw [lp_X7_bring_s_3] at hf
    refine lv_iload hx hb dX7_bring_3 (lv_at hl 5 rfl) ?_
    refine lv_iload hx hb dX7_bring_5 (lv_at hl 4 rfl) ?_
    refine lv_icmp_ge (tgt := 28) hx hb dX7_bring_7 (by decide) (fun c1 => ?_) (fun c1 => ?_)
    · have hf := it_p c1 hf
      obtain rfl := so_i hf
      exact W.vret hx hb hr (qw_end hS hP hD ⟨h_f1, hsm⟩) hS.2.2 dX7_bring_28
    · have hf := it_n c1 hf
      refine lv_aload_n hx hb dX7_bring_10 rfl (lv_at hl 2 rfl) ?_
      refine lv_iload_n hx hb dX7_bring_11 rfl (lv_at hl 3 rfl) ?_
      refine lv_iload hx hb dX7_bring_12 (lv_at hl 5 rfl) ?_
      refine lv_iadd hx hb dX7_bring_14 ?_
      refine lv_aload_n hx hb dX7_bring_15 rfl (lv_at hl 0 rfl) ?_
      refine lv_iload_n hx hb dX7_bring_16 rfl (lv_at hl 1 rfl) ?_
      refine lv_iload hx hb dX7_bring_17 (lv_at hl 5 rfl) ?_
      refine lv_iadd hx hb dX7_bring_19 ?_
      obtain ⟨z2, hf⟩ := ck_s hf
      refine va_iald hx hb hK.1 hP (q1) 0 h_f1 rfl (in_s z2) dX7_bring_20 ?_
      obtain ⟨z3, hf⟩ := ck_s hf
      refine va_iast hx hb hK.1 hP hD hS (q1) 0 h_f1 rfl (in_s z3) dX7_bring_21 (fun _ _ hP hD hS => ?_)
      obtain ⟨u4, h5, m6, hP, hD⟩ := wd_put hP hD h_f1
      have hsm := sm_tr hsm m6 (by omega) (by omega)
      refine lv_iinc (v := (x5 + 1)) (lv' := [(5, .int (x5 + 1)), (0, .ref (A q1)), (1, .int x1), (2, .ref (A q1)), (3, .int x3), (4, .int x4)]) hx hb dX7_bring_22 hl (k := 5) rfl rfl (by decide) rfl (fun ls hl => ?_)
      refine lv_goto (tgt := 3) hx hb dX7_bring_25 (by decide) ?_
      exact ih (upd f1 (Int32.toNatClampNeg (x3 + x5)) (f1 (Int32.toNatClampNeg (x1 + x5)))) (x5 + 1) _ _ _ _ hf h5 hsm hP hD hS (lv_sub hl [1, 2, 3, 4, 5, 0] rfl)

set_option maxHeartbeats 4000000 in
set_option maxRecDepth 100000 in
theorem cz_X7_bring_s (l : Launch) (D : va_G) (k : kt_T) (A : Nat → Nat) (ws : va_W) (q1 : Nat) (n1 : Nat) (f1 : Nat → Int32) (p2 : Int32) (p4 : Int32) (p5 : Int32) (out : (Nat → Int32)) (hf : pf_X7_bring_s f1 n1 p2 p4 p5 = some out) (h_f1 : ws[q1]? = some (A q1, .inl (k.1, n1, .inl f1)))  (sz0 : Nat) : Met l yX7_bring wsX7_bring { frames := 0, cells := 0, slots := 0, locals := 0 } (va_Pc [.ref (A q1), .int p2, .ref (A q1), .int p4, .int p5] (px_P D k ws sz0)) (qw_Q D ws sz0 none (fun u => u[q1]? = some (A q1, .inl (k.1, n1, .inl out)) ∧ sm_W ws u q1 (q1 + 1))) 0 0 (va_A ws sz0) := by
  refine Met.ofW (cc := cX7_bring) (maxL := 6) (ret := none) (by decide) rfl ?_
  intro p e s m args below meth c s₁ B hml hv
  obtain ⟨rfl, hsz, hP, hK, hD0⟩ := hv
  subst hsz
  have hD := hD0.self (sz := s.heap.size)
  have C0 : cx_P p s m meth c [.ref (A q1), .int p2, .ref (A q1), .int p4, .int p5].toArray cX7_bring 6 wsX7_bring RX7 none := ⟨B.exec, B.bytes, hml, findClass_of_methodNamed B.named, atoms_spec (ws := wsX7_bring) B.pre, B.returns, B.notSynchronized⟩
  obtain ⟨hx, hb, hml, hown, hts, hr, hlocks⟩ := id C0
  have hcf : CallFix p m c cX7_bring 6 s [.ref (A q1), .int p2, .ref (A q1), .int p4, .int p5].toArray wsX7_bring RX7 := ⟨hx, hb, hml, hown, hts⟩
  have hA : ∀ q, s.heap.size ≤ q → va_A ws s.heap.size q := fun q h => Or.inr h
  have hS : va_S (va_A ws s.heap.size) s.heap s.heap [] := va_S.rf
  have hsm : sm_W ws ws q1 (q1 + 1) := sm_rf
  have hl := lv_entry ([.ref (A q1), .int p2, .ref (A q1), .int p4, .int p5]) (n := 6) (Nat.le_of_ble_eq_true rfl)
  rw [lg_entry_eq]
  generalize (lg_sl ([.ref (A q1), .int p2, .ref (A q1), .int p4, .int p5]) ++ List.replicate (6 - (lg_sl ([.ref (A q1), .int p2, .ref (A q1), .int p4, .int p5])).length) Slot.unset).toArray = ls at hl ⊢
  have hl : lv_has ls 6 [(0, .ref (A q1)), (1, .int p2), (2, .ref (A q1)), (3, .int p4), (4, .int p5)] := hl
  unfold pf_X7_bring_s at hf
  refine lv_iconst (v := 0) hx hb dX7_bring_0 (by decide) ?_
  refine lv_istore (lv' := [(5, .int 0), (0, .ref (A q1)), (1, .int p2), (2, .ref (A q1)), (3, .int p4), (4, .int p5)]) hx hb dX7_bring_1 hl (by decide) rfl (fun ls hl => ?_)
  exact wl_X7_bring_s_3 l D k A ws q1 n1 _ hK C0 p2 p4 p5 fu_N f1 0 _ _ _ _ hf h_f1 hsm hP hD hS (lv_sub hl [1, 2, 3, 4, 5, 0] rfl)

def lp_X7_bring_3 (n1 : Nat) (n3 : Nat) (f1 : Nat → Int32) (x1 : Int32) (x3 : Int32) (x4 : Int32) : Nat → (Nat → Int32) → Int32 → Option ((Nat → Int32))
  | 0, _, _ => none
  | n + 1, f3, x5 =>
    if x4 ≤ x5 then
      some f3
    else
      ck_O (in_b (x1 + x5) n1) (
        ck_O (in_b (x3 + x5) n3) (
          lp_X7_bring_3 n1 n3 f1 x1 x3 x4 n (upd f3 (Int32.toNatClampNeg (x3 + x5)) (f1 (Int32.toNatClampNeg (x1 + x5)))) (x5 + 1)))

def pf_X7_bring (f1 : Nat → Int32) (f3 : Nat → Int32) (n1 : Nat) (n3 : Nat) (p2 : Int32) (p4 : Int32) (p5 : Int32) : Option ((Nat → Int32)) :=
  lp_X7_bring_3 n1 n3 f1 p2 p4 p5 fu_N f3 0

set_option maxHeartbeats 4000000 in
set_option maxRecDepth 100000 in
theorem wl_X7_bring_3 {p : Program} {e : Env} {s : State} {m : MethodId} {args : Array Value} {below : List Frame} {meth : Method} {c : Code} (l : Launch) (D : va_G) (k : kt_T) (A : Nat → Nat) (ws : va_W) (q1 q3 : Nat) (n1 : Nat) (n3 : Nat) (out : (Nat → Int32)) (hK : kk_P D k s) (C0 : cx_P p s m meth c args cX7_bring 6 wsX7_bring RX7 none) (hdis : (q3 + 1 ≤ q1 ∨ q1 + 1 ≤ q3)) (f1 : Nat → Int32) (x1 : Int32) (x3 : Int32) (x4 : Int32)    : ∀ (n : Nat) (f3 : Nat → Int32) (x5 : Int32) (w : va_W) (H : Heap) (locs : List Loc) (ls : Array Slot), lp_X7_bring_3 n1 n3 f1 x1 x3 x4 n f3 x5 = some out → w[q1]? = some (A q1, .inl (k.1, n1, .inl f1)) → w[q3]? = some (A q3, .inl (k.1, n3, .inl f3)) → sm_W ws w q3 (q3 + 1) → va_P D vwCl w H → va_D (va_A ws s.heap.size) w → va_S (va_A ws s.heap.size) s.heap H locs → lv_has ls 6 [(0, .ref (A q1)), (1, .int x1), (2, .ref (A q3)), (3, .int x3), (4, .int x4), (5, .int x5)] → W p l e (headSpec wsX7_bring { frames := 0, cells := 0, slots := 0, locals := 0 }).room s m args below meth c H locs 0 0 (MQ below (qw_Q D ws s.heap.size none (fun u => u[q3]? = some (A q3, .inl (k.1, n3, .inl out)) ∧ sm_W ws u q3 (q3 + 1))) args s 0 0 (va_A ws s.heap.size)) (F0 m 3 ls []) := by
  obtain ⟨hx, hb, hml, hown, hts, hr, hlocks⟩ := id C0
  have hcf : CallFix p m c cX7_bring 6 s args wsX7_bring RX7 := ⟨hx, hb, hml, hown, hts⟩
  have hA : ∀ q, s.heap.size ≤ q → va_A ws s.heap.size q := fun q h => Or.inr h
  intro n
  induction n with
  | zero =>
    intro f3 x5 w H locs ls hf h_f1 h_f3 hsm hP hD hS hl
    exact (no_s hf).elim
  | succ n ih =>
    intro f3 x5 w H locs ls hf h_f1 h_f3 hsm hP hD hS hl
    rw [lp_X7_bring_3] at hf
    refine lv_iload hx hb dX7_bring_3 (lv_at hl 5 rfl) ?_
    refine lv_iload hx hb dX7_bring_5 (lv_at hl 4 rfl) ?_
    refine lv_icmp_ge (tgt := 28) hx hb dX7_bring_7 (by decide) (fun c1 => ?_) (fun c1 => ?_)
    · have hf := it_p c1 hf
      obtain rfl := so_i hf
      exact W.vret hx hb hr (qw_end hS hP hD ⟨h_f3, hsm⟩) hS.2.2 dX7_bring_28
    · have hf := it_n c1 hf
      refine lv_aload_n hx hb dX7_bring_10 rfl (lv_at hl 2 rfl) ?_
      refine lv_iload_n hx hb dX7_bring_11 rfl (lv_at hl 3 rfl) ?_
      refine lv_iload hx hb dX7_bring_12 (lv_at hl 5 rfl) ?_
      refine lv_iadd hx hb dX7_bring_14 ?_
      refine lv_aload_n hx hb dX7_bring_15 rfl (lv_at hl 0 rfl) ?_
      refine lv_iload_n hx hb dX7_bring_16 rfl (lv_at hl 1 rfl) ?_
      refine lv_iload hx hb dX7_bring_17 (lv_at hl 5 rfl) ?_
      refine lv_iadd hx hb dX7_bring_19 ?_
      obtain ⟨z2, hf⟩ := ck_s hf
      refine va_iald hx hb hK.1 hP (q1) 0 h_f1 rfl (in_s z2) dX7_bring_20 ?_
      obtain ⟨z3, hf⟩ := ck_s hf
      refine va_iast hx hb hK.1 hP hD hS (q3) 0 h_f3 rfl (in_s z3) dX7_bring_21 (fun _ _ hP hD hS => ?_)
      obtain ⟨u4, h5, m6, hP, hD⟩ := wd_put hP hD h_f3
      have hsm := sm_tr hsm m6 (by omega) (by omega)
      refine lv_iinc (v := (x5 + 1)) (lv' := [(5, .int (x5 + 1)), (0, .ref (A q1)), (1, .int x1), (2, .ref (A q3)), (3, .int x3), (4, .int x4)]) hx hb dX7_bring_22 hl (k := 5) rfl rfl (by decide) rfl (fun ls hl => ?_)
      refine lv_goto (tgt := 3) hx hb dX7_bring_25 (by decide) ?_
      have h7 := sm_at m6 (by omega) h_f1
      exact ih (upd f3 (Int32.toNatClampNeg (x3 + x5)) (f1 (Int32.toNatClampNeg (x1 + x5)))) (x5 + 1) _ _ _ _ hf h7 h5 hsm hP hD hS (lv_sub hl [1, 2, 3, 4, 5, 0] rfl)

set_option maxHeartbeats 4000000 in
set_option maxRecDepth 100000 in
theorem cz_X7_bring (l : Launch) (D : va_G) (k : kt_T) (A : Nat → Nat) (ws : va_W) (q1 q3 : Nat) (n1 : Nat) (n3 : Nat) (f1 : Nat → Int32) (f3 : Nat → Int32) (p2 : Int32) (p4 : Int32) (p5 : Int32) (out : (Nat → Int32)) (hf : pf_X7_bring f1 f3 n1 n3 p2 p4 p5 = some out) (h_f1 : ws[q1]? = some (A q1, .inl (k.1, n1, .inl f1))) (h_f3 : ws[q3]? = some (A q3, .inl (k.1, n3, .inl f3))) (hdis : (q3 + 1 ≤ q1 ∨ q1 + 1 ≤ q3)) (sz0 : Nat) : Met l yX7_bring wsX7_bring { frames := 0, cells := 0, slots := 0, locals := 0 } (va_Pc [.ref (A q1), .int p2, .ref (A q3), .int p4, .int p5] (px_P D k ws sz0)) (qw_Q D ws sz0 none (fun u => u[q3]? = some (A q3, .inl (k.1, n3, .inl out)) ∧ sm_W ws u q3 (q3 + 1))) 0 0 (va_A ws sz0) := by
  refine Met.ofW (cc := cX7_bring) (maxL := 6) (ret := none) (by decide) rfl ?_
  intro p e s m args below meth c s₁ B hml hv
  obtain ⟨rfl, hsz, hP, hK, hD0⟩ := hv
  subst hsz
  have hD := hD0.self (sz := s.heap.size)
  have C0 : cx_P p s m meth c [.ref (A q1), .int p2, .ref (A q3), .int p4, .int p5].toArray cX7_bring 6 wsX7_bring RX7 none := ⟨B.exec, B.bytes, hml, findClass_of_methodNamed B.named, atoms_spec (ws := wsX7_bring) B.pre, B.returns, B.notSynchronized⟩
  obtain ⟨hx, hb, hml, hown, hts, hr, hlocks⟩ := id C0
  have hcf : CallFix p m c cX7_bring 6 s [.ref (A q1), .int p2, .ref (A q3), .int p4, .int p5].toArray wsX7_bring RX7 := ⟨hx, hb, hml, hown, hts⟩
  have hA : ∀ q, s.heap.size ≤ q → va_A ws s.heap.size q := fun q h => Or.inr h
  have hS : va_S (va_A ws s.heap.size) s.heap s.heap [] := va_S.rf
  have hsm : sm_W ws ws q3 (q3 + 1) := sm_rf
  have hl := lv_entry ([.ref (A q1), .int p2, .ref (A q3), .int p4, .int p5]) (n := 6) (Nat.le_of_ble_eq_true rfl)
  rw [lg_entry_eq]
  generalize (lg_sl ([.ref (A q1), .int p2, .ref (A q3), .int p4, .int p5]) ++ List.replicate (6 - (lg_sl ([.ref (A q1), .int p2, .ref (A q3), .int p4, .int p5])).length) Slot.unset).toArray = ls at hl ⊢
  have hl : lv_has ls 6 [(0, .ref (A q1)), (1, .int p2), (2, .ref (A q3)), (3, .int p4), (4, .int p5)] := hl
  unfold pf_X7_bring at hf
  refine lv_iconst (v := 0) hx hb dX7_bring_0 (by decide) ?_
  refine lv_istore (lv' := [(5, .int 0), (0, .ref (A q1)), (1, .int p2), (2, .ref (A q3)), (3, .int p4), (4, .int p5)]) hx hb dX7_bring_1 hl (by decide) rfl (fun ls hl => ?_)
  exact wl_X7_bring_3 l D k A ws q1 q3 n1 n3 _ hK C0 hdis f1 p2 p4 p5 fu_N f3 0 _ _ _ _ hf h_f1 h_f3 hsm hP hD hS (lv_sub hl [1, 2, 3, 4, 5, 0] rfl)

def lp_X7_decides_7 (n1 : Nat) (f1 : Nat → Int32) (x1 : Int32) (x3 : Int32) : Nat → Int32 → Option (Int32)
  | 0, _ => none
  | n + 1, x4 =>
    if x4 ≤ 0 then
      some (-4)
    else
      ck_O (in_b (x1 + x4) n1) (
        if (f1 (Int32.toNatClampNeg (x1 + x4))) = 8 then
          lp_X7_decides_7 n1 f1 x1 x3 n (x4 / 2)
        else
          if x4 = x3 then
            lp_X7_decides_7 n1 f1 x1 x3 n (x4 / 2)
          else
            some x4)

def pf_X7_decides (f1 : Nat → Int32) (n1 : Nat) (p2 : Int32) (p3 : Int32) (p4 : Int32) : Option (Int32) :=
  lp_X7_decides_7 n1 f1 p2 p4 fu_N (256 + p3)

set_option maxHeartbeats 4000000 in
set_option maxRecDepth 100000 in
theorem wl_X7_decides_7 {p : Program} {e : Env} {s : State} {m : MethodId} {args : Array Value} {below : List Frame} {meth : Method} {c : Code} (l : Launch) (D : va_G) (k : kt_T) (A : Nat → Nat) (ws : va_W) (q1 : Nat) (n1 : Nat) (out : Int32) (hK : kk_P D k s) (C0 : cx_P p s m meth c args cX7_decides 5 wsX7_decides RX7 (some .int))  (f1 : Nat → Int32) (x1 : Int32) (x3 : Int32)   (h_f1 : ws[q1]? = some (A q1, .inl (k.1, n1, .inl f1))) (hP : va_P D vwCl ws s.heap) (hD : va_D (fun _ => True) ws) : ∀ (n : Nat) (x4 : Int32) (ls : Array Slot), lp_X7_decides_7 n1 f1 x1 x3 n x4 = some out → lv_has ls 5 [(0, .ref (A q1)), (1, .int x1), (3, .int x3), (4, .int x4)] → W p l e (headSpec wsX7_decides { frames := 0, cells := 0, slots := 0, locals := 0 }).room s m args below meth c s.heap [] 0 0 (MQ below (qs_Q (some (.int out))) args s 0 0 (fun _ => False)) (F0 m 7 ls []) := by
  obtain ⟨hx, hb, hml, hown, hts, hr, hlocks⟩ := id C0
  have hcf : CallFix p m c cX7_decides 5 s args wsX7_decides RX7 := ⟨hx, hb, hml, hown, hts⟩
  intro n
  induction n with
  | zero =>
    intro x4 ls hf hl
    exact (no_s hf).elim
  | succ n ih =>
    intro x4 ls hf hl
    rw [lp_X7_decides_7] at hf
    refine lv_iload hx hb dX7_decides_7 (lv_at hl 3 rfl) ?_
    refine lv_if_le (tgt := 41) hx hb dX7_decides_9 (by decide) (fun c1 => ?_) (fun c1 => ?_)
    · have hf := it_p c1 hf
      refine lv_bipush (v := (-4)) hx hb dX7_decides_41 (by decide) ?_
      obtain rfl := so_i hf
      exact W.iret (v := (-4)) hx hb hr (fun t ht _ => ⟨rfl, ht⟩) (fun _ h => absurd h List.not_mem_nil) dX7_decides_43
    · have hf := it_n c1 hf
      refine lv_aload_n hx hb dX7_decides_12 rfl (lv_at hl 0 rfl) ?_
      refine lv_iload_n hx hb dX7_decides_13 rfl (lv_at hl 1 rfl) ?_
      refine lv_iload hx hb dX7_decides_14 (lv_at hl 3 rfl) ?_
      refine lv_iadd hx hb dX7_decides_16 ?_
      obtain ⟨z2, hf⟩ := ck_s hf
      refine va_iald hx hb hK.1 hP (q1) 0 h_f1 rfl (in_s z2) dX7_decides_17 ?_
      refine lv_bipush (v := 8) hx hb dX7_decides_18 (by decide) ?_
      refine lv_icmp_eq (tgt := 32) hx hb dX7_decides_20 (by decide) (fun c3 => ?_) (fun c3 => ?_)
      · have hf := it_p c3 hf
        refine lv_iload hx hb dX7_decides_32 (lv_at hl 3 rfl) ?_
        refine lv_iconst (v := 2) hx hb dX7_decides_34 (by decide) ?_
        refine lv_idiv hx hb dX7_decides_35 (by decide) ?_
        refine lv_istore (lv' := [(4, .int (x4 / 2)), (0, .ref (A q1)), (1, .int x1), (3, .int x3)]) hx hb dX7_decides_36 hl (by decide) rfl (fun ls hl => ?_)
        refine lv_goto (tgt := 7) hx hb dX7_decides_38 (by decide) ?_
        exact ih (x4 / 2) _ hf (lv_sub hl [1, 2, 3, 0] rfl)
      · have hf := it_n c3 hf
        refine lv_iload hx hb dX7_decides_23 (lv_at hl 3 rfl) ?_
        refine lv_iload_n hx hb dX7_decides_25 rfl (lv_at hl 2 rfl) ?_
        refine lv_icmp_eq (tgt := 32) hx hb dX7_decides_26 (by decide) (fun c4 => ?_) (fun c4 => ?_)
        · have hf := it_p c4 hf
          refine lv_iload hx hb dX7_decides_32 (lv_at hl 3 rfl) ?_
          refine lv_iconst (v := 2) hx hb dX7_decides_34 (by decide) ?_
          refine lv_idiv hx hb dX7_decides_35 (by decide) ?_
          refine lv_istore (lv' := [(4, .int (x4 / 2)), (0, .ref (A q1)), (1, .int x1), (3, .int x3)]) hx hb dX7_decides_36 hl (by decide) rfl (fun ls hl => ?_)
          refine lv_goto (tgt := 7) hx hb dX7_decides_38 (by decide) ?_
          exact ih (x4 / 2) _ hf (lv_sub hl [1, 2, 3, 0] rfl)
        · have hf := it_n c4 hf
          refine lv_iload hx hb dX7_decides_29 (lv_at hl 3 rfl) ?_
          obtain rfl := so_i hf
          exact W.iret (v := x4) hx hb hr (fun t ht _ => ⟨rfl, ht⟩) (fun _ h => absurd h List.not_mem_nil) dX7_decides_31

set_option maxHeartbeats 4000000 in
set_option maxRecDepth 100000 in
theorem cz_X7_decides (l : Launch) (D : va_G) (k : kt_T) (A : Nat → Nat) (ws : va_W) (q1 : Nat) (n1 : Nat) (f1 : Nat → Int32) (p2 : Int32) (p3 : Int32) (p4 : Int32) (out : Int32) (hf : pf_X7_decides f1 n1 p2 p3 p4 = some out) (h_f1 : ws[q1]? = some (A q1, .inl (k.1, n1, .inl f1)))  : Met l yX7_decides wsX7_decides { frames := 0, cells := 0, slots := 0, locals := 0 } (va_Pc [.ref (A q1), .int p2, .int p3, .int p4] (pw_P D k ws)) (qs_Q (some (.int out))) 0 0 (fun _ => False) := by
  refine Met.ofW (cc := cX7_decides) (maxL := 5) (ret := (some .int)) (by decide) rfl ?_
  intro p e s m args below meth c s₁ B hml hv
  obtain ⟨rfl, hP, hK, hD⟩ := hv
  have C0 : cx_P p s m meth c [.ref (A q1), .int p2, .int p3, .int p4].toArray cX7_decides 5 wsX7_decides RX7 (some .int) := ⟨B.exec, B.bytes, hml, findClass_of_methodNamed B.named, atoms_spec (ws := wsX7_decides) B.pre, B.returns, B.notSynchronized⟩
  obtain ⟨hx, hb, hml, hown, hts, hr, hlocks⟩ := id C0
  have hcf : CallFix p m c cX7_decides 5 s [.ref (A q1), .int p2, .int p3, .int p4].toArray wsX7_decides RX7 := ⟨hx, hb, hml, hown, hts⟩
  have hl := lv_entry ([.ref (A q1), .int p2, .int p3, .int p4]) (n := 5) (Nat.le_of_ble_eq_true rfl)
  rw [lg_entry_eq]
  generalize (lg_sl ([.ref (A q1), .int p2, .int p3, .int p4]) ++ List.replicate (5 - (lg_sl ([.ref (A q1), .int p2, .int p3, .int p4])).length) Slot.unset).toArray = ls at hl ⊢
  have hl : lv_has ls 5 [(0, .ref (A q1)), (1, .int p2), (2, .int p3), (3, .int p4)] := hl
  unfold pf_X7_decides at hf
  refine lv_sipush (v := 256) hx hb dX7_decides_0 (by decide) ?_
  refine lv_iload_n hx hb dX7_decides_3 rfl (lv_at hl 2 rfl) ?_
  refine lv_iadd hx hb dX7_decides_4 ?_
  refine lv_istore (lv' := [(4, .int (256 + p3)), (0, .ref (A q1)), (1, .int p2), (2, .int p3), (3, .int p4)]) hx hb dX7_decides_5 hl (by decide) rfl (fun ls hl => ?_)
  exact wl_X7_decides_7 l D k A ws q1 n1 _ hK C0 f1 p2 p4 h_f1 hP hD fu_N (256 + p3) _ hf (lv_sub hl [1, 2, 4, 0] rfl)

def pf_X7_hopBy (f1 : Nat → Int32) (n1 : Nat) (p2 : Int32) (p3 : Int32) (p4 : Int32) : Option (Int32) :=
  (pf_X7_decides f1 n1 p2 p3 p4).bind (fun r1 =>
    if r1 = (-4) then
      some 0
    else
      ck_O (in_b (p2 + r1) n1) (
        some (f1 (Int32.toNatClampNeg (p2 + r1)))))

set_option maxHeartbeats 4000000 in
set_option maxRecDepth 100000 in
theorem cz_X7_hopBy (l : Launch) (D : va_G) (k : kt_T) (A : Nat → Nat) (ws : va_W) (q1 : Nat) (n1 : Nat) (f1 : Nat → Int32) (p2 : Int32) (p3 : Int32) (p4 : Int32) (out : Int32) (hf : pf_X7_hopBy f1 n1 p2 p3 p4 = some out) (h_f1 : ws[q1]? = some (A q1, .inl (k.1, n1, .inl f1)))  : Met l yX7_hopBy wsX7_hopBy { frames := 1, cells := 0, slots := 0, locals := 24 } (va_Pc [.ref (A q1), .int p2, .int p3, .int p4] (pw_P D k ws)) (qs_Q (some (.int out))) 0 0 (fun _ => False) := by
  refine Met.ofW (cc := cX7_hopBy) (maxL := 5) (ret := (some .int)) (by decide) rfl ?_
  intro p e s m args below meth c s₁ B hml hv
  obtain ⟨rfl, hP, hK, hD⟩ := hv
  have C0 : cx_P p s m meth c [.ref (A q1), .int p2, .int p3, .int p4].toArray cX7_hopBy 5 wsX7_hopBy RX7 (some .int) := ⟨B.exec, B.bytes, hml, findClass_of_methodNamed B.named, atoms_spec (ws := wsX7_hopBy) B.pre, B.returns, B.notSynchronized⟩
  obtain ⟨hx, hb, hml, hown, hts, hr, hlocks⟩ := id C0
  have hcf : CallFix p m c cX7_hopBy 5 s [.ref (A q1), .int p2, .int p3, .int p4].toArray wsX7_hopBy RX7 := ⟨hx, hb, hml, hown, hts⟩
  have hl := lv_entry ([.ref (A q1), .int p2, .int p3, .int p4]) (n := 5) (Nat.le_of_ble_eq_true rfl)
  rw [lg_entry_eq]
  generalize (lg_sl ([.ref (A q1), .int p2, .int p3, .int p4]) ++ List.replicate (5 - (lg_sl ([.ref (A q1), .int p2, .int p3, .int p4])).length) Slot.unset).toArray = ls at hl ⊢
  have hl : lv_has ls 5 [(0, .ref (A q1)), (1, .int p2), (2, .int p3), (3, .int p4)] := hl
  unfold pf_X7_hopBy at hf
  refine lv_aload_n hx hb dX7_hopBy_0 rfl (lv_at hl 0 rfl) ?_
  refine lv_iload_n hx hb dX7_hopBy_1 rfl (lv_at hl 1 rfl) ?_
  refine lv_iload_n hx hb dX7_hopBy_2 rfl (lv_at hl 2 rfl) ?_
  refine lv_iload_n hx hb dX7_hopBy_3 rfl (lv_at hl 3 rfl) ?_
  obtain ⟨r1, h2, hf⟩ := bd_s hf
  refine ks_i (va_runS (As := [.ref (A q1), .int p2, .int p3, .int p4]) (rest := []) hcf (cz_X7_decides l D k A ws (q1) n1 f1 p2 p3 p4 r1 h2 h_f1) (va_cwS 4 hts gX7_hopBy_X7_decides rfl rfl rfl (by decide +kernel) ⟨Nat.le_of_ble_eq_true rfl, Nat.le_of_ble_eq_true rfl⟩) (pw_S hP hK hD) rfl rfl hl.1 rfl (lv_room (Nat.le_of_ble_eq_true rfl)) dX7_hopBy_4 ⟨Nat.zero_le _, Nat.zero_le _⟩) ?_
  refine lv_istore (lv' := [(4, .int r1), (0, .ref (A q1)), (1, .int p2), (2, .int p3), (3, .int p4)]) hx hb dX7_hopBy_7 hl (by decide) rfl (fun ls hl => ?_)
  refine lv_iload hx hb dX7_hopBy_9 (lv_at hl 0 rfl) ?_
  refine lv_bipush (v := (-4)) hx hb dX7_hopBy_11 (by decide) ?_
  refine lv_icmp_ne (tgt := 20) hx hb dX7_hopBy_13 (by decide) (fun c3 => ?_) (fun c3 => ?_)
  · have hf := it_n c3 hf
    refine lv_aload_n hx hb dX7_hopBy_20 rfl (lv_at hl 1 rfl) ?_
    refine lv_iload_n hx hb dX7_hopBy_21 rfl (lv_at hl 2 rfl) ?_
    refine lv_iload hx hb dX7_hopBy_22 (lv_at hl 0 rfl) ?_
    refine lv_iadd hx hb dX7_hopBy_24 ?_
    obtain ⟨z4, hf⟩ := ck_s hf
    refine va_iald hx hb hK.1 hP (q1) 0 h_f1 rfl (in_s z4) dX7_hopBy_25 ?_
    obtain rfl := so_i hf
    exact W.iret (v := (f1 (Int32.toNatClampNeg (p2 + r1)))) hx hb hr (fun t ht _ => ⟨rfl, ht⟩) (fun _ h => absurd h List.not_mem_nil) dX7_hopBy_26
  · have hf := it_p c3 hf
    refine lv_iconst (v := 0) hx hb dX7_hopBy_16 (by decide) ?_
    refine lv_goto (tgt := 26) hx hb dX7_hopBy_17 (by decide) ?_
    obtain rfl := so_i hf
    exact W.iret (v := 0) hx hb hr (fun t ht _ => ⟨rfl, ht⟩) (fun _ h => absurd h List.not_mem_nil) dX7_hopBy_26

def pf_X7_lesser   (p1 : Int32) (p2 : Int32) : Option (Int32) :=
  if p2 ≤ p1 then
    some p2
  else
    some p1

set_option maxHeartbeats 4000000 in
set_option maxRecDepth 100000 in
theorem cz_X7_lesser (l : Launch) (D : va_G) (k : kt_T) (A : Nat → Nat) (ws : va_W)    (p1 : Int32) (p2 : Int32) (out : Int32) (hf : pf_X7_lesser p1 p2 = some out)   : Met l yX7_lesser wsX7_lesser { frames := 0, cells := 0, slots := 0, locals := 0 } (va_Pc [.int p1, .int p2] (pw_P D k ws)) (qs_Q (some (.int out))) 0 0 (fun _ => False) := by
  refine Met.ofW (cc := cX7_lesser) (maxL := 2) (ret := (some .int)) (by decide) rfl ?_
  intro p e s m args below meth c s₁ B hml hv
  obtain ⟨rfl, hP, hK, hD⟩ := hv
  have C0 : cx_P p s m meth c [.int p1, .int p2].toArray cX7_lesser 2 wsX7_lesser RX7 (some .int) := ⟨B.exec, B.bytes, hml, findClass_of_methodNamed B.named, atoms_spec (ws := wsX7_lesser) B.pre, B.returns, B.notSynchronized⟩
  obtain ⟨hx, hb, hml, hown, hts, hr, hlocks⟩ := id C0
  have hcf : CallFix p m c cX7_lesser 2 s [.int p1, .int p2].toArray wsX7_lesser RX7 := ⟨hx, hb, hml, hown, hts⟩
  have hl := lv_entry ([.int p1, .int p2]) (n := 2) (Nat.le_of_ble_eq_true rfl)
  rw [lg_entry_eq]
  generalize (lg_sl ([.int p1, .int p2]) ++ List.replicate (2 - (lg_sl ([.int p1, .int p2])).length) Slot.unset).toArray = ls at hl ⊢
  have hl : lv_has ls 2 [(0, .int p1), (1, .int p2)] := hl
  unfold pf_X7_lesser at hf
  refine lv_iload_n hx hb dX7_lesser_0 rfl (lv_at hl 0 rfl) ?_
  refine lv_iload_n hx hb dX7_lesser_1 rfl (lv_at hl 1 rfl) ?_
  refine lv_icmp_ge (tgt := 9) hx hb dX7_lesser_2 (by decide) (fun c1 => ?_) (fun c1 => ?_)
  · have hf := it_p c1 hf
    refine lv_iload_n hx hb dX7_lesser_9 rfl (lv_at hl 1 rfl) ?_
    obtain rfl := so_i hf
    exact W.iret (v := p2) hx hb hr (fun t ht _ => ⟨rfl, ht⟩) (fun _ h => absurd h List.not_mem_nil) dX7_lesser_10
  · have hf := it_n c1 hf
    refine lv_iload_n hx hb dX7_lesser_5 rfl (lv_at hl 0 rfl) ?_
    refine lv_goto (tgt := 10) hx hb dX7_lesser_6 (by decide) ?_
    obtain rfl := so_i hf
    exact W.iret (v := p1) hx hb hr (fun t ht _ => ⟨rfl, ht⟩) (fun _ h => absurd h List.not_mem_nil) dX7_lesser_10

theorem in_X7_laysCosts_X7 : ∀ w ∈ u_ws RX7 TX7 18, w ∈ wsX7_laysCosts := fun w h => List.mem_cons_of_mem _ (List.mem_append_right _ h)
def lp_X7_laysCosts_81  (hops : Nat → Int32) (x1 : Int32) (x2 : Int32) (g_4 : (Nat → Int32) → Int32 → Option ((Nat → Int32))) : Nat → (Nat → Int32) → Int32 → Option ((Nat → Int32))
  | 0, _, _ => none
  | n + 1, costs, x3 =>
    if 8 ≤ x3 then
      g_4 costs (x1 + (-1))
    else
      if x1 < 256 then
        ck_O (in_b ((16 * x1) + x3) 4096) (
          ck_O (in_b (((16 * x1) + 8) + x3) 4096) (
            lt_O ((costs (Int32.toNatClampNeg ((16 * x1) + x3))) + (costs (Int32.toNatClampNeg (((16 * x1) + 8) + x3)))) (fun y22 =>
              (pf_X7_lesser y22 x2).bind (fun r24 =>
                ck_O (in_b ((8 * x1) + x3) 4096) (
                  lp_X7_laysCosts_81 hops x1 x2 g_4 n (upd costs (Int32.toNatClampNeg ((8 * x1) + x3)) r24) (x3 + 1))))))
      else
        ck_O (in_b (x1 - 256) 512) (
          if (hops (Int32.toNatClampNeg (x1 - 256))) = x3 then
            (pf_X7_lesser 0 x2).bind (fun r83 =>
              ck_O (in_b ((8 * x1) + x3) 4096) (
                lp_X7_laysCosts_81 hops x1 x2 g_4 n (upd costs (Int32.toNatClampNeg ((8 * x1) + x3)) r83) (x3 + 1)))
          else
            (pf_X7_lesser 1 x2).bind (fun r62 =>
              ck_O (in_b ((8 * x1) + x3) 4096) (
                lp_X7_laysCosts_81 hops x1 x2 g_4 n (upd costs (Int32.toNatClampNeg ((8 * x1) + x3)) r62) (x3 + 1))))

def lp_X7_laysCosts_12  (costs : Nat → Int32) (hops : Nat → Int32) (x1 : Int32) (g_4 : (Nat → Int32) → Int32 → Option ((Nat → Int32))) : Nat → Int32 → Int32 → Option ((Nat → Int32))
  | 0, _, _ => none
  | n + 1, x2, x3 =>
    if 8 ≤ x3 then
      lp_X7_laysCosts_81 hops x1 x2 g_4 fu_N costs 0
    else
      if 256 ≤ x1 then
        lp_X7_laysCosts_81 hops x1 x2 g_4 fu_N costs 0
      else
        ck_O (in_b ((16 * x1) + x3) 4096) (
          ck_O (in_b (((16 * x1) + 8) + x3) 4096) (
            lt_O ((costs (Int32.toNatClampNeg ((16 * x1) + x3))) + (costs (Int32.toNatClampNeg (((16 * x1) + 8) + x3)))) (fun y122 =>
              if x3 = 0 then
                lp_X7_laysCosts_12 costs hops x1 g_4 n (y122 + 1) (x3 + 1)
              else
                (pf_X7_lesser x2 (y122 + 1)).bind (fun r125 =>
                  lp_X7_laysCosts_12 costs hops x1 g_4 n r125 (x3 + 1)))))

def lp_X7_laysCosts_4  (hops : Nat → Int32) : Nat → (Nat → Int32) → Int32 → Option ((Nat → Int32))
  | 0, _, _ => none
  | n + 1, costs, x1 =>
    if x1 ≤ 0 then
      some costs
    else
      lp_X7_laysCosts_12 costs hops x1 (lp_X7_laysCosts_4 hops n) fu_N 1 0

def pf_X7_laysCosts (costs : Nat → Int32) (hops : Nat → Int32)   : Option ((Nat → Int32)) :=
  lp_X7_laysCosts_4 hops fu_N costs 511

set_option maxHeartbeats 4000000 in
set_option maxRecDepth 100000 in
theorem wl_X7_laysCosts_81 {p : Program} {e : Env} {s : State} {m : MethodId} {args : Array Value} {below : List Frame} {meth : Method} {c : Code} (l : Launch) (D : va_G) (k : kt_T) (A : Nat → Nat) (ws : va_W) (q : Nat)  (out : (Nat → Int32)) (hK : kk_P D k s) (C0 : cx_P p s m meth c args cX7_laysCosts 5 wsX7_laysCosts RX7 none)  (st : Nat → Int32) (past : Nat → Int32) (image : Nat → Int32) (imagePast : Nat → Int32) (tape : Nat → Int32) (laneOf : Nat → Int32) (sizeOf : Nat → Int32) (items : Nat → Int64) (least : Nat → Int32) (hops : Nat → Int32) (comes : Nat → Int32) (chain : Nat → Int32) (told : Nat → Int32) (acts : Int32) (imageActs : Int32) (tapeMany : Int32) (readAt : Int32) (x1 : Int32) (x2 : Int32)  (g_4 : (Nat → Int32) → Int32 → Option ((Nat → Int32))) (hg_4 : ∀ (costs : Nat → Int32) (x1 : Int32) (w : va_W) (H : Heap) (locs : List Loc) (ls : Array Slot), g_4 costs x1 = some out → is_Y k A w q st past image imagePast tape laneOf sizeOf items least costs hops comes chain told acts imageActs tapeMany readAt → sm_W ws w q (q + 15) → va_P D vwCl w H → va_D (va_A ws s.heap.size) w → va_S (va_A ws s.heap.size) s.heap H locs → lv_has ls 5 [(0, .ref (A q)), (1, .int x1)] → W p l e (headSpec wsX7_laysCosts { frames := 1, cells := 0, slots := 0, locals := 21 }).room s m args below meth c H locs 0 0 (MQ below (qw_Q D ws s.heap.size none (fun u => is_Y k A u q st past image imagePast tape laneOf sizeOf items least out hops comes chain told acts imageActs tapeMany readAt ∧ sm_W ws u q (q + 15))) args s 0 0 (va_A ws s.heap.size)) (F0 m 4 ls []))  : ∀ (n : Nat) (costs : Nat → Int32) (x3 : Int32) (w : va_W) (H : Heap) (locs : List Loc) (ls : Array Slot), lp_X7_laysCosts_81 hops x1 x2 g_4 n costs x3 = some out → is_Y k A w q st past image imagePast tape laneOf sizeOf items least costs hops comes chain told acts imageActs tapeMany readAt → sm_W ws w q (q + 15) → va_P D vwCl w H → va_D (va_A ws s.heap.size) w → va_S (va_A ws s.heap.size) s.heap H locs → lv_has ls 5 [(0, .ref (A q)), (1, .int x1), (2, .int x2), (3, .int x3)] → W p l e (headSpec wsX7_laysCosts { frames := 1, cells := 0, slots := 0, locals := 21 }).room s m args below meth c H locs 0 0 (MQ below (qw_Q D ws s.heap.size none (fun u => is_Y k A u q st past image imagePast tape laneOf sizeOf items least out hops comes chain told acts imageActs tapeMany readAt ∧ sm_W ws u q (q + 15))) args s 0 0 (va_A ws s.heap.size)) (F0 m 81 ls []) := by
  obtain ⟨hx, hb, hml, hown, hts, hr, hlocks⟩ := id C0
  have hcf : CallFix p m c cX7_laysCosts 5 s args wsX7_laysCosts RX7 := ⟨hx, hb, hml, hown, hts⟩
  have hA : ∀ q, s.heap.size ≤ q → va_A ws s.heap.size q := fun q h => Or.inr h
  have w_0 := hts (.fieldLink RX7 42 "LeastRoutesModel" "costs" "[I") (List.mem_of_getElem? (i := 1) rfl)
  have w_1 := hts (.fieldLink RX7 45 "LeastRoutesModel" "hops" "[I") (List.mem_of_getElem? (i := 2) rfl)
  intro n
  induction n with
  | zero =>
    intro costs x3 w H locs ls hf h_this hsm hP hD hS hl
    exact (no_s hf).elim
  | succ n ih =>
    intro costs x3 w H locs ls hf h_this hsm hP hD hS hl
    rw [lp_X7_laysCosts_81] at hf
    refine lv_iload_n hx hb dX7_laysCosts_81 rfl (lv_at hl 3 rfl) ?_
    refine lv_bipush (v := 8) hx hb dX7_laysCosts_82 (by decide) ?_
    refine lv_icmp_ge (tgt := 167) hx hb dX7_laysCosts_84 (by decide) (fun c3 => ?_) (fun c3 => ?_)
    · have hf := it_p c3 hf
      refine lv_iinc (v := (x1 + (-1))) (lv' := [(1, .int (x1 + (-1))), (0, .ref (A q)), (2, .int x2), (3, .int x3)]) hx hb dX7_laysCosts_167 hl (k := 1) rfl rfl (by decide) rfl (fun ls hl => ?_)
      refine lv_goto (tgt := 4) hx hb dX7_laysCosts_170 (by decide) ?_
      exact hg_4 costs (x1 + (-1)) _ _ _ _ hf h_this hsm hP hD hS (lv_sub hl [1, 0] rfl)
    · have hf := it_n c3 hf
      refine lv_iload_n hx hb dX7_laysCosts_87 rfl (lv_at hl 1 rfl) ?_
      refine lv_sipush (v := 256) hx hb dX7_laysCosts_88 (by decide) ?_
      refine lv_icmp_lt (tgt := 116) hx hb dX7_laysCosts_91 (by decide) (fun c4 => ?_) (fun c4 => ?_)
      · have hf := it_p c4 hf
        refine lv_aload_n hx hb dX7_laysCosts_116 rfl (lv_at hl 0 rfl) ?_
        obtain ⟨h5, h6, h7, h8, h9, h10, h11, h12, h13, h14, h15, h16, h17, h18, h19⟩ := h_this
        refine va_get (D := D) (ci := 7) (v := .ref (A (q + 10))) (C := RX7) (T := TX7) (N := 18) hx hb hts in_X7_laysCosts_X7 hown hK.1 hP (q) h5 rfl 12 (by decide) w_0 (fun _ h9 => h9) rfl dX7_laysCosts_117 ?_
        refine lv_bipush (v := 16) hx hb dX7_laysCosts_120 (by decide) ?_
        refine lv_iload_n hx hb dX7_laysCosts_122 rfl (lv_at hl 1 rfl) ?_
        refine lv_imul hx hb dX7_laysCosts_123 ?_
        refine lv_iload_n hx hb dX7_laysCosts_124 rfl (lv_at hl 3 rfl) ?_
        refine lv_iadd hx hb dX7_laysCosts_125 ?_
        obtain ⟨z20, hf⟩ := ck_s hf
        refine va_iald hx hb hK.1 hP (q + 10) 0 h15 rfl (in_s z20) dX7_laysCosts_126 ?_
        refine lv_aload_n hx hb dX7_laysCosts_127 rfl (lv_at hl 0 rfl) ?_
        refine va_get (D := D) (ci := 7) (v := .ref (A (q + 10))) (C := RX7) (T := TX7) (N := 18) hx hb hts in_X7_laysCosts_X7 hown hK.1 hP (q) h5 rfl 12 (by decide) w_0 (fun _ h9 => h9) rfl dX7_laysCosts_128 ?_
        refine lv_bipush (v := 16) hx hb dX7_laysCosts_131 (by decide) ?_
        refine lv_iload_n hx hb dX7_laysCosts_133 rfl (lv_at hl 1 rfl) ?_
        refine lv_imul hx hb dX7_laysCosts_134 ?_
        refine lv_bipush (v := 8) hx hb dX7_laysCosts_135 (by decide) ?_
        refine lv_iadd hx hb dX7_laysCosts_137 ?_
        refine lv_iload_n hx hb dX7_laysCosts_138 rfl (lv_at hl 3 rfl) ?_
        refine lv_iadd hx hb dX7_laysCosts_139 ?_
        obtain ⟨z21, hf⟩ := ck_s hf
        refine va_iald hx hb hK.1 hP (q + 10) 0 h15 rfl (in_s z21) dX7_laysCosts_140 ?_
        refine lv_iadd hx hb dX7_laysCosts_141 ?_
        refine lv_topi (fun y22 e23 => ?_)
        have hf := lt_s' e23 hf
        refine lv_istore (lv' := [(4, .int y22), (0, .ref (A q)), (1, .int x1), (2, .int x2), (3, .int x3)]) hx hb dX7_laysCosts_142 hl (by decide) rfl (fun ls hl => ?_)
        refine lv_aload_n hx hb dX7_laysCosts_144 rfl (lv_at hl 1 rfl) ?_
        refine va_get (D := D) (ci := 7) (v := .ref (A (q + 10))) (C := RX7) (T := TX7) (N := 18) hx hb hts in_X7_laysCosts_X7 hown hK.1 hP (q) h5 rfl 12 (by decide) w_0 (fun _ h9 => h9) rfl dX7_laysCosts_145 ?_
        refine lv_bipush (v := 8) hx hb dX7_laysCosts_148 (by decide) ?_
        refine lv_iload_n hx hb dX7_laysCosts_150 rfl (lv_at hl 2 rfl) ?_
        refine lv_imul hx hb dX7_laysCosts_151 ?_
        refine lv_iload_n hx hb dX7_laysCosts_152 rfl (lv_at hl 4 rfl) ?_
        refine lv_iadd hx hb dX7_laysCosts_153 ?_
        refine lv_iload hx hb dX7_laysCosts_154 (lv_at hl 0 rfl) ?_
        refine lv_iload_n hx hb dX7_laysCosts_156 rfl (lv_at hl 3 rfl) ?_
        obtain ⟨r24, h25, hf⟩ := bd_s hf
        refine ks_i (va_runS (As := [.int y22, .int x2]) (rest := [.int ((8 * x1) + x3), .ref (A (q + 10))]) hcf (cz_X7_lesser l D k A w y22 x2 r24 h25) (va_cwS 2 hts gX7_laysCosts_X7_lesser rfl rfl rfl (by decide +kernel) ⟨Nat.le_of_ble_eq_true rfl, Nat.le_of_ble_eq_true rfl⟩) (pw_S hP hK hD) rfl rfl hl.1 rfl (lv_room (Nat.le_of_ble_eq_true rfl)) dX7_laysCosts_157 ⟨Nat.zero_le _, Nat.zero_le _⟩) ?_
        obtain ⟨z26, hf⟩ := ck_s hf
        refine va_iast hx hb hK.1 hP hD hS (q + 10) 0 h15 rfl (in_s z26) dX7_laysCosts_160 (fun _ _ hP hD hS => ?_)
        obtain ⟨u27, h28, m29, hP, hD⟩ := wd_put hP hD h15
        have hsm := sm_tr hsm m29 (by omega) (by omega)
        refine lv_iinc (v := (x3 + 1)) (lv' := [(3, .int (x3 + 1)), (4, .int y22), (0, .ref (A q)), (1, .int x1), (2, .int x2)]) hx hb dX7_laysCosts_161 hl (k := 4) rfl rfl (by decide) rfl (fun ls hl => ?_)
        refine lv_goto (tgt := 81) hx hb dX7_laysCosts_164 (by decide) ?_
        have h30 := sm_at m29 (by omega) h5
        have h31 := sm_at m29 (by omega) h6
        have h32 := sm_at m29 (by omega) h7
        have h33 := sm_at m29 (by omega) h8
        have h34 := sm_at m29 (by omega) h9
        have h35 := sm_at m29 (by omega) h10
        have h36 := sm_at m29 (by omega) h11
        have h37 := sm_at m29 (by omega) h12
        have h38 := sm_at m29 (by omega) h13
        have h39 := sm_at m29 (by omega) h14
        have h40 := sm_at m29 (by omega) h16
        have h41 := sm_at m29 (by omega) h17
        have h42 := sm_at m29 (by omega) h18
        have h43 := sm_at m29 (by omega) h19
        have h44 : is_Y k A u27 (q) st past image imagePast tape laneOf sizeOf items least (upd costs (Int32.toNatClampNeg ((8 * x1) + x3)) r24) hops comes chain told acts imageActs tapeMany readAt := ⟨h30, h31, h32, h33, h34, h35, h36, h37, h38, h39, h28, h40, h41, h42, h43⟩
        exact ih (upd costs (Int32.toNatClampNeg ((8 * x1) + x3)) r24) (x3 + 1) _ _ _ _ hf h44 hsm hP hD hS (lv_sub hl [2, 3, 4, 0] rfl)
      · have hf := it_n c4 hf
        refine lv_aload_n hx hb dX7_laysCosts_94 rfl (lv_at hl 0 rfl) ?_
        obtain ⟨h45, h46, h47, h48, h49, h50, h51, h52, h53, h54, h55, h56, h57, h58, h59⟩ := h_this
        refine va_get (D := D) (ci := 7) (v := .ref (A (q + 11))) (C := RX7) (T := TX7) (N := 18) hx hb hts in_X7_laysCosts_X7 hown hK.1 hP (q) h45 rfl 13 (by decide) w_1 (fun _ h9 => h9) rfl dX7_laysCosts_95 ?_
        refine lv_iload_n hx hb dX7_laysCosts_98 rfl (lv_at hl 1 rfl) ?_
        refine lv_sipush (v := 256) hx hb dX7_laysCosts_99 (by decide) ?_
        refine lv_isub hx hb dX7_laysCosts_102 ?_
        obtain ⟨z60, hf⟩ := ck_s hf
        refine va_iald hx hb hK.1 hP (q + 11) 0 h56 rfl (in_s z60) dX7_laysCosts_103 ?_
        refine lv_iload_n hx hb dX7_laysCosts_104 rfl (lv_at hl 3 rfl) ?_
        refine lv_icmp_ne (tgt := 112) hx hb dX7_laysCosts_105 (by decide) (fun c61 => ?_) (fun c61 => ?_)
        · have hf := it_n c61 hf
          refine lv_iconst (v := 1) hx hb dX7_laysCosts_112 (by decide) ?_
          refine lv_goto (tgt := 142) hx hb dX7_laysCosts_113 (by decide) ?_
          refine lv_istore (lv' := [(4, .int 1), (0, .ref (A q)), (1, .int x1), (2, .int x2), (3, .int x3)]) hx hb dX7_laysCosts_142 hl (by decide) rfl (fun ls hl => ?_)
          refine lv_aload_n hx hb dX7_laysCosts_144 rfl (lv_at hl 1 rfl) ?_
          refine va_get (D := D) (ci := 7) (v := .ref (A (q + 10))) (C := RX7) (T := TX7) (N := 18) hx hb hts in_X7_laysCosts_X7 hown hK.1 hP (q) h45 rfl 12 (by decide) w_0 (fun _ h9 => h9) rfl dX7_laysCosts_145 ?_
          refine lv_bipush (v := 8) hx hb dX7_laysCosts_148 (by decide) ?_
          refine lv_iload_n hx hb dX7_laysCosts_150 rfl (lv_at hl 2 rfl) ?_
          refine lv_imul hx hb dX7_laysCosts_151 ?_
          refine lv_iload_n hx hb dX7_laysCosts_152 rfl (lv_at hl 4 rfl) ?_
          refine lv_iadd hx hb dX7_laysCosts_153 ?_
          refine lv_iload hx hb dX7_laysCosts_154 (lv_at hl 0 rfl) ?_
          refine lv_iload_n hx hb dX7_laysCosts_156 rfl (lv_at hl 3 rfl) ?_
          obtain ⟨r62, h63, hf⟩ := bd_s hf
          refine ks_i (va_runS (As := [.int 1, .int x2]) (rest := [.int ((8 * x1) + x3), .ref (A (q + 10))]) hcf (cz_X7_lesser l D k A w 1 x2 r62 h63) (va_cwS 2 hts gX7_laysCosts_X7_lesser rfl rfl rfl (by decide +kernel) ⟨Nat.le_of_ble_eq_true rfl, Nat.le_of_ble_eq_true rfl⟩) (pw_S hP hK hD) rfl rfl hl.1 rfl (lv_room (Nat.le_of_ble_eq_true rfl)) dX7_laysCosts_157 ⟨Nat.zero_le _, Nat.zero_le _⟩) ?_
          obtain ⟨z64, hf⟩ := ck_s hf
          refine va_iast hx hb hK.1 hP hD hS (q + 10) 0 h55 rfl (in_s z64) dX7_laysCosts_160 (fun _ _ hP hD hS => ?_)
          obtain ⟨u65, h66, m67, hP, hD⟩ := wd_put hP hD h55
          have hsm := sm_tr hsm m67 (by omega) (by omega)
          refine lv_iinc (v := (x3 + 1)) (lv' := [(3, .int (x3 + 1)), (4, .int 1), (0, .ref (A q)), (1, .int x1), (2, .int x2)]) hx hb dX7_laysCosts_161 hl (k := 4) rfl rfl (by decide) rfl (fun ls hl => ?_)
          refine lv_goto (tgt := 81) hx hb dX7_laysCosts_164 (by decide) ?_
          have h68 := sm_at m67 (by omega) h45
          have h69 := sm_at m67 (by omega) h46
          have h70 := sm_at m67 (by omega) h47
          have h71 := sm_at m67 (by omega) h48
          have h72 := sm_at m67 (by omega) h49
          have h73 := sm_at m67 (by omega) h50
          have h74 := sm_at m67 (by omega) h51
          have h75 := sm_at m67 (by omega) h52
          have h76 := sm_at m67 (by omega) h53
          have h77 := sm_at m67 (by omega) h54
          have h78 := sm_at m67 (by omega) h56
          have h79 := sm_at m67 (by omega) h57
          have h80 := sm_at m67 (by omega) h58
          have h81 := sm_at m67 (by omega) h59
          have h82 : is_Y k A u65 (q) st past image imagePast tape laneOf sizeOf items least (upd costs (Int32.toNatClampNeg ((8 * x1) + x3)) r62) hops comes chain told acts imageActs tapeMany readAt := ⟨h68, h69, h70, h71, h72, h73, h74, h75, h76, h77, h66, h78, h79, h80, h81⟩
          exact ih (upd costs (Int32.toNatClampNeg ((8 * x1) + x3)) r62) (x3 + 1) _ _ _ _ hf h82 hsm hP hD hS (lv_sub hl [2, 3, 4, 0] rfl)
        · have hf := it_p c61 hf
          refine lv_iconst (v := 0) hx hb dX7_laysCosts_108 (by decide) ?_
          refine lv_goto (tgt := 142) hx hb dX7_laysCosts_109 (by decide) ?_
          refine lv_istore (lv' := [(4, .int 0), (0, .ref (A q)), (1, .int x1), (2, .int x2), (3, .int x3)]) hx hb dX7_laysCosts_142 hl (by decide) rfl (fun ls hl => ?_)
          refine lv_aload_n hx hb dX7_laysCosts_144 rfl (lv_at hl 1 rfl) ?_
          refine va_get (D := D) (ci := 7) (v := .ref (A (q + 10))) (C := RX7) (T := TX7) (N := 18) hx hb hts in_X7_laysCosts_X7 hown hK.1 hP (q) h45 rfl 12 (by decide) w_0 (fun _ h9 => h9) rfl dX7_laysCosts_145 ?_
          refine lv_bipush (v := 8) hx hb dX7_laysCosts_148 (by decide) ?_
          refine lv_iload_n hx hb dX7_laysCosts_150 rfl (lv_at hl 2 rfl) ?_
          refine lv_imul hx hb dX7_laysCosts_151 ?_
          refine lv_iload_n hx hb dX7_laysCosts_152 rfl (lv_at hl 4 rfl) ?_
          refine lv_iadd hx hb dX7_laysCosts_153 ?_
          refine lv_iload hx hb dX7_laysCosts_154 (lv_at hl 0 rfl) ?_
          refine lv_iload_n hx hb dX7_laysCosts_156 rfl (lv_at hl 3 rfl) ?_
          obtain ⟨r83, h84, hf⟩ := bd_s hf
          refine ks_i (va_runS (As := [.int 0, .int x2]) (rest := [.int ((8 * x1) + x3), .ref (A (q + 10))]) hcf (cz_X7_lesser l D k A w 0 x2 r83 h84) (va_cwS 2 hts gX7_laysCosts_X7_lesser rfl rfl rfl (by decide +kernel) ⟨Nat.le_of_ble_eq_true rfl, Nat.le_of_ble_eq_true rfl⟩) (pw_S hP hK hD) rfl rfl hl.1 rfl (lv_room (Nat.le_of_ble_eq_true rfl)) dX7_laysCosts_157 ⟨Nat.zero_le _, Nat.zero_le _⟩) ?_
          obtain ⟨z85, hf⟩ := ck_s hf
          refine va_iast hx hb hK.1 hP hD hS (q + 10) 0 h55 rfl (in_s z85) dX7_laysCosts_160 (fun _ _ hP hD hS => ?_)
          obtain ⟨u86, h87, m88, hP, hD⟩ := wd_put hP hD h55
          have hsm := sm_tr hsm m88 (by omega) (by omega)
          refine lv_iinc (v := (x3 + 1)) (lv' := [(3, .int (x3 + 1)), (4, .int 0), (0, .ref (A q)), (1, .int x1), (2, .int x2)]) hx hb dX7_laysCosts_161 hl (k := 4) rfl rfl (by decide) rfl (fun ls hl => ?_)
          refine lv_goto (tgt := 81) hx hb dX7_laysCosts_164 (by decide) ?_
          have h89 := sm_at m88 (by omega) h45
          have h90 := sm_at m88 (by omega) h46
          have h91 := sm_at m88 (by omega) h47
          have h92 := sm_at m88 (by omega) h48
          have h93 := sm_at m88 (by omega) h49
          have h94 := sm_at m88 (by omega) h50
          have h95 := sm_at m88 (by omega) h51
          have h96 := sm_at m88 (by omega) h52
          have h97 := sm_at m88 (by omega) h53
          have h98 := sm_at m88 (by omega) h54
          have h99 := sm_at m88 (by omega) h56
          have h100 := sm_at m88 (by omega) h57
          have h101 := sm_at m88 (by omega) h58
          have h102 := sm_at m88 (by omega) h59
          have h103 : is_Y k A u86 (q) st past image imagePast tape laneOf sizeOf items least (upd costs (Int32.toNatClampNeg ((8 * x1) + x3)) r83) hops comes chain told acts imageActs tapeMany readAt := ⟨h89, h90, h91, h92, h93, h94, h95, h96, h97, h98, h87, h99, h100, h101, h102⟩
          exact ih (upd costs (Int32.toNatClampNeg ((8 * x1) + x3)) r83) (x3 + 1) _ _ _ _ hf h103 hsm hP hD hS (lv_sub hl [2, 3, 4, 0] rfl)

set_option maxHeartbeats 4000000 in
set_option maxRecDepth 100000 in
theorem wl_X7_laysCosts_12 {p : Program} {e : Env} {s : State} {m : MethodId} {args : Array Value} {below : List Frame} {meth : Method} {c : Code} (l : Launch) (D : va_G) (k : kt_T) (A : Nat → Nat) (ws : va_W) (q : Nat)  (out : (Nat → Int32)) (hK : kk_P D k s) (C0 : cx_P p s m meth c args cX7_laysCosts 5 wsX7_laysCosts RX7 none)  (st : Nat → Int32) (past : Nat → Int32) (image : Nat → Int32) (imagePast : Nat → Int32) (tape : Nat → Int32) (laneOf : Nat → Int32) (sizeOf : Nat → Int32) (items : Nat → Int64) (least : Nat → Int32) (costs : Nat → Int32) (hops : Nat → Int32) (comes : Nat → Int32) (chain : Nat → Int32) (told : Nat → Int32) (acts : Int32) (imageActs : Int32) (tapeMany : Int32) (readAt : Int32) (x1 : Int32)  (g_4 : (Nat → Int32) → Int32 → Option ((Nat → Int32))) (hg_4 : ∀ (costs : Nat → Int32) (x1 : Int32) (w : va_W) (H : Heap) (locs : List Loc) (ls : Array Slot), g_4 costs x1 = some out → is_Y k A w q st past image imagePast tape laneOf sizeOf items least costs hops comes chain told acts imageActs tapeMany readAt → sm_W ws w q (q + 15) → va_P D vwCl w H → va_D (va_A ws s.heap.size) w → va_S (va_A ws s.heap.size) s.heap H locs → lv_has ls 5 [(0, .ref (A q)), (1, .int x1)] → W p l e (headSpec wsX7_laysCosts { frames := 1, cells := 0, slots := 0, locals := 21 }).room s m args below meth c H locs 0 0 (MQ below (qw_Q D ws s.heap.size none (fun u => is_Y k A u q st past image imagePast tape laneOf sizeOf items least out hops comes chain told acts imageActs tapeMany readAt ∧ sm_W ws u q (q + 15))) args s 0 0 (va_A ws s.heap.size)) (F0 m 4 ls []))  : ∀ (n : Nat) (x2 : Int32) (x3 : Int32) (w : va_W) (H : Heap) (locs : List Loc) (ls : Array Slot), lp_X7_laysCosts_12 costs hops x1 g_4 n x2 x3 = some out → is_Y k A w q st past image imagePast tape laneOf sizeOf items least costs hops comes chain told acts imageActs tapeMany readAt → sm_W ws w q (q + 15) → va_P D vwCl w H → va_D (va_A ws s.heap.size) w → va_S (va_A ws s.heap.size) s.heap H locs → lv_has ls 5 [(0, .ref (A q)), (1, .int x1), (2, .int x2), (3, .int x3)] → W p l e (headSpec wsX7_laysCosts { frames := 1, cells := 0, slots := 0, locals := 21 }).room s m args below meth c H locs 0 0 (MQ below (qw_Q D ws s.heap.size none (fun u => is_Y k A u q st past image imagePast tape laneOf sizeOf items least out hops comes chain told acts imageActs tapeMany readAt ∧ sm_W ws u q (q + 15))) args s 0 0 (va_A ws s.heap.size)) (F0 m 12 ls []) := by
  obtain ⟨hx, hb, hml, hown, hts, hr, hlocks⟩ := id C0
  have hcf : CallFix p m c cX7_laysCosts 5 s args wsX7_laysCosts RX7 := ⟨hx, hb, hml, hown, hts⟩
  have hA : ∀ q, s.heap.size ≤ q → va_A ws s.heap.size q := fun q h => Or.inr h
  have w_0 := hts (.fieldLink RX7 42 "LeastRoutesModel" "costs" "[I") (List.mem_of_getElem? (i := 1) rfl)
  intro n
  induction n with
  | zero =>
    intro x2 x3 w H locs ls hf h_this hsm hP hD hS hl
    exact (no_s hf).elim
  | succ n ih =>
    intro x2 x3 w H locs ls hf h_this hsm hP hD hS hl
    rw [lp_X7_laysCosts_12] at hf
    refine lv_iload_n hx hb dX7_laysCosts_12 rfl (lv_at hl 3 rfl) ?_
    refine lv_bipush (v := 8) hx hb dX7_laysCosts_13 (by decide) ?_
    refine lv_icmp_ge (tgt := 79) hx hb dX7_laysCosts_15 (by decide) (fun c2 => ?_) (fun c2 => ?_)
    · have hf := it_p c2 hf
      refine lv_iconst (v := 0) hx hb dX7_laysCosts_79 (by decide) ?_
      refine lv_istore_n (lv' := [(3, .int 0), (0, .ref (A q)), (1, .int x1), (2, .int x2)]) hx hb dX7_laysCosts_80 rfl hl (by decide) rfl (fun ls hl => ?_)
      exact wl_X7_laysCosts_81 l D k A ws q _ hK C0 st past image imagePast tape laneOf sizeOf items least hops comes chain told acts imageActs tapeMany readAt x1 x2 g_4 hg_4 fu_N costs 0 _ _ _ _ hf h_this hsm hP hD hS (lv_sub hl [1, 2, 3, 0] rfl)
    · have hf := it_n c2 hf
      refine lv_iload_n hx hb dX7_laysCosts_18 rfl (lv_at hl 1 rfl) ?_
      refine lv_sipush (v := 256) hx hb dX7_laysCosts_19 (by decide) ?_
      refine lv_icmp_ge (tgt := 79) hx hb dX7_laysCosts_22 (by decide) (fun c104 => ?_) (fun c104 => ?_)
      · have hf := it_p c104 hf
        refine lv_iconst (v := 0) hx hb dX7_laysCosts_79 (by decide) ?_
        refine lv_istore_n (lv' := [(3, .int 0), (0, .ref (A q)), (1, .int x1), (2, .int x2)]) hx hb dX7_laysCosts_80 rfl hl (by decide) rfl (fun ls hl => ?_)
        exact wl_X7_laysCosts_81 l D k A ws q _ hK C0 st past image imagePast tape laneOf sizeOf items least hops comes chain told acts imageActs tapeMany readAt x1 x2 g_4 hg_4 fu_N costs 0 _ _ _ _ hf h_this hsm hP hD hS (lv_sub hl [1, 2, 3, 0] rfl)
      · have hf := it_n c104 hf
        refine lv_aload_n hx hb dX7_laysCosts_25 rfl (lv_at hl 0 rfl) ?_
        obtain ⟨h105, h106, h107, h108, h109, h110, h111, h112, h113, h114, h115, h116, h117, h118, h119⟩ := h_this
        refine va_get (D := D) (ci := 7) (v := .ref (A (q + 10))) (C := RX7) (T := TX7) (N := 18) hx hb hts in_X7_laysCosts_X7 hown hK.1 hP (q) h105 rfl 12 (by decide) w_0 (fun _ h9 => h9) rfl dX7_laysCosts_26 ?_
        refine lv_bipush (v := 16) hx hb dX7_laysCosts_29 (by decide) ?_
        refine lv_iload_n hx hb dX7_laysCosts_31 rfl (lv_at hl 1 rfl) ?_
        refine lv_imul hx hb dX7_laysCosts_32 ?_
        refine lv_iload_n hx hb dX7_laysCosts_33 rfl (lv_at hl 3 rfl) ?_
        refine lv_iadd hx hb dX7_laysCosts_34 ?_
        obtain ⟨z120, hf⟩ := ck_s hf
        refine va_iald hx hb hK.1 hP (q + 10) 0 h115 rfl (in_s z120) dX7_laysCosts_35 ?_
        refine lv_aload_n hx hb dX7_laysCosts_36 rfl (lv_at hl 0 rfl) ?_
        refine va_get (D := D) (ci := 7) (v := .ref (A (q + 10))) (C := RX7) (T := TX7) (N := 18) hx hb hts in_X7_laysCosts_X7 hown hK.1 hP (q) h105 rfl 12 (by decide) w_0 (fun _ h9 => h9) rfl dX7_laysCosts_37 ?_
        refine lv_bipush (v := 16) hx hb dX7_laysCosts_40 (by decide) ?_
        refine lv_iload_n hx hb dX7_laysCosts_42 rfl (lv_at hl 1 rfl) ?_
        refine lv_imul hx hb dX7_laysCosts_43 ?_
        refine lv_bipush (v := 8) hx hb dX7_laysCosts_44 (by decide) ?_
        refine lv_iadd hx hb dX7_laysCosts_46 ?_
        refine lv_iload_n hx hb dX7_laysCosts_47 rfl (lv_at hl 3 rfl) ?_
        refine lv_iadd hx hb dX7_laysCosts_48 ?_
        obtain ⟨z121, hf⟩ := ck_s hf
        refine va_iald hx hb hK.1 hP (q + 10) 0 h115 rfl (in_s z121) dX7_laysCosts_49 ?_
        refine lv_iadd hx hb dX7_laysCosts_50 ?_
        refine lv_topi (fun y122 e123 => ?_)
        have hf := lt_s' e123 hf
        refine lv_istore (lv' := [(4, .int y122), (0, .ref (A q)), (1, .int x1), (2, .int x2), (3, .int x3)]) hx hb dX7_laysCosts_51 hl (by decide) rfl (fun ls hl => ?_)
        refine lv_iload_n hx hb dX7_laysCosts_53 rfl (lv_at hl 4 rfl) ?_
        refine lv_if_ne (tgt := 64) hx hb dX7_laysCosts_54 (by decide) (fun c124 => ?_) (fun c124 => ?_)
        · have hf := it_n c124 hf
          refine lv_iload_n hx hb dX7_laysCosts_64 rfl (lv_at hl 3 rfl) ?_
          refine lv_iload hx hb dX7_laysCosts_65 (lv_at hl 0 rfl) ?_
          refine lv_iconst (v := 1) hx hb dX7_laysCosts_67 (by decide) ?_
          refine lv_iadd hx hb dX7_laysCosts_68 ?_
          obtain ⟨r125, h126, hf⟩ := bd_s hf
          refine ks_i (va_runS (As := [.int x2, .int (y122 + 1)]) (rest := []) hcf (cz_X7_lesser l D k A w x2 (y122 + 1) r125 h126) (va_cwS 2 hts gX7_laysCosts_X7_lesser rfl rfl rfl (by decide +kernel) ⟨Nat.le_of_ble_eq_true rfl, Nat.le_of_ble_eq_true rfl⟩) (pw_S hP hK hD) rfl rfl hl.1 rfl (lv_room (Nat.le_of_ble_eq_true rfl)) dX7_laysCosts_69 ⟨Nat.zero_le _, Nat.zero_le _⟩) ?_
          refine lv_istore_n (lv' := [(2, .int r125), (4, .int y122), (0, .ref (A q)), (1, .int x1), (3, .int x3)]) hx hb dX7_laysCosts_72 rfl hl (by decide) rfl (fun ls hl => ?_)
          refine lv_iinc (v := (x3 + 1)) (lv' := [(3, .int (x3 + 1)), (2, .int r125), (4, .int y122), (0, .ref (A q)), (1, .int x1)]) hx hb dX7_laysCosts_73 hl (k := 4) rfl rfl (by decide) rfl (fun ls hl => ?_)
          refine lv_goto (tgt := 12) hx hb dX7_laysCosts_76 (by decide) ?_
          have h127 : is_Y k A w (q) st past image imagePast tape laneOf sizeOf items least costs hops comes chain told acts imageActs tapeMany readAt := ⟨h105, h106, h107, h108, h109, h110, h111, h112, h113, h114, h115, h116, h117, h118, h119⟩
          exact ih r125 (x3 + 1) _ _ _ _ hf h127 hsm hP hD hS (lv_sub hl [3, 4, 1, 0] rfl)
        · have hf := it_p c124 hf
          refine lv_iload hx hb dX7_laysCosts_57 (lv_at hl 0 rfl) ?_
          refine lv_iconst (v := 1) hx hb dX7_laysCosts_59 (by decide) ?_
          refine lv_iadd hx hb dX7_laysCosts_60 ?_
          refine lv_goto (tgt := 72) hx hb dX7_laysCosts_61 (by decide) ?_
          refine lv_istore_n (lv' := [(2, .int (y122 + 1)), (4, .int y122), (0, .ref (A q)), (1, .int x1), (3, .int x3)]) hx hb dX7_laysCosts_72 rfl hl (by decide) rfl (fun ls hl => ?_)
          refine lv_iinc (v := (x3 + 1)) (lv' := [(3, .int (x3 + 1)), (2, .int (y122 + 1)), (4, .int y122), (0, .ref (A q)), (1, .int x1)]) hx hb dX7_laysCosts_73 hl (k := 4) rfl rfl (by decide) rfl (fun ls hl => ?_)
          refine lv_goto (tgt := 12) hx hb dX7_laysCosts_76 (by decide) ?_
          have h128 : is_Y k A w (q) st past image imagePast tape laneOf sizeOf items least costs hops comes chain told acts imageActs tapeMany readAt := ⟨h105, h106, h107, h108, h109, h110, h111, h112, h113, h114, h115, h116, h117, h118, h119⟩
          exact ih (y122 + 1) (x3 + 1) _ _ _ _ hf h128 hsm hP hD hS (lv_sub hl [3, 4, 1, 0] rfl)

set_option maxHeartbeats 4000000 in
set_option maxRecDepth 100000 in
theorem wl_X7_laysCosts_4 {p : Program} {e : Env} {s : State} {m : MethodId} {args : Array Value} {below : List Frame} {meth : Method} {c : Code} (l : Launch) (D : va_G) (k : kt_T) (A : Nat → Nat) (ws : va_W) (q : Nat)  (out : (Nat → Int32)) (hK : kk_P D k s) (C0 : cx_P p s m meth c args cX7_laysCosts 5 wsX7_laysCosts RX7 none)  (st : Nat → Int32) (past : Nat → Int32) (image : Nat → Int32) (imagePast : Nat → Int32) (tape : Nat → Int32) (laneOf : Nat → Int32) (sizeOf : Nat → Int32) (items : Nat → Int64) (least : Nat → Int32) (hops : Nat → Int32) (comes : Nat → Int32) (chain : Nat → Int32) (told : Nat → Int32) (acts : Int32) (imageActs : Int32) (tapeMany : Int32) (readAt : Int32)     : ∀ (n : Nat) (costs : Nat → Int32) (x1 : Int32) (w : va_W) (H : Heap) (locs : List Loc) (ls : Array Slot), lp_X7_laysCosts_4 hops n costs x1 = some out → is_Y k A w q st past image imagePast tape laneOf sizeOf items least costs hops comes chain told acts imageActs tapeMany readAt → sm_W ws w q (q + 15) → va_P D vwCl w H → va_D (va_A ws s.heap.size) w → va_S (va_A ws s.heap.size) s.heap H locs → lv_has ls 5 [(0, .ref (A q)), (1, .int x1)] → W p l e (headSpec wsX7_laysCosts { frames := 1, cells := 0, slots := 0, locals := 21 }).room s m args below meth c H locs 0 0 (MQ below (qw_Q D ws s.heap.size none (fun u => is_Y k A u q st past image imagePast tape laneOf sizeOf items least out hops comes chain told acts imageActs tapeMany readAt ∧ sm_W ws u q (q + 15))) args s 0 0 (va_A ws s.heap.size)) (F0 m 4 ls []) := by
  obtain ⟨hx, hb, hml, hown, hts, hr, hlocks⟩ := id C0
  have hcf : CallFix p m c cX7_laysCosts 5 s args wsX7_laysCosts RX7 := ⟨hx, hb, hml, hown, hts⟩
  have hA : ∀ q, s.heap.size ≤ q → va_A ws s.heap.size q := fun q h => Or.inr h
  intro n
  induction n with
  | zero =>
    intro costs x1 w H locs ls hf h_this hsm hP hD hS hl
    exact (no_s hf).elim
  | succ n ih =>
    intro costs x1 w H locs ls hf h_this hsm hP hD hS hl
    rw [lp_X7_laysCosts_4] at hf
    refine lv_iload_n hx hb dX7_laysCosts_4 rfl (lv_at hl 1 rfl) ?_
    refine lv_if_le (tgt := 173) hx hb dX7_laysCosts_5 (by decide) (fun c1 => ?_) (fun c1 => ?_)
    · have hf := it_p c1 hf
      obtain rfl := so_i hf
      exact W.vret hx hb hr (qw_end hS hP hD ⟨h_this, hsm⟩) hS.2.2 dX7_laysCosts_173
    · have hf := it_n c1 hf
      refine lv_iconst (v := 1) hx hb dX7_laysCosts_8 (by decide) ?_
      refine lv_istore_n (lv' := [(2, .int 1), (0, .ref (A q)), (1, .int x1)]) hx hb dX7_laysCosts_9 rfl hl (by decide) rfl (fun ls hl => ?_)
      refine lv_iconst (v := 0) hx hb dX7_laysCosts_10 (by decide) ?_
      refine lv_istore_n (lv' := [(3, .int 0), (2, .int 1), (0, .ref (A q)), (1, .int x1)]) hx hb dX7_laysCosts_11 rfl hl (by decide) rfl (fun ls hl => ?_)
      exact wl_X7_laysCosts_12 l D k A ws q _ hK C0 st past image imagePast tape laneOf sizeOf items least costs hops comes chain told acts imageActs tapeMany readAt x1 _ ih fu_N 1 0 _ _ _ _ hf h_this hsm hP hD hS (lv_sub hl [2, 3, 1, 0] rfl)

set_option maxHeartbeats 4000000 in
set_option maxRecDepth 100000 in
theorem cz_X7_laysCosts (l : Launch) (D : va_G) (k : kt_T) (A : Nat → Nat) (ws : va_W) (q : Nat)  (st : Nat → Int32) (past : Nat → Int32) (image : Nat → Int32) (imagePast : Nat → Int32) (tape : Nat → Int32) (laneOf : Nat → Int32) (sizeOf : Nat → Int32) (items : Nat → Int64) (least : Nat → Int32) (costs : Nat → Int32) (hops : Nat → Int32) (comes : Nat → Int32) (chain : Nat → Int32) (told : Nat → Int32) (acts : Int32) (imageActs : Int32) (tapeMany : Int32) (readAt : Int32)  (out : (Nat → Int32)) (hf : pf_X7_laysCosts costs hops = some out) (h_this : is_Y k A ws q st past image imagePast tape laneOf sizeOf items least costs hops comes chain told acts imageActs tapeMany readAt)  (sz0 : Nat) : Met l yX7_laysCosts wsX7_laysCosts { frames := 1, cells := 0, slots := 0, locals := 21 } (va_Pc [.ref (A q)] (px_P D k ws sz0)) (qw_Q D ws sz0 none (fun u => is_Y k A u q st past image imagePast tape laneOf sizeOf items least out hops comes chain told acts imageActs tapeMany readAt ∧ sm_W ws u q (q + 15))) 0 0 (va_A ws sz0) := by
  refine Met.ofW (cc := cX7_laysCosts) (maxL := 5) (ret := none) (by decide) rfl ?_
  intro p e s m args below meth c s₁ B hml hv
  obtain ⟨rfl, hsz, hP, hK, hD0⟩ := hv
  subst hsz
  have hD := hD0.self (sz := s.heap.size)
  have C0 : cx_P p s m meth c [.ref (A q)].toArray cX7_laysCosts 5 wsX7_laysCosts RX7 none := ⟨B.exec, B.bytes, hml, findClass_of_methodNamed B.named, atoms_spec (ws := wsX7_laysCosts) B.pre, B.returns, B.notSynchronized⟩
  obtain ⟨hx, hb, hml, hown, hts, hr, hlocks⟩ := id C0
  have hcf : CallFix p m c cX7_laysCosts 5 s [.ref (A q)].toArray wsX7_laysCosts RX7 := ⟨hx, hb, hml, hown, hts⟩
  have hA : ∀ q, s.heap.size ≤ q → va_A ws s.heap.size q := fun q h => Or.inr h
  have hS : va_S (va_A ws s.heap.size) s.heap s.heap [] := va_S.rf
  have hsm : sm_W ws ws q (q + 15) := sm_rf
  have hl := lv_entry ([.ref (A q)]) (n := 5) (Nat.le_of_ble_eq_true rfl)
  rw [lg_entry_eq]
  generalize (lg_sl ([.ref (A q)]) ++ List.replicate (5 - (lg_sl ([.ref (A q)])).length) Slot.unset).toArray = ls at hl ⊢
  have hl : lv_has ls 5 [(0, .ref (A q))] := hl
  unfold pf_X7_laysCosts at hf
  refine lv_sipush (v := 511) hx hb dX7_laysCosts_0 (by decide) ?_
  refine lv_istore_n (lv' := [(1, .int 511), (0, .ref (A q))]) hx hb dX7_laysCosts_3 rfl hl (by decide) rfl (fun ls hl => ?_)
  exact wl_X7_laysCosts_4 l D k A ws q _ hK C0 st past image imagePast tape laneOf sizeOf items least hops comes chain told acts imageActs tapeMany readAt fu_N costs 511 _ _ _ _ hf h_this hsm hP hD hS (lv_sub hl [1, 0] rfl)

theorem in_X7_ease_X7 : ∀ w ∈ u_ws RX7 TX7 18, w ∈ wsX7_ease := fun w h => List.mem_cons_of_mem _ (List.mem_append_right _ h)
def lp_X7_ease_12  (costs : Nat → Int32) (x1 : Int32) : Nat → Int32 → Int32 → Option (Int32)
  | 0, _, _ => none
  | n + 1, x2, x3 =>
    if 8 ≤ x3 then
      some x2
    else
      ck_O (in_b ((8 * x1) + x3) 4096) (
        (pf_X7_lesser x2 (costs (Int32.toNatClampNeg ((8 * x1) + x3)))).bind (fun r36 =>
          lp_X7_ease_12 costs x1 n r36 (x3 + 1)))

def pf_X7_ease (costs : Nat → Int32)  (p1 : Int32) : Option (Int32) :=
  ck_O (in_b (8 * p1) 4096) (
    lt_O (costs (Int32.toNatClampNeg (8 * p1))) (fun y17 =>
      lp_X7_ease_12 costs p1 fu_N y17 1))

set_option maxHeartbeats 4000000 in
set_option maxRecDepth 100000 in
theorem wl_X7_ease_12 {p : Program} {e : Env} {s : State} {m : MethodId} {args : Array Value} {below : List Frame} {meth : Method} {c : Code} (l : Launch) (D : va_G) (k : kt_T) (A : Nat → Nat) (ws : va_W) (q : Nat)  (out : Int32) (hK : kk_P D k s) (C0 : cx_P p s m meth c args cX7_ease 4 wsX7_ease RX7 (some .int))  (st : Nat → Int32) (past : Nat → Int32) (image : Nat → Int32) (imagePast : Nat → Int32) (tape : Nat → Int32) (laneOf : Nat → Int32) (sizeOf : Nat → Int32) (items : Nat → Int64) (least : Nat → Int32) (costs : Nat → Int32) (hops : Nat → Int32) (comes : Nat → Int32) (chain : Nat → Int32) (told : Nat → Int32) (acts : Int32) (imageActs : Int32) (tapeMany : Int32) (readAt : Int32) (x1 : Int32)   (h_this : is_Y k A ws q st past image imagePast tape laneOf sizeOf items least costs hops comes chain told acts imageActs tapeMany readAt) (hP : va_P D vwCl ws s.heap) (hD : va_D (fun _ => True) ws) : ∀ (n : Nat) (x2 : Int32) (x3 : Int32) (ls : Array Slot), lp_X7_ease_12 costs x1 n x2 x3 = some out → lv_has ls 4 [(0, .ref (A q)), (1, .int x1), (2, .int x2), (3, .int x3)] → W p l e (headSpec wsX7_ease { frames := 1, cells := 0, slots := 0, locals := 21 }).room s m args below meth c s.heap [] 0 0 (MQ below (qs_Q (some (.int out))) args s 0 0 (fun _ => False)) (F0 m 12 ls []) := by
  obtain ⟨hx, hb, hml, hown, hts, hr, hlocks⟩ := id C0
  have hcf : CallFix p m c cX7_ease 4 s args wsX7_ease RX7 := ⟨hx, hb, hml, hown, hts⟩
  have w_0 := hts (.fieldLink RX7 42 "LeastRoutesModel" "costs" "[I") (List.mem_of_getElem? (i := 1) rfl)
  intro n
  induction n with
  | zero =>
    intro x2 x3 ls hf hl
    exact (no_s hf).elim
  | succ n ih =>
    intro x2 x3 ls hf hl
    rw [lp_X7_ease_12] at hf
    refine lv_iload_n hx hb dX7_ease_12 rfl (lv_at hl 3 rfl) ?_
    refine lv_bipush (v := 8) hx hb dX7_ease_13 (by decide) ?_
    refine lv_icmp_ge (tgt := 40) hx hb dX7_ease_15 (by decide) (fun c19 => ?_) (fun c19 => ?_)
    · have hf := it_p c19 hf
      refine lv_iload_n hx hb dX7_ease_40 rfl (lv_at hl 2 rfl) ?_
      obtain rfl := so_i hf
      exact W.iret (v := x2) hx hb hr (fun t ht _ => ⟨rfl, ht⟩) (fun _ h => absurd h List.not_mem_nil) dX7_ease_41
    · have hf := it_n c19 hf
      refine lv_iload_n hx hb dX7_ease_18 rfl (lv_at hl 2 rfl) ?_
      refine lv_aload_n hx hb dX7_ease_19 rfl (lv_at hl 0 rfl) ?_
      obtain ⟨h20, h21, h22, h23, h24, h25, h26, h27, h28, h29, h30, h31, h32, h33, h34⟩ := h_this
      refine va_get (D := D) (ci := 7) (v := .ref (A (q + 10))) (C := RX7) (T := TX7) (N := 18) hx hb hts in_X7_ease_X7 hown hK.1 hP (q) h20 rfl 12 (by decide) w_0 (fun _ h9 => h9) rfl dX7_ease_20 ?_
      refine lv_bipush (v := 8) hx hb dX7_ease_23 (by decide) ?_
      refine lv_iload_n hx hb dX7_ease_25 rfl (lv_at hl 1 rfl) ?_
      refine lv_imul hx hb dX7_ease_26 ?_
      refine lv_iload_n hx hb dX7_ease_27 rfl (lv_at hl 3 rfl) ?_
      refine lv_iadd hx hb dX7_ease_28 ?_
      obtain ⟨z35, hf⟩ := ck_s hf
      refine va_iald hx hb hK.1 hP (q + 10) 0 h30 rfl (in_s z35) dX7_ease_29 ?_
      obtain ⟨r36, h37, hf⟩ := bd_s hf
      refine ks_i (va_runS (As := [.int x2, .int (costs (Int32.toNatClampNeg ((8 * x1) + x3)))]) (rest := []) hcf (cz_X7_lesser l D k A ws x2 (costs (Int32.toNatClampNeg ((8 * x1) + x3))) r36 h37) (va_cwS 2 hts gX7_ease_X7_lesser rfl rfl rfl (by decide +kernel) ⟨Nat.le_of_ble_eq_true rfl, Nat.le_of_ble_eq_true rfl⟩) (pw_S hP hK hD) rfl rfl hl.1 rfl (lv_room (Nat.le_of_ble_eq_true rfl)) dX7_ease_30 ⟨Nat.zero_le _, Nat.zero_le _⟩) ?_
      refine lv_istore_n (lv' := [(2, .int r36), (0, .ref (A q)), (1, .int x1), (3, .int x3)]) hx hb dX7_ease_33 rfl hl (by decide) rfl (fun ls hl => ?_)
      refine lv_iinc (v := (x3 + 1)) (lv' := [(3, .int (x3 + 1)), (2, .int r36), (0, .ref (A q)), (1, .int x1)]) hx hb dX7_ease_34 hl (k := 3) rfl rfl (by decide) rfl (fun ls hl => ?_)
      refine lv_goto (tgt := 12) hx hb dX7_ease_37 (by decide) ?_
      exact ih r36 (x3 + 1) _ hf (lv_sub hl [2, 3, 1, 0] rfl)

set_option maxHeartbeats 4000000 in
set_option maxRecDepth 100000 in
theorem cz_X7_ease (l : Launch) (D : va_G) (k : kt_T) (A : Nat → Nat) (ws : va_W) (q : Nat)  (st : Nat → Int32) (past : Nat → Int32) (image : Nat → Int32) (imagePast : Nat → Int32) (tape : Nat → Int32) (laneOf : Nat → Int32) (sizeOf : Nat → Int32) (items : Nat → Int64) (least : Nat → Int32) (costs : Nat → Int32) (hops : Nat → Int32) (comes : Nat → Int32) (chain : Nat → Int32) (told : Nat → Int32) (acts : Int32) (imageActs : Int32) (tapeMany : Int32) (readAt : Int32) (p1 : Int32) (out : Int32) (hf : pf_X7_ease costs p1 = some out) (h_this : is_Y k A ws q st past image imagePast tape laneOf sizeOf items least costs hops comes chain told acts imageActs tapeMany readAt)  : Met l yX7_ease wsX7_ease { frames := 1, cells := 0, slots := 0, locals := 21 } (va_Pc [.ref (A q), .int p1] (pw_P D k ws)) (qs_Q (some (.int out))) 0 0 (fun _ => False) := by
  refine Met.ofW (cc := cX7_ease) (maxL := 4) (ret := (some .int)) (by decide) rfl ?_
  intro p e s m args below meth c s₁ B hml hv
  obtain ⟨rfl, hP, hK, hD⟩ := hv
  have C0 : cx_P p s m meth c [.ref (A q), .int p1].toArray cX7_ease 4 wsX7_ease RX7 (some .int) := ⟨B.exec, B.bytes, hml, findClass_of_methodNamed B.named, atoms_spec (ws := wsX7_ease) B.pre, B.returns, B.notSynchronized⟩
  obtain ⟨hx, hb, hml, hown, hts, hr, hlocks⟩ := id C0
  have hcf : CallFix p m c cX7_ease 4 s [.ref (A q), .int p1].toArray wsX7_ease RX7 := ⟨hx, hb, hml, hown, hts⟩
  have w_0 := hts (.fieldLink RX7 42 "LeastRoutesModel" "costs" "[I") (List.mem_of_getElem? (i := 1) rfl)
  have hl := lv_entry ([.ref (A q), .int p1]) (n := 4) (Nat.le_of_ble_eq_true rfl)
  rw [lg_entry_eq]
  generalize (lg_sl ([.ref (A q), .int p1]) ++ List.replicate (4 - (lg_sl ([.ref (A q), .int p1])).length) Slot.unset).toArray = ls at hl ⊢
  have hl : lv_has ls 4 [(0, .ref (A q)), (1, .int p1)] := hl
  unfold pf_X7_ease at hf
  refine lv_aload_n hx hb dX7_ease_0 rfl (lv_at hl 0 rfl) ?_
  obtain ⟨h1, h2, h3, h4, h5, h6, h7, h8, h9, h10, h11, h12, h13, h14, h15⟩ := h_this
  refine va_get (D := D) (ci := 7) (v := .ref (A (q + 10))) (C := RX7) (T := TX7) (N := 18) hx hb hts in_X7_ease_X7 hown hK.1 hP (q) h1 rfl 12 (by decide) w_0 (fun _ h9 => h9) rfl dX7_ease_1 ?_
  refine lv_bipush (v := 8) hx hb dX7_ease_4 (by decide) ?_
  refine lv_iload_n hx hb dX7_ease_6 rfl (lv_at hl 1 rfl) ?_
  refine lv_imul hx hb dX7_ease_7 ?_
  obtain ⟨z16, hf⟩ := ck_s hf
  refine va_iald hx hb hK.1 hP (q + 10) 0 h11 rfl (in_s z16) dX7_ease_8 ?_
  refine lv_topi (fun y17 e18 => ?_)
  have hf := lt_s' e18 hf
  refine lv_istore_n (lv' := [(2, .int y17), (0, .ref (A q)), (1, .int p1)]) hx hb dX7_ease_9 rfl hl (by decide) rfl (fun ls hl => ?_)
  refine lv_iconst (v := 1) hx hb dX7_ease_10 (by decide) ?_
  refine lv_istore_n (lv' := [(3, .int 1), (2, .int y17), (0, .ref (A q)), (1, .int p1)]) hx hb dX7_ease_11 rfl hl (by decide) rfl (fun ls hl => ?_)
  have h38 : is_Y k A ws (q) st past image imagePast tape laneOf sizeOf items least costs hops comes chain told acts imageActs tapeMany readAt := ⟨h1, h2, h3, h4, h5, h6, h7, h8, h9, h10, h11, h12, h13, h14, h15⟩
  exact wl_X7_ease_12 l D k A ws q _ hK C0 st past image imagePast tape laneOf sizeOf items least costs hops comes chain told acts imageActs tapeMany readAt p1 h38 hP hD fu_N y17 1 _ hf (lv_sub hl [2, 3, 1, 0] rfl)

theorem in_X7_setOf_X7 : ∀ w ∈ u_ws RX7 TX7 18, w ∈ wsX7_setOf := fun w h => List.mem_cons_of_mem _ (List.mem_append_right _ h)
def lp_X7_setOf_4  (costs : Nat → Int32) (x1 : Int32) : Nat → Int32 → Int32 → Option (Int32)
  | 0, _, _ => none
  | n + 1, x2, x3 =>
    if 8 ≤ x3 then
      some x2
    else
      ck_O (in_b ((8 * x1) + x3) 4096) (
        (pf_X7_ease costs x1).bind (fun r19 =>
          if (costs (Int32.toNatClampNeg ((8 * x1) + x3))) = r19 then
            lt_O (x2 ||| ((1 : Int32) <<< (x3 &&& 31))) (fun y22 =>
              lp_X7_setOf_4 costs x1 n y22 (x3 + 1))
          else
            lp_X7_setOf_4 costs x1 n (x2 ||| 0) (x3 + 1)))

def pf_X7_setOf (costs : Nat → Int32)  (p1 : Int32) : Option (Int32) :=
  lp_X7_setOf_4 costs p1 fu_N 0 0

set_option maxHeartbeats 4000000 in
set_option maxRecDepth 100000 in
theorem wl_X7_setOf_4 {p : Program} {e : Env} {s : State} {m : MethodId} {args : Array Value} {below : List Frame} {meth : Method} {c : Code} (l : Launch) (D : va_G) (k : kt_T) (A : Nat → Nat) (ws : va_W) (q : Nat)  (out : Int32) (hK : kk_P D k s) (C0 : cx_P p s m meth c args cX7_setOf 4 wsX7_setOf RX7 (some .int))  (st : Nat → Int32) (past : Nat → Int32) (image : Nat → Int32) (imagePast : Nat → Int32) (tape : Nat → Int32) (laneOf : Nat → Int32) (sizeOf : Nat → Int32) (items : Nat → Int64) (least : Nat → Int32) (costs : Nat → Int32) (hops : Nat → Int32) (comes : Nat → Int32) (chain : Nat → Int32) (told : Nat → Int32) (acts : Int32) (imageActs : Int32) (tapeMany : Int32) (readAt : Int32) (x1 : Int32)   (h_this : is_Y k A ws q st past image imagePast tape laneOf sizeOf items least costs hops comes chain told acts imageActs tapeMany readAt) (hP : va_P D vwCl ws s.heap) (hD : va_D (fun _ => True) ws) : ∀ (n : Nat) (x2 : Int32) (x3 : Int32) (ls : Array Slot), lp_X7_setOf_4 costs x1 n x2 x3 = some out → lv_has ls 4 [(0, .ref (A q)), (1, .int x1), (2, .int x2), (3, .int x3)] → W p l e (headSpec wsX7_setOf { frames := 2, cells := 0, slots := 0, locals := 44 }).room s m args below meth c s.heap [] 0 0 (MQ below (qs_Q (some (.int out))) args s 0 0 (fun _ => False)) (F0 m 4 ls []) := by
  obtain ⟨hx, hb, hml, hown, hts, hr, hlocks⟩ := id C0
  have hcf : CallFix p m c cX7_setOf 4 s args wsX7_setOf RX7 := ⟨hx, hb, hml, hown, hts⟩
  have w_0 := hts (.fieldLink RX7 42 "LeastRoutesModel" "costs" "[I") (List.mem_of_getElem? (i := 1) rfl)
  intro n
  induction n with
  | zero =>
    intro x2 x3 ls hf hl
    exact (no_s hf).elim
  | succ n ih =>
    intro x2 x3 ls hf hl
    rw [lp_X7_setOf_4] at hf
    refine lv_iload_n hx hb dX7_setOf_4 rfl (lv_at hl 3 rfl) ?_
    refine lv_bipush (v := 8) hx hb dX7_setOf_5 (by decide) ?_
    refine lv_icmp_ge (tgt := 45) hx hb dX7_setOf_7 (by decide) (fun c1 => ?_) (fun c1 => ?_)
    · have hf := it_p c1 hf
      refine lv_iload_n hx hb dX7_setOf_45 rfl (lv_at hl 2 rfl) ?_
      obtain rfl := so_i hf
      exact W.iret (v := x2) hx hb hr (fun t ht _ => ⟨rfl, ht⟩) (fun _ h => absurd h List.not_mem_nil) dX7_setOf_46
    · have hf := it_n c1 hf
      refine lv_iload_n hx hb dX7_setOf_10 rfl (lv_at hl 2 rfl) ?_
      refine lv_aload_n hx hb dX7_setOf_11 rfl (lv_at hl 0 rfl) ?_
      obtain ⟨h2, h3, h4, h5, h6, h7, h8, h9, h10, h11, h12, h13, h14, h15, h16⟩ := h_this
      refine va_get (D := D) (ci := 7) (v := .ref (A (q + 10))) (C := RX7) (T := TX7) (N := 18) hx hb hts in_X7_setOf_X7 hown hK.1 hP (q) h2 rfl 12 (by decide) w_0 (fun _ h9 => h9) rfl dX7_setOf_12 ?_
      refine lv_bipush (v := 8) hx hb dX7_setOf_15 (by decide) ?_
      refine lv_iload_n hx hb dX7_setOf_17 rfl (lv_at hl 1 rfl) ?_
      refine lv_imul hx hb dX7_setOf_18 ?_
      refine lv_iload_n hx hb dX7_setOf_19 rfl (lv_at hl 3 rfl) ?_
      refine lv_iadd hx hb dX7_setOf_20 ?_
      obtain ⟨z17, hf⟩ := ck_s hf
      refine va_iald hx hb hK.1 hP (q + 10) 0 h12 rfl (in_s z17) dX7_setOf_21 ?_
      refine lv_aload_n hx hb dX7_setOf_22 rfl (lv_at hl 0 rfl) ?_
      refine lv_iload_n hx hb dX7_setOf_23 rfl (lv_at hl 1 rfl) ?_
      have h18 : is_Y k A ws (q) st past image imagePast tape laneOf sizeOf items least costs hops comes chain told acts imageActs tapeMany readAt := ⟨h2, h3, h4, h5, h6, h7, h8, h9, h10, h11, h12, h13, h14, h15, h16⟩
      obtain ⟨r19, h20, hf⟩ := bd_s hf
      refine ks_i (va_runV (As := [.int x1]) (rest := [.int (costs (Int32.toNatClampNeg ((8 * x1) + x3))), .int x2]) hcf (cz_X7_ease l D k A ws (q) st past image imagePast tape laneOf sizeOf items least costs hops comes chain told acts imageActs tapeMany readAt x1 r19 h20 h18) (cwV 1 hts gX7_setOf_X7_ease rfl rfl rfl (by decide +kernel) ⟨Nat.le_of_ble_eq_true rfl, Nat.le_of_ble_eq_true rfl⟩) (pw_V hP hK hD (ci := 7) h18.1 rfl) rfl rfl hl.1 rfl (lv_room (Nat.le_of_ble_eq_true rfl)) dX7_setOf_24 ⟨Nat.zero_le _, Nat.zero_le _⟩) ?_
      refine lv_icmp_ne (tgt := 36) hx hb dX7_setOf_27 (by decide) (fun c21 => ?_) (fun c21 => ?_)
      · have hf := it_n c21 hf
        refine lv_iconst (v := 0) hx hb dX7_setOf_36 (by decide) ?_
        refine lv_ior hx hb dX7_setOf_37 ?_
        refine lv_istore_n (lv' := [(2, .int (x2 ||| 0)), (0, .ref (A q)), (1, .int x1), (3, .int x3)]) hx hb dX7_setOf_38 rfl hl (by decide) rfl (fun ls hl => ?_)
        refine lv_iinc (v := (x3 + 1)) (lv' := [(3, .int (x3 + 1)), (2, .int (x2 ||| 0)), (0, .ref (A q)), (1, .int x1)]) hx hb dX7_setOf_39 hl (k := 3) rfl rfl (by decide) rfl (fun ls hl => ?_)
        refine lv_goto (tgt := 4) hx hb dX7_setOf_42 (by decide) ?_
        exact ih (x2 ||| 0) (x3 + 1) _ hf (lv_sub hl [2, 3, 1, 0] rfl)
      · have hf := it_p c21 hf
        refine lv_iconst (v := 1) hx hb dX7_setOf_30 (by decide) ?_
        refine lv_iload_n hx hb dX7_setOf_31 rfl (lv_at hl 3 rfl) ?_
        refine lv_ishl hx hb dX7_setOf_32 ?_
        refine lv_goto (tgt := 37) hx hb dX7_setOf_33 (by decide) ?_
        refine lv_ior hx hb dX7_setOf_37 ?_
        refine lv_topi (fun y22 e23 => ?_)
        have hf := lt_s' e23 hf
        refine lv_istore_n (lv' := [(2, .int y22), (0, .ref (A q)), (1, .int x1), (3, .int x3)]) hx hb dX7_setOf_38 rfl hl (by decide) rfl (fun ls hl => ?_)
        refine lv_iinc (v := (x3 + 1)) (lv' := [(3, .int (x3 + 1)), (2, .int y22), (0, .ref (A q)), (1, .int x1)]) hx hb dX7_setOf_39 hl (k := 3) rfl rfl (by decide) rfl (fun ls hl => ?_)
        refine lv_goto (tgt := 4) hx hb dX7_setOf_42 (by decide) ?_
        exact ih y22 (x3 + 1) _ hf (lv_sub hl [2, 3, 1, 0] rfl)

set_option maxHeartbeats 4000000 in
set_option maxRecDepth 100000 in
theorem cz_X7_setOf (l : Launch) (D : va_G) (k : kt_T) (A : Nat → Nat) (ws : va_W) (q : Nat)  (st : Nat → Int32) (past : Nat → Int32) (image : Nat → Int32) (imagePast : Nat → Int32) (tape : Nat → Int32) (laneOf : Nat → Int32) (sizeOf : Nat → Int32) (items : Nat → Int64) (least : Nat → Int32) (costs : Nat → Int32) (hops : Nat → Int32) (comes : Nat → Int32) (chain : Nat → Int32) (told : Nat → Int32) (acts : Int32) (imageActs : Int32) (tapeMany : Int32) (readAt : Int32) (p1 : Int32) (out : Int32) (hf : pf_X7_setOf costs p1 = some out) (h_this : is_Y k A ws q st past image imagePast tape laneOf sizeOf items least costs hops comes chain told acts imageActs tapeMany readAt)  : Met l yX7_setOf wsX7_setOf { frames := 2, cells := 0, slots := 0, locals := 44 } (va_Pc [.ref (A q), .int p1] (pw_P D k ws)) (qs_Q (some (.int out))) 0 0 (fun _ => False) := by
  refine Met.ofW (cc := cX7_setOf) (maxL := 4) (ret := (some .int)) (by decide) rfl ?_
  intro p e s m args below meth c s₁ B hml hv
  obtain ⟨rfl, hP, hK, hD⟩ := hv
  have C0 : cx_P p s m meth c [.ref (A q), .int p1].toArray cX7_setOf 4 wsX7_setOf RX7 (some .int) := ⟨B.exec, B.bytes, hml, findClass_of_methodNamed B.named, atoms_spec (ws := wsX7_setOf) B.pre, B.returns, B.notSynchronized⟩
  obtain ⟨hx, hb, hml, hown, hts, hr, hlocks⟩ := id C0
  have hcf : CallFix p m c cX7_setOf 4 s [.ref (A q), .int p1].toArray wsX7_setOf RX7 := ⟨hx, hb, hml, hown, hts⟩
  have hl := lv_entry ([.ref (A q), .int p1]) (n := 4) (Nat.le_of_ble_eq_true rfl)
  rw [lg_entry_eq]
  generalize (lg_sl ([.ref (A q), .int p1]) ++ List.replicate (4 - (lg_sl ([.ref (A q), .int p1])).length) Slot.unset).toArray = ls at hl ⊢
  have hl : lv_has ls 4 [(0, .ref (A q)), (1, .int p1)] := hl
  unfold pf_X7_setOf at hf
  refine lv_iconst (v := 0) hx hb dX7_setOf_0 (by decide) ?_
  refine lv_istore_n (lv' := [(2, .int 0), (0, .ref (A q)), (1, .int p1)]) hx hb dX7_setOf_1 rfl hl (by decide) rfl (fun ls hl => ?_)
  refine lv_iconst (v := 0) hx hb dX7_setOf_2 (by decide) ?_
  refine lv_istore_n (lv' := [(3, .int 0), (2, .int 0), (0, .ref (A q)), (1, .int p1)]) hx hb dX7_setOf_3 rfl hl (by decide) rfl (fun ls hl => ?_)
  exact wl_X7_setOf_4 l D k A ws q _ hK C0 st past image imagePast tape laneOf sizeOf items least costs hops comes chain told acts imageActs tapeMany readAt p1 h_this hP hD fu_N 0 0 _ hf (lv_sub hl [2, 3, 1, 0] rfl)

theorem in_X7_laysLeast_X7 : ∀ w ∈ u_ws RX7 TX7 18, w ∈ wsX7_laysLeast := fun w h => List.mem_cons_of_mem _ (List.mem_append_right _ h)
def lp_X7_laysLeast_73  (least : Nat → Int32) (comes : Nat → Int32) (x1 : Int32) (g_9 : (Nat → Int32) → (Nat → Int32) → Int32 → Option ((Nat → Int32) × (Nat → Int32))) : Option ((Nat → Int32) × (Nat → Int32)) :=
  ck_O (in_b x1 1024) (
    ck_O (in_b (2 * x1) 1024) (
      ck_O (in_b x1 1024) (
        ck_O (in_b ((2 * x1) + 1) 1024) (
          g_9 least (upd (upd comes (Int32.toNatClampNeg (2 * x1)) (comes (Int32.toNatClampNeg x1))) (Int32.toNatClampNeg ((2 * x1) + 1)) ((upd comes (Int32.toNatClampNeg (2 * x1)) (comes (Int32.toNatClampNeg x1))) (Int32.toNatClampNeg x1))) (x1 + 1)))))

def lp_X7_laysLeast_45  (least : Nat → Int32) (comes : Nat → Int32) (x1 : Int32) (x2 : Int32) (g_9 : (Nat → Int32) → (Nat → Int32) → Int32 → Option ((Nat → Int32) × (Nat → Int32))) : Nat → Int32 → Option ((Nat → Int32) × (Nat → Int32))
  | 0, _ => none
  | n + 1, x3 =>
    if ((x2 >>> (x3 &&& 31)) &&& 1) = 0 then
      lp_X7_laysLeast_45 least comes x1 x2 g_9 n (x3 + 1)
    else
      ck_O (in_b x1 512) (
        ck_O (in_b x1 1024) (
          lp_X7_laysLeast_73 (upd least (Int32.toNatClampNeg x1) x3) (upd comes (Int32.toNatClampNeg x1) x3) x1 g_9))

def lp_X7_laysLeast_9  (costs : Nat → Int32) : Nat → (Nat → Int32) → (Nat → Int32) → Int32 → Option ((Nat → Int32) × (Nat → Int32))
  | 0, _, _, _ => none
  | n + 1, least, comes, x1 =>
    if 512 ≤ x1 then
      some (least, comes)
    else
      (pf_X7_setOf costs x1).bind (fun r20 =>
        ck_O (in_b x1 512) (
          ck_O (in_b x1 1024) (
            if ((r20 >>> ((comes (Int32.toNatClampNeg x1)) &&& 31)) &&& 1) = 0 then
              lp_X7_laysLeast_45 (upd least (Int32.toNatClampNeg x1) 8) comes x1 r20 (lp_X7_laysLeast_9 costs n) fu_N 0
            else
              lp_X7_laysLeast_73 (upd least (Int32.toNatClampNeg x1) 8) comes x1 (lp_X7_laysLeast_9 costs n))))

def pf_X7_laysLeast (least : Nat → Int32) (costs : Nat → Int32) (comes : Nat → Int32)   : Option ((Nat → Int32) × (Nat → Int32)) :=
  lp_X7_laysLeast_9 costs fu_N least (upd comes (Int32.toNatClampNeg 1) 0) 1

set_option maxHeartbeats 4000000 in
set_option maxRecDepth 100000 in
theorem wl_X7_laysLeast_73 {p : Program} {e : Env} {s : State} {m : MethodId} {args : Array Value} {below : List Frame} {meth : Method} {c : Code} (l : Launch) (D : va_G) (k : kt_T) (A : Nat → Nat) (ws : va_W) (q : Nat)  (out : (Nat → Int32) × (Nat → Int32)) (hK : kk_P D k s) (C0 : cx_P p s m meth c args cX7_laysLeast 4 wsX7_laysLeast RX7 none)  (st : Nat → Int32) (past : Nat → Int32) (image : Nat → Int32) (imagePast : Nat → Int32) (tape : Nat → Int32) (laneOf : Nat → Int32) (sizeOf : Nat → Int32) (items : Nat → Int64) (least : Nat → Int32) (costs : Nat → Int32) (hops : Nat → Int32) (comes : Nat → Int32) (chain : Nat → Int32) (told : Nat → Int32) (acts : Int32) (imageActs : Int32) (tapeMany : Int32) (readAt : Int32) (x1 : Int32)  (g_9 : (Nat → Int32) → (Nat → Int32) → Int32 → Option ((Nat → Int32) × (Nat → Int32))) (hg_9 : ∀ (least : Nat → Int32) (comes : Nat → Int32) (x1 : Int32) (w : va_W) (H : Heap) (locs : List Loc) (ls : Array Slot), g_9 least comes x1 = some out → is_Y k A w q st past image imagePast tape laneOf sizeOf items least costs hops comes chain told acts imageActs tapeMany readAt → sm_W ws w q (q + 15) → va_P D vwCl w H → va_D (va_A ws s.heap.size) w → va_S (va_A ws s.heap.size) s.heap H locs → lv_has ls 4 [(0, .ref (A q)), (1, .int x1)] → W p l e (headSpec wsX7_laysLeast { frames := 3, cells := 0, slots := 0, locals := 67 }).room s m args below meth c H locs 0 0 (MQ below (qw_Q D ws s.heap.size none (fun u => is_Y k A u q st past image imagePast tape laneOf sizeOf items out.1 costs hops out.2 chain told acts imageActs tapeMany readAt ∧ sm_W ws u q (q + 15))) args s 0 0 (va_A ws s.heap.size)) (F0 m 9 ls []))  : ∀ (w : va_W) (H : Heap) (locs : List Loc) (ls : Array Slot), lp_X7_laysLeast_73 least comes x1 g_9 = some out → is_Y k A w q st past image imagePast tape laneOf sizeOf items least costs hops comes chain told acts imageActs tapeMany readAt → sm_W ws w q (q + 15) → va_P D vwCl w H → va_D (va_A ws s.heap.size) w → va_S (va_A ws s.heap.size) s.heap H locs → lv_has ls 4 [(0, .ref (A q)), (1, .int x1)] → W p l e (headSpec wsX7_laysLeast { frames := 3, cells := 0, slots := 0, locals := 67 }).room s m args below meth c H locs 0 0 (MQ below (qw_Q D ws s.heap.size none (fun u => is_Y k A u q st past image imagePast tape laneOf sizeOf items out.1 costs hops out.2 chain told acts imageActs tapeMany readAt ∧ sm_W ws u q (q + 15))) args s 0 0 (va_A ws s.heap.size)) (F0 m 73 ls []) := by
  obtain ⟨hx, hb, hml, hown, hts, hr, hlocks⟩ := id C0
  have hcf : CallFix p m c cX7_laysLeast 4 s args wsX7_laysLeast RX7 := ⟨hx, hb, hml, hown, hts⟩
  have hA : ∀ q, s.heap.size ≤ q → va_A ws s.heap.size q := fun q h => Or.inr h
  have w_0 := hts (.fieldLink RX7 48 "LeastRoutesModel" "comes" "[I") (List.mem_of_getElem? (i := 1) rfl)
  intro w H locs ls hf h_this hsm hP hD hS hl
  unfold lp_X7_laysLeast_73 at hf
  refine lv_aload_n hx hb dX7_laysLeast_73 rfl (lv_at hl 0 rfl) ?_
  obtain ⟨h45, h46, h47, h48, h49, h50, h51, h52, h53, h54, h55, h56, h57, h58, h59⟩ := h_this
  refine va_get (D := D) (ci := 7) (v := .ref (A (q + 12))) (C := RX7) (T := TX7) (N := 18) hx hb hts in_X7_laysLeast_X7 hown hK.1 hP (q) h45 rfl 14 (by decide) w_0 (fun _ h9 => h9) rfl dX7_laysLeast_74 ?_
  refine lv_iconst (v := 2) hx hb dX7_laysLeast_77 (by decide) ?_
  refine lv_iload_n hx hb dX7_laysLeast_78 rfl (lv_at hl 1 rfl) ?_
  refine lv_imul hx hb dX7_laysLeast_79 ?_
  refine lv_aload_n hx hb dX7_laysLeast_80 rfl (lv_at hl 0 rfl) ?_
  refine va_get (D := D) (ci := 7) (v := .ref (A (q + 12))) (C := RX7) (T := TX7) (N := 18) hx hb hts in_X7_laysLeast_X7 hown hK.1 hP (q) h45 rfl 14 (by decide) w_0 (fun _ h9 => h9) rfl dX7_laysLeast_81 ?_
  refine lv_iload_n hx hb dX7_laysLeast_84 rfl (lv_at hl 1 rfl) ?_
  obtain ⟨z60, hf⟩ := ck_s hf
  refine va_iald hx hb hK.1 hP (q + 12) 0 h57 rfl (in_s z60) dX7_laysLeast_85 ?_
  obtain ⟨z61, hf⟩ := ck_s hf
  refine va_iast hx hb hK.1 hP hD hS (q + 12) 0 h57 rfl (in_s z61) dX7_laysLeast_86 (fun _ _ hP hD hS => ?_)
  obtain ⟨u62, h63, m64, hP, hD⟩ := wd_put hP hD h57
  have hsm := sm_tr hsm m64 (by omega) (by omega)
  refine lv_aload_n hx hb dX7_laysLeast_87 rfl (lv_at hl 0 rfl) ?_
  have h65 := sm_at m64 (by omega) h45
  refine va_get (D := D) (ci := 7) (v := .ref (A (q + 12))) (C := RX7) (T := TX7) (N := 18) hx hb hts in_X7_laysLeast_X7 hown hK.1 hP (q) h65 rfl 14 (by decide) w_0 (fun _ h9 => h9) rfl dX7_laysLeast_88 ?_
  refine lv_iconst (v := 2) hx hb dX7_laysLeast_91 (by decide) ?_
  refine lv_iload_n hx hb dX7_laysLeast_92 rfl (lv_at hl 1 rfl) ?_
  refine lv_imul hx hb dX7_laysLeast_93 ?_
  refine lv_iconst (v := 1) hx hb dX7_laysLeast_94 (by decide) ?_
  refine lv_iadd hx hb dX7_laysLeast_95 ?_
  refine lv_aload_n hx hb dX7_laysLeast_96 rfl (lv_at hl 0 rfl) ?_
  refine va_get (D := D) (ci := 7) (v := .ref (A (q + 12))) (C := RX7) (T := TX7) (N := 18) hx hb hts in_X7_laysLeast_X7 hown hK.1 hP (q) h65 rfl 14 (by decide) w_0 (fun _ h9 => h9) rfl dX7_laysLeast_97 ?_
  refine lv_iload_n hx hb dX7_laysLeast_100 rfl (lv_at hl 1 rfl) ?_
  obtain ⟨z66, hf⟩ := ck_s hf
  refine va_iald hx hb hK.1 hP (q + 12) 0 h63 rfl (in_s z66) dX7_laysLeast_101 ?_
  obtain ⟨z67, hf⟩ := ck_s hf
  refine va_iast hx hb hK.1 hP hD hS (q + 12) 0 h63 rfl (in_s z67) dX7_laysLeast_102 (fun _ _ hP hD hS => ?_)
  obtain ⟨u68, h69, m70, hP, hD⟩ := wd_put hP hD h63
  have hsm := sm_tr hsm m70 (by omega) (by omega)
  refine lv_iinc (v := (x1 + 1)) (lv' := [(1, .int (x1 + 1)), (0, .ref (A q))]) hx hb dX7_laysLeast_103 hl (k := 1) rfl rfl (by decide) rfl (fun ls hl => ?_)
  refine lv_goto (tgt := 9) hx hb dX7_laysLeast_106 (by decide) ?_
  have h71 := sm_at m70 (by omega) h65
  have h72 := sm_at m64 (by omega) h46
  have h73 := sm_at m70 (by omega) h72
  have h74 := sm_at m64 (by omega) h47
  have h75 := sm_at m70 (by omega) h74
  have h76 := sm_at m64 (by omega) h48
  have h77 := sm_at m70 (by omega) h76
  have h78 := sm_at m64 (by omega) h49
  have h79 := sm_at m70 (by omega) h78
  have h80 := sm_at m64 (by omega) h50
  have h81 := sm_at m70 (by omega) h80
  have h82 := sm_at m64 (by omega) h51
  have h83 := sm_at m70 (by omega) h82
  have h84 := sm_at m64 (by omega) h52
  have h85 := sm_at m70 (by omega) h84
  have h86 := sm_at m64 (by omega) h53
  have h87 := sm_at m70 (by omega) h86
  have h88 := sm_at m64 (by omega) h54
  have h89 := sm_at m70 (by omega) h88
  have h90 := sm_at m64 (by omega) h55
  have h91 := sm_at m70 (by omega) h90
  have h92 := sm_at m64 (by omega) h56
  have h93 := sm_at m70 (by omega) h92
  have h94 := sm_at m64 (by omega) h58
  have h95 := sm_at m70 (by omega) h94
  have h96 := sm_at m64 (by omega) h59
  have h97 := sm_at m70 (by omega) h96
  have h98 : is_Y k A u68 (q) st past image imagePast tape laneOf sizeOf items least costs hops (upd (upd comes (Int32.toNatClampNeg (2 * x1)) (comes (Int32.toNatClampNeg x1))) (Int32.toNatClampNeg ((2 * x1) + 1)) ((upd comes (Int32.toNatClampNeg (2 * x1)) (comes (Int32.toNatClampNeg x1))) (Int32.toNatClampNeg x1))) chain told acts imageActs tapeMany readAt := ⟨h71, h73, h75, h77, h79, h81, h83, h85, h87, h89, h91, h93, h69, h95, h97⟩
  exact hg_9 least (upd (upd comes (Int32.toNatClampNeg (2 * x1)) (comes (Int32.toNatClampNeg x1))) (Int32.toNatClampNeg ((2 * x1) + 1)) ((upd comes (Int32.toNatClampNeg (2 * x1)) (comes (Int32.toNatClampNeg x1))) (Int32.toNatClampNeg x1))) (x1 + 1) _ _ _ _ hf h98 hsm hP hD hS (lv_sub hl [1, 0] rfl)

set_option maxHeartbeats 4000000 in
set_option maxRecDepth 100000 in
theorem wl_X7_laysLeast_45 {p : Program} {e : Env} {s : State} {m : MethodId} {args : Array Value} {below : List Frame} {meth : Method} {c : Code} (l : Launch) (D : va_G) (k : kt_T) (A : Nat → Nat) (ws : va_W) (q : Nat)  (out : (Nat → Int32) × (Nat → Int32)) (hK : kk_P D k s) (C0 : cx_P p s m meth c args cX7_laysLeast 4 wsX7_laysLeast RX7 none)  (st : Nat → Int32) (past : Nat → Int32) (image : Nat → Int32) (imagePast : Nat → Int32) (tape : Nat → Int32) (laneOf : Nat → Int32) (sizeOf : Nat → Int32) (items : Nat → Int64) (least : Nat → Int32) (costs : Nat → Int32) (hops : Nat → Int32) (comes : Nat → Int32) (chain : Nat → Int32) (told : Nat → Int32) (acts : Int32) (imageActs : Int32) (tapeMany : Int32) (readAt : Int32) (x1 : Int32) (x2 : Int32)  (g_9 : (Nat → Int32) → (Nat → Int32) → Int32 → Option ((Nat → Int32) × (Nat → Int32))) (hg_9 : ∀ (least : Nat → Int32) (comes : Nat → Int32) (x1 : Int32) (w : va_W) (H : Heap) (locs : List Loc) (ls : Array Slot), g_9 least comes x1 = some out → is_Y k A w q st past image imagePast tape laneOf sizeOf items least costs hops comes chain told acts imageActs tapeMany readAt → sm_W ws w q (q + 15) → va_P D vwCl w H → va_D (va_A ws s.heap.size) w → va_S (va_A ws s.heap.size) s.heap H locs → lv_has ls 4 [(0, .ref (A q)), (1, .int x1)] → W p l e (headSpec wsX7_laysLeast { frames := 3, cells := 0, slots := 0, locals := 67 }).room s m args below meth c H locs 0 0 (MQ below (qw_Q D ws s.heap.size none (fun u => is_Y k A u q st past image imagePast tape laneOf sizeOf items out.1 costs hops out.2 chain told acts imageActs tapeMany readAt ∧ sm_W ws u q (q + 15))) args s 0 0 (va_A ws s.heap.size)) (F0 m 9 ls []))  : ∀ (n : Nat) (x3 : Int32) (w : va_W) (H : Heap) (locs : List Loc) (ls : Array Slot), lp_X7_laysLeast_45 least comes x1 x2 g_9 n x3 = some out → is_Y k A w q st past image imagePast tape laneOf sizeOf items least costs hops comes chain told acts imageActs tapeMany readAt → sm_W ws w q (q + 15) → va_P D vwCl w H → va_D (va_A ws s.heap.size) w → va_S (va_A ws s.heap.size) s.heap H locs → lv_has ls 4 [(0, .ref (A q)), (1, .int x1), (2, .int x2), (3, .int x3)] → W p l e (headSpec wsX7_laysLeast { frames := 3, cells := 0, slots := 0, locals := 67 }).room s m args below meth c H locs 0 0 (MQ below (qw_Q D ws s.heap.size none (fun u => is_Y k A u q st past image imagePast tape laneOf sizeOf items out.1 costs hops out.2 chain told acts imageActs tapeMany readAt ∧ sm_W ws u q (q + 15))) args s 0 0 (va_A ws s.heap.size)) (F0 m 45 ls []) := by
  obtain ⟨hx, hb, hml, hown, hts, hr, hlocks⟩ := id C0
  have hcf : CallFix p m c cX7_laysLeast 4 s args wsX7_laysLeast RX7 := ⟨hx, hb, hml, hown, hts⟩
  have hA : ∀ q, s.heap.size ≤ q → va_A ws s.heap.size q := fun q h => Or.inr h
  have w_0 := hts (.fieldLink RX7 48 "LeastRoutesModel" "comes" "[I") (List.mem_of_getElem? (i := 1) rfl)
  have w_1 := hts (.fieldLink RX7 39 "LeastRoutesModel" "least" "[I") (List.mem_of_getElem? (i := 2) rfl)
  intro n
  induction n with
  | zero =>
    intro x3 w H locs ls hf h_this hsm hP hD hS hl
    exact (no_s hf).elim
  | succ n ih =>
    intro x3 w H locs ls hf h_this hsm hP hD hS hl
    rw [lp_X7_laysLeast_45] at hf
    refine lv_iload_n hx hb dX7_laysLeast_45 rfl (lv_at hl 2 rfl) ?_
    refine lv_iload_n hx hb dX7_laysLeast_46 rfl (lv_at hl 3 rfl) ?_
    refine lv_ishr hx hb dX7_laysLeast_47 ?_
    refine lv_iconst (v := 1) hx hb dX7_laysLeast_48 (by decide) ?_
    refine lv_iand hx hb dX7_laysLeast_49 ?_
    refine lv_if_ne (tgt := 59) hx hb dX7_laysLeast_50 (by decide) (fun c112 => ?_) (fun c112 => ?_)
    · have hf := it_n c112 hf
      refine lv_aload_n hx hb dX7_laysLeast_59 rfl (lv_at hl 0 rfl) ?_
      obtain ⟨h113, h114, h115, h116, h117, h118, h119, h120, h121, h122, h123, h124, h125, h126, h127⟩ := h_this
      refine va_get (D := D) (ci := 7) (v := .ref (A (q + 9))) (C := RX7) (T := TX7) (N := 18) hx hb hts in_X7_laysLeast_X7 hown hK.1 hP (q) h113 rfl 11 (by decide) w_1 (fun _ h9 => h9) rfl dX7_laysLeast_60 ?_
      refine lv_iload_n hx hb dX7_laysLeast_63 rfl (lv_at hl 1 rfl) ?_
      refine lv_iload_n hx hb dX7_laysLeast_64 rfl (lv_at hl 3 rfl) ?_
      obtain ⟨z128, hf⟩ := ck_s hf
      refine va_iast hx hb hK.1 hP hD hS (q + 9) 0 h122 rfl (in_s z128) dX7_laysLeast_65 (fun _ _ hP hD hS => ?_)
      obtain ⟨u129, h130, m131, hP, hD⟩ := wd_put hP hD h122
      have hsm := sm_tr hsm m131 (by omega) (by omega)
      refine lv_aload_n hx hb dX7_laysLeast_66 rfl (lv_at hl 0 rfl) ?_
      have h132 := sm_at m131 (by omega) h113
      refine va_get (D := D) (ci := 7) (v := .ref (A (q + 12))) (C := RX7) (T := TX7) (N := 18) hx hb hts in_X7_laysLeast_X7 hown hK.1 hP (q) h132 rfl 14 (by decide) w_0 (fun _ h9 => h9) rfl dX7_laysLeast_67 ?_
      refine lv_iload_n hx hb dX7_laysLeast_70 rfl (lv_at hl 1 rfl) ?_
      refine lv_iload_n hx hb dX7_laysLeast_71 rfl (lv_at hl 3 rfl) ?_
      have h133 := sm_at m131 (by omega) h125
      obtain ⟨z134, hf⟩ := ck_s hf
      refine va_iast hx hb hK.1 hP hD hS (q + 12) 0 h133 rfl (in_s z134) dX7_laysLeast_72 (fun _ _ hP hD hS => ?_)
      obtain ⟨u135, h136, m137, hP, hD⟩ := wd_put hP hD h133
      have hsm := sm_tr hsm m137 (by omega) (by omega)
      have h138 := sm_at m137 (by omega) h132
      have h139 := sm_at m131 (by omega) h114
      have h140 := sm_at m137 (by omega) h139
      have h141 := sm_at m131 (by omega) h115
      have h142 := sm_at m137 (by omega) h141
      have h143 := sm_at m131 (by omega) h116
      have h144 := sm_at m137 (by omega) h143
      have h145 := sm_at m131 (by omega) h117
      have h146 := sm_at m137 (by omega) h145
      have h147 := sm_at m131 (by omega) h118
      have h148 := sm_at m137 (by omega) h147
      have h149 := sm_at m131 (by omega) h119
      have h150 := sm_at m137 (by omega) h149
      have h151 := sm_at m131 (by omega) h120
      have h152 := sm_at m137 (by omega) h151
      have h153 := sm_at m131 (by omega) h121
      have h154 := sm_at m137 (by omega) h153
      have h155 := sm_at m137 (by omega) h130
      have h156 := sm_at m131 (by omega) h123
      have h157 := sm_at m137 (by omega) h156
      have h158 := sm_at m131 (by omega) h124
      have h159 := sm_at m137 (by omega) h158
      have h160 := sm_at m131 (by omega) h126
      have h161 := sm_at m137 (by omega) h160
      have h162 := sm_at m131 (by omega) h127
      have h163 := sm_at m137 (by omega) h162
      have h164 : is_Y k A u135 (q) st past image imagePast tape laneOf sizeOf items (upd least (Int32.toNatClampNeg x1) x3) costs hops (upd comes (Int32.toNatClampNeg x1) x3) chain told acts imageActs tapeMany readAt := ⟨h138, h140, h142, h144, h146, h148, h150, h152, h154, h155, h157, h159, h136, h161, h163⟩
      exact wl_X7_laysLeast_73 l D k A ws q _ hK C0 st past image imagePast tape laneOf sizeOf items (upd least (Int32.toNatClampNeg x1) x3) costs hops (upd comes (Int32.toNatClampNeg x1) x3) chain told acts imageActs tapeMany readAt x1 g_9 hg_9 _ _ _ _ hf h164 hsm hP hD hS (lv_sub hl [0, 1] rfl)
    · have hf := it_p c112 hf
      refine lv_iinc (v := (x3 + 1)) (lv' := [(3, .int (x3 + 1)), (0, .ref (A q)), (1, .int x1), (2, .int x2)]) hx hb dX7_laysLeast_53 hl (k := 3) rfl rfl (by decide) rfl (fun ls hl => ?_)
      refine lv_goto (tgt := 45) hx hb dX7_laysLeast_56 (by decide) ?_
      exact ih (x3 + 1) _ _ _ _ hf h_this hsm hP hD hS (lv_sub hl [1, 2, 3, 0] rfl)

set_option maxHeartbeats 4000000 in
set_option maxRecDepth 100000 in
theorem wl_X7_laysLeast_9 {p : Program} {e : Env} {s : State} {m : MethodId} {args : Array Value} {below : List Frame} {meth : Method} {c : Code} (l : Launch) (D : va_G) (k : kt_T) (A : Nat → Nat) (ws : va_W) (q : Nat)  (out : (Nat → Int32) × (Nat → Int32)) (hK : kk_P D k s) (C0 : cx_P p s m meth c args cX7_laysLeast 4 wsX7_laysLeast RX7 none)  (st : Nat → Int32) (past : Nat → Int32) (image : Nat → Int32) (imagePast : Nat → Int32) (tape : Nat → Int32) (laneOf : Nat → Int32) (sizeOf : Nat → Int32) (items : Nat → Int64) (costs : Nat → Int32) (hops : Nat → Int32) (chain : Nat → Int32) (told : Nat → Int32) (acts : Int32) (imageActs : Int32) (tapeMany : Int32) (readAt : Int32)     : ∀ (n : Nat) (least : Nat → Int32) (comes : Nat → Int32) (x1 : Int32) (w : va_W) (H : Heap) (locs : List Loc) (ls : Array Slot), lp_X7_laysLeast_9 costs n least comes x1 = some out → is_Y k A w q st past image imagePast tape laneOf sizeOf items least costs hops comes chain told acts imageActs tapeMany readAt → sm_W ws w q (q + 15) → va_P D vwCl w H → va_D (va_A ws s.heap.size) w → va_S (va_A ws s.heap.size) s.heap H locs → lv_has ls 4 [(0, .ref (A q)), (1, .int x1)] → W p l e (headSpec wsX7_laysLeast { frames := 3, cells := 0, slots := 0, locals := 67 }).room s m args below meth c H locs 0 0 (MQ below (qw_Q D ws s.heap.size none (fun u => is_Y k A u q st past image imagePast tape laneOf sizeOf items out.1 costs hops out.2 chain told acts imageActs tapeMany readAt ∧ sm_W ws u q (q + 15))) args s 0 0 (va_A ws s.heap.size)) (F0 m 9 ls []) := by
  obtain ⟨hx, hb, hml, hown, hts, hr, hlocks⟩ := id C0
  have hcf : CallFix p m c cX7_laysLeast 4 s args wsX7_laysLeast RX7 := ⟨hx, hb, hml, hown, hts⟩
  have hA : ∀ q, s.heap.size ≤ q → va_A ws s.heap.size q := fun q h => Or.inr h
  have w_0 := hts (.fieldLink RX7 48 "LeastRoutesModel" "comes" "[I") (List.mem_of_getElem? (i := 1) rfl)
  have w_1 := hts (.fieldLink RX7 39 "LeastRoutesModel" "least" "[I") (List.mem_of_getElem? (i := 2) rfl)
  intro n
  induction n with
  | zero =>
    intro least comes x1 w H locs ls hf h_this hsm hP hD hS hl
    exact (no_s hf).elim
  | succ n ih =>
    intro least comes x1 w H locs ls hf h_this hsm hP hD hS hl
    rw [lp_X7_laysLeast_9] at hf
    refine lv_iload_n hx hb dX7_laysLeast_9 rfl (lv_at hl 1 rfl) ?_
    refine lv_sipush (v := 512) hx hb dX7_laysLeast_10 (by decide) ?_
    refine lv_icmp_ge (tgt := 109) hx hb dX7_laysLeast_13 (by decide) (fun c19 => ?_) (fun c19 => ?_)
    · have hf := it_p c19 hf
      obtain rfl := so_i hf
      exact W.vret hx hb hr (qw_end hS hP hD ⟨h_this, hsm⟩) hS.2.2 dX7_laysLeast_109
    · have hf := it_n c19 hf
      refine lv_aload_n hx hb dX7_laysLeast_16 rfl (lv_at hl 0 rfl) ?_
      refine lv_iload_n hx hb dX7_laysLeast_17 rfl (lv_at hl 1 rfl) ?_
      obtain ⟨r20, h21, hf⟩ := bd_s hf
      refine ks_i (va_runV (As := [.int x1]) (rest := []) hcf (cz_X7_setOf l D k A w (q) st past image imagePast tape laneOf sizeOf items least costs hops comes chain told acts imageActs tapeMany readAt x1 r20 h21 h_this) (cwV 1 hts gX7_laysLeast_X7_setOf rfl rfl rfl (by decide +kernel) ⟨Nat.le_of_ble_eq_true rfl, Nat.le_of_ble_eq_true rfl⟩) (pw_V hP hK hD (ci := 7) h_this.1 rfl) rfl rfl hl.1 rfl (lv_room (Nat.le_of_ble_eq_true rfl)) dX7_laysLeast_18 ⟨Nat.zero_le _, Nat.zero_le _⟩) ?_
      refine lv_istore_n (lv' := [(2, .int r20), (0, .ref (A q)), (1, .int x1)]) hx hb dX7_laysLeast_21 rfl hl (by decide) rfl (fun ls hl => ?_)
      refine lv_aload_n hx hb dX7_laysLeast_22 rfl (lv_at hl 1 rfl) ?_
      obtain ⟨h22, h23, h24, h25, h26, h27, h28, h29, h30, h31, h32, h33, h34, h35, h36⟩ := h_this
      refine va_get (D := D) (ci := 7) (v := .ref (A (q + 9))) (C := RX7) (T := TX7) (N := 18) hx hb hts in_X7_laysLeast_X7 hown hK.1 hP (q) h22 rfl 11 (by decide) w_1 (fun _ h9 => h9) rfl dX7_laysLeast_23 ?_
      refine lv_iload_n hx hb dX7_laysLeast_26 rfl (lv_at hl 2 rfl) ?_
      refine lv_bipush (v := 8) hx hb dX7_laysLeast_27 (by decide) ?_
      obtain ⟨z37, hf⟩ := ck_s hf
      refine va_iast hx hb hK.1 hP hD hS (q + 9) 0 h31 rfl (in_s z37) dX7_laysLeast_29 (fun _ _ hP hD hS => ?_)
      obtain ⟨u38, h39, m40, hP, hD⟩ := wd_put hP hD h31
      have hsm := sm_tr hsm m40 (by omega) (by omega)
      refine lv_iload_n hx hb dX7_laysLeast_30 rfl (lv_at hl 0 rfl) ?_
      refine lv_aload_n hx hb dX7_laysLeast_31 rfl (lv_at hl 1 rfl) ?_
      have h41 := sm_at m40 (by omega) h22
      refine va_get (D := D) (ci := 7) (v := .ref (A (q + 12))) (C := RX7) (T := TX7) (N := 18) hx hb hts in_X7_laysLeast_X7 hown hK.1 hP (q) h41 rfl 14 (by decide) w_0 (fun _ h9 => h9) rfl dX7_laysLeast_32 ?_
      refine lv_iload_n hx hb dX7_laysLeast_35 rfl (lv_at hl 2 rfl) ?_
      have h42 := sm_at m40 (by omega) h34
      obtain ⟨z43, hf⟩ := ck_s hf
      refine va_iald hx hb hK.1 hP (q + 12) 0 h42 rfl (in_s z43) dX7_laysLeast_36 ?_
      refine lv_ishr hx hb dX7_laysLeast_37 ?_
      refine lv_iconst (v := 1) hx hb dX7_laysLeast_38 (by decide) ?_
      refine lv_iand hx hb dX7_laysLeast_39 ?_
      refine lv_if_ne (tgt := 73) hx hb dX7_laysLeast_40 (by decide) (fun c44 => ?_) (fun c44 => ?_)
      · have hf := it_n c44 hf
        have h99 := sm_at m40 (by omega) h23
        have h100 := sm_at m40 (by omega) h24
        have h101 := sm_at m40 (by omega) h25
        have h102 := sm_at m40 (by omega) h26
        have h103 := sm_at m40 (by omega) h27
        have h104 := sm_at m40 (by omega) h28
        have h105 := sm_at m40 (by omega) h29
        have h106 := sm_at m40 (by omega) h30
        have h107 := sm_at m40 (by omega) h32
        have h108 := sm_at m40 (by omega) h33
        have h109 := sm_at m40 (by omega) h35
        have h110 := sm_at m40 (by omega) h36
        have h111 : is_Y k A u38 (q) st past image imagePast tape laneOf sizeOf items (upd least (Int32.toNatClampNeg x1) 8) costs hops comes chain told acts imageActs tapeMany readAt := ⟨h41, h99, h100, h101, h102, h103, h104, h105, h106, h39, h107, h108, h42, h109, h110⟩
        exact wl_X7_laysLeast_73 l D k A ws q _ hK C0 st past image imagePast tape laneOf sizeOf items (upd least (Int32.toNatClampNeg x1) 8) costs hops comes chain told acts imageActs tapeMany readAt x1 _ ih _ _ _ _ hf h111 hsm hP hD hS (lv_sub hl [1, 2] rfl)
      · have hf := it_p c44 hf
        refine lv_iconst (v := 0) hx hb dX7_laysLeast_43 (by decide) ?_
        refine lv_istore_n (lv' := [(3, .int 0), (2, .int r20), (0, .ref (A q)), (1, .int x1)]) hx hb dX7_laysLeast_44 rfl hl (by decide) rfl (fun ls hl => ?_)
        have h165 := sm_at m40 (by omega) h23
        have h166 := sm_at m40 (by omega) h24
        have h167 := sm_at m40 (by omega) h25
        have h168 := sm_at m40 (by omega) h26
        have h169 := sm_at m40 (by omega) h27
        have h170 := sm_at m40 (by omega) h28
        have h171 := sm_at m40 (by omega) h29
        have h172 := sm_at m40 (by omega) h30
        have h173 := sm_at m40 (by omega) h32
        have h174 := sm_at m40 (by omega) h33
        have h175 := sm_at m40 (by omega) h35
        have h176 := sm_at m40 (by omega) h36
        have h177 : is_Y k A u38 (q) st past image imagePast tape laneOf sizeOf items (upd least (Int32.toNatClampNeg x1) 8) costs hops comes chain told acts imageActs tapeMany readAt := ⟨h41, h165, h166, h167, h168, h169, h170, h171, h172, h39, h173, h174, h42, h175, h176⟩
        exact wl_X7_laysLeast_45 l D k A ws q _ hK C0 st past image imagePast tape laneOf sizeOf items (upd least (Int32.toNatClampNeg x1) 8) costs hops comes chain told acts imageActs tapeMany readAt x1 r20 _ ih fu_N 0 _ _ _ _ hf h177 hsm hP hD hS (lv_sub hl [2, 3, 1, 0] rfl)

set_option maxHeartbeats 4000000 in
set_option maxRecDepth 100000 in
theorem cz_X7_laysLeast (l : Launch) (D : va_G) (k : kt_T) (A : Nat → Nat) (ws : va_W) (q : Nat)  (st : Nat → Int32) (past : Nat → Int32) (image : Nat → Int32) (imagePast : Nat → Int32) (tape : Nat → Int32) (laneOf : Nat → Int32) (sizeOf : Nat → Int32) (items : Nat → Int64) (least : Nat → Int32) (costs : Nat → Int32) (hops : Nat → Int32) (comes : Nat → Int32) (chain : Nat → Int32) (told : Nat → Int32) (acts : Int32) (imageActs : Int32) (tapeMany : Int32) (readAt : Int32)  (out : (Nat → Int32) × (Nat → Int32)) (hf : pf_X7_laysLeast least costs comes = some out) (h_this : is_Y k A ws q st past image imagePast tape laneOf sizeOf items least costs hops comes chain told acts imageActs tapeMany readAt)  (sz0 : Nat) : Met l yX7_laysLeast wsX7_laysLeast { frames := 3, cells := 0, slots := 0, locals := 67 } (va_Pc [.ref (A q)] (px_P D k ws sz0)) (qw_Q D ws sz0 none (fun u => is_Y k A u q st past image imagePast tape laneOf sizeOf items out.1 costs hops out.2 chain told acts imageActs tapeMany readAt ∧ sm_W ws u q (q + 15))) 0 0 (va_A ws sz0) := by
  refine Met.ofW (cc := cX7_laysLeast) (maxL := 4) (ret := none) (by decide) rfl ?_
  intro p e s m args below meth c s₁ B hml hv
  obtain ⟨rfl, hsz, hP, hK, hD0⟩ := hv
  subst hsz
  have hD := hD0.self (sz := s.heap.size)
  have C0 : cx_P p s m meth c [.ref (A q)].toArray cX7_laysLeast 4 wsX7_laysLeast RX7 none := ⟨B.exec, B.bytes, hml, findClass_of_methodNamed B.named, atoms_spec (ws := wsX7_laysLeast) B.pre, B.returns, B.notSynchronized⟩
  obtain ⟨hx, hb, hml, hown, hts, hr, hlocks⟩ := id C0
  have hcf : CallFix p m c cX7_laysLeast 4 s [.ref (A q)].toArray wsX7_laysLeast RX7 := ⟨hx, hb, hml, hown, hts⟩
  have hA : ∀ q, s.heap.size ≤ q → va_A ws s.heap.size q := fun q h => Or.inr h
  have hS : va_S (va_A ws s.heap.size) s.heap s.heap [] := va_S.rf
  have hsm : sm_W ws ws q (q + 15) := sm_rf
  have w_0 := hts (.fieldLink RX7 48 "LeastRoutesModel" "comes" "[I") (List.mem_of_getElem? (i := 1) rfl)
  have hl := lv_entry ([.ref (A q)]) (n := 4) (Nat.le_of_ble_eq_true rfl)
  rw [lg_entry_eq]
  generalize (lg_sl ([.ref (A q)]) ++ List.replicate (4 - (lg_sl ([.ref (A q)])).length) Slot.unset).toArray = ls at hl ⊢
  have hl : lv_has ls 4 [(0, .ref (A q))] := hl
  unfold pf_X7_laysLeast at hf
  refine lv_aload_n hx hb dX7_laysLeast_0 rfl (lv_at hl 0 rfl) ?_
  obtain ⟨h1, h2, h3, h4, h5, h6, h7, h8, h9, h10, h11, h12, h13, h14, h15⟩ := h_this
  refine va_get (D := D) (ci := 7) (v := .ref (A (q + 12))) (C := RX7) (T := TX7) (N := 18) hx hb hts in_X7_laysLeast_X7 hown hK.1 hP (q) h1 rfl 14 (by decide) w_0 (fun _ h9 => h9) rfl dX7_laysLeast_1 ?_
  refine lv_iconst (v := 1) hx hb dX7_laysLeast_4 (by decide) ?_
  refine lv_iconst (v := 0) hx hb dX7_laysLeast_5 (by decide) ?_
  refine va_iast hx hb hK.1 hP hD hS (q + 12) 0 h13 rfl (in_s (by decide)) dX7_laysLeast_6 (fun _ _ hP hD hS => ?_)
  obtain ⟨u16, h17, m18, hP, hD⟩ := wd_put hP hD h13
  have hsm := sm_tr hsm m18 (by omega) (by omega)
  refine lv_iconst (v := 1) hx hb dX7_laysLeast_7 (by decide) ?_
  refine lv_istore_n (lv' := [(1, .int 1), (0, .ref (A q))]) hx hb dX7_laysLeast_8 rfl hl (by decide) rfl (fun ls hl => ?_)
  have h178 := sm_at m18 (by omega) h1
  have h179 := sm_at m18 (by omega) h2
  have h180 := sm_at m18 (by omega) h3
  have h181 := sm_at m18 (by omega) h4
  have h182 := sm_at m18 (by omega) h5
  have h183 := sm_at m18 (by omega) h6
  have h184 := sm_at m18 (by omega) h7
  have h185 := sm_at m18 (by omega) h8
  have h186 := sm_at m18 (by omega) h9
  have h187 := sm_at m18 (by omega) h10
  have h188 := sm_at m18 (by omega) h11
  have h189 := sm_at m18 (by omega) h12
  have h190 := sm_at m18 (by omega) h14
  have h191 := sm_at m18 (by omega) h15
  have h192 : is_Y k A u16 (q) st past image imagePast tape laneOf sizeOf items least costs hops (upd comes (Int32.toNatClampNeg 1) 0) chain told acts imageActs tapeMany readAt := ⟨h178, h179, h180, h181, h182, h183, h184, h185, h186, h187, h188, h189, h17, h190, h191⟩
  exact wl_X7_laysLeast_9 l D k A ws q _ hK C0 st past image imagePast tape laneOf sizeOf items costs hops chain told acts imageActs tapeMany readAt fu_N least (upd comes (Int32.toNatClampNeg 1) 0) 1 _ _ _ _ hf h192 hsm hP hD hS (lv_sub hl [1, 0] rfl)

theorem in_X7_laysHops_X7 : ∀ w ∈ u_ws RX7 TX7 18, w ∈ wsX7_laysHops := fun w h => List.mem_cons_of_mem _ (List.mem_append_right _ h)
def lp_X7_laysHops_2  (st : Nat → Int32) : Nat → (Nat → Int32) → Int32 → Option ((Nat → Int32))
  | 0, _, _ => none
  | n + 1, hops, x1 =>
    if 256 ≤ x1 then
      some hops
    else
      (pf_X7_hopBy st 1025 0 x1 0).bind (fun r17 =>
        ck_O (in_b x1 512) (
          (pf_X7_hopBy st 1025 512 x1 0).bind (fun r25 =>
            ck_O (in_b (256 + x1) 512) (
              lp_X7_laysHops_2 st n (upd (upd hops (Int32.toNatClampNeg x1) r17) (Int32.toNatClampNeg (256 + x1)) r25) (x1 + 1)))))

def pf_X7_laysHops (st : Nat → Int32) (hops : Nat → Int32)   : Option ((Nat → Int32)) :=
  lp_X7_laysHops_2 st fu_N hops 0

set_option maxHeartbeats 4000000 in
set_option maxRecDepth 100000 in
theorem wl_X7_laysHops_2 {p : Program} {e : Env} {s : State} {m : MethodId} {args : Array Value} {below : List Frame} {meth : Method} {c : Code} (l : Launch) (D : va_G) (k : kt_T) (A : Nat → Nat) (ws : va_W) (q : Nat)  (out : (Nat → Int32)) (hK : kk_P D k s) (C0 : cx_P p s m meth c args cX7_laysHops 2 wsX7_laysHops RX7 none)  (st : Nat → Int32) (past : Nat → Int32) (image : Nat → Int32) (imagePast : Nat → Int32) (tape : Nat → Int32) (laneOf : Nat → Int32) (sizeOf : Nat → Int32) (items : Nat → Int64) (least : Nat → Int32) (costs : Nat → Int32) (comes : Nat → Int32) (chain : Nat → Int32) (told : Nat → Int32) (acts : Int32) (imageActs : Int32) (tapeMany : Int32) (readAt : Int32)     : ∀ (n : Nat) (hops : Nat → Int32) (x1 : Int32) (w : va_W) (H : Heap) (locs : List Loc) (ls : Array Slot), lp_X7_laysHops_2 st n hops x1 = some out → is_Y k A w q st past image imagePast tape laneOf sizeOf items least costs hops comes chain told acts imageActs tapeMany readAt → sm_W ws w q (q + 15) → va_P D vwCl w H → va_D (va_A ws s.heap.size) w → va_S (va_A ws s.heap.size) s.heap H locs → lv_has ls 2 [(0, .ref (A q)), (1, .int x1)] → W p l e (headSpec wsX7_laysHops { frames := 2, cells := 0, slots := 0, locals := 48 }).room s m args below meth c H locs 0 0 (MQ below (qw_Q D ws s.heap.size none (fun u => is_Y k A u q st past image imagePast tape laneOf sizeOf items least costs out comes chain told acts imageActs tapeMany readAt ∧ sm_W ws u q (q + 15))) args s 0 0 (va_A ws s.heap.size)) (F0 m 2 ls []) := by
  obtain ⟨hx, hb, hml, hown, hts, hr, hlocks⟩ := id C0
  have hcf : CallFix p m c cX7_laysHops 2 s args wsX7_laysHops RX7 := ⟨hx, hb, hml, hown, hts⟩
  have hA : ∀ q, s.heap.size ≤ q → va_A ws s.heap.size q := fun q h => Or.inr h
  have w_0 := hts (.fieldLink RX7 45 "LeastRoutesModel" "hops" "[I") (List.mem_of_getElem? (i := 1) rfl)
  have w_1 := hts (.fieldLink RX7 7 "LeastRoutesModel" "st" "[I") (List.mem_of_getElem? (i := 2) rfl)
  intro n
  induction n with
  | zero =>
    intro hops x1 w H locs ls hf h_this hsm hP hD hS hl
    exact (no_s hf).elim
  | succ n ih =>
    intro hops x1 w H locs ls hf h_this hsm hP hD hS hl
    rw [lp_X7_laysHops_2] at hf
    refine lv_iload_n hx hb dX7_laysHops_2 rfl (lv_at hl 1 rfl) ?_
    refine lv_sipush (v := 256) hx hb dX7_laysHops_3 (by decide) ?_
    refine lv_icmp_ge (tgt := 53) hx hb dX7_laysHops_6 (by decide) (fun c1 => ?_) (fun c1 => ?_)
    · have hf := it_p c1 hf
      obtain rfl := so_i hf
      exact W.vret hx hb hr (qw_end hS hP hD ⟨h_this, hsm⟩) hS.2.2 dX7_laysHops_53
    · have hf := it_n c1 hf
      refine lv_aload_n hx hb dX7_laysHops_9 rfl (lv_at hl 0 rfl) ?_
      obtain ⟨h2, h3, h4, h5, h6, h7, h8, h9, h10, h11, h12, h13, h14, h15, h16⟩ := h_this
      refine va_get (D := D) (ci := 7) (v := .ref (A (q + 11))) (C := RX7) (T := TX7) (N := 18) hx hb hts in_X7_laysHops_X7 hown hK.1 hP (q) h2 rfl 13 (by decide) w_0 (fun _ h9 => h9) rfl dX7_laysHops_10 ?_
      refine lv_iload_n hx hb dX7_laysHops_13 rfl (lv_at hl 1 rfl) ?_
      refine lv_aload_n hx hb dX7_laysHops_14 rfl (lv_at hl 0 rfl) ?_
      refine va_get (D := D) (ci := 7) (v := .ref (A (q + 1))) (C := RX7) (T := TX7) (N := 18) hx hb hts in_X7_laysHops_X7 hown hK.1 hP (q) h2 rfl 0 (by decide) w_1 (fun _ h9 => h9) rfl dX7_laysHops_15 ?_
      refine lv_iconst (v := 0) hx hb dX7_laysHops_18 (by decide) ?_
      refine lv_iload_n hx hb dX7_laysHops_19 rfl (lv_at hl 1 rfl) ?_
      refine lv_iconst (v := 0) hx hb dX7_laysHops_20 (by decide) ?_
      obtain ⟨r17, h18, hf⟩ := bd_s hf
      refine ks_i (va_runS (As := [.ref (A (q + 1)), .int 0, .int x1, .int 0]) (rest := [.int x1, .ref (A (q + 11))]) hcf (cz_X7_hopBy l D k A w (q + 1) 1025 st 0 x1 0 r17 h18 h3) (va_cwS 4 hts gX7_laysHops_X7_hopBy rfl rfl rfl (by decide +kernel) ⟨Nat.le_of_ble_eq_true rfl, Nat.le_of_ble_eq_true rfl⟩) (pw_S hP hK hD) rfl rfl hl.1 rfl (lv_room (Nat.le_of_ble_eq_true rfl)) dX7_laysHops_21 ⟨Nat.zero_le _, Nat.zero_le _⟩) ?_
      obtain ⟨z19, hf⟩ := ck_s hf
      refine va_iast hx hb hK.1 hP hD hS (q + 11) 0 h13 rfl (in_s z19) dX7_laysHops_24 (fun _ _ hP hD hS => ?_)
      obtain ⟨u20, h21, m22, hP, hD⟩ := wd_put hP hD h13
      have hsm := sm_tr hsm m22 (by omega) (by omega)
      refine lv_aload_n hx hb dX7_laysHops_25 rfl (lv_at hl 0 rfl) ?_
      have h23 := sm_at m22 (by omega) h2
      refine va_get (D := D) (ci := 7) (v := .ref (A (q + 11))) (C := RX7) (T := TX7) (N := 18) hx hb hts in_X7_laysHops_X7 hown hK.1 hP (q) h23 rfl 13 (by decide) w_0 (fun _ h9 => h9) rfl dX7_laysHops_26 ?_
      refine lv_sipush (v := 256) hx hb dX7_laysHops_29 (by decide) ?_
      refine lv_iload_n hx hb dX7_laysHops_32 rfl (lv_at hl 1 rfl) ?_
      refine lv_iadd hx hb dX7_laysHops_33 ?_
      refine lv_aload_n hx hb dX7_laysHops_34 rfl (lv_at hl 0 rfl) ?_
      refine va_get (D := D) (ci := 7) (v := .ref (A (q + 1))) (C := RX7) (T := TX7) (N := 18) hx hb hts in_X7_laysHops_X7 hown hK.1 hP (q) h23 rfl 0 (by decide) w_1 (fun _ h9 => h9) rfl dX7_laysHops_35 ?_
      refine lv_sipush (v := 512) hx hb dX7_laysHops_38 (by decide) ?_
      refine lv_iload_n hx hb dX7_laysHops_41 rfl (lv_at hl 1 rfl) ?_
      refine lv_iconst (v := 0) hx hb dX7_laysHops_42 (by decide) ?_
      have h24 := sm_at m22 (by omega) h3
      obtain ⟨r25, h26, hf⟩ := bd_s hf
      refine ks_i (va_runS (As := [.ref (A (q + 1)), .int 512, .int x1, .int 0]) (rest := [.int (256 + x1), .ref (A (q + 11))]) hcf (cz_X7_hopBy l D k A u20 (q + 1) 1025 st 512 x1 0 r25 h26 h24) (va_cwS 4 hts gX7_laysHops_X7_hopBy rfl rfl rfl (by decide +kernel) ⟨Nat.le_of_ble_eq_true rfl, Nat.le_of_ble_eq_true rfl⟩) (pw_S hP hK hD) rfl rfl hl.1 rfl (lv_room (Nat.le_of_ble_eq_true rfl)) dX7_laysHops_43 ⟨Nat.zero_le _, Nat.zero_le _⟩) ?_
      obtain ⟨z27, hf⟩ := ck_s hf
      refine va_iast hx hb hK.1 hP hD hS (q + 11) 0 h21 rfl (in_s z27) dX7_laysHops_46 (fun _ _ hP hD hS => ?_)
      obtain ⟨u28, h29, m30, hP, hD⟩ := wd_put hP hD h21
      have hsm := sm_tr hsm m30 (by omega) (by omega)
      refine lv_iinc (v := (x1 + 1)) (lv' := [(1, .int (x1 + 1)), (0, .ref (A q))]) hx hb dX7_laysHops_47 hl (k := 1) rfl rfl (by decide) rfl (fun ls hl => ?_)
      refine lv_goto (tgt := 2) hx hb dX7_laysHops_50 (by decide) ?_
      have h31 := sm_at m30 (by omega) h23
      have h32 := sm_at m30 (by omega) h24
      have h33 := sm_at m22 (by omega) h4
      have h34 := sm_at m30 (by omega) h33
      have h35 := sm_at m22 (by omega) h5
      have h36 := sm_at m30 (by omega) h35
      have h37 := sm_at m22 (by omega) h6
      have h38 := sm_at m30 (by omega) h37
      have h39 := sm_at m22 (by omega) h7
      have h40 := sm_at m30 (by omega) h39
      have h41 := sm_at m22 (by omega) h8
      have h42 := sm_at m30 (by omega) h41
      have h43 := sm_at m22 (by omega) h9
      have h44 := sm_at m30 (by omega) h43
      have h45 := sm_at m22 (by omega) h10
      have h46 := sm_at m30 (by omega) h45
      have h47 := sm_at m22 (by omega) h11
      have h48 := sm_at m30 (by omega) h47
      have h49 := sm_at m22 (by omega) h12
      have h50 := sm_at m30 (by omega) h49
      have h51 := sm_at m22 (by omega) h14
      have h52 := sm_at m30 (by omega) h51
      have h53 := sm_at m22 (by omega) h15
      have h54 := sm_at m30 (by omega) h53
      have h55 := sm_at m22 (by omega) h16
      have h56 := sm_at m30 (by omega) h55
      have h57 : is_Y k A u28 (q) st past image imagePast tape laneOf sizeOf items least costs (upd (upd hops (Int32.toNatClampNeg x1) r17) (Int32.toNatClampNeg (256 + x1)) r25) comes chain told acts imageActs tapeMany readAt := ⟨h31, h32, h34, h36, h38, h40, h42, h44, h46, h48, h50, h29, h52, h54, h56⟩
      exact ih (upd (upd hops (Int32.toNatClampNeg x1) r17) (Int32.toNatClampNeg (256 + x1)) r25) (x1 + 1) _ _ _ _ hf h57 hsm hP hD hS (lv_sub hl [1, 0] rfl)

set_option maxHeartbeats 4000000 in
set_option maxRecDepth 100000 in
theorem cz_X7_laysHops (l : Launch) (D : va_G) (k : kt_T) (A : Nat → Nat) (ws : va_W) (q : Nat)  (st : Nat → Int32) (past : Nat → Int32) (image : Nat → Int32) (imagePast : Nat → Int32) (tape : Nat → Int32) (laneOf : Nat → Int32) (sizeOf : Nat → Int32) (items : Nat → Int64) (least : Nat → Int32) (costs : Nat → Int32) (hops : Nat → Int32) (comes : Nat → Int32) (chain : Nat → Int32) (told : Nat → Int32) (acts : Int32) (imageActs : Int32) (tapeMany : Int32) (readAt : Int32)  (out : (Nat → Int32)) (hf : pf_X7_laysHops st hops = some out) (h_this : is_Y k A ws q st past image imagePast tape laneOf sizeOf items least costs hops comes chain told acts imageActs tapeMany readAt)  (sz0 : Nat) : Met l yX7_laysHops wsX7_laysHops { frames := 2, cells := 0, slots := 0, locals := 48 } (va_Pc [.ref (A q)] (px_P D k ws sz0)) (qw_Q D ws sz0 none (fun u => is_Y k A u q st past image imagePast tape laneOf sizeOf items least costs out comes chain told acts imageActs tapeMany readAt ∧ sm_W ws u q (q + 15))) 0 0 (va_A ws sz0) := by
  refine Met.ofW (cc := cX7_laysHops) (maxL := 2) (ret := none) (by decide) rfl ?_
  intro p e s m args below meth c s₁ B hml hv
  obtain ⟨rfl, hsz, hP, hK, hD0⟩ := hv
  subst hsz
  have hD := hD0.self (sz := s.heap.size)
  have C0 : cx_P p s m meth c [.ref (A q)].toArray cX7_laysHops 2 wsX7_laysHops RX7 none := ⟨B.exec, B.bytes, hml, findClass_of_methodNamed B.named, atoms_spec (ws := wsX7_laysHops) B.pre, B.returns, B.notSynchronized⟩
  obtain ⟨hx, hb, hml, hown, hts, hr, hlocks⟩ := id C0
  have hcf : CallFix p m c cX7_laysHops 2 s [.ref (A q)].toArray wsX7_laysHops RX7 := ⟨hx, hb, hml, hown, hts⟩
  have hA : ∀ q, s.heap.size ≤ q → va_A ws s.heap.size q := fun q h => Or.inr h
  have hS : va_S (va_A ws s.heap.size) s.heap s.heap [] := va_S.rf
  have hsm : sm_W ws ws q (q + 15) := sm_rf
  have hl := lv_entry ([.ref (A q)]) (n := 2) (Nat.le_of_ble_eq_true rfl)
  rw [lg_entry_eq]
  generalize (lg_sl ([.ref (A q)]) ++ List.replicate (2 - (lg_sl ([.ref (A q)])).length) Slot.unset).toArray = ls at hl ⊢
  have hl : lv_has ls 2 [(0, .ref (A q))] := hl
  unfold pf_X7_laysHops at hf
  refine lv_iconst (v := 0) hx hb dX7_laysHops_0 (by decide) ?_
  refine lv_istore_n (lv' := [(1, .int 0), (0, .ref (A q))]) hx hb dX7_laysHops_1 rfl hl (by decide) rfl (fun ls hl => ?_)
  exact wl_X7_laysHops_2 l D k A ws q _ hK C0 st past image imagePast tape laneOf sizeOf items least costs comes chain told acts imageActs tapeMany readAt fu_N hops 0 _ _ _ _ hf h_this hsm hP hD hS (lv_sub hl [1, 0] rfl)

def pf_X7_lays (st : Nat → Int32) (least : Nat → Int32) (costs : Nat → Int32) (hops : Nat → Int32) (comes : Nat → Int32)   : Option ((Nat → Int32) × (Nat → Int32) × (Nat → Int32) × (Nat → Int32)) :=
  (pf_X7_laysHops st hops).bind (fun r1 =>
    (pf_X7_laysCosts costs r1).bind (fun r7 =>
      (pf_X7_laysLeast least r7 comes).bind (fun r13 =>
        some (r13.1, r7, r1, r13.2))))

set_option maxHeartbeats 4000000 in
set_option maxRecDepth 100000 in
theorem cz_X7_lays (l : Launch) (D : va_G) (k : kt_T) (A : Nat → Nat) (ws : va_W) (q : Nat)  (st : Nat → Int32) (past : Nat → Int32) (image : Nat → Int32) (imagePast : Nat → Int32) (tape : Nat → Int32) (laneOf : Nat → Int32) (sizeOf : Nat → Int32) (items : Nat → Int64) (least : Nat → Int32) (costs : Nat → Int32) (hops : Nat → Int32) (comes : Nat → Int32) (chain : Nat → Int32) (told : Nat → Int32) (acts : Int32) (imageActs : Int32) (tapeMany : Int32) (readAt : Int32)  (out : (Nat → Int32) × (Nat → Int32) × (Nat → Int32) × (Nat → Int32)) (hf : pf_X7_lays st least costs hops comes = some out) (h_this : is_Y k A ws q st past image imagePast tape laneOf sizeOf items least costs hops comes chain told acts imageActs tapeMany readAt)  (sz0 : Nat) : Met l yX7_lays wsX7_lays { frames := 4, cells := 0, slots := 0, locals := 90 } (va_Pc [.ref (A q)] (px_P D k ws sz0)) (qw_Q D ws sz0 none (fun u => is_Y k A u q st past image imagePast tape laneOf sizeOf items out.1 out.2.1 out.2.2.1 out.2.2.2 chain told acts imageActs tapeMany readAt ∧ sm_W ws u q (q + 15))) 0 0 (va_A ws sz0) := by
  refine Met.ofW (cc := cX7_lays) (maxL := 1) (ret := none) (by decide) rfl ?_
  intro p e s m args below meth c s₁ B hml hv
  obtain ⟨rfl, hsz, hP, hK, hD0⟩ := hv
  subst hsz
  have hD := hD0.self (sz := s.heap.size)
  have C0 : cx_P p s m meth c [.ref (A q)].toArray cX7_lays 1 wsX7_lays RX7 none := ⟨B.exec, B.bytes, hml, findClass_of_methodNamed B.named, atoms_spec (ws := wsX7_lays) B.pre, B.returns, B.notSynchronized⟩
  obtain ⟨hx, hb, hml, hown, hts, hr, hlocks⟩ := id C0
  have hcf : CallFix p m c cX7_lays 1 s [.ref (A q)].toArray wsX7_lays RX7 := ⟨hx, hb, hml, hown, hts⟩
  have hA : ∀ q, s.heap.size ≤ q → va_A ws s.heap.size q := fun q h => Or.inr h
  have hS : va_S (va_A ws s.heap.size) s.heap s.heap [] := va_S.rf
  have hsm : sm_W ws ws q (q + 15) := sm_rf
  have hl := lv_entry ([.ref (A q)]) (n := 1) (Nat.le_of_ble_eq_true rfl)
  rw [lg_entry_eq]
  generalize (lg_sl ([.ref (A q)]) ++ List.replicate (1 - (lg_sl ([.ref (A q)])).length) Slot.unset).toArray = ls at hl ⊢
  have hl : lv_has ls 1 [(0, .ref (A q))] := hl
  unfold pf_X7_lays at hf
  refine lv_aload_n hx hb dX7_lays_0 rfl (lv_at hl 0 rfl) ?_
  obtain ⟨r1, h2, hf⟩ := bd_s hf
  refine kw_v (va_runV (As := []) (rest := []) hcf (cz_X7_laysHops l D k A ws (q) st past image imagePast tape laneOf sizeOf items least costs hops comes chain told acts imageActs tapeMany readAt r1 h2 h_this _) (cwV 0 hts gX7_lays_X7_laysHops rfl rfl rfl (by decide +kernel) ⟨Nat.le_of_ble_eq_true rfl, Nat.le_of_ble_eq_true rfl⟩) (px_V hP hK hD (ci := 7) h_this.1 rfl) rfl rfl hl.1 rfl (lv_room (Nat.le_of_ble_eq_true rfl)) dX7_lays_1 ⟨Nat.zero_le _, Nat.zero_le _⟩) hD hS hA (fun u3 _ _ h4 hP hD hS => ?_)
  obtain ⟨h6, m5⟩ := h4
  have hsm := sm_tr hsm m5 (by omega) (by omega)
  refine lv_aload_n hx hb dX7_lays_4 rfl (lv_at hl 0 rfl) ?_
  obtain ⟨r7, h8, hf⟩ := bd_s hf
  refine kw_v (va_runV (As := []) (rest := []) hcf (cz_X7_laysCosts l D k A u3 (q) st past image imagePast tape laneOf sizeOf items least costs r1 comes chain told acts imageActs tapeMany readAt r7 h8 h6 _) (cwV 0 hts gX7_lays_X7_laysCosts rfl rfl rfl (by decide +kernel) ⟨Nat.le_of_ble_eq_true rfl, Nat.le_of_ble_eq_true rfl⟩) (px_V hP hK hD (ci := 7) h6.1 rfl) rfl rfl hl.1 rfl (lv_room (Nat.le_of_ble_eq_true rfl)) dX7_lays_5 ⟨Nat.zero_le _, Nat.zero_le _⟩) hD hS hA (fun u9 _ _ h10 hP hD hS => ?_)
  obtain ⟨h12, m11⟩ := h10
  have hsm := sm_tr hsm m11 (by omega) (by omega)
  refine lv_aload_n hx hb dX7_lays_8 rfl (lv_at hl 0 rfl) ?_
  obtain ⟨r13, h14, hf⟩ := bd_s hf
  refine kw_v (va_runV (As := []) (rest := []) hcf (cz_X7_laysLeast l D k A u9 (q) st past image imagePast tape laneOf sizeOf items least r7 r1 comes chain told acts imageActs tapeMany readAt r13 h14 h12 _) (cwV 0 hts gX7_lays_X7_laysLeast rfl rfl rfl (by decide +kernel) ⟨Nat.le_of_ble_eq_true rfl, Nat.le_of_ble_eq_true rfl⟩) (px_V hP hK hD (ci := 7) h12.1 rfl) rfl rfl hl.1 rfl (lv_room (Nat.le_of_ble_eq_true rfl)) dX7_lays_9 ⟨Nat.zero_le _, Nat.zero_le _⟩) hD hS hA (fun u15 _ _ h16 hP hD hS => ?_)
  obtain ⟨h18, m17⟩ := h16
  have hsm := sm_tr hsm m17 (by omega) (by omega)
  obtain rfl := so_i hf
  exact W.vret hx hb hr (qw_end hS hP hD ⟨h18, hsm⟩) hS.2.2 dX7_lays_12

def lp_X7_has_6  (x1 : Int32) : Nat → Int32 → Option (Int32)
  | 0, _ => none
  | n + 1, x2 =>
    if x2 ≤ x1 then
      if x2 = x1 then
        some 1
      else
        some 0
    else
      lp_X7_has_6 x1 n (x2 / 2)

def pf_X7_has   (p1 : Int32) (p2 : Int32) : Option (Int32) :=
  lp_X7_has_6 p2 fu_N (256 + p1)

set_option maxHeartbeats 4000000 in
set_option maxRecDepth 100000 in
theorem wl_X7_has_6 {p : Program} {e : Env} {s : State} {m : MethodId} {args : Array Value} {below : List Frame} {meth : Method} {c : Code} (l : Launch) (D : va_G) (k : kt_T) (A : Nat → Nat) (ws : va_W)   (out : Int32) (hK : kk_P D k s) (C0 : cx_P p s m meth c args cX7_has 3 wsX7_has RX7 (some .boolean))   (x1 : Int32)    (hP : va_P D vwCl ws s.heap) (hD : va_D (fun _ => True) ws) : ∀ (n : Nat) (x2 : Int32) (ls : Array Slot), lp_X7_has_6 x1 n x2 = some out → lv_has ls 3 [(1, .int x1), (2, .int x2)] → W p l e (headSpec wsX7_has { frames := 0, cells := 0, slots := 0, locals := 0 }).room s m args below meth c s.heap [] 0 0 (MQ below (qs_Q (some (.int out))) args s 0 0 (fun _ => False)) (F0 m 6 ls []) := by
  obtain ⟨hx, hb, hml, hown, hts, hr, hlocks⟩ := id C0
  have hcf : CallFix p m c cX7_has 3 s args wsX7_has RX7 := ⟨hx, hb, hml, hown, hts⟩
  intro n
  induction n with
  | zero =>
    intro x2 ls hf hl
    exact (no_s hf).elim
  | succ n ih =>
    intro x2 ls hf hl
    rw [lp_X7_has_6] at hf
    refine lv_iload_n hx hb dX7_has_6 rfl (lv_at hl 1 rfl) ?_
    refine lv_iload_n hx hb dX7_has_7 rfl (lv_at hl 0 rfl) ?_
    refine lv_icmp_le (tgt := 18) hx hb dX7_has_8 (by decide) (fun c1 => ?_) (fun c1 => ?_)
    · have hf := it_p c1 hf
      refine lv_iload_n hx hb dX7_has_18 rfl (lv_at hl 1 rfl) ?_
      refine lv_iload_n hx hb dX7_has_19 rfl (lv_at hl 0 rfl) ?_
      refine lv_icmp_ne (tgt := 27) hx hb dX7_has_20 (by decide) (fun c2 => ?_) (fun c2 => ?_)
      · have hf := it_n c2 hf
        refine lv_iconst (v := 0) hx hb dX7_has_27 (by decide) ?_
        obtain rfl := so_i hf
        exact W.zret (v := 0) (ty := .boolean) hx hb hr rfl (fun t ht _ => ⟨rfl, ht⟩) (fun _ h => absurd h List.not_mem_nil) dX7_has_28
      · have hf := it_p c2 hf
        refine lv_iconst (v := 1) hx hb dX7_has_23 (by decide) ?_
        refine lv_goto (tgt := 28) hx hb dX7_has_24 (by decide) ?_
        obtain rfl := so_i hf
        exact W.zret (v := 1) (ty := .boolean) hx hb hr rfl (fun t ht _ => ⟨rfl, ht⟩) (fun _ h => absurd h List.not_mem_nil) dX7_has_28
    · have hf := it_n c1 hf
      refine lv_iload_n hx hb dX7_has_11 rfl (lv_at hl 1 rfl) ?_
      refine lv_iconst (v := 2) hx hb dX7_has_12 (by decide) ?_
      refine lv_idiv hx hb dX7_has_13 (by decide) ?_
      refine lv_istore_n (lv' := [(2, .int (x2 / 2)), (1, .int x1)]) hx hb dX7_has_14 rfl hl (by decide) rfl (fun ls hl => ?_)
      refine lv_goto (tgt := 6) hx hb dX7_has_15 (by decide) ?_
      exact ih (x2 / 2) _ hf (lv_sub hl [1, 0] rfl)

set_option maxHeartbeats 4000000 in
set_option maxRecDepth 100000 in
theorem cz_X7_has (l : Launch) (D : va_G) (k : kt_T) (A : Nat → Nat) (ws : va_W)    (p1 : Int32) (p2 : Int32) (out : Int32) (hf : pf_X7_has p1 p2 = some out)   : Met l yX7_has wsX7_has { frames := 0, cells := 0, slots := 0, locals := 0 } (va_Pc [.int p1, .int p2] (pw_P D k ws)) (qs_Q (some (.int out))) 0 0 (fun _ => False) := by
  refine Met.ofW (cc := cX7_has) (maxL := 3) (ret := (some .boolean)) (by decide) rfl ?_
  intro p e s m args below meth c s₁ B hml hv
  obtain ⟨rfl, hP, hK, hD⟩ := hv
  have C0 : cx_P p s m meth c [.int p1, .int p2].toArray cX7_has 3 wsX7_has RX7 (some .boolean) := ⟨B.exec, B.bytes, hml, findClass_of_methodNamed B.named, atoms_spec (ws := wsX7_has) B.pre, B.returns, B.notSynchronized⟩
  obtain ⟨hx, hb, hml, hown, hts, hr, hlocks⟩ := id C0
  have hcf : CallFix p m c cX7_has 3 s [.int p1, .int p2].toArray wsX7_has RX7 := ⟨hx, hb, hml, hown, hts⟩
  have hl := lv_entry ([.int p1, .int p2]) (n := 3) (Nat.le_of_ble_eq_true rfl)
  rw [lg_entry_eq]
  generalize (lg_sl ([.int p1, .int p2]) ++ List.replicate (3 - (lg_sl ([.int p1, .int p2])).length) Slot.unset).toArray = ls at hl ⊢
  have hl : lv_has ls 3 [(0, .int p1), (1, .int p2)] := hl
  unfold pf_X7_has at hf
  refine lv_sipush (v := 256) hx hb dX7_has_0 (by decide) ?_
  refine lv_iload_n hx hb dX7_has_3 rfl (lv_at hl 0 rfl) ?_
  refine lv_iadd hx hb dX7_has_4 ?_
  refine lv_istore_n (lv' := [(2, .int (256 + p1)), (0, .int p1), (1, .int p2)]) hx hb dX7_has_5 rfl hl (by decide) rfl (fun ls hl => ?_)
  exact wl_X7_has_6 l D k A ws _ hK C0 p2 hP hD fu_N (256 + p1) _ hf (lv_sub hl [2, 0] rfl)

theorem in_X7_hopsIn_X7 : ∀ w ∈ u_ws RX7 TX7 18, w ∈ wsX7_hopsIn := fun w h => List.mem_cons_of_mem _ (List.mem_append_right _ h)
def lp_X7_hopsIn_4  (hops : Nat → Int32) (x1 : Int32) : Nat → Int32 → Int32 → Option (Int32)
  | 0, _, _ => none
  | n + 1, x2, x3 =>
    if 256 ≤ x3 then
      some x2
    else
      (pf_X7_has x3 x1).bind (fun r2 =>
        if r2 = 0 then
          lp_X7_hopsIn_4 hops x1 n (x2 ||| 0) (x3 + 1)
        else
          ck_O (in_b x3 512) (
            lt_O (x2 ||| ((1 : Int32) <<< ((hops (Int32.toNatClampNeg x3)) &&& 31))) (fun y21 =>
              lp_X7_hopsIn_4 hops x1 n y21 (x3 + 1))))

def pf_X7_hopsIn (hops : Nat → Int32)  (p1 : Int32) : Option (Int32) :=
  lp_X7_hopsIn_4 hops p1 fu_N 0 0

set_option maxHeartbeats 4000000 in
set_option maxRecDepth 100000 in
theorem wl_X7_hopsIn_4 {p : Program} {e : Env} {s : State} {m : MethodId} {args : Array Value} {below : List Frame} {meth : Method} {c : Code} (l : Launch) (D : va_G) (k : kt_T) (A : Nat → Nat) (ws : va_W) (q : Nat)  (out : Int32) (hK : kk_P D k s) (C0 : cx_P p s m meth c args cX7_hopsIn 4 wsX7_hopsIn RX7 (some .int))  (st : Nat → Int32) (past : Nat → Int32) (image : Nat → Int32) (imagePast : Nat → Int32) (tape : Nat → Int32) (laneOf : Nat → Int32) (sizeOf : Nat → Int32) (items : Nat → Int64) (least : Nat → Int32) (costs : Nat → Int32) (hops : Nat → Int32) (comes : Nat → Int32) (chain : Nat → Int32) (told : Nat → Int32) (acts : Int32) (imageActs : Int32) (tapeMany : Int32) (readAt : Int32) (x1 : Int32)   (h_this : is_Y k A ws q st past image imagePast tape laneOf sizeOf items least costs hops comes chain told acts imageActs tapeMany readAt) (hP : va_P D vwCl ws s.heap) (hD : va_D (fun _ => True) ws) : ∀ (n : Nat) (x2 : Int32) (x3 : Int32) (ls : Array Slot), lp_X7_hopsIn_4 hops x1 n x2 x3 = some out → lv_has ls 4 [(0, .ref (A q)), (1, .int x1), (2, .int x2), (3, .int x3)] → W p l e (headSpec wsX7_hopsIn { frames := 1, cells := 0, slots := 0, locals := 22 }).room s m args below meth c s.heap [] 0 0 (MQ below (qs_Q (some (.int out))) args s 0 0 (fun _ => False)) (F0 m 4 ls []) := by
  obtain ⟨hx, hb, hml, hown, hts, hr, hlocks⟩ := id C0
  have hcf : CallFix p m c cX7_hopsIn 4 s args wsX7_hopsIn RX7 := ⟨hx, hb, hml, hown, hts⟩
  have w_0 := hts (.fieldLink RX7 45 "LeastRoutesModel" "hops" "[I") (List.mem_of_getElem? (i := 1) rfl)
  intro n
  induction n with
  | zero =>
    intro x2 x3 ls hf hl
    exact (no_s hf).elim
  | succ n ih =>
    intro x2 x3 ls hf hl
    rw [lp_X7_hopsIn_4] at hf
    refine lv_iload_n hx hb dX7_hopsIn_4 rfl (lv_at hl 3 rfl) ?_
    refine lv_sipush (v := 256) hx hb dX7_hopsIn_5 (by decide) ?_
    refine lv_icmp_ge (tgt := 40) hx hb dX7_hopsIn_8 (by decide) (fun c1 => ?_) (fun c1 => ?_)
    · have hf := it_p c1 hf
      refine lv_iload_n hx hb dX7_hopsIn_40 rfl (lv_at hl 2 rfl) ?_
      obtain rfl := so_i hf
      exact W.iret (v := x2) hx hb hr (fun t ht _ => ⟨rfl, ht⟩) (fun _ h => absurd h List.not_mem_nil) dX7_hopsIn_41
    · have hf := it_n c1 hf
      refine lv_iload_n hx hb dX7_hopsIn_11 rfl (lv_at hl 2 rfl) ?_
      refine lv_iload_n hx hb dX7_hopsIn_12 rfl (lv_at hl 3 rfl) ?_
      refine lv_iload_n hx hb dX7_hopsIn_13 rfl (lv_at hl 1 rfl) ?_
      obtain ⟨r2, h3, hf⟩ := bd_s hf
      refine ks_i (va_runS (As := [.int x3, .int x1]) (rest := [.int x2]) hcf (cz_X7_has l D k A ws x3 x1 r2 h3) (va_cwS 2 hts gX7_hopsIn_X7_has rfl rfl rfl (by decide +kernel) ⟨Nat.le_of_ble_eq_true rfl, Nat.le_of_ble_eq_true rfl⟩) (pw_S hP hK hD) rfl rfl hl.1 rfl (lv_room (Nat.le_of_ble_eq_true rfl)) dX7_hopsIn_14 ⟨Nat.zero_le _, Nat.zero_le _⟩) ?_
      refine lv_if_eq (tgt := 31) hx hb dX7_hopsIn_17 (by decide) (fun c4 => ?_) (fun c4 => ?_)
      · have hf := it_p c4 hf
        refine lv_iconst (v := 0) hx hb dX7_hopsIn_31 (by decide) ?_
        refine lv_ior hx hb dX7_hopsIn_32 ?_
        refine lv_istore_n (lv' := [(2, .int (x2 ||| 0)), (0, .ref (A q)), (1, .int x1), (3, .int x3)]) hx hb dX7_hopsIn_33 rfl hl (by decide) rfl (fun ls hl => ?_)
        refine lv_iinc (v := (x3 + 1)) (lv' := [(3, .int (x3 + 1)), (2, .int (x2 ||| 0)), (0, .ref (A q)), (1, .int x1)]) hx hb dX7_hopsIn_34 hl (k := 3) rfl rfl (by decide) rfl (fun ls hl => ?_)
        refine lv_goto (tgt := 4) hx hb dX7_hopsIn_37 (by decide) ?_
        exact ih (x2 ||| 0) (x3 + 1) _ hf (lv_sub hl [2, 3, 1, 0] rfl)
      · have hf := it_n c4 hf
        refine lv_iconst (v := 1) hx hb dX7_hopsIn_20 (by decide) ?_
        refine lv_aload_n hx hb dX7_hopsIn_21 rfl (lv_at hl 0 rfl) ?_
        obtain ⟨h5, h6, h7, h8, h9, h10, h11, h12, h13, h14, h15, h16, h17, h18, h19⟩ := h_this
        refine va_get (D := D) (ci := 7) (v := .ref (A (q + 11))) (C := RX7) (T := TX7) (N := 18) hx hb hts in_X7_hopsIn_X7 hown hK.1 hP (q) h5 rfl 13 (by decide) w_0 (fun _ h9 => h9) rfl dX7_hopsIn_22 ?_
        refine lv_iload_n hx hb dX7_hopsIn_25 rfl (lv_at hl 3 rfl) ?_
        obtain ⟨z20, hf⟩ := ck_s hf
        refine va_iald hx hb hK.1 hP (q + 11) 0 h16 rfl (in_s z20) dX7_hopsIn_26 ?_
        refine lv_ishl hx hb dX7_hopsIn_27 ?_
        refine lv_goto (tgt := 32) hx hb dX7_hopsIn_28 (by decide) ?_
        refine lv_ior hx hb dX7_hopsIn_32 ?_
        refine lv_topi (fun y21 e22 => ?_)
        have hf := lt_s' e22 hf
        refine lv_istore_n (lv' := [(2, .int y21), (0, .ref (A q)), (1, .int x1), (3, .int x3)]) hx hb dX7_hopsIn_33 rfl hl (by decide) rfl (fun ls hl => ?_)
        refine lv_iinc (v := (x3 + 1)) (lv' := [(3, .int (x3 + 1)), (2, .int y21), (0, .ref (A q)), (1, .int x1)]) hx hb dX7_hopsIn_34 hl (k := 3) rfl rfl (by decide) rfl (fun ls hl => ?_)
        refine lv_goto (tgt := 4) hx hb dX7_hopsIn_37 (by decide) ?_
        exact ih y21 (x3 + 1) _ hf (lv_sub hl [2, 3, 1, 0] rfl)

set_option maxHeartbeats 4000000 in
set_option maxRecDepth 100000 in
theorem cz_X7_hopsIn (l : Launch) (D : va_G) (k : kt_T) (A : Nat → Nat) (ws : va_W) (q : Nat)  (st : Nat → Int32) (past : Nat → Int32) (image : Nat → Int32) (imagePast : Nat → Int32) (tape : Nat → Int32) (laneOf : Nat → Int32) (sizeOf : Nat → Int32) (items : Nat → Int64) (least : Nat → Int32) (costs : Nat → Int32) (hops : Nat → Int32) (comes : Nat → Int32) (chain : Nat → Int32) (told : Nat → Int32) (acts : Int32) (imageActs : Int32) (tapeMany : Int32) (readAt : Int32) (p1 : Int32) (out : Int32) (hf : pf_X7_hopsIn hops p1 = some out) (h_this : is_Y k A ws q st past image imagePast tape laneOf sizeOf items least costs hops comes chain told acts imageActs tapeMany readAt)  : Met l yX7_hopsIn wsX7_hopsIn { frames := 1, cells := 0, slots := 0, locals := 22 } (va_Pc [.ref (A q), .int p1] (pw_P D k ws)) (qs_Q (some (.int out))) 0 0 (fun _ => False) := by
  refine Met.ofW (cc := cX7_hopsIn) (maxL := 4) (ret := (some .int)) (by decide) rfl ?_
  intro p e s m args below meth c s₁ B hml hv
  obtain ⟨rfl, hP, hK, hD⟩ := hv
  have C0 : cx_P p s m meth c [.ref (A q), .int p1].toArray cX7_hopsIn 4 wsX7_hopsIn RX7 (some .int) := ⟨B.exec, B.bytes, hml, findClass_of_methodNamed B.named, atoms_spec (ws := wsX7_hopsIn) B.pre, B.returns, B.notSynchronized⟩
  obtain ⟨hx, hb, hml, hown, hts, hr, hlocks⟩ := id C0
  have hcf : CallFix p m c cX7_hopsIn 4 s [.ref (A q), .int p1].toArray wsX7_hopsIn RX7 := ⟨hx, hb, hml, hown, hts⟩
  have hl := lv_entry ([.ref (A q), .int p1]) (n := 4) (Nat.le_of_ble_eq_true rfl)
  rw [lg_entry_eq]
  generalize (lg_sl ([.ref (A q), .int p1]) ++ List.replicate (4 - (lg_sl ([.ref (A q), .int p1])).length) Slot.unset).toArray = ls at hl ⊢
  have hl : lv_has ls 4 [(0, .ref (A q)), (1, .int p1)] := hl
  unfold pf_X7_hopsIn at hf
  refine lv_iconst (v := 0) hx hb dX7_hopsIn_0 (by decide) ?_
  refine lv_istore_n (lv' := [(2, .int 0), (0, .ref (A q)), (1, .int p1)]) hx hb dX7_hopsIn_1 rfl hl (by decide) rfl (fun ls hl => ?_)
  refine lv_iconst (v := 0) hx hb dX7_hopsIn_2 (by decide) ?_
  refine lv_istore_n (lv' := [(3, .int 0), (2, .int 0), (0, .ref (A q)), (1, .int p1)]) hx hb dX7_hopsIn_3 rfl hl (by decide) rfl (fun ls hl => ?_)
  exact wl_X7_hopsIn_4 l D k A ws q _ hK C0 st past image imagePast tape laneOf sizeOf items least costs hops comes chain told acts imageActs tapeMany readAt p1 h_this hP hD fu_N 0 0 _ hf (lv_sub hl [2, 3, 1, 0] rfl)

theorem in_X7_isRedundant_X7 : ∀ w ∈ u_ws RX7 TX7 18, w ∈ wsX7_isRedundant := fun w h => List.mem_cons_of_mem _ (List.mem_append_right _ h)
def lp_X7_isRedundant_4  (st : Nat → Int32) (hops : Nat → Int32) (x1 : Int32) : Nat → Int32 → Int32 → Option (Int32)
  | 0, _, _ => none
  | n + 1, x2, x3 =>
    if 256 ≤ x3 then
      ck_O (bo_b x2) (
        some x2)
    else
      if x2 = 0 then
        ck_O (bo_b x2) (
          some x2)
      else
        (pf_X7_hopBy st 1025 0 x3 x1).bind (fun r20 =>
          ck_O (in_b x3 512) (
            if r20 = (hops (Int32.toNatClampNeg x3)) then
              lp_X7_isRedundant_4 st hops x1 n 1 (x3 + 1)
            else
              lp_X7_isRedundant_4 st hops x1 n 0 (x3 + 1)))

def pf_X7_isRedundant (st : Nat → Int32) (hops : Nat → Int32)  (p1 : Int32) : Option (Int32) :=
  lp_X7_isRedundant_4 st hops p1 fu_N 1 0

set_option maxHeartbeats 4000000 in
set_option maxRecDepth 100000 in
theorem wl_X7_isRedundant_4 {p : Program} {e : Env} {s : State} {m : MethodId} {args : Array Value} {below : List Frame} {meth : Method} {c : Code} (l : Launch) (D : va_G) (k : kt_T) (A : Nat → Nat) (ws : va_W) (q : Nat)  (out : Int32) (hK : kk_P D k s) (C0 : cx_P p s m meth c args cX7_isRedundant 4 wsX7_isRedundant RX7 (some .boolean))  (st : Nat → Int32) (past : Nat → Int32) (image : Nat → Int32) (imagePast : Nat → Int32) (tape : Nat → Int32) (laneOf : Nat → Int32) (sizeOf : Nat → Int32) (items : Nat → Int64) (least : Nat → Int32) (costs : Nat → Int32) (hops : Nat → Int32) (comes : Nat → Int32) (chain : Nat → Int32) (told : Nat → Int32) (acts : Int32) (imageActs : Int32) (tapeMany : Int32) (readAt : Int32) (x1 : Int32)   (h_this : is_Y k A ws q st past image imagePast tape laneOf sizeOf items least costs hops comes chain told acts imageActs tapeMany readAt) (hP : va_P D vwCl ws s.heap) (hD : va_D (fun _ => True) ws) : ∀ (n : Nat) (x2 : Int32) (x3 : Int32) (ls : Array Slot), lp_X7_isRedundant_4 st hops x1 n x2 x3 = some out → lv_has ls 4 [(0, .ref (A q)), (1, .int x1), (2, .int x2), (3, .int x3)] → W p l e (headSpec wsX7_isRedundant { frames := 2, cells := 0, slots := 0, locals := 48 }).room s m args below meth c s.heap [] 0 0 (MQ below (qs_Q (some (.int out))) args s 0 0 (fun _ => False)) (F0 m 4 ls []) := by
  obtain ⟨hx, hb, hml, hown, hts, hr, hlocks⟩ := id C0
  have hcf : CallFix p m c cX7_isRedundant 4 s args wsX7_isRedundant RX7 := ⟨hx, hb, hml, hown, hts⟩
  have w_0 := hts (.fieldLink RX7 7 "LeastRoutesModel" "st" "[I") (List.mem_of_getElem? (i := 1) rfl)
  have w_1 := hts (.fieldLink RX7 45 "LeastRoutesModel" "hops" "[I") (List.mem_of_getElem? (i := 2) rfl)
  intro n
  induction n with
  | zero =>
    intro x2 x3 ls hf hl
    exact (no_s hf).elim
  | succ n ih =>
    intro x2 x3 ls hf hl
    rw [lp_X7_isRedundant_4] at hf
    refine lv_iload_n hx hb dX7_isRedundant_4 rfl (lv_at hl 3 rfl) ?_
    refine lv_sipush (v := 256) hx hb dX7_isRedundant_5 (by decide) ?_
    refine lv_icmp_ge (tgt := 46) hx hb dX7_isRedundant_8 (by decide) (fun c1 => ?_) (fun c1 => ?_)
    · have hf := it_p c1 hf
      refine lv_iload_n hx hb dX7_isRedundant_46 rfl (lv_at hl 2 rfl) ?_
      obtain ⟨z2, hf⟩ := ck_s hf
      obtain rfl := so_i hf
      exact W.zret (v := x2) (ty := .boolean) hx hb hr (bo_s z2) (fun t ht _ => ⟨rfl, ht⟩) (fun _ h => absurd h List.not_mem_nil) dX7_isRedundant_47
    · have hf := it_n c1 hf
      refine lv_iload_n hx hb dX7_isRedundant_11 rfl (lv_at hl 2 rfl) ?_
      refine lv_if_eq (tgt := 46) hx hb dX7_isRedundant_12 (by decide) (fun c3 => ?_) (fun c3 => ?_)
      · have hf := it_p c3 hf
        refine lv_iload_n hx hb dX7_isRedundant_46 rfl (lv_at hl 2 rfl) ?_
        obtain ⟨z4, hf⟩ := ck_s hf
        obtain rfl := so_i hf
        exact W.zret (v := x2) (ty := .boolean) hx hb hr (bo_s z4) (fun t ht _ => ⟨rfl, ht⟩) (fun _ h => absurd h List.not_mem_nil) dX7_isRedundant_47
      · have hf := it_n c3 hf
        refine lv_aload_n hx hb dX7_isRedundant_15 rfl (lv_at hl 0 rfl) ?_
        obtain ⟨h5, h6, h7, h8, h9, h10, h11, h12, h13, h14, h15, h16, h17, h18, h19⟩ := h_this
        refine va_get (D := D) (ci := 7) (v := .ref (A (q + 1))) (C := RX7) (T := TX7) (N := 18) hx hb hts in_X7_isRedundant_X7 hown hK.1 hP (q) h5 rfl 0 (by decide) w_0 (fun _ h9 => h9) rfl dX7_isRedundant_16 ?_
        refine lv_iconst (v := 0) hx hb dX7_isRedundant_19 (by decide) ?_
        refine lv_iload_n hx hb dX7_isRedundant_20 rfl (lv_at hl 3 rfl) ?_
        refine lv_iload_n hx hb dX7_isRedundant_21 rfl (lv_at hl 1 rfl) ?_
        obtain ⟨r20, h21, hf⟩ := bd_s hf
        refine ks_i (va_runS (As := [.ref (A (q + 1)), .int 0, .int x3, .int x1]) (rest := []) hcf (cz_X7_hopBy l D k A ws (q + 1) 1025 st 0 x3 x1 r20 h21 h6) (va_cwS 4 hts gX7_isRedundant_X7_hopBy rfl rfl rfl (by decide +kernel) ⟨Nat.le_of_ble_eq_true rfl, Nat.le_of_ble_eq_true rfl⟩) (pw_S hP hK hD) rfl rfl hl.1 rfl (lv_room (Nat.le_of_ble_eq_true rfl)) dX7_isRedundant_22 ⟨Nat.zero_le _, Nat.zero_le _⟩) ?_
        refine lv_aload_n hx hb dX7_isRedundant_25 rfl (lv_at hl 0 rfl) ?_
        refine va_get (D := D) (ci := 7) (v := .ref (A (q + 11))) (C := RX7) (T := TX7) (N := 18) hx hb hts in_X7_isRedundant_X7 hown hK.1 hP (q) h5 rfl 13 (by decide) w_1 (fun _ h9 => h9) rfl dX7_isRedundant_26 ?_
        refine lv_iload_n hx hb dX7_isRedundant_29 rfl (lv_at hl 3 rfl) ?_
        obtain ⟨z22, hf⟩ := ck_s hf
        refine va_iald hx hb hK.1 hP (q + 11) 0 h16 rfl (in_s z22) dX7_isRedundant_30 ?_
        refine lv_icmp_ne (tgt := 38) hx hb dX7_isRedundant_31 (by decide) (fun c23 => ?_) (fun c23 => ?_)
        · have hf := it_n c23 hf
          refine lv_iconst (v := 0) hx hb dX7_isRedundant_38 (by decide) ?_
          refine lv_istore_n (lv' := [(2, .int 0), (0, .ref (A q)), (1, .int x1), (3, .int x3)]) hx hb dX7_isRedundant_39 rfl hl (by decide) rfl (fun ls hl => ?_)
          refine lv_iinc (v := (x3 + 1)) (lv' := [(3, .int (x3 + 1)), (2, .int 0), (0, .ref (A q)), (1, .int x1)]) hx hb dX7_isRedundant_40 hl (k := 3) rfl rfl (by decide) rfl (fun ls hl => ?_)
          refine lv_goto (tgt := 4) hx hb dX7_isRedundant_43 (by decide) ?_
          exact ih 0 (x3 + 1) _ hf (lv_sub hl [2, 3, 1, 0] rfl)
        · have hf := it_p c23 hf
          refine lv_iconst (v := 1) hx hb dX7_isRedundant_34 (by decide) ?_
          refine lv_goto (tgt := 39) hx hb dX7_isRedundant_35 (by decide) ?_
          refine lv_istore_n (lv' := [(2, .int 1), (0, .ref (A q)), (1, .int x1), (3, .int x3)]) hx hb dX7_isRedundant_39 rfl hl (by decide) rfl (fun ls hl => ?_)
          refine lv_iinc (v := (x3 + 1)) (lv' := [(3, .int (x3 + 1)), (2, .int 1), (0, .ref (A q)), (1, .int x1)]) hx hb dX7_isRedundant_40 hl (k := 3) rfl rfl (by decide) rfl (fun ls hl => ?_)
          refine lv_goto (tgt := 4) hx hb dX7_isRedundant_43 (by decide) ?_
          exact ih 1 (x3 + 1) _ hf (lv_sub hl [2, 3, 1, 0] rfl)

set_option maxHeartbeats 4000000 in
set_option maxRecDepth 100000 in
theorem cz_X7_isRedundant (l : Launch) (D : va_G) (k : kt_T) (A : Nat → Nat) (ws : va_W) (q : Nat)  (st : Nat → Int32) (past : Nat → Int32) (image : Nat → Int32) (imagePast : Nat → Int32) (tape : Nat → Int32) (laneOf : Nat → Int32) (sizeOf : Nat → Int32) (items : Nat → Int64) (least : Nat → Int32) (costs : Nat → Int32) (hops : Nat → Int32) (comes : Nat → Int32) (chain : Nat → Int32) (told : Nat → Int32) (acts : Int32) (imageActs : Int32) (tapeMany : Int32) (readAt : Int32) (p1 : Int32) (out : Int32) (hf : pf_X7_isRedundant st hops p1 = some out) (h_this : is_Y k A ws q st past image imagePast tape laneOf sizeOf items least costs hops comes chain told acts imageActs tapeMany readAt)  : Met l yX7_isRedundant wsX7_isRedundant { frames := 2, cells := 0, slots := 0, locals := 48 } (va_Pc [.ref (A q), .int p1] (pw_P D k ws)) (qs_Q (some (.int out))) 0 0 (fun _ => False) := by
  refine Met.ofW (cc := cX7_isRedundant) (maxL := 4) (ret := (some .boolean)) (by decide) rfl ?_
  intro p e s m args below meth c s₁ B hml hv
  obtain ⟨rfl, hP, hK, hD⟩ := hv
  have C0 : cx_P p s m meth c [.ref (A q), .int p1].toArray cX7_isRedundant 4 wsX7_isRedundant RX7 (some .boolean) := ⟨B.exec, B.bytes, hml, findClass_of_methodNamed B.named, atoms_spec (ws := wsX7_isRedundant) B.pre, B.returns, B.notSynchronized⟩
  obtain ⟨hx, hb, hml, hown, hts, hr, hlocks⟩ := id C0
  have hcf : CallFix p m c cX7_isRedundant 4 s [.ref (A q), .int p1].toArray wsX7_isRedundant RX7 := ⟨hx, hb, hml, hown, hts⟩
  have hl := lv_entry ([.ref (A q), .int p1]) (n := 4) (Nat.le_of_ble_eq_true rfl)
  rw [lg_entry_eq]
  generalize (lg_sl ([.ref (A q), .int p1]) ++ List.replicate (4 - (lg_sl ([.ref (A q), .int p1])).length) Slot.unset).toArray = ls at hl ⊢
  have hl : lv_has ls 4 [(0, .ref (A q)), (1, .int p1)] := hl
  unfold pf_X7_isRedundant at hf
  refine lv_iconst (v := 1) hx hb dX7_isRedundant_0 (by decide) ?_
  refine lv_istore_n (lv' := [(2, .int 1), (0, .ref (A q)), (1, .int p1)]) hx hb dX7_isRedundant_1 rfl hl (by decide) rfl (fun ls hl => ?_)
  refine lv_iconst (v := 0) hx hb dX7_isRedundant_2 (by decide) ?_
  refine lv_istore_n (lv' := [(3, .int 0), (2, .int 1), (0, .ref (A q)), (1, .int p1)]) hx hb dX7_isRedundant_3 rfl hl (by decide) rfl (fun ls hl => ?_)
  exact wl_X7_isRedundant_4 l D k A ws q _ hK C0 st past image imagePast tape laneOf sizeOf items least costs hops comes chain told acts imageActs tapeMany readAt p1 h_this hP hD fu_N 1 0 _ hf (lv_sub hl [2, 3, 1, 0] rfl)

def pf_X7_toldOf   (p1 : Int32) : Option (Int32) :=
  if p1 = 8 then
    some (-4)
  else
    some p1

set_option maxHeartbeats 4000000 in
set_option maxRecDepth 100000 in
theorem cz_X7_toldOf (l : Launch) (D : va_G) (k : kt_T) (A : Nat → Nat) (ws : va_W)    (p1 : Int32) (out : Int32) (hf : pf_X7_toldOf p1 = some out)   : Met l yX7_toldOf wsX7_toldOf { frames := 0, cells := 0, slots := 0, locals := 0 } (va_Pc [.int p1] (pw_P D k ws)) (qs_Q (some (.int out))) 0 0 (fun _ => False) := by
  refine Met.ofW (cc := cX7_toldOf) (maxL := 1) (ret := (some .int)) (by decide) rfl ?_
  intro p e s m args below meth c s₁ B hml hv
  obtain ⟨rfl, hP, hK, hD⟩ := hv
  have C0 : cx_P p s m meth c [.int p1].toArray cX7_toldOf 1 wsX7_toldOf RX7 (some .int) := ⟨B.exec, B.bytes, hml, findClass_of_methodNamed B.named, atoms_spec (ws := wsX7_toldOf) B.pre, B.returns, B.notSynchronized⟩
  obtain ⟨hx, hb, hml, hown, hts, hr, hlocks⟩ := id C0
  have hcf : CallFix p m c cX7_toldOf 1 s [.int p1].toArray wsX7_toldOf RX7 := ⟨hx, hb, hml, hown, hts⟩
  have hl := lv_entry ([.int p1]) (n := 1) (Nat.le_of_ble_eq_true rfl)
  rw [lg_entry_eq]
  generalize (lg_sl ([.int p1]) ++ List.replicate (1 - (lg_sl ([.int p1])).length) Slot.unset).toArray = ls at hl ⊢
  have hl : lv_has ls 1 [(0, .int p1)] := hl
  unfold pf_X7_toldOf at hf
  refine lv_iload_n hx hb dX7_toldOf_0 rfl (lv_at hl 0 rfl) ?_
  refine lv_bipush (v := 8) hx hb dX7_toldOf_1 (by decide) ?_
  refine lv_icmp_ne (tgt := 11) hx hb dX7_toldOf_3 (by decide) (fun c1 => ?_) (fun c1 => ?_)
  · have hf := it_n c1 hf
    refine lv_iload_n hx hb dX7_toldOf_11 rfl (lv_at hl 0 rfl) ?_
    obtain rfl := so_i hf
    exact W.iret (v := p1) hx hb hr (fun t ht _ => ⟨rfl, ht⟩) (fun _ h => absurd h List.not_mem_nil) dX7_toldOf_12
  · have hf := it_p c1 hf
    refine lv_bipush (v := (-4)) hx hb dX7_toldOf_6 (by decide) ?_
    refine lv_goto (tgt := 12) hx hb dX7_toldOf_8 (by decide) ?_
    obtain rfl := so_i hf
    exact W.iret (v := (-4)) hx hb hr (fun t ht _ => ⟨rfl, ht⟩) (fun _ h => absurd h List.not_mem_nil) dX7_toldOf_12

