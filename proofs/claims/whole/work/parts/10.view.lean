def pf_X5_hasBit   (p1 : Int32) (p2 : Int32) : Option (Int32) :=
  if ((p1 >>> (p2 &&& 31)) &&& 1) = 1 then
    some 1
  else
    some 0

set_option maxHeartbeats 4000000 in
set_option maxRecDepth 100000 in
theorem cz_X5_hasBit (l : Launch) (D : va_G) (k : kt_T) (A : Nat → Nat) (ws : va_W)    (p1 : Int32) (p2 : Int32) (out : Int32) (hf : pf_X5_hasBit p1 p2 = some out)   : Met l yX5_hasBit wsX5_hasBit { frames := 0, cells := 0, slots := 0, locals := 0 } (va_Pc [.int p1, .int p2] (pw_P D k ws)) (qs_Q (some (.int out))) 0 0 (fun _ => False) := by
  refine Met.ofW (cc := cX5_hasBit) (maxL := 2) (ret := (some .boolean)) (by decide) rfl ?_
  intro p e s m args below meth c s₁ B hml hv
  obtain ⟨rfl, hP, hK, hD⟩ := hv
  have C0 : cx_P p s m meth c [.int p1, .int p2].toArray cX5_hasBit 2 wsX5_hasBit RX5 (some .boolean) := ⟨B.exec, B.bytes, hml, findClass_of_methodNamed B.named, atoms_spec (ws := wsX5_hasBit) B.pre, B.returns, B.notSynchronized⟩
  obtain ⟨hx, hb, hml, hown, hts, hr, hlocks⟩ := id C0
  have hcf : CallFix p m c cX5_hasBit 2 s [.int p1, .int p2].toArray wsX5_hasBit RX5 := ⟨hx, hb, hml, hown, hts⟩
  have hl := lv_entry ([.int p1, .int p2]) (n := 2) (Nat.le_of_ble_eq_true rfl)
  rw [lg_entry_eq]
  generalize (lg_sl ([.int p1, .int p2]) ++ List.replicate (2 - (lg_sl ([.int p1, .int p2])).length) Slot.unset).toArray = ls at hl ⊢
  have hl : lv_has ls 2 [(0, .int p1), (1, .int p2)] := hl
  unfold pf_X5_hasBit at hf
  refine lv_iload_n hx hb dX5_hasBit_0 rfl (lv_at hl 0 rfl) ?_
  refine lv_iload_n hx hb dX5_hasBit_1 rfl (lv_at hl 1 rfl) ?_
  refine lv_ishr hx hb dX5_hasBit_2 ?_
  refine lv_iconst (v := 1) hx hb dX5_hasBit_3 (by decide) ?_
  refine lv_iand hx hb dX5_hasBit_4 ?_
  refine lv_iconst (v := 1) hx hb dX5_hasBit_5 (by decide) ?_
  refine lv_icmp_ne (tgt := 13) hx hb dX5_hasBit_6 (by decide) (fun c1 => ?_) (fun c1 => ?_)
  · have hf := it_n c1 hf
    refine lv_iconst (v := 0) hx hb dX5_hasBit_13 (by decide) ?_
    obtain rfl := so_i hf
    exact W.zret (v := 0) (ty := .boolean) hx hb hr rfl (fun t ht _ => ⟨rfl, ht⟩) (fun _ h => absurd h List.not_mem_nil) dX5_hasBit_14
  · have hf := it_p c1 hf
    refine lv_iconst (v := 1) hx hb dX5_hasBit_9 (by decide) ?_
    refine lv_goto (tgt := 14) hx hb dX5_hasBit_10 (by decide) ?_
    obtain rfl := so_i hf
    exact W.zret (v := 1) (ty := .boolean) hx hb hr rfl (fun t ht _ => ⟨rfl, ht⟩) (fun _ h => absurd h List.not_mem_nil) dX5_hasBit_14

def lp_X5_spread_59 (n2 : Nat)  : Nat → (Nat → Int32) → Int32 → Option ((Nat → Int32))
  | 0, _, _ => none
  | n + 1, f2, x2 =>
    if x2 < 1 then
      some f2
    else
      ck_O (in_b (2 * x2) n2) (
        ck_O (in_b ((2 * x2) + 1) n2) (
          ck_O (in_b x2 n2) (
            lp_X5_spread_59 n2 n (upd f2 (Int32.toNatClampNeg x2) ((f2 (Int32.toNatClampNeg (2 * x2))) ||| (f2 (Int32.toNatClampNeg ((2 * x2) + 1))))) (x2 + (-1)))))

def lp_X5_spread_16 (n2 : Nat) (o1_pl : Nat → Int64) : Nat → (Nat → Int32) → Int32 → Option ((Nat → Int32))
  | 0, _, _ => none
  | n + 1, f2, x2 =>
    if 512 ≤ x2 then
      lp_X5_spread_59 n2 fu_N f2 255
    else
      (pf_X3_hopAt o1_pl x2).bind (fun r16 =>
        if r16 = (-4) then
          ck_O (in_b (x2 >>> (1 &&& 31)) n2) (
            ck_O (in_b x2 n2) (
              lp_X5_spread_16 n2 o1_pl n (upd f2 (Int32.toNatClampNeg x2) (f2 (Int32.toNatClampNeg (x2 >>> (1 &&& 31))))) (x2 + 1)))
        else
          ck_O (in_b x2 n2) (
            lp_X5_spread_16 n2 o1_pl n (upd f2 (Int32.toNatClampNeg x2) ((1 : Int32) <<< (r16 &&& 31))) (x2 + 1)))

def pf_X5_spread (o1_pl : Nat → Int64) (f2 : Nat → Int32) (n2 : Nat)  : Option ((Nat → Int32)) :=
  (pf_X3_hopAt o1_pl 1).bind (fun r1 =>
    ck_O (in_b 1 n2) (
      lp_X5_spread_16 n2 o1_pl fu_N (upd f2 (Int32.toNatClampNeg 1) ((1 : Int32) <<< ((if r1 < 0 then 0 else r1) &&& 31))) 2))

set_option maxHeartbeats 4000000 in
set_option maxRecDepth 100000 in
theorem wl_X5_spread_59 {p : Program} {e : Env} {s : State} {m : MethodId} {args : Array Value} {below : List Frame} {meth : Method} {c : Code} (l : Launch) (D : va_G) (k : kt_T) (A : Nat → Nat) (ws : va_W) (q1 q2 : Nat) (n2 : Nat) (out : (Nat → Int32)) (hK : kk_P D k s) (C0 : cx_P p s m meth c args cX5_spread 4 wsX5_spread RX5 none) (hdis : (q2 + 1 ≤ q1 ∨ q1 + 2 ≤ q2)) (o1_pl : Nat → Int64) (o1_sz : Int32)     : ∀ (n : Nat) (f2 : Nat → Int32) (x2 : Int32) (w : va_W) (H : Heap) (locs : List Loc) (ls : Array Slot), lp_X5_spread_59 n2 n f2 x2 = some out → is_T k A w q1 o1_pl o1_sz → w[q2]? = some (A q2, .inl (k.1, n2, .inl f2)) → sm_W ws w q2 (q2 + 1) → va_P D vwCl w H → va_D (va_A ws s.heap.size) w → va_S (va_A ws s.heap.size) s.heap H locs → lv_has ls 4 [(1, .ref (A q2)), (2, .int x2)] → W p l e (headSpec wsX5_spread { frames := 1, cells := 0, slots := 0, locals := 22 }).room s m args below meth c H locs 0 0 (MQ below (qw_Q D ws s.heap.size none (fun u => u[q2]? = some (A q2, .inl (k.1, n2, .inl out)) ∧ sm_W ws u q2 (q2 + 1))) args s 0 0 (va_A ws s.heap.size)) (F0 m 59 ls []) := by
  obtain ⟨hx, hb, hml, hown, hts, hr, hlocks⟩ := id C0
  have hcf : CallFix p m c cX5_spread 4 s args wsX5_spread RX5 := ⟨hx, hb, hml, hown, hts⟩
  have hA : ∀ q, s.heap.size ≤ q → va_A ws s.heap.size q := fun q h => Or.inr h
  intro n
  induction n with
  | zero =>
    intro f2 x2 w H locs ls hf h_o1 h_f2 hsm hP hD hS hl
    exact (no_s hf).elim
  | succ n ih =>
    intro f2 x2 w H locs ls hf h_o1 h_f2 hsm hP hD hS hl
    rw [lp_X5_spread_59] at hf
    refine lv_iload_n hx hb dX5_spread_59 rfl (lv_at hl 1 rfl) ?_
    refine lv_iconst (v := 1) hx hb dX5_spread_60 (by decide) ?_
    refine lv_icmp_lt (tgt := 86) hx hb dX5_spread_61 (by decide) (fun c8 => ?_) (fun c8 => ?_)
    · have hf := it_p c8 hf
      obtain rfl := so_i hf
      exact W.vret hx hb hr (qw_end hS hP hD ⟨h_f2, hsm⟩) hS.2.2 dX5_spread_86
    · have hf := it_n c8 hf
      refine lv_aload_n hx hb dX5_spread_64 rfl (lv_at hl 0 rfl) ?_
      refine lv_iload_n hx hb dX5_spread_65 rfl (lv_at hl 1 rfl) ?_
      refine lv_aload_n hx hb dX5_spread_66 rfl (lv_at hl 0 rfl) ?_
      refine lv_iconst (v := 2) hx hb dX5_spread_67 (by decide) ?_
      refine lv_iload_n hx hb dX5_spread_68 rfl (lv_at hl 1 rfl) ?_
      refine lv_imul hx hb dX5_spread_69 ?_
      obtain ⟨z9, hf⟩ := ck_s hf
      refine va_iald hx hb hK.1 hP (q2) 0 h_f2 rfl (in_s z9) dX5_spread_70 ?_
      refine lv_aload_n hx hb dX5_spread_71 rfl (lv_at hl 0 rfl) ?_
      refine lv_iconst (v := 2) hx hb dX5_spread_72 (by decide) ?_
      refine lv_iload_n hx hb dX5_spread_73 rfl (lv_at hl 1 rfl) ?_
      refine lv_imul hx hb dX5_spread_74 ?_
      refine lv_iconst (v := 1) hx hb dX5_spread_75 (by decide) ?_
      refine lv_iadd hx hb dX5_spread_76 ?_
      obtain ⟨z10, hf⟩ := ck_s hf
      refine va_iald hx hb hK.1 hP (q2) 0 h_f2 rfl (in_s z10) dX5_spread_77 ?_
      refine lv_ior hx hb dX5_spread_78 ?_
      obtain ⟨z11, hf⟩ := ck_s hf
      refine va_iast hx hb hK.1 hP hD hS (q2) 0 h_f2 rfl (in_s z11) dX5_spread_79 (fun _ _ hP hD hS => ?_)
      obtain ⟨u12, h13, m14, hP, hD⟩ := wd_put hP hD h_f2
      have hsm := sm_tr hsm m14 (by omega) (by omega)
      refine lv_iinc (v := (x2 + (-1))) (lv' := [(2, .int (x2 + (-1))), (1, .ref (A q2))]) hx hb dX5_spread_80 hl (k := 1) rfl rfl (by decide) rfl (fun ls hl => ?_)
      refine lv_goto (tgt := 59) hx hb dX5_spread_83 (by decide) ?_
      have h15 := is_T_tr h_o1 m14 (by omega)
      exact ih (upd f2 (Int32.toNatClampNeg x2) ((f2 (Int32.toNatClampNeg (2 * x2))) ||| (f2 (Int32.toNatClampNeg ((2 * x2) + 1))))) (x2 + (-1)) _ _ _ _ hf h15 h13 hsm hP hD hS (lv_sub hl [1, 0] rfl)

set_option maxHeartbeats 4000000 in
set_option maxRecDepth 100000 in
theorem wl_X5_spread_16 {p : Program} {e : Env} {s : State} {m : MethodId} {args : Array Value} {below : List Frame} {meth : Method} {c : Code} (l : Launch) (D : va_G) (k : kt_T) (A : Nat → Nat) (ws : va_W) (q1 q2 : Nat) (n2 : Nat) (out : (Nat → Int32)) (hK : kk_P D k s) (C0 : cx_P p s m meth c args cX5_spread 4 wsX5_spread RX5 none) (hdis : (q2 + 1 ≤ q1 ∨ q1 + 2 ≤ q2)) (o1_pl : Nat → Int64) (o1_sz : Int32)     : ∀ (n : Nat) (f2 : Nat → Int32) (x2 : Int32) (w : va_W) (H : Heap) (locs : List Loc) (ls : Array Slot), lp_X5_spread_16 n2 o1_pl n f2 x2 = some out → is_T k A w q1 o1_pl o1_sz → w[q2]? = some (A q2, .inl (k.1, n2, .inl f2)) → sm_W ws w q2 (q2 + 1) → va_P D vwCl w H → va_D (va_A ws s.heap.size) w → va_S (va_A ws s.heap.size) s.heap H locs → lv_has ls 4 [(0, .ref (A q1)), (1, .ref (A q2)), (2, .int x2)] → W p l e (headSpec wsX5_spread { frames := 1, cells := 0, slots := 0, locals := 22 }).room s m args below meth c H locs 0 0 (MQ below (qw_Q D ws s.heap.size none (fun u => u[q2]? = some (A q2, .inl (k.1, n2, .inl out)) ∧ sm_W ws u q2 (q2 + 1))) args s 0 0 (va_A ws s.heap.size)) (F0 m 16 ls []) := by
  obtain ⟨hx, hb, hml, hown, hts, hr, hlocks⟩ := id C0
  have hcf : CallFix p m c cX5_spread 4 s args wsX5_spread RX5 := ⟨hx, hb, hml, hown, hts⟩
  have hA : ∀ q, s.heap.size ≤ q → va_A ws s.heap.size q := fun q h => Or.inr h
  intro n
  induction n with
  | zero =>
    intro f2 x2 w H locs ls hf h_o1 h_f2 hsm hP hD hS hl
    exact (no_s hf).elim
  | succ n ih =>
    intro f2 x2 w H locs ls hf h_o1 h_f2 hsm hP hD hS hl
    rw [lp_X5_spread_16] at hf
    refine lv_iload_n hx hb dX5_spread_16 rfl (lv_at hl 2 rfl) ?_
    refine lv_sipush (v := 512) hx hb dX5_spread_17 (by decide) ?_
    refine lv_icmp_ge (tgt := 55) hx hb dX5_spread_20 (by decide) (fun c7 => ?_) (fun c7 => ?_)
    · have hf := it_p c7 hf
      refine lv_sipush (v := 255) hx hb dX5_spread_55 (by decide) ?_
      refine lv_istore_n (lv' := [(2, .int 255), (0, .ref (A q1)), (1, .ref (A q2))]) hx hb dX5_spread_58 rfl hl (by decide) rfl (fun ls hl => ?_)
      exact wl_X5_spread_59 l D k A ws q1 q2 n2 _ hK C0 hdis o1_pl o1_sz fu_N f2 255 _ _ _ _ hf h_o1 h_f2 hsm hP hD hS (lv_sub hl [2, 0] rfl)
    · have hf := it_n c7 hf
      refine lv_aload_n hx hb dX5_spread_23 rfl (lv_at hl 0 rfl) ?_
      refine lv_iload_n hx hb dX5_spread_24 rfl (lv_at hl 2 rfl) ?_
      obtain ⟨r16, h17, hf⟩ := bd_s hf
      refine ks_i (va_runV (As := [.int x2]) (rest := []) hcf (cz_X3_hopAt l D k A w (q1) o1_pl o1_sz x2 r16 h17 h_o1) (cwV 1 hts gX5_spread_X3_hopAt rfl rfl rfl (by decide +kernel) ⟨Nat.le_of_ble_eq_true rfl, Nat.le_of_ble_eq_true rfl⟩) (pw_V hP hK hD (ci := 3) h_o1.1 rfl) rfl rfl hl.1 rfl (lv_room (Nat.le_of_ble_eq_true rfl)) dX5_spread_25 ⟨Nat.zero_le _, Nat.zero_le _⟩) ?_
      refine lv_istore_n (lv' := [(3, .int r16), (0, .ref (A q1)), (1, .ref (A q2)), (2, .int x2)]) hx hb dX5_spread_28 rfl hl (by decide) rfl (fun ls hl => ?_)
      refine lv_aload_n hx hb dX5_spread_29 rfl (lv_at hl 2 rfl) ?_
      refine lv_iload_n hx hb dX5_spread_30 rfl (lv_at hl 3 rfl) ?_
      refine lv_iload_n hx hb dX5_spread_31 rfl (lv_at hl 0 rfl) ?_
      refine lv_bipush (v := (-4)) hx hb dX5_spread_32 (by decide) ?_
      refine lv_icmp_ne (tgt := 45) hx hb dX5_spread_34 (by decide) (fun c18 => ?_) (fun c18 => ?_)
      · have hf := it_n c18 hf
        refine lv_iconst (v := 1) hx hb dX5_spread_45 (by decide) ?_
        refine lv_iload_n hx hb dX5_spread_46 rfl (lv_at hl 0 rfl) ?_
        refine lv_ishl hx hb dX5_spread_47 ?_
        obtain ⟨z19, hf⟩ := ck_s hf
        refine va_iast hx hb hK.1 hP hD hS (q2) 0 h_f2 rfl (in_s z19) dX5_spread_48 (fun _ _ hP hD hS => ?_)
        obtain ⟨u20, h21, m22, hP, hD⟩ := wd_put hP hD h_f2
        have hsm := sm_tr hsm m22 (by omega) (by omega)
        refine lv_iinc (v := (x2 + 1)) (lv' := [(2, .int (x2 + 1)), (3, .int r16), (0, .ref (A q1)), (1, .ref (A q2))]) hx hb dX5_spread_49 hl (k := 3) rfl rfl (by decide) rfl (fun ls hl => ?_)
        refine lv_goto (tgt := 16) hx hb dX5_spread_52 (by decide) ?_
        have h23 := is_T_tr h_o1 m22 (by omega)
        exact ih (upd f2 (Int32.toNatClampNeg x2) ((1 : Int32) <<< (r16 &&& 31))) (x2 + 1) _ _ _ _ hf h23 h21 hsm hP hD hS (lv_sub hl [2, 3, 0] rfl)
      · have hf := it_p c18 hf
        refine lv_aload_n hx hb dX5_spread_37 rfl (lv_at hl 2 rfl) ?_
        refine lv_iload_n hx hb dX5_spread_38 rfl (lv_at hl 3 rfl) ?_
        refine lv_iconst (v := 1) hx hb dX5_spread_39 (by decide) ?_
        refine lv_ishr hx hb dX5_spread_40 ?_
        obtain ⟨z24, hf⟩ := ck_s hf
        refine va_iald hx hb hK.1 hP (q2) 0 h_f2 rfl (in_s z24) dX5_spread_41 ?_
        refine lv_goto (tgt := 48) hx hb dX5_spread_42 (by decide) ?_
        obtain ⟨z25, hf⟩ := ck_s hf
        refine va_iast hx hb hK.1 hP hD hS (q2) 0 h_f2 rfl (in_s z25) dX5_spread_48 (fun _ _ hP hD hS => ?_)
        obtain ⟨u26, h27, m28, hP, hD⟩ := wd_put hP hD h_f2
        have hsm := sm_tr hsm m28 (by omega) (by omega)
        refine lv_iinc (v := (x2 + 1)) (lv' := [(2, .int (x2 + 1)), (3, .int r16), (0, .ref (A q1)), (1, .ref (A q2))]) hx hb dX5_spread_49 hl (k := 3) rfl rfl (by decide) rfl (fun ls hl => ?_)
        refine lv_goto (tgt := 16) hx hb dX5_spread_52 (by decide) ?_
        have h29 := is_T_tr h_o1 m28 (by omega)
        exact ih (upd f2 (Int32.toNatClampNeg x2) (f2 (Int32.toNatClampNeg (x2 >>> (1 &&& 31))))) (x2 + 1) _ _ _ _ hf h29 h27 hsm hP hD hS (lv_sub hl [2, 3, 0] rfl)

set_option maxHeartbeats 4000000 in
set_option maxRecDepth 100000 in
theorem cz_X5_spread (l : Launch) (D : va_G) (k : kt_T) (A : Nat → Nat) (ws : va_W) (q1 q2 : Nat) (n2 : Nat) (o1_pl : Nat → Int64) (o1_sz : Int32) (f2 : Nat → Int32)  (out : (Nat → Int32)) (hf : pf_X5_spread o1_pl f2 n2 = some out) (h_o1 : is_T k A ws q1 o1_pl o1_sz) (h_f2 : ws[q2]? = some (A q2, .inl (k.1, n2, .inl f2))) (hdis : (q2 + 1 ≤ q1 ∨ q1 + 2 ≤ q2)) (sz0 : Nat) : Met l yX5_spread wsX5_spread { frames := 1, cells := 0, slots := 0, locals := 22 } (va_Pc [.ref (A q1), .ref (A q2)] (px_P D k ws sz0)) (qw_Q D ws sz0 none (fun u => u[q2]? = some (A q2, .inl (k.1, n2, .inl out)) ∧ sm_W ws u q2 (q2 + 1))) 0 0 (va_A ws sz0) := by
  refine Met.ofW (cc := cX5_spread) (maxL := 4) (ret := none) (by decide) rfl ?_
  intro p e s m args below meth c s₁ B hml hv
  obtain ⟨rfl, hsz, hP, hK, hD0⟩ := hv
  subst hsz
  have hD := hD0.self (sz := s.heap.size)
  have C0 : cx_P p s m meth c [.ref (A q1), .ref (A q2)].toArray cX5_spread 4 wsX5_spread RX5 none := ⟨B.exec, B.bytes, hml, findClass_of_methodNamed B.named, atoms_spec (ws := wsX5_spread) B.pre, B.returns, B.notSynchronized⟩
  obtain ⟨hx, hb, hml, hown, hts, hr, hlocks⟩ := id C0
  have hcf : CallFix p m c cX5_spread 4 s [.ref (A q1), .ref (A q2)].toArray wsX5_spread RX5 := ⟨hx, hb, hml, hown, hts⟩
  have hA : ∀ q, s.heap.size ≤ q → va_A ws s.heap.size q := fun q h => Or.inr h
  have hS : va_S (va_A ws s.heap.size) s.heap s.heap [] := va_S.rf
  have hsm : sm_W ws ws q2 (q2 + 1) := sm_rf
  have w_0 := hts (.methodLink RX5 87 Lib.Math.max.name) (List.mem_of_getElem? (i := 1) rfl)
  have w_1 := hts (.static Lib.Math.max.name) (List.mem_of_getElem? (i := 2) rfl)
  have w_2 := hts (.initialized "java/lang/Math") (List.mem_of_getElem? (i := 3) rfl)
  have w_3 := hts (.code Lib.Math.max.name Lib.Math.max.code 2 (some .int)) (List.mem_of_getElem? (i := 4) rfl)
  have hl := lv_entry ([.ref (A q1), .ref (A q2)]) (n := 4) (Nat.le_of_ble_eq_true rfl)
  rw [lg_entry_eq]
  generalize (lg_sl ([.ref (A q1), .ref (A q2)]) ++ List.replicate (4 - (lg_sl ([.ref (A q1), .ref (A q2)])).length) Slot.unset).toArray = ls at hl ⊢
  have hl : lv_has ls 4 [(0, .ref (A q1)), (1, .ref (A q2))] := hl
  unfold pf_X5_spread at hf
  refine lv_aload_n hx hb dX5_spread_0 rfl (lv_at hl 1 rfl) ?_
  refine lv_iconst (v := 1) hx hb dX5_spread_1 (by decide) ?_
  refine lv_iconst (v := 1) hx hb dX5_spread_2 (by decide) ?_
  refine lv_aload_n hx hb dX5_spread_3 rfl (lv_at hl 0 rfl) ?_
  refine lv_iconst (v := 1) hx hb dX5_spread_4 (by decide) ?_
  obtain ⟨r1, h2, hf⟩ := bd_s hf
  refine ks_i (va_runV (As := [.int 1]) (rest := [.int 1, .int 1, .ref (A q2)]) hcf (cz_X3_hopAt l D k A ws (q1) o1_pl o1_sz 1 r1 h2 h_o1) (cwV 1 hts gX5_spread_X3_hopAt rfl rfl rfl (by decide +kernel) ⟨Nat.le_of_ble_eq_true rfl, Nat.le_of_ble_eq_true rfl⟩) (pw_V hP hK hD (ci := 3) h_o1.1 rfl) rfl rfl hl.1 rfl (lv_room (Nat.le_of_ble_eq_true rfl)) dX5_spread_5 ⟨Nat.zero_le _, Nat.zero_le _⟩) ?_
  refine lv_iconst (v := 0) hx hb dX5_spread_8 (by decide) ?_
  refine va_mmax hx hb (hml.trans hl.1.symm) hown w_0 w_1 w_2 w_3 (Nat.le_of_ble_eq_true rfl) (Nat.le_of_ble_eq_true rfl) (Nat.zero_le _) (Nat.zero_le _) dX5_spread_9 ?_
  refine lv_ishl hx hb dX5_spread_12 ?_
  obtain ⟨z3, hf⟩ := ck_s hf
  refine va_iast hx hb hK.1 hP hD hS (q2) 0 h_f2 rfl (in_s z3) dX5_spread_13 (fun _ _ hP hD hS => ?_)
  obtain ⟨u4, h5, m6, hP, hD⟩ := wd_put hP hD h_f2
  have hsm := sm_tr hsm m6 (by omega) (by omega)
  refine lv_iconst (v := 2) hx hb dX5_spread_14 (by decide) ?_
  refine lv_istore_n (lv' := [(2, .int 2), (0, .ref (A q1)), (1, .ref (A q2))]) hx hb dX5_spread_15 rfl hl (by decide) rfl (fun ls hl => ?_)
  have h30 := is_T_tr h_o1 m6 (by omega)
  exact wl_X5_spread_16 l D k A ws q1 q2 n2 _ hK C0 hdis o1_pl o1_sz fu_N (upd f2 (Int32.toNatClampNeg 1) ((1 : Int32) <<< ((if r1 < 0 then 0 else r1) &&& 31))) 2 _ _ _ _ hf h30 h5 hsm hP hD hS (lv_sub hl [1, 2, 0] rfl)

theorem in_X5_findBest_X5 : ∀ w ∈ u_ws RX5 TX5 7, w ∈ wsX5_findBest := fun w h => List.mem_cons_of_mem _ (List.mem_append_right _ h)
def lp_X5_findBest_97  (best : Nat → Int32) (ease : Nat → Int32) (x1 : Int32) (x2 : Int32) (v1 : Int32) (v2 : Int32) (g_40 : (Nat → Int32) → (Nat → Int32) → Int32 → Option ((Nat → Int32) × (Nat → Int32))) : Option ((Nat → Int32) × (Nat → Int32)) :=
  ck_O (in_b v1 512) (
    ck_O (in_b (2 * x1) 512) (
      ck_O (in_b ((2 * x1) + 1) 512) (
        if x2 = 0 then
          ck_O (in_b x1 512) (
            g_40 (upd best (Int32.toNatClampNeg v1) v2) (upd ease (Int32.toNatClampNeg x1) (((ease (Int32.toNatClampNeg (2 * x1))) + (ease (Int32.toNatClampNeg ((2 * x1) + 1)))) + 1)) (x1 + (-1)))
        else
          ck_O (in_b x1 512) (
            g_40 (upd best (Int32.toNatClampNeg v1) v2) (upd ease (Int32.toNatClampNeg x1) (((ease (Int32.toNatClampNeg (2 * x1))) + (ease (Int32.toNatClampNeg ((2 * x1) + 1)))) + 0)) (x1 + (-1))))))

def lp_X5_findBest_40   : Nat → (Nat → Int32) → (Nat → Int32) → Int32 → Option ((Nat → Int32) × (Nat → Int32))
  | 0, _, _, _ => none
  | n + 1, best, ease, x1 =>
    if x1 < 1 then
      some (best, ease)
    else
      ck_O (in_b (2 * x1) 512) (
        ck_O (in_b ((2 * x1) + 1) 512) (
          lt_O ((best (Int32.toNatClampNeg (2 * x1))) &&& (best (Int32.toNatClampNeg ((2 * x1) + 1)))) (fun y13 =>
            if y13 = 0 then
              ck_O (in_b (2 * x1) 512) (
                ck_O (in_b ((2 * x1) + 1) 512) (
                  lp_X5_findBest_97 best ease x1 y13 x1 ((best (Int32.toNatClampNeg (2 * x1))) ||| (best (Int32.toNatClampNeg ((2 * x1) + 1)))) (lp_X5_findBest_40 n)))
            else
              lp_X5_findBest_97 best ease x1 y13 x1 y13 (lp_X5_findBest_40 n))))

def lp_X5_findBest_4  (sent : Nat → Int32) : Nat → (Nat → Int32) → (Nat → Int32) → Int32 → Option ((Nat → Int32) × (Nat → Int32))
  | 0, _, _, _ => none
  | n + 1, best, ease, x1 =>
    if 512 ≤ x1 then
      lp_X5_findBest_40 fu_N best ease 255
    else
      ck_O (in_b x1 512) (
        ck_O (in_b x1 512) (
          ck_O (in_b x1 512) (
            lp_X5_findBest_4 sent n (upd best (Int32.toNatClampNeg x1) (sent (Int32.toNatClampNeg x1))) (upd ease (Int32.toNatClampNeg x1) 0) (x1 + 1))))

def pf_X5_findBest (sent : Nat → Int32) (best : Nat → Int32) (ease : Nat → Int32)   : Option ((Nat → Int32) × (Nat → Int32)) :=
  lp_X5_findBest_4 sent fu_N best ease 256

set_option maxHeartbeats 4000000 in
set_option maxRecDepth 100000 in
theorem wl_X5_findBest_97 {p : Program} {e : Env} {s : State} {m : MethodId} {args : Array Value} {below : List Frame} {meth : Method} {c : Code} (l : Launch) (D : va_G) (k : kt_T) (A : Nat → Nat) (ws : va_W) (q : Nat)  (out : (Nat → Int32) × (Nat → Int32)) (hK : kk_P D k s) (C0 : cx_P p s m meth c args cX5_findBest 3 wsX5_findBest RX5 none)  (sent : Nat → Int32) (sentI : Nat → Int32) (best : Nat → Int32) (ease : Nat → Int32) (fromA : Nat → Int32) (vi_pl : Nat → Int64) (vi_sz : Int32) (vl_pl : Nat → Int64) (vl_sz : Int32) (x1 : Int32) (x2 : Int32) (v1 : Int32) (v2 : Int32) (g_40 : (Nat → Int32) → (Nat → Int32) → Int32 → Option ((Nat → Int32) × (Nat → Int32))) (hg_40 : ∀ (best : Nat → Int32) (ease : Nat → Int32) (x1 : Int32) (w : va_W) (H : Heap) (locs : List Loc) (ls : Array Slot), g_40 best ease x1 = some out → is_V k A w q sent sentI best ease fromA vi_pl vi_sz vl_pl vl_sz → sm_W ws w q (q + 10) → va_P D vwCl w H → va_D (va_A ws s.heap.size) w → va_S (va_A ws s.heap.size) s.heap H locs → lv_has ls 3 [(0, .ref (A q)), (1, .int x1)] → W p l e (headSpec wsX5_findBest { frames := 0, cells := 0, slots := 0, locals := 0 }).room s m args below meth c H locs 0 0 (MQ below (qw_Q D ws s.heap.size none (fun u => is_V k A u q sent sentI out.1 out.2 fromA vi_pl vi_sz vl_pl vl_sz ∧ sm_W ws u q (q + 10))) args s 0 0 (va_A ws s.heap.size)) (F0 m 40 ls []))  : ∀ (w : va_W) (H : Heap) (locs : List Loc) (ls : Array Slot), lp_X5_findBest_97 best ease x1 x2 v1 v2 g_40 = some out → is_V k A w q sent sentI best ease fromA vi_pl vi_sz vl_pl vl_sz → sm_W ws w q (q + 10) → va_P D vwCl w H → va_D (va_A ws s.heap.size) w → va_S (va_A ws s.heap.size) s.heap H locs → lv_has ls 3 [(0, .ref (A q)), (1, .int x1), (2, .int x2)] → W p l e (headSpec wsX5_findBest { frames := 0, cells := 0, slots := 0, locals := 0 }).room s m args below meth c H locs 0 0 (MQ below (qw_Q D ws s.heap.size none (fun u => is_V k A u q sent sentI out.1 out.2 fromA vi_pl vi_sz vl_pl vl_sz ∧ sm_W ws u q (q + 10))) args s 0 0 (va_A ws s.heap.size)) (F0 m 97 ls [.int v2, .int v1, .ref (A (q + 3))]) := by
  obtain ⟨hx, hb, hml, hown, hts, hr, hlocks⟩ := id C0
  have hcf : CallFix p m c cX5_findBest 3 s args wsX5_findBest RX5 := ⟨hx, hb, hml, hown, hts⟩
  have hA : ∀ q, s.heap.size ≤ q → va_A ws s.heap.size q := fun q h => Or.inr h
  have w_2 := hts (.fieldLink RX5 21 "LeastRoutes$View" "ease" "[I") (List.mem_of_getElem? (i := 3) rfl)
  intro w H locs ls hf h_this hsm hP hD hS hl
  unfold lp_X5_findBest_97 at hf
  obtain ⟨h18, h19, h20, h21, h22, h23, h24, h25⟩ := h_this
  obtain ⟨z26, hf⟩ := ck_s hf
  refine va_iast hx hb hK.1 hP hD hS (q + 3) 0 h21 rfl (in_s z26) dX5_findBest_97 (fun _ _ hP hD hS => ?_)
  obtain ⟨u27, h28, m29, hP, hD⟩ := wd_put hP hD h21
  have hsm := sm_tr hsm m29 (by omega) (by omega)
  refine lv_aload_n hx hb dX5_findBest_98 rfl (lv_at hl 0 rfl) ?_
  have h30 := sm_at m29 (by omega) h18
  refine va_get (D := D) (ci := 5) (v := .ref (A (q + 4))) (C := RX5) (T := TX5) (N := 7) hx hb hts in_X5_findBest_X5 hown hK.1 hP (q) h30 rfl 3 (by decide) w_2 (fun _ h9 => h9) rfl dX5_findBest_99 ?_
  refine lv_iload_n hx hb dX5_findBest_102 rfl (lv_at hl 1 rfl) ?_
  refine lv_aload_n hx hb dX5_findBest_103 rfl (lv_at hl 0 rfl) ?_
  refine va_get (D := D) (ci := 5) (v := .ref (A (q + 4))) (C := RX5) (T := TX5) (N := 7) hx hb hts in_X5_findBest_X5 hown hK.1 hP (q) h30 rfl 3 (by decide) w_2 (fun _ h9 => h9) rfl dX5_findBest_104 ?_
  refine lv_iconst (v := 2) hx hb dX5_findBest_107 (by decide) ?_
  refine lv_iload_n hx hb dX5_findBest_108 rfl (lv_at hl 1 rfl) ?_
  refine lv_imul hx hb dX5_findBest_109 ?_
  have h31 := sm_at m29 (by omega) h22
  obtain ⟨z32, hf⟩ := ck_s hf
  refine va_iald hx hb hK.1 hP (q + 4) 0 h31 rfl (in_s z32) dX5_findBest_110 ?_
  refine lv_aload_n hx hb dX5_findBest_111 rfl (lv_at hl 0 rfl) ?_
  refine va_get (D := D) (ci := 5) (v := .ref (A (q + 4))) (C := RX5) (T := TX5) (N := 7) hx hb hts in_X5_findBest_X5 hown hK.1 hP (q) h30 rfl 3 (by decide) w_2 (fun _ h9 => h9) rfl dX5_findBest_112 ?_
  refine lv_iconst (v := 2) hx hb dX5_findBest_115 (by decide) ?_
  refine lv_iload_n hx hb dX5_findBest_116 rfl (lv_at hl 1 rfl) ?_
  refine lv_imul hx hb dX5_findBest_117 ?_
  refine lv_iconst (v := 1) hx hb dX5_findBest_118 (by decide) ?_
  refine lv_iadd hx hb dX5_findBest_119 ?_
  obtain ⟨z33, hf⟩ := ck_s hf
  refine va_iald hx hb hK.1 hP (q + 4) 0 h31 rfl (in_s z33) dX5_findBest_120 ?_
  refine lv_iadd hx hb dX5_findBest_121 ?_
  refine lv_iload_n hx hb dX5_findBest_122 rfl (lv_at hl 2 rfl) ?_
  refine lv_if_eq (tgt := 130) hx hb dX5_findBest_123 (by decide) (fun c34 => ?_) (fun c34 => ?_)
  · have hf := it_p c34 hf
    refine lv_iconst (v := 1) hx hb dX5_findBest_130 (by decide) ?_
    refine lv_iadd hx hb dX5_findBest_131 ?_
    obtain ⟨z35, hf⟩ := ck_s hf
    refine va_iast hx hb hK.1 hP hD hS (q + 4) 0 h31 rfl (in_s z35) dX5_findBest_132 (fun _ _ hP hD hS => ?_)
    obtain ⟨u36, h37, m38, hP, hD⟩ := wd_put hP hD h31
    have hsm := sm_tr hsm m38 (by omega) (by omega)
    refine lv_iinc (v := (x1 + (-1))) (lv' := [(1, .int (x1 + (-1))), (0, .ref (A q)), (2, .int x2)]) hx hb dX5_findBest_133 hl (k := 1) rfl rfl (by decide) rfl (fun ls hl => ?_)
    refine lv_goto (tgt := 40) hx hb dX5_findBest_136 (by decide) ?_
    have h39 := sm_at m38 (by omega) h30
    have h40 := sm_at m29 (by omega) h19
    have h41 := sm_at m38 (by omega) h40
    have h42 := sm_at m29 (by omega) h20
    have h43 := sm_at m38 (by omega) h42
    have h44 := sm_at m38 (by omega) h28
    have h45 := sm_at m29 (by omega) h23
    have h46 := sm_at m38 (by omega) h45
    have h47 := is_T_tr h24 m29 (by omega)
    have h48 := is_T_tr h47 m38 (by omega)
    have h49 := is_T_tr h25 m29 (by omega)
    have h50 := is_T_tr h49 m38 (by omega)
    have h51 : is_V k A u36 (q) sent sentI (upd best (Int32.toNatClampNeg v1) v2) (upd ease (Int32.toNatClampNeg x1) (((ease (Int32.toNatClampNeg (2 * x1))) + (ease (Int32.toNatClampNeg ((2 * x1) + 1)))) + 1)) fromA vi_pl vi_sz vl_pl vl_sz := ⟨h39, h41, h43, h44, h37, h46, h48, h50⟩
    exact hg_40 (upd best (Int32.toNatClampNeg v1) v2) (upd ease (Int32.toNatClampNeg x1) (((ease (Int32.toNatClampNeg (2 * x1))) + (ease (Int32.toNatClampNeg ((2 * x1) + 1)))) + 1)) (x1 + (-1)) _ _ _ _ hf h51 hsm hP hD hS (lv_sub hl [1, 0] rfl)
  · have hf := it_n c34 hf
    refine lv_iconst (v := 0) hx hb dX5_findBest_126 (by decide) ?_
    refine lv_goto (tgt := 131) hx hb dX5_findBest_127 (by decide) ?_
    refine lv_iadd hx hb dX5_findBest_131 ?_
    obtain ⟨z52, hf⟩ := ck_s hf
    refine va_iast hx hb hK.1 hP hD hS (q + 4) 0 h31 rfl (in_s z52) dX5_findBest_132 (fun _ _ hP hD hS => ?_)
    obtain ⟨u53, h54, m55, hP, hD⟩ := wd_put hP hD h31
    have hsm := sm_tr hsm m55 (by omega) (by omega)
    refine lv_iinc (v := (x1 + (-1))) (lv' := [(1, .int (x1 + (-1))), (0, .ref (A q)), (2, .int x2)]) hx hb dX5_findBest_133 hl (k := 1) rfl rfl (by decide) rfl (fun ls hl => ?_)
    refine lv_goto (tgt := 40) hx hb dX5_findBest_136 (by decide) ?_
    have h56 := sm_at m55 (by omega) h30
    have h57 := sm_at m29 (by omega) h19
    have h58 := sm_at m55 (by omega) h57
    have h59 := sm_at m29 (by omega) h20
    have h60 := sm_at m55 (by omega) h59
    have h61 := sm_at m55 (by omega) h28
    have h62 := sm_at m29 (by omega) h23
    have h63 := sm_at m55 (by omega) h62
    have h64 := is_T_tr h24 m29 (by omega)
    have h65 := is_T_tr h64 m55 (by omega)
    have h66 := is_T_tr h25 m29 (by omega)
    have h67 := is_T_tr h66 m55 (by omega)
    have h68 : is_V k A u53 (q) sent sentI (upd best (Int32.toNatClampNeg v1) v2) (upd ease (Int32.toNatClampNeg x1) (((ease (Int32.toNatClampNeg (2 * x1))) + (ease (Int32.toNatClampNeg ((2 * x1) + 1)))) + 0)) fromA vi_pl vi_sz vl_pl vl_sz := ⟨h56, h58, h60, h61, h54, h63, h65, h67⟩
    exact hg_40 (upd best (Int32.toNatClampNeg v1) v2) (upd ease (Int32.toNatClampNeg x1) (((ease (Int32.toNatClampNeg (2 * x1))) + (ease (Int32.toNatClampNeg ((2 * x1) + 1)))) + 0)) (x1 + (-1)) _ _ _ _ hf h68 hsm hP hD hS (lv_sub hl [1, 0] rfl)

set_option maxHeartbeats 4000000 in
set_option maxRecDepth 100000 in
theorem wl_X5_findBest_40 {p : Program} {e : Env} {s : State} {m : MethodId} {args : Array Value} {below : List Frame} {meth : Method} {c : Code} (l : Launch) (D : va_G) (k : kt_T) (A : Nat → Nat) (ws : va_W) (q : Nat)  (out : (Nat → Int32) × (Nat → Int32)) (hK : kk_P D k s) (C0 : cx_P p s m meth c args cX5_findBest 3 wsX5_findBest RX5 none)  (sent : Nat → Int32) (sentI : Nat → Int32) (fromA : Nat → Int32) (vi_pl : Nat → Int64) (vi_sz : Int32) (vl_pl : Nat → Int64) (vl_sz : Int32)     : ∀ (n : Nat) (best : Nat → Int32) (ease : Nat → Int32) (x1 : Int32) (w : va_W) (H : Heap) (locs : List Loc) (ls : Array Slot), lp_X5_findBest_40 n best ease x1 = some out → is_V k A w q sent sentI best ease fromA vi_pl vi_sz vl_pl vl_sz → sm_W ws w q (q + 10) → va_P D vwCl w H → va_D (va_A ws s.heap.size) w → va_S (va_A ws s.heap.size) s.heap H locs → lv_has ls 3 [(0, .ref (A q)), (1, .int x1)] → W p l e (headSpec wsX5_findBest { frames := 0, cells := 0, slots := 0, locals := 0 }).room s m args below meth c H locs 0 0 (MQ below (qw_Q D ws s.heap.size none (fun u => is_V k A u q sent sentI out.1 out.2 fromA vi_pl vi_sz vl_pl vl_sz ∧ sm_W ws u q (q + 10))) args s 0 0 (va_A ws s.heap.size)) (F0 m 40 ls []) := by
  obtain ⟨hx, hb, hml, hown, hts, hr, hlocks⟩ := id C0
  have hcf : CallFix p m c cX5_findBest 3 s args wsX5_findBest RX5 := ⟨hx, hb, hml, hown, hts⟩
  have hA : ∀ q, s.heap.size ≤ q → va_A ws s.heap.size q := fun q h => Or.inr h
  have w_0 := hts (.fieldLink RX5 18 "LeastRoutes$View" "best" "[I") (List.mem_of_getElem? (i := 1) rfl)
  intro n
  induction n with
  | zero =>
    intro best ease x1 w H locs ls hf h_this hsm hP hD hS hl
    exact (no_s hf).elim
  | succ n ih =>
    intro best ease x1 w H locs ls hf h_this hsm hP hD hS hl
    rw [lp_X5_findBest_40] at hf
    refine lv_iload_n hx hb dX5_findBest_40 rfl (lv_at hl 1 rfl) ?_
    refine lv_iconst (v := 1) hx hb dX5_findBest_41 (by decide) ?_
    refine lv_icmp_lt (tgt := 139) hx hb dX5_findBest_42 (by decide) (fun c2 => ?_) (fun c2 => ?_)
    · have hf := it_p c2 hf
      obtain rfl := so_i hf
      exact W.vret hx hb hr (qw_end hS hP hD ⟨h_this, hsm⟩) hS.2.2 dX5_findBest_139
    · have hf := it_n c2 hf
      refine lv_aload_n hx hb dX5_findBest_45 rfl (lv_at hl 0 rfl) ?_
      obtain ⟨h3, h4, h5, h6, h7, h8, h9, h10⟩ := h_this
      refine va_get (D := D) (ci := 5) (v := .ref (A (q + 3))) (C := RX5) (T := TX5) (N := 7) hx hb hts in_X5_findBest_X5 hown hK.1 hP (q) h3 rfl 2 (by decide) w_0 (fun _ h9 => h9) rfl dX5_findBest_46 ?_
      refine lv_iconst (v := 2) hx hb dX5_findBest_49 (by decide) ?_
      refine lv_iload_n hx hb dX5_findBest_50 rfl (lv_at hl 1 rfl) ?_
      refine lv_imul hx hb dX5_findBest_51 ?_
      obtain ⟨z11, hf⟩ := ck_s hf
      refine va_iald hx hb hK.1 hP (q + 3) 0 h6 rfl (in_s z11) dX5_findBest_52 ?_
      refine lv_aload_n hx hb dX5_findBest_53 rfl (lv_at hl 0 rfl) ?_
      refine va_get (D := D) (ci := 5) (v := .ref (A (q + 3))) (C := RX5) (T := TX5) (N := 7) hx hb hts in_X5_findBest_X5 hown hK.1 hP (q) h3 rfl 2 (by decide) w_0 (fun _ h9 => h9) rfl dX5_findBest_54 ?_
      refine lv_iconst (v := 2) hx hb dX5_findBest_57 (by decide) ?_
      refine lv_iload_n hx hb dX5_findBest_58 rfl (lv_at hl 1 rfl) ?_
      refine lv_imul hx hb dX5_findBest_59 ?_
      refine lv_iconst (v := 1) hx hb dX5_findBest_60 (by decide) ?_
      refine lv_iadd hx hb dX5_findBest_61 ?_
      obtain ⟨z12, hf⟩ := ck_s hf
      refine va_iald hx hb hK.1 hP (q + 3) 0 h6 rfl (in_s z12) dX5_findBest_62 ?_
      refine lv_iand hx hb dX5_findBest_63 ?_
      refine lv_topi (fun y13 e14 => ?_)
      have hf := lt_s' e14 hf
      refine lv_istore_n (lv' := [(2, .int y13), (0, .ref (A q)), (1, .int x1)]) hx hb dX5_findBest_64 rfl hl (by decide) rfl (fun ls hl => ?_)
      refine lv_aload_n hx hb dX5_findBest_65 rfl (lv_at hl 1 rfl) ?_
      refine va_get (D := D) (ci := 5) (v := .ref (A (q + 3))) (C := RX5) (T := TX5) (N := 7) hx hb hts in_X5_findBest_X5 hown hK.1 hP (q) h3 rfl 2 (by decide) w_0 (fun _ h9 => h9) rfl dX5_findBest_66 ?_
      refine lv_iload_n hx hb dX5_findBest_69 rfl (lv_at hl 2 rfl) ?_
      refine lv_iload_n hx hb dX5_findBest_70 rfl (lv_at hl 0 rfl) ?_
      refine lv_if_eq (tgt := 78) hx hb dX5_findBest_71 (by decide) (fun c15 => ?_) (fun c15 => ?_)
      · have hf := it_p c15 hf
        refine lv_aload_n hx hb dX5_findBest_78 rfl (lv_at hl 1 rfl) ?_
        refine va_get (D := D) (ci := 5) (v := .ref (A (q + 3))) (C := RX5) (T := TX5) (N := 7) hx hb hts in_X5_findBest_X5 hown hK.1 hP (q) h3 rfl 2 (by decide) w_0 (fun _ h9 => h9) rfl dX5_findBest_79 ?_
        refine lv_iconst (v := 2) hx hb dX5_findBest_82 (by decide) ?_
        refine lv_iload_n hx hb dX5_findBest_83 rfl (lv_at hl 2 rfl) ?_
        refine lv_imul hx hb dX5_findBest_84 ?_
        obtain ⟨z16, hf⟩ := ck_s hf
        refine va_iald hx hb hK.1 hP (q + 3) 0 h6 rfl (in_s z16) dX5_findBest_85 ?_
        refine lv_aload_n hx hb dX5_findBest_86 rfl (lv_at hl 1 rfl) ?_
        refine va_get (D := D) (ci := 5) (v := .ref (A (q + 3))) (C := RX5) (T := TX5) (N := 7) hx hb hts in_X5_findBest_X5 hown hK.1 hP (q) h3 rfl 2 (by decide) w_0 (fun _ h9 => h9) rfl dX5_findBest_87 ?_
        refine lv_iconst (v := 2) hx hb dX5_findBest_90 (by decide) ?_
        refine lv_iload_n hx hb dX5_findBest_91 rfl (lv_at hl 2 rfl) ?_
        refine lv_imul hx hb dX5_findBest_92 ?_
        refine lv_iconst (v := 1) hx hb dX5_findBest_93 (by decide) ?_
        refine lv_iadd hx hb dX5_findBest_94 ?_
        obtain ⟨z17, hf⟩ := ck_s hf
        refine va_iald hx hb hK.1 hP (q + 3) 0 h6 rfl (in_s z17) dX5_findBest_95 ?_
        refine lv_ior hx hb dX5_findBest_96 ?_
        have h69 : is_V k A w (q) sent sentI best ease fromA vi_pl vi_sz vl_pl vl_sz := ⟨h3, h4, h5, h6, h7, h8, h9, h10⟩
        exact wl_X5_findBest_97 l D k A ws q _ hK C0 sent sentI best ease fromA vi_pl vi_sz vl_pl vl_sz x1 y13 x1 ((best (Int32.toNatClampNeg (2 * x1))) ||| (best (Int32.toNatClampNeg ((2 * x1) + 1)))) _ ih _ _ _ _ hf h69 hsm hP hD hS (lv_sub hl [1, 2, 0] rfl)
      · have hf := it_n c15 hf
        refine lv_iload_n hx hb dX5_findBest_74 rfl (lv_at hl 0 rfl) ?_
        refine lv_goto (tgt := 97) hx hb dX5_findBest_75 (by decide) ?_
        have h70 : is_V k A w (q) sent sentI best ease fromA vi_pl vi_sz vl_pl vl_sz := ⟨h3, h4, h5, h6, h7, h8, h9, h10⟩
        exact wl_X5_findBest_97 l D k A ws q _ hK C0 sent sentI best ease fromA vi_pl vi_sz vl_pl vl_sz x1 y13 x1 y13 _ ih _ _ _ _ hf h70 hsm hP hD hS (lv_sub hl [1, 2, 0] rfl)

set_option maxHeartbeats 4000000 in
set_option maxRecDepth 100000 in
theorem wl_X5_findBest_4 {p : Program} {e : Env} {s : State} {m : MethodId} {args : Array Value} {below : List Frame} {meth : Method} {c : Code} (l : Launch) (D : va_G) (k : kt_T) (A : Nat → Nat) (ws : va_W) (q : Nat)  (out : (Nat → Int32) × (Nat → Int32)) (hK : kk_P D k s) (C0 : cx_P p s m meth c args cX5_findBest 3 wsX5_findBest RX5 none)  (sent : Nat → Int32) (sentI : Nat → Int32) (fromA : Nat → Int32) (vi_pl : Nat → Int64) (vi_sz : Int32) (vl_pl : Nat → Int64) (vl_sz : Int32)     : ∀ (n : Nat) (best : Nat → Int32) (ease : Nat → Int32) (x1 : Int32) (w : va_W) (H : Heap) (locs : List Loc) (ls : Array Slot), lp_X5_findBest_4 sent n best ease x1 = some out → is_V k A w q sent sentI best ease fromA vi_pl vi_sz vl_pl vl_sz → sm_W ws w q (q + 10) → va_P D vwCl w H → va_D (va_A ws s.heap.size) w → va_S (va_A ws s.heap.size) s.heap H locs → lv_has ls 3 [(0, .ref (A q)), (1, .int x1)] → W p l e (headSpec wsX5_findBest { frames := 0, cells := 0, slots := 0, locals := 0 }).room s m args below meth c H locs 0 0 (MQ below (qw_Q D ws s.heap.size none (fun u => is_V k A u q sent sentI out.1 out.2 fromA vi_pl vi_sz vl_pl vl_sz ∧ sm_W ws u q (q + 10))) args s 0 0 (va_A ws s.heap.size)) (F0 m 4 ls []) := by
  obtain ⟨hx, hb, hml, hown, hts, hr, hlocks⟩ := id C0
  have hcf : CallFix p m c cX5_findBest 3 s args wsX5_findBest RX5 := ⟨hx, hb, hml, hown, hts⟩
  have hA : ∀ q, s.heap.size ≤ q → va_A ws s.heap.size q := fun q h => Or.inr h
  have w_0 := hts (.fieldLink RX5 18 "LeastRoutes$View" "best" "[I") (List.mem_of_getElem? (i := 1) rfl)
  have w_1 := hts (.fieldLink RX5 9 "LeastRoutes$View" "sent" "[I") (List.mem_of_getElem? (i := 2) rfl)
  have w_2 := hts (.fieldLink RX5 21 "LeastRoutes$View" "ease" "[I") (List.mem_of_getElem? (i := 3) rfl)
  intro n
  induction n with
  | zero =>
    intro best ease x1 w H locs ls hf h_this hsm hP hD hS hl
    exact (no_s hf).elim
  | succ n ih =>
    intro best ease x1 w H locs ls hf h_this hsm hP hD hS hl
    rw [lp_X5_findBest_4] at hf
    refine lv_iload_n hx hb dX5_findBest_4 rfl (lv_at hl 1 rfl) ?_
    refine lv_sipush (v := 512) hx hb dX5_findBest_5 (by decide) ?_
    refine lv_icmp_ge (tgt := 36) hx hb dX5_findBest_8 (by decide) (fun c1 => ?_) (fun c1 => ?_)
    · have hf := it_p c1 hf
      refine lv_sipush (v := 255) hx hb dX5_findBest_36 (by decide) ?_
      refine lv_istore_n (lv' := [(1, .int 255), (0, .ref (A q))]) hx hb dX5_findBest_39 rfl hl (by decide) rfl (fun ls hl => ?_)
      exact wl_X5_findBest_40 l D k A ws q _ hK C0 sent sentI fromA vi_pl vi_sz vl_pl vl_sz fu_N best ease 255 _ _ _ _ hf h_this hsm hP hD hS (lv_sub hl [1, 0] rfl)
    · have hf := it_n c1 hf
      refine lv_aload_n hx hb dX5_findBest_11 rfl (lv_at hl 0 rfl) ?_
      obtain ⟨h71, h72, h73, h74, h75, h76, h77, h78⟩ := h_this
      refine va_get (D := D) (ci := 5) (v := .ref (A (q + 3))) (C := RX5) (T := TX5) (N := 7) hx hb hts in_X5_findBest_X5 hown hK.1 hP (q) h71 rfl 2 (by decide) w_0 (fun _ h9 => h9) rfl dX5_findBest_12 ?_
      refine lv_iload_n hx hb dX5_findBest_15 rfl (lv_at hl 1 rfl) ?_
      refine lv_aload_n hx hb dX5_findBest_16 rfl (lv_at hl 0 rfl) ?_
      refine va_get (D := D) (ci := 5) (v := .ref (A (q + 1))) (C := RX5) (T := TX5) (N := 7) hx hb hts in_X5_findBest_X5 hown hK.1 hP (q) h71 rfl 0 (by decide) w_1 (fun _ h9 => h9) rfl dX5_findBest_17 ?_
      refine lv_iload_n hx hb dX5_findBest_20 rfl (lv_at hl 1 rfl) ?_
      obtain ⟨z79, hf⟩ := ck_s hf
      refine va_iald hx hb hK.1 hP (q + 1) 0 h72 rfl (in_s z79) dX5_findBest_21 ?_
      obtain ⟨z80, hf⟩ := ck_s hf
      refine va_iast hx hb hK.1 hP hD hS (q + 3) 0 h74 rfl (in_s z80) dX5_findBest_22 (fun _ _ hP hD hS => ?_)
      obtain ⟨u81, h82, m83, hP, hD⟩ := wd_put hP hD h74
      have hsm := sm_tr hsm m83 (by omega) (by omega)
      refine lv_aload_n hx hb dX5_findBest_23 rfl (lv_at hl 0 rfl) ?_
      have h84 := sm_at m83 (by omega) h71
      refine va_get (D := D) (ci := 5) (v := .ref (A (q + 4))) (C := RX5) (T := TX5) (N := 7) hx hb hts in_X5_findBest_X5 hown hK.1 hP (q) h84 rfl 3 (by decide) w_2 (fun _ h9 => h9) rfl dX5_findBest_24 ?_
      refine lv_iload_n hx hb dX5_findBest_27 rfl (lv_at hl 1 rfl) ?_
      refine lv_iconst (v := 0) hx hb dX5_findBest_28 (by decide) ?_
      have h85 := sm_at m83 (by omega) h75
      obtain ⟨z86, hf⟩ := ck_s hf
      refine va_iast hx hb hK.1 hP hD hS (q + 4) 0 h85 rfl (in_s z86) dX5_findBest_29 (fun _ _ hP hD hS => ?_)
      obtain ⟨u87, h88, m89, hP, hD⟩ := wd_put hP hD h85
      have hsm := sm_tr hsm m89 (by omega) (by omega)
      refine lv_iinc (v := (x1 + 1)) (lv' := [(1, .int (x1 + 1)), (0, .ref (A q))]) hx hb dX5_findBest_30 hl (k := 1) rfl rfl (by decide) rfl (fun ls hl => ?_)
      refine lv_goto (tgt := 4) hx hb dX5_findBest_33 (by decide) ?_
      have h90 := sm_at m89 (by omega) h84
      have h91 := sm_at m83 (by omega) h72
      have h92 := sm_at m89 (by omega) h91
      have h93 := sm_at m83 (by omega) h73
      have h94 := sm_at m89 (by omega) h93
      have h95 := sm_at m89 (by omega) h82
      have h96 := sm_at m83 (by omega) h76
      have h97 := sm_at m89 (by omega) h96
      have h98 := is_T_tr h77 m83 (by omega)
      have h99 := is_T_tr h98 m89 (by omega)
      have h100 := is_T_tr h78 m83 (by omega)
      have h101 := is_T_tr h100 m89 (by omega)
      have h102 : is_V k A u87 (q) sent sentI (upd best (Int32.toNatClampNeg x1) (sent (Int32.toNatClampNeg x1))) (upd ease (Int32.toNatClampNeg x1) 0) fromA vi_pl vi_sz vl_pl vl_sz := ⟨h90, h92, h94, h95, h88, h97, h99, h101⟩
      exact ih (upd best (Int32.toNatClampNeg x1) (sent (Int32.toNatClampNeg x1))) (upd ease (Int32.toNatClampNeg x1) 0) (x1 + 1) _ _ _ _ hf h102 hsm hP hD hS (lv_sub hl [1, 0] rfl)

set_option maxHeartbeats 4000000 in
set_option maxRecDepth 100000 in
theorem cz_X5_findBest (l : Launch) (D : va_G) (k : kt_T) (A : Nat → Nat) (ws : va_W) (q : Nat)  (sent : Nat → Int32) (sentI : Nat → Int32) (best : Nat → Int32) (ease : Nat → Int32) (fromA : Nat → Int32) (vi_pl : Nat → Int64) (vi_sz : Int32) (vl_pl : Nat → Int64) (vl_sz : Int32)  (out : (Nat → Int32) × (Nat → Int32)) (hf : pf_X5_findBest sent best ease = some out) (h_this : is_V k A ws q sent sentI best ease fromA vi_pl vi_sz vl_pl vl_sz)  (sz0 : Nat) : Met l yX5_findBest wsX5_findBest { frames := 0, cells := 0, slots := 0, locals := 0 } (va_Pc [.ref (A q)] (px_P D k ws sz0)) (qw_Q D ws sz0 none (fun u => is_V k A u q sent sentI out.1 out.2 fromA vi_pl vi_sz vl_pl vl_sz ∧ sm_W ws u q (q + 10))) 0 0 (va_A ws sz0) := by
  refine Met.ofW (cc := cX5_findBest) (maxL := 3) (ret := none) (by decide) rfl ?_
  intro p e s m args below meth c s₁ B hml hv
  obtain ⟨rfl, hsz, hP, hK, hD0⟩ := hv
  subst hsz
  have hD := hD0.self (sz := s.heap.size)
  have C0 : cx_P p s m meth c [.ref (A q)].toArray cX5_findBest 3 wsX5_findBest RX5 none := ⟨B.exec, B.bytes, hml, findClass_of_methodNamed B.named, atoms_spec (ws := wsX5_findBest) B.pre, B.returns, B.notSynchronized⟩
  obtain ⟨hx, hb, hml, hown, hts, hr, hlocks⟩ := id C0
  have hcf : CallFix p m c cX5_findBest 3 s [.ref (A q)].toArray wsX5_findBest RX5 := ⟨hx, hb, hml, hown, hts⟩
  have hA : ∀ q, s.heap.size ≤ q → va_A ws s.heap.size q := fun q h => Or.inr h
  have hS : va_S (va_A ws s.heap.size) s.heap s.heap [] := va_S.rf
  have hsm : sm_W ws ws q (q + 10) := sm_rf
  have hl := lv_entry ([.ref (A q)]) (n := 3) (Nat.le_of_ble_eq_true rfl)
  rw [lg_entry_eq]
  generalize (lg_sl ([.ref (A q)]) ++ List.replicate (3 - (lg_sl ([.ref (A q)])).length) Slot.unset).toArray = ls at hl ⊢
  have hl : lv_has ls 3 [(0, .ref (A q))] := hl
  unfold pf_X5_findBest at hf
  refine lv_sipush (v := 256) hx hb dX5_findBest_0 (by decide) ?_
  refine lv_istore_n (lv' := [(1, .int 256), (0, .ref (A q))]) hx hb dX5_findBest_3 rfl hl (by decide) rfl (fun ls hl => ?_)
  exact wl_X5_findBest_4 l D k A ws q _ hK C0 sent sentI fromA vi_pl vi_sz vl_pl vl_sz fu_N best ease 256 _ _ _ _ hf h_this hsm hP hD hS (lv_sub hl [1, 0] rfl)

theorem in_X5_findLeast_X5 : ∀ w ∈ u_ws RX5 TX5 7, w ∈ wsX5_findLeast := fun w h => List.mem_cons_of_mem _ (List.mem_append_left _ (List.mem_append_right _ h))
def lp_X5_findLeast_33  (best : Nat → Int32) (fromA : Nat → Int32) (vl_pl : Nat → Int64) (vl_sz : Int32) (x1 : Int32) (v0 : Int32) (g_9 : (Nat → Int32) → (Nat → Int64) → Int32 → Int32 → Option ((Nat → Int32) × (Nat → Int64) × Int32)) : Option ((Nat → Int32) × (Nat → Int64) × Int32) :=
  ck_O (in_b x1 512) (
    (pf_X5_hasBit (best (Int32.toNatClampNeg x1)) v0).bind (fun r35 =>
      if r35 = 0 then
        ck_O (in_b x1 512) (
          (pf_X6_lowestHop (best (Int32.toNatClampNeg x1))).bind (fun r39 =>
            ck_O (in_b x1 512) (
              ck_O (in_b x1 512) (
                (pf_X3_put vl_pl vl_sz x1 ((upd fromA (Int32.toNatClampNeg x1) r39) (Int32.toNatClampNeg x1))).bind (fun r48 =>
                  g_9 (upd fromA (Int32.toNatClampNeg x1) r39) r48.1 r48.2 (x1 + 1))))))
      else
        ck_O (in_b x1 512) (
          g_9 (upd fromA (Int32.toNatClampNeg x1) v0) vl_pl vl_sz (x1 + 1))))

def lp_X5_findLeast_9  (best : Nat → Int32) : Nat → (Nat → Int32) → (Nat → Int64) → Int32 → Int32 → Option ((Nat → Int32) × (Nat → Int64) × Int32)
  | 0, _, _, _, _ => none
  | n + 1, fromA, vl_pl, vl_sz, x1 =>
    if 512 ≤ x1 then
      some (fromA, vl_pl, vl_sz)
    else
      if x1 = 1 then
        lp_X5_findLeast_33 best fromA vl_pl vl_sz x1 0 (lp_X5_findLeast_9 best n)
      else
        ck_O (in_b (x1 >>> (1 &&& 31)) 512) (
          lp_X5_findLeast_33 best fromA vl_pl vl_sz x1 (fromA (Int32.toNatClampNeg (x1 >>> (1 &&& 31)))) (lp_X5_findLeast_9 best n))

def pf_X5_findLeast (best : Nat → Int32) (fromA : Nat → Int32) (vl_pl : Nat → Int64) (vl_sz : Int32)   : Option ((Nat → Int32) × (Nat → Int64) × Int32) :=
  (pf_X3_makeEmpty vl_pl vl_sz).bind (fun r9 =>
    lp_X5_findLeast_9 best fu_N fromA r9.1 r9.2 1)

set_option maxHeartbeats 4000000 in
set_option maxRecDepth 100000 in
theorem wl_X5_findLeast_33 {p : Program} {e : Env} {s : State} {m : MethodId} {args : Array Value} {below : List Frame} {meth : Method} {c : Code} (l : Launch) (D : va_G) (k : kt_T) (A : Nat → Nat) (ws : va_W) (q : Nat)  (out : (Nat → Int32) × (Nat → Int64) × Int32) (hK : kk_P D k s) (C0 : cx_P p s m meth c args cX5_findLeast 3 wsX5_findLeast RX5 none)  (sent : Nat → Int32) (sentI : Nat → Int32) (best : Nat → Int32) (ease : Nat → Int32) (fromA : Nat → Int32) (vi_pl : Nat → Int64) (vi_sz : Int32) (vl_pl : Nat → Int64) (vl_sz : Int32) (x1 : Int32) (v0 : Int32) (g_9 : (Nat → Int32) → (Nat → Int64) → Int32 → Int32 → Option ((Nat → Int32) × (Nat → Int64) × Int32)) (hg_9 : ∀ (fromA : Nat → Int32) (vl_pl : Nat → Int64) (vl_sz : Int32) (x1 : Int32) (w : va_W) (H : Heap) (locs : List Loc) (ls : Array Slot), g_9 fromA vl_pl vl_sz x1 = some out → is_V k A w q sent sentI best ease fromA vi_pl vi_sz vl_pl vl_sz → sm_W ws w q (q + 10) → va_P D vwCl w H → va_D (va_A ws s.heap.size) w → va_S (va_A ws s.heap.size) s.heap H locs → lv_has ls 3 [(0, .ref (A q)), (1, .int x1)] → W p l e (headSpec wsX5_findLeast { frames := 2, cells := 0, slots := 0, locals := 45 }).room s m args below meth c H locs 0 0 (MQ below (qw_Q D ws s.heap.size none (fun u => is_V k A u q sent sentI best ease out.1 vi_pl vi_sz out.2.1 out.2.2 ∧ sm_W ws u q (q + 10))) args s 0 0 (va_A ws s.heap.size)) (F0 m 9 ls []))  : ∀ (w : va_W) (H : Heap) (locs : List Loc) (ls : Array Slot), lp_X5_findLeast_33 best fromA vl_pl vl_sz x1 v0 g_9 = some out → is_V k A w q sent sentI best ease fromA vi_pl vi_sz vl_pl vl_sz → sm_W ws w q (q + 10) → va_P D vwCl w H → va_D (va_A ws s.heap.size) w → va_S (va_A ws s.heap.size) s.heap H locs → lv_has ls 3 [(0, .ref (A q)), (1, .int x1)] → W p l e (headSpec wsX5_findLeast { frames := 2, cells := 0, slots := 0, locals := 45 }).room s m args below meth c H locs 0 0 (MQ below (qw_Q D ws s.heap.size none (fun u => is_V k A u q sent sentI best ease out.1 vi_pl vi_sz out.2.1 out.2.2 ∧ sm_W ws u q (q + 10))) args s 0 0 (va_A ws s.heap.size)) (F0 m 33 ls [.int v0]) := by
  obtain ⟨hx, hb, hml, hown, hts, hr, hlocks⟩ := id C0
  have hcf : CallFix p m c cX5_findLeast 3 s args wsX5_findLeast RX5 := ⟨hx, hb, hml, hown, hts⟩
  have hA : ∀ q, s.heap.size ≤ q → va_A ws s.heap.size q := fun q h => Or.inr h
  have w_0 := hts (.fieldLink RX5 34 "LeastRoutes$View" "leastOne" "LLeastRoutes$Table;") (List.mem_of_getElem? (i := 1) rfl)
  have w_1 := hts (.fieldLink RX5 18 "LeastRoutes$View" "best" "[I") (List.mem_of_getElem? (i := 3) rfl)
  have w_2 := hts (.fieldLink RX5 24 "LeastRoutes$View" "fromAbove" "[I") (List.mem_of_getElem? (i := 2) rfl)
  have w_3 := hts (.initialized RX6) (List.mem_of_getElem? (i := 20) rfl)
  have w_4 := hts (.static yX6_lowestHop) (List.mem_of_getElem? (i := 19) rfl)
  intro w H locs ls hf h_this hsm hP hD hS hl
  unfold lp_X5_findLeast_33 at hf
  refine lv_istore_n (lv' := [(2, .int v0), (0, .ref (A q)), (1, .int x1)]) hx hb dX5_findLeast_33 rfl hl (by decide) rfl (fun ls hl => ?_)
  refine lv_aload_n hx hb dX5_findLeast_34 rfl (lv_at hl 1 rfl) ?_
  obtain ⟨h26, h27, h28, h29, h30, h31, h32, h33⟩ := h_this
  refine va_get (D := D) (ci := 5) (v := .ref (A (q + 3))) (C := RX5) (T := TX5) (N := 7) hx hb hts in_X5_findLeast_X5 hown hK.1 hP (q) h26 rfl 2 (by decide) w_1 (fun _ h9 => h9) rfl dX5_findLeast_35 ?_
  refine lv_iload_n hx hb dX5_findLeast_38 rfl (lv_at hl 2 rfl) ?_
  obtain ⟨z34, hf⟩ := ck_s hf
  refine va_iald hx hb hK.1 hP (q + 3) 0 h29 rfl (in_s z34) dX5_findLeast_39 ?_
  refine lv_iload_n hx hb dX5_findLeast_40 rfl (lv_at hl 0 rfl) ?_
  obtain ⟨r35, h36, hf⟩ := bd_s hf
  refine ks_i (va_runS (As := [.int (best (Int32.toNatClampNeg x1)), .int v0]) (rest := []) hcf (cz_X5_hasBit l D k A w (best (Int32.toNatClampNeg x1)) v0 r35 h36) (va_cwS 2 hts gX5_findLeast_X5_hasBit rfl rfl rfl (by decide +kernel) ⟨Nat.le_of_ble_eq_true rfl, Nat.le_of_ble_eq_true rfl⟩) (pw_S hP hK hD) rfl rfl hl.1 rfl (lv_room (Nat.le_of_ble_eq_true rfl)) dX5_findLeast_41 ⟨Nat.zero_le _, Nat.zero_le _⟩) ?_
  refine lv_if_eq (tgt := 57) hx hb dX5_findLeast_44 (by decide) (fun c37 => ?_) (fun c37 => ?_)
  · have hf := it_p c37 hf
    refine lv_aload_n hx hb dX5_findLeast_57 rfl (lv_at hl 1 rfl) ?_
    refine va_get (D := D) (ci := 5) (v := .ref (A (q + 5))) (C := RX5) (T := TX5) (N := 7) hx hb hts in_X5_findLeast_X5 hown hK.1 hP (q) h26 rfl 4 (by decide) w_2 (fun _ h9 => h9) rfl dX5_findLeast_58 ?_
    refine lv_iload_n hx hb dX5_findLeast_61 rfl (lv_at hl 2 rfl) ?_
    refine lv_aload_n hx hb dX5_findLeast_62 rfl (lv_at hl 1 rfl) ?_
    refine va_get (D := D) (ci := 5) (v := .ref (A (q + 3))) (C := RX5) (T := TX5) (N := 7) hx hb hts in_X5_findLeast_X5 hown hK.1 hP (q) h26 rfl 2 (by decide) w_1 (fun _ h9 => h9) rfl dX5_findLeast_63 ?_
    refine lv_iload_n hx hb dX5_findLeast_66 rfl (lv_at hl 2 rfl) ?_
    obtain ⟨z38, hf⟩ := ck_s hf
    refine va_iald hx hb hK.1 hP (q + 3) 0 h29 rfl (in_s z38) dX5_findLeast_67 ?_
    obtain ⟨r39, h40, hf⟩ := bd_s hf
    refine ks_i (va_runSN (As := [.int (best (Int32.toNatClampNeg x1))]) (rest := [.int x1, .ref (A (q + 5))]) hcf (cz_X6_lowestHop l D k A w (best (Int32.toNatClampNeg x1)) r39 h40) ⟨(va_cnB 1 hts gX5_findLeast_X6_lowestHop_n96 rfl rfl rfl (hK.2 (RX5, 96, yX6_lowestHop, RX6) (List.mem_of_getElem? (i := 0) rfl)) w_3 (by decide +kernel) ⟨Nat.le_of_ble_eq_true rfl, Nat.le_of_ble_eq_true rfl⟩), w_4, trivial⟩ (pw_S hP hK hD) rfl rfl hl.1 rfl (lv_room (Nat.le_of_ble_eq_true rfl)) dX5_findLeast_68 ⟨Nat.zero_le _, Nat.zero_le _⟩) ?_
    obtain ⟨z41, hf⟩ := ck_s hf
    refine va_iast hx hb hK.1 hP hD hS (q + 5) 0 h31 rfl (in_s z41) dX5_findLeast_71 (fun _ _ hP hD hS => ?_)
    obtain ⟨u42, h43, m44, hP, hD⟩ := wd_put hP hD h31
    have hsm := sm_tr hsm m44 (by omega) (by omega)
    refine lv_aload_n hx hb dX5_findLeast_72 rfl (lv_at hl 1 rfl) ?_
    have h45 := sm_at m44 (by omega) h26
    refine va_get (D := D) (ci := 5) (v := .ref (A (q + 8))) (C := RX5) (T := TX5) (N := 7) hx hb hts in_X5_findLeast_X5 hown hK.1 hP (q) h45 rfl 6 (by decide) w_0 (fun _ h9 => h9) rfl dX5_findLeast_73 ?_
    refine lv_iload_n hx hb dX5_findLeast_76 rfl (lv_at hl 2 rfl) ?_
    refine lv_aload_n hx hb dX5_findLeast_77 rfl (lv_at hl 1 rfl) ?_
    refine va_get (D := D) (ci := 5) (v := .ref (A (q + 5))) (C := RX5) (T := TX5) (N := 7) hx hb hts in_X5_findLeast_X5 hown hK.1 hP (q) h45 rfl 4 (by decide) w_2 (fun _ h9 => h9) rfl dX5_findLeast_78 ?_
    refine lv_iload_n hx hb dX5_findLeast_81 rfl (lv_at hl 2 rfl) ?_
    obtain ⟨z46, hf⟩ := ck_s hf
    refine va_iald hx hb hK.1 hP (q + 5) 0 h43 rfl (in_s z46) dX5_findLeast_82 ?_
    have h47 := is_T_tr h33 m44 (by omega)
    obtain ⟨r48, h49, hf⟩ := bd_s hf
    refine kw_v (va_runV (As := [.int x1, .int ((upd fromA (Int32.toNatClampNeg x1) r39) (Int32.toNatClampNeg x1))]) (rest := []) hcf (cz_X3_put l D k A u42 (q + 8) vl_pl vl_sz x1 ((upd fromA (Int32.toNatClampNeg x1) r39) (Int32.toNatClampNeg x1)) r48 h49 h47 _) (cwV 2 hts gX5_findLeast_X3_put rfl rfl rfl (by decide +kernel) ⟨Nat.le_of_ble_eq_true rfl, Nat.le_of_ble_eq_true rfl⟩) (px_V hP hK hD (ci := 3) h47.1 rfl) rfl rfl hl.1 rfl (lv_room (Nat.le_of_ble_eq_true rfl)) dX5_findLeast_83 ⟨Nat.zero_le _, Nat.zero_le _⟩) hD hS hA (fun u50 _ _ h51 hP hD hS => ?_)
    obtain ⟨h53, m52⟩ := h51
    have hsm := sm_tr hsm m52 (by omega) (by omega)
    refine lv_iinc (v := (x1 + 1)) (lv' := [(1, .int (x1 + 1)), (2, .int v0), (0, .ref (A q))]) hx hb dX5_findLeast_86 hl (k := 2) rfl rfl (by decide) rfl (fun ls hl => ?_)
    refine lv_goto (tgt := 9) hx hb dX5_findLeast_89 (by decide) ?_
    have h54 := sm_at m52 (by omega) h45
    have h55 := sm_at m44 (by omega) h27
    have h56 := sm_at m52 (by omega) h55
    have h57 := sm_at m44 (by omega) h28
    have h58 := sm_at m52 (by omega) h57
    have h59 := sm_at m44 (by omega) h29
    have h60 := sm_at m52 (by omega) h59
    have h61 := sm_at m44 (by omega) h30
    have h62 := sm_at m52 (by omega) h61
    have h63 := sm_at m52 (by omega) h43
    have h64 := is_T_tr h32 m44 (by omega)
    have h65 := is_T_tr h64 m52 (by omega)
    have h66 : is_V k A u50 (q) sent sentI best ease (upd fromA (Int32.toNatClampNeg x1) r39) vi_pl vi_sz r48.1 r48.2 := ⟨h54, h56, h58, h60, h62, h63, h65, h53⟩
    exact hg_9 (upd fromA (Int32.toNatClampNeg x1) r39) r48.1 r48.2 (x1 + 1) _ _ _ _ hf h66 hsm hP hD hS (lv_sub hl [2, 0] rfl)
  · have hf := it_n c37 hf
    refine lv_aload_n hx hb dX5_findLeast_47 rfl (lv_at hl 1 rfl) ?_
    refine va_get (D := D) (ci := 5) (v := .ref (A (q + 5))) (C := RX5) (T := TX5) (N := 7) hx hb hts in_X5_findLeast_X5 hown hK.1 hP (q) h26 rfl 4 (by decide) w_2 (fun _ h9 => h9) rfl dX5_findLeast_48 ?_
    refine lv_iload_n hx hb dX5_findLeast_51 rfl (lv_at hl 2 rfl) ?_
    refine lv_iload_n hx hb dX5_findLeast_52 rfl (lv_at hl 0 rfl) ?_
    obtain ⟨z67, hf⟩ := ck_s hf
    refine va_iast hx hb hK.1 hP hD hS (q + 5) 0 h31 rfl (in_s z67) dX5_findLeast_53 (fun _ _ hP hD hS => ?_)
    obtain ⟨u68, h69, m70, hP, hD⟩ := wd_put hP hD h31
    have hsm := sm_tr hsm m70 (by omega) (by omega)
    refine lv_goto (tgt := 86) hx hb dX5_findLeast_54 (by decide) ?_
    refine lv_iinc (v := (x1 + 1)) (lv' := [(1, .int (x1 + 1)), (2, .int v0), (0, .ref (A q))]) hx hb dX5_findLeast_86 hl (k := 2) rfl rfl (by decide) rfl (fun ls hl => ?_)
    refine lv_goto (tgt := 9) hx hb dX5_findLeast_89 (by decide) ?_
    have h71 := sm_at m70 (by omega) h26
    have h72 := sm_at m70 (by omega) h27
    have h73 := sm_at m70 (by omega) h28
    have h74 := sm_at m70 (by omega) h29
    have h75 := sm_at m70 (by omega) h30
    have h76 := is_T_tr h32 m70 (by omega)
    have h77 := is_T_tr h33 m70 (by omega)
    have h78 : is_V k A u68 (q) sent sentI best ease (upd fromA (Int32.toNatClampNeg x1) v0) vi_pl vi_sz vl_pl vl_sz := ⟨h71, h72, h73, h74, h75, h69, h76, h77⟩
    exact hg_9 (upd fromA (Int32.toNatClampNeg x1) v0) vl_pl vl_sz (x1 + 1) _ _ _ _ hf h78 hsm hP hD hS (lv_sub hl [2, 0] rfl)

set_option maxHeartbeats 4000000 in
set_option maxRecDepth 100000 in
theorem wl_X5_findLeast_9 {p : Program} {e : Env} {s : State} {m : MethodId} {args : Array Value} {below : List Frame} {meth : Method} {c : Code} (l : Launch) (D : va_G) (k : kt_T) (A : Nat → Nat) (ws : va_W) (q : Nat)  (out : (Nat → Int32) × (Nat → Int64) × Int32) (hK : kk_P D k s) (C0 : cx_P p s m meth c args cX5_findLeast 3 wsX5_findLeast RX5 none)  (sent : Nat → Int32) (sentI : Nat → Int32) (best : Nat → Int32) (ease : Nat → Int32) (vi_pl : Nat → Int64) (vi_sz : Int32)     : ∀ (n : Nat) (fromA : Nat → Int32) (vl_pl : Nat → Int64) (vl_sz : Int32) (x1 : Int32) (w : va_W) (H : Heap) (locs : List Loc) (ls : Array Slot), lp_X5_findLeast_9 best n fromA vl_pl vl_sz x1 = some out → is_V k A w q sent sentI best ease fromA vi_pl vi_sz vl_pl vl_sz → sm_W ws w q (q + 10) → va_P D vwCl w H → va_D (va_A ws s.heap.size) w → va_S (va_A ws s.heap.size) s.heap H locs → lv_has ls 3 [(0, .ref (A q)), (1, .int x1)] → W p l e (headSpec wsX5_findLeast { frames := 2, cells := 0, slots := 0, locals := 45 }).room s m args below meth c H locs 0 0 (MQ below (qw_Q D ws s.heap.size none (fun u => is_V k A u q sent sentI best ease out.1 vi_pl vi_sz out.2.1 out.2.2 ∧ sm_W ws u q (q + 10))) args s 0 0 (va_A ws s.heap.size)) (F0 m 9 ls []) := by
  obtain ⟨hx, hb, hml, hown, hts, hr, hlocks⟩ := id C0
  have hcf : CallFix p m c cX5_findLeast 3 s args wsX5_findLeast RX5 := ⟨hx, hb, hml, hown, hts⟩
  have hA : ∀ q, s.heap.size ≤ q → va_A ws s.heap.size q := fun q h => Or.inr h
  have w_2 := hts (.fieldLink RX5 24 "LeastRoutes$View" "fromAbove" "[I") (List.mem_of_getElem? (i := 2) rfl)
  intro n
  induction n with
  | zero =>
    intro fromA vl_pl vl_sz x1 w H locs ls hf h_this hsm hP hD hS hl
    exact (no_s hf).elim
  | succ n ih =>
    intro fromA vl_pl vl_sz x1 w H locs ls hf h_this hsm hP hD hS hl
    rw [lp_X5_findLeast_9] at hf
    refine lv_iload_n hx hb dX5_findLeast_9 rfl (lv_at hl 1 rfl) ?_
    refine lv_sipush (v := 512) hx hb dX5_findLeast_10 (by decide) ?_
    refine lv_icmp_ge (tgt := 92) hx hb dX5_findLeast_13 (by decide) (fun c15 => ?_) (fun c15 => ?_)
    · have hf := it_p c15 hf
      obtain rfl := so_i hf
      exact W.vret hx hb hr (qw_end hS hP hD ⟨h_this, hsm⟩) hS.2.2 dX5_findLeast_92
    · have hf := it_n c15 hf
      refine lv_iload_n hx hb dX5_findLeast_16 rfl (lv_at hl 1 rfl) ?_
      refine lv_iconst (v := 1) hx hb dX5_findLeast_17 (by decide) ?_
      refine lv_icmp_ne (tgt := 25) hx hb dX5_findLeast_18 (by decide) (fun c16 => ?_) (fun c16 => ?_)
      · have hf := it_n c16 hf
        refine lv_aload_n hx hb dX5_findLeast_25 rfl (lv_at hl 0 rfl) ?_
        obtain ⟨h17, h18, h19, h20, h21, h22, h23, h24⟩ := h_this
        refine va_get (D := D) (ci := 5) (v := .ref (A (q + 5))) (C := RX5) (T := TX5) (N := 7) hx hb hts in_X5_findLeast_X5 hown hK.1 hP (q) h17 rfl 4 (by decide) w_2 (fun _ h9 => h9) rfl dX5_findLeast_26 ?_
        refine lv_iload_n hx hb dX5_findLeast_29 rfl (lv_at hl 1 rfl) ?_
        refine lv_iconst (v := 1) hx hb dX5_findLeast_30 (by decide) ?_
        refine lv_ishr hx hb dX5_findLeast_31 ?_
        obtain ⟨z25, hf⟩ := ck_s hf
        refine va_iald hx hb hK.1 hP (q + 5) 0 h22 rfl (in_s z25) dX5_findLeast_32 ?_
        have h79 : is_V k A w (q) sent sentI best ease fromA vi_pl vi_sz vl_pl vl_sz := ⟨h17, h18, h19, h20, h21, h22, h23, h24⟩
        exact wl_X5_findLeast_33 l D k A ws q _ hK C0 sent sentI best ease fromA vi_pl vi_sz vl_pl vl_sz x1 (fromA (Int32.toNatClampNeg (x1 >>> (1 &&& 31)))) _ ih _ _ _ _ hf h79 hsm hP hD hS (lv_sub hl [0, 1] rfl)
      · have hf := it_p c16 hf
        refine lv_iconst (v := 0) hx hb dX5_findLeast_21 (by decide) ?_
        refine lv_goto (tgt := 33) hx hb dX5_findLeast_22 (by decide) ?_
        exact wl_X5_findLeast_33 l D k A ws q _ hK C0 sent sentI best ease fromA vi_pl vi_sz vl_pl vl_sz x1 0 _ ih _ _ _ _ hf h_this hsm hP hD hS (lv_sub hl [0, 1] rfl)

set_option maxHeartbeats 4000000 in
set_option maxRecDepth 100000 in
theorem cz_X5_findLeast (l : Launch) (D : va_G) (k : kt_T) (A : Nat → Nat) (ws : va_W) (q : Nat)  (sent : Nat → Int32) (sentI : Nat → Int32) (best : Nat → Int32) (ease : Nat → Int32) (fromA : Nat → Int32) (vi_pl : Nat → Int64) (vi_sz : Int32) (vl_pl : Nat → Int64) (vl_sz : Int32)  (out : (Nat → Int32) × (Nat → Int64) × Int32) (hf : pf_X5_findLeast best fromA vl_pl vl_sz = some out) (h_this : is_V k A ws q sent sentI best ease fromA vi_pl vi_sz vl_pl vl_sz)  (sz0 : Nat) : Met l yX5_findLeast wsX5_findLeast { frames := 2, cells := 0, slots := 0, locals := 45 } (va_Pc [.ref (A q)] (px_P D k ws sz0)) (qw_Q D ws sz0 none (fun u => is_V k A u q sent sentI best ease out.1 vi_pl vi_sz out.2.1 out.2.2 ∧ sm_W ws u q (q + 10))) 0 0 (va_A ws sz0) := by
  refine Met.ofW (cc := cX5_findLeast) (maxL := 3) (ret := none) (by decide) rfl ?_
  intro p e s m args below meth c s₁ B hml hv
  obtain ⟨rfl, hsz, hP, hK, hD0⟩ := hv
  subst hsz
  have hD := hD0.self (sz := s.heap.size)
  have C0 : cx_P p s m meth c [.ref (A q)].toArray cX5_findLeast 3 wsX5_findLeast RX5 none := ⟨B.exec, B.bytes, hml, findClass_of_methodNamed B.named, atoms_spec (ws := wsX5_findLeast) B.pre, B.returns, B.notSynchronized⟩
  obtain ⟨hx, hb, hml, hown, hts, hr, hlocks⟩ := id C0
  have hcf : CallFix p m c cX5_findLeast 3 s [.ref (A q)].toArray wsX5_findLeast RX5 := ⟨hx, hb, hml, hown, hts⟩
  have hA : ∀ q, s.heap.size ≤ q → va_A ws s.heap.size q := fun q h => Or.inr h
  have hS : va_S (va_A ws s.heap.size) s.heap s.heap [] := va_S.rf
  have hsm : sm_W ws ws q (q + 10) := sm_rf
  have w_0 := hts (.fieldLink RX5 34 "LeastRoutes$View" "leastOne" "LLeastRoutes$Table;") (List.mem_of_getElem? (i := 1) rfl)
  have hl := lv_entry ([.ref (A q)]) (n := 3) (Nat.le_of_ble_eq_true rfl)
  rw [lg_entry_eq]
  generalize (lg_sl ([.ref (A q)]) ++ List.replicate (3 - (lg_sl ([.ref (A q)])).length) Slot.unset).toArray = ls at hl ⊢
  have hl : lv_has ls 3 [(0, .ref (A q))] := hl
  unfold pf_X5_findLeast at hf
  refine lv_aload_n hx hb dX5_findLeast_0 rfl (lv_at hl 0 rfl) ?_
  obtain ⟨h1, h2, h3, h4, h5, h6, h7, h8⟩ := h_this
  refine va_get (D := D) (ci := 5) (v := .ref (A (q + 8))) (C := RX5) (T := TX5) (N := 7) hx hb hts in_X5_findLeast_X5 hown hK.1 hP (q) h1 rfl 6 (by decide) w_0 (fun _ h9 => h9) rfl dX5_findLeast_1 ?_
  obtain ⟨r9, h10, hf⟩ := bd_s hf
  refine kw_v (va_runV (As := []) (rest := []) hcf (cz_X3_makeEmpty l D k A ws (q + 8) vl_pl vl_sz r9 h10 h8 _) (cwV 0 hts gX5_findLeast_X3_makeEmpty rfl rfl rfl (by decide +kernel) ⟨Nat.le_of_ble_eq_true rfl, Nat.le_of_ble_eq_true rfl⟩) (px_V hP hK hD (ci := 3) h8.1 rfl) rfl rfl hl.1 rfl (lv_room (Nat.le_of_ble_eq_true rfl)) dX5_findLeast_4 ⟨Nat.zero_le _, Nat.zero_le _⟩) hD hS hA (fun u11 _ _ h12 hP hD hS => ?_)
  obtain ⟨h14, m13⟩ := h12
  have hsm := sm_tr hsm m13 (by omega) (by omega)
  refine lv_iconst (v := 1) hx hb dX5_findLeast_7 (by decide) ?_
  refine lv_istore_n (lv' := [(1, .int 1), (0, .ref (A q))]) hx hb dX5_findLeast_8 rfl hl (by decide) rfl (fun ls hl => ?_)
  have h80 := sm_at m13 (by omega) h1
  have h81 := sm_at m13 (by omega) h2
  have h82 := sm_at m13 (by omega) h3
  have h83 := sm_at m13 (by omega) h4
  have h84 := sm_at m13 (by omega) h5
  have h85 := sm_at m13 (by omega) h6
  have h86 := is_T_tr h7 m13 (by omega)
  have h87 : is_V k A u11 (q) sent sentI best ease fromA vi_pl vi_sz r9.1 r9.2 := ⟨h80, h81, h82, h83, h84, h85, h86, h14⟩
  exact wl_X5_findLeast_9 l D k A ws q _ hK C0 sent sentI best ease vi_pl vi_sz fu_N fromA r9.1 r9.2 1 _ _ _ _ hf h87 hsm hP hD hS (lv_sub hl [1, 0] rfl)

theorem in_X5_make_X5 : ∀ w ∈ u_ws RX5 TX5 7, w ∈ wsX5_make := fun w h => List.mem_cons_of_mem _ (List.mem_append_left _ (List.mem_append_right _ h))
def pf_X5_make (sent : Nat → Int32) (sentI : Nat → Int32) (best : Nat → Int32) (ease : Nat → Int32) (fromA : Nat → Int32) (vi_pl : Nat → Int64) (vi_sz : Int32) (vl_pl : Nat → Int64) (vl_sz : Int32) (o1_pl : Nat → Int64) (o2_pl : Nat → Int64) (o2_sz : Int32)   : Option ((Nat → Int32) × (Nat → Int32) × (Nat → Int32) × (Nat → Int32) × (Nat → Int32) × (Nat → Int64) × Int32 × (Nat → Int64) × Int32) :=
  (pf_X3_takeFrom vi_pl vi_sz o2_pl o2_sz).bind (fun r9 =>
    (pf_X5_spread o1_pl sent 512).bind (fun r18 =>
      (pf_X5_spread r9.1 sentI 512).bind (fun r28 =>
        (pf_X5_findBest r18 best ease).bind (fun r50 =>
          (pf_X5_findLeast r50.1 fromA vl_pl vl_sz).bind (fun r56 =>
            some (r18, r28, r50.1, r50.2, r56.1, r9.1, r9.2, r56.2.1, r56.2.2))))))

set_option maxHeartbeats 4000000 in
set_option maxRecDepth 100000 in
theorem cz_X5_make (l : Launch) (D : va_G) (k : kt_T) (A : Nat → Nat) (ws : va_W) (q q1 q2 : Nat)  (sent : Nat → Int32) (sentI : Nat → Int32) (best : Nat → Int32) (ease : Nat → Int32) (fromA : Nat → Int32) (vi_pl : Nat → Int64) (vi_sz : Int32) (vl_pl : Nat → Int64) (vl_sz : Int32) (o1_pl : Nat → Int64) (o1_sz : Int32) (o2_pl : Nat → Int64) (o2_sz : Int32)  (out : (Nat → Int32) × (Nat → Int32) × (Nat → Int32) × (Nat → Int32) × (Nat → Int32) × (Nat → Int64) × Int32 × (Nat → Int64) × Int32) (hf : pf_X5_make sent sentI best ease fromA vi_pl vi_sz vl_pl vl_sz o1_pl o2_pl o2_sz = some out) (h_this : is_V k A ws q sent sentI best ease fromA vi_pl vi_sz vl_pl vl_sz) (h_o1 : is_T k A ws q1 o1_pl o1_sz) (h_o2 : is_T k A ws q2 o2_pl o2_sz) (hdis : (q + 10 ≤ q1 ∨ q1 + 2 ≤ q) ∧ (q + 10 ≤ q2 ∨ q2 + 2 ≤ q)) (sz0 : Nat) : Met l yX5_make wsX5_make { frames := 3, cells := 0, slots := 0, locals := 81 } (va_Pc [.ref (A q), .ref (A q1), .ref (A q2)] (px_P D k ws sz0)) (qw_Q D ws sz0 none (fun u => is_V k A u q out.1 out.2.1 out.2.2.1 out.2.2.2.1 out.2.2.2.2.1 out.2.2.2.2.2.1 out.2.2.2.2.2.2.1 out.2.2.2.2.2.2.2.1 out.2.2.2.2.2.2.2.2 ∧ sm_W ws u q (q + 10))) 0 0 (va_A ws sz0) := by
  refine Met.ofW (cc := cX5_make) (maxL := 3) (ret := none) (by decide) rfl ?_
  intro p e s m args below meth c s₁ B hml hv
  obtain ⟨rfl, hsz, hP, hK, hD0⟩ := hv
  subst hsz
  have hD := hD0.self (sz := s.heap.size)
  have C0 : cx_P p s m meth c [.ref (A q), .ref (A q1), .ref (A q2)].toArray cX5_make 3 wsX5_make RX5 none := ⟨B.exec, B.bytes, hml, findClass_of_methodNamed B.named, atoms_spec (ws := wsX5_make) B.pre, B.returns, B.notSynchronized⟩
  obtain ⟨hx, hb, hml, hown, hts, hr, hlocks⟩ := id C0
  have hcf : CallFix p m c cX5_make 3 s [.ref (A q), .ref (A q1), .ref (A q2)].toArray wsX5_make RX5 := ⟨hx, hb, hml, hown, hts⟩
  have hA : ∀ q, s.heap.size ≤ q → va_A ws s.heap.size q := fun q h => Or.inr h
  have hS : va_S (va_A ws s.heap.size) s.heap s.heap [] := va_S.rf
  have hsm : sm_W ws ws q (q + 10) := sm_rf
  have w_0 := hts (.fieldLink RX5 30 "LeastRoutes$View" "inUse" "LLeastRoutes$Table;") (List.mem_of_getElem? (i := 1) rfl)
  have w_1 := hts (.fieldLink RX5 9 "LeastRoutes$View" "sent" "[I") (List.mem_of_getElem? (i := 2) rfl)
  have w_2 := hts (.fieldLink RX5 15 "LeastRoutes$View" "sentByInstalled" "[I") (List.mem_of_getElem? (i := 3) rfl)
  have hl := lv_entry ([.ref (A q), .ref (A q1), .ref (A q2)]) (n := 3) (Nat.le_of_ble_eq_true rfl)
  rw [lg_entry_eq]
  generalize (lg_sl ([.ref (A q), .ref (A q1), .ref (A q2)]) ++ List.replicate (3 - (lg_sl ([.ref (A q), .ref (A q1), .ref (A q2)])).length) Slot.unset).toArray = ls at hl ⊢
  have hl : lv_has ls 3 [(0, .ref (A q)), (1, .ref (A q1)), (2, .ref (A q2))] := hl
  unfold pf_X5_make at hf
  refine lv_aload_n hx hb dX5_make_0 rfl (lv_at hl 0 rfl) ?_
  obtain ⟨h1, h2, h3, h4, h5, h6, h7, h8⟩ := h_this
  refine va_get (D := D) (ci := 5) (v := .ref (A (q + 6))) (C := RX5) (T := TX5) (N := 7) hx hb hts in_X5_make_X5 hown hK.1 hP (q) h1 rfl 5 (by decide) w_0 (fun _ h9 => h9) rfl dX5_make_1 ?_
  refine lv_aload_n hx hb dX5_make_4 rfl (lv_at hl 2 rfl) ?_
  obtain ⟨r9, h10, hf⟩ := bd_s hf
  refine kw_v (va_runV (As := [.ref (A q2)]) (rest := []) hcf (cz_X3_takeFrom l D k A ws (q + 6) (q2) vi_pl vi_sz o2_pl o2_sz r9 h10 h7 h_o2 (by omega) _) (cwV 1 hts gX5_make_X3_takeFrom rfl rfl rfl (by decide +kernel) ⟨Nat.le_of_ble_eq_true rfl, Nat.le_of_ble_eq_true rfl⟩) (px_V hP hK hD (ci := 3) h7.1 rfl) rfl rfl hl.1 rfl (lv_room (Nat.le_of_ble_eq_true rfl)) dX5_make_5 ⟨Nat.zero_le _, Nat.zero_le _⟩) hD hS hA (fun u11 _ _ h12 hP hD hS => ?_)
  obtain ⟨h14, m13⟩ := h12
  have hsm := sm_tr hsm m13 (by omega) (by omega)
  refine lv_aload_n hx hb dX5_make_8 rfl (lv_at hl 1 rfl) ?_
  refine lv_aload_n hx hb dX5_make_9 rfl (lv_at hl 0 rfl) ?_
  have h15 := sm_at m13 (by omega) h1
  refine va_get (D := D) (ci := 5) (v := .ref (A (q + 1))) (C := RX5) (T := TX5) (N := 7) hx hb hts in_X5_make_X5 hown hK.1 hP (q) h15 rfl 0 (by decide) w_1 (fun _ h9 => h9) rfl dX5_make_10 ?_
  have h16 := sm_at m13 (by omega) h2
  have h17 := is_T_tr h_o1 m13 (by omega)
  obtain ⟨r18, h19, hf⟩ := bd_s hf
  refine kw_v (va_runS (As := [.ref (A q1), .ref (A (q + 1))]) (rest := []) hcf (cz_X5_spread l D k A u11 (q1) (q + 1) 512 o1_pl o1_sz sent r18 h19 h17 h16 (by omega) _) (va_cwS 2 hts gX5_make_X5_spread rfl rfl rfl (by decide +kernel) ⟨Nat.le_of_ble_eq_true rfl, Nat.le_of_ble_eq_true rfl⟩) (px_S hP hK hD) rfl rfl hl.1 rfl (lv_room (Nat.le_of_ble_eq_true rfl)) dX5_make_13 ⟨Nat.zero_le _, Nat.zero_le _⟩) hD hS hA (fun u20 _ _ h21 hP hD hS => ?_)
  obtain ⟨h23, m22⟩ := h21
  have hsm := sm_tr hsm m22 (by omega) (by omega)
  refine lv_aload_n hx hb dX5_make_16 rfl (lv_at hl 0 rfl) ?_
  have h24 := sm_at m22 (by omega) h15
  refine va_get (D := D) (ci := 5) (v := .ref (A (q + 6))) (C := RX5) (T := TX5) (N := 7) hx hb hts in_X5_make_X5 hown hK.1 hP (q) h24 rfl 5 (by decide) w_0 (fun _ h9 => h9) rfl dX5_make_17 ?_
  refine lv_aload_n hx hb dX5_make_20 rfl (lv_at hl 0 rfl) ?_
  refine va_get (D := D) (ci := 5) (v := .ref (A (q + 2))) (C := RX5) (T := TX5) (N := 7) hx hb hts in_X5_make_X5 hown hK.1 hP (q) h24 rfl 1 (by decide) w_2 (fun _ h9 => h9) rfl dX5_make_21 ?_
  have h25 := sm_at m13 (by omega) h3
  have h26 := sm_at m22 (by omega) h25
  have h27 := is_T_tr h14 m22 (by omega)
  obtain ⟨r28, h29, hf⟩ := bd_s hf
  refine kw_v (va_runS (As := [.ref (A (q + 6)), .ref (A (q + 2))]) (rest := []) hcf (cz_X5_spread l D k A u20 (q + 6) (q + 2) 512 r9.1 r9.2 sentI r28 h29 h27 h26 (by omega) _) (va_cwS 2 hts gX5_make_X5_spread rfl rfl rfl (by decide +kernel) ⟨Nat.le_of_ble_eq_true rfl, Nat.le_of_ble_eq_true rfl⟩) (px_S hP hK hD) rfl rfl hl.1 rfl (lv_room (Nat.le_of_ble_eq_true rfl)) dX5_make_24 ⟨Nat.zero_le _, Nat.zero_le _⟩) hD hS hA (fun u30 _ _ h31 hP hD hS => ?_)
  obtain ⟨h33, m32⟩ := h31
  have hsm := sm_tr hsm m32 (by omega) (by omega)
  refine lv_aload_n hx hb dX5_make_27 rfl (lv_at hl 0 rfl) ?_
  have h34 := sm_at m32 (by omega) h24
  have h35 := sm_at m32 (by omega) h23
  have h36 := sm_at m13 (by omega) h4
  have h37 := sm_at m22 (by omega) h36
  have h38 := sm_at m32 (by omega) h37
  have h39 := sm_at m13 (by omega) h5
  have h40 := sm_at m22 (by omega) h39
  have h41 := sm_at m32 (by omega) h40
  have h42 := sm_at m13 (by omega) h6
  have h43 := sm_at m22 (by omega) h42
  have h44 := sm_at m32 (by omega) h43
  have h45 := is_T_tr h27 m32 (by omega)
  have h46 := is_T_tr h8 m13 (by omega)
  have h47 := is_T_tr h46 m22 (by omega)
  have h48 := is_T_tr h47 m32 (by omega)
  have h49 : is_V k A u30 (q) r18 r28 best ease fromA r9.1 r9.2 vl_pl vl_sz := ⟨h34, h35, h33, h38, h41, h44, h45, h48⟩
  obtain ⟨r50, h51, hf⟩ := bd_s hf
  refine kw_v (va_runV (As := []) (rest := []) hcf (cz_X5_findBest l D k A u30 (q) r18 r28 best ease fromA r9.1 r9.2 vl_pl vl_sz r50 h51 h49 _) (cwV 0 hts gX5_make_X5_findBest rfl rfl rfl (by decide +kernel) ⟨Nat.le_of_ble_eq_true rfl, Nat.le_of_ble_eq_true rfl⟩) (px_V hP hK hD (ci := 5) h49.1 rfl) rfl rfl hl.1 rfl (lv_room (Nat.le_of_ble_eq_true rfl)) dX5_make_28 ⟨Nat.zero_le _, Nat.zero_le _⟩) hD hS hA (fun u52 _ _ h53 hP hD hS => ?_)
  obtain ⟨h55, m54⟩ := h53
  have hsm := sm_tr hsm m54 (by omega) (by omega)
  refine lv_aload_n hx hb dX5_make_31 rfl (lv_at hl 0 rfl) ?_
  obtain ⟨r56, h57, hf⟩ := bd_s hf
  refine kw_v (va_runV (As := []) (rest := []) hcf (cz_X5_findLeast l D k A u52 (q) r18 r28 r50.1 r50.2 fromA r9.1 r9.2 vl_pl vl_sz r56 h57 h55 _) (cwV 0 hts gX5_make_X5_findLeast rfl rfl rfl (by decide +kernel) ⟨Nat.le_of_ble_eq_true rfl, Nat.le_of_ble_eq_true rfl⟩) (px_V hP hK hD (ci := 5) h55.1 rfl) rfl rfl hl.1 rfl (lv_room (Nat.le_of_ble_eq_true rfl)) dX5_make_32 ⟨Nat.zero_le _, Nat.zero_le _⟩) hD hS hA (fun u58 _ _ h59 hP hD hS => ?_)
  obtain ⟨h61, m60⟩ := h59
  have hsm := sm_tr hsm m60 (by omega) (by omega)
  obtain rfl := so_i hf
  exact W.vret hx hb hr (qw_end hS hP hD ⟨h61, hsm⟩) hS.2.2 dX5_make_35

theorem in_X5_leastTable_X5 : ∀ w ∈ u_ws RX5 TX5 7, w ∈ wsX5_leastTable := fun w h => List.mem_cons_of_mem _ (List.mem_append_right _ h)
set_option maxHeartbeats 4000000 in
set_option maxRecDepth 100000 in
theorem cz_X5_leastTable (l : Launch) (D : va_G) (k : kt_T) (A : Nat → Nat) (ws : va_W) (q : Nat)     (hc0 : ws[q]? = some (A (q), .inr (5, [.ref (A (q + 1)), .ref (A (q + 2)), .ref (A (q + 3)), .ref (A (q + 4)), .ref (A (q + 5)), .ref (A (q + 6)), .ref (A (q + 8))])))  : Met l yX5_leastTable wsX5_leastTable { frames := 0, cells := 0, slots := 0, locals := 0 } (va_Pc [.ref (A q)] (pw_P D k ws)) (qs_Q (some (.ref (A (q + 8))))) 0 0 (fun _ => False) := by
  refine Met.ofW (cc := cX5_leastTable) (maxL := 1) (ret := (some (.object "LeastRoutes$Table"))) (by decide) rfl ?_
  intro p e s m args below meth c s₁ B hml hv
  obtain ⟨rfl, hP, hK, hD⟩ := hv
  have C0 : cx_P p s m meth c [.ref (A q)].toArray cX5_leastTable 1 wsX5_leastTable RX5 (some (.object "LeastRoutes$Table")) := ⟨B.exec, B.bytes, hml, findClass_of_methodNamed B.named, atoms_spec (ws := wsX5_leastTable) B.pre, B.returns, B.notSynchronized⟩
  obtain ⟨hx, hb, hml, hown, hts, hr, hlocks⟩ := id C0
  have hcf : CallFix p m c cX5_leastTable 1 s [.ref (A q)].toArray wsX5_leastTable RX5 := ⟨hx, hb, hml, hown, hts⟩
  have w_0 := hts (.fieldLink RX5 34 "LeastRoutes$View" "leastOne" "LLeastRoutes$Table;") (List.mem_of_getElem? (i := 1) rfl)
  have hl := lv_entry ([.ref (A q)]) (n := 1) (Nat.le_of_ble_eq_true rfl)
  rw [lg_entry_eq]
  generalize (lg_sl ([.ref (A q)]) ++ List.replicate (1 - (lg_sl ([.ref (A q)])).length) Slot.unset).toArray = ls at hl ⊢
  have hl : lv_has ls 1 [(0, .ref (A q))] := hl
  refine lv_aload_n hx hb dX5_leastTable_0 rfl (lv_at hl 0 rfl) ?_
  refine va_get (D := D) (ci := 5) (v := .ref (A (q + 8))) (C := RX5) (T := TX5) (N := 7) hx hb hts in_X5_leastTable_X5 hown hK.1 hP (q) hc0 rfl 6 (by decide) w_0 (fun _ h9 => h9) rfl dX5_leastTable_1 ?_
  exact W.aret (v := .ref (A (q + 8))) hx hb hr (Or.inl ⟨_, rfl⟩) (Or.inr ⟨_, rfl⟩) (fun t ht _ => ⟨rfl, ht⟩) (fun _ h => absurd h List.not_mem_nil) dX5_leastTable_4

theorem in_X5_hopsBeneath_X5 : ∀ w ∈ u_ws RX5 TX5 7, w ∈ wsX5_hopsBeneath := fun w h => List.mem_cons_of_mem _ (List.mem_append_right _ h)
def pf_X5_hopsBeneath (sent : Nat → Int32)  (p1 : Int32) : Option (Int32) :=
  (pf_X6_isPrefix p1).bind (fun r1 =>
    if r1 = 0 then
      some 0
    else
      ck_O (in_b p1 512) (
        some (sent (Int32.toNatClampNeg p1))))

set_option maxHeartbeats 4000000 in
set_option maxRecDepth 100000 in
theorem cz_X5_hopsBeneath (l : Launch) (D : va_G) (k : kt_T) (A : Nat → Nat) (ws : va_W) (q : Nat)  (sent : Nat → Int32) (sentI : Nat → Int32) (best : Nat → Int32) (ease : Nat → Int32) (fromA : Nat → Int32) (vi_pl : Nat → Int64) (vi_sz : Int32) (vl_pl : Nat → Int64) (vl_sz : Int32) (p1 : Int32) (out : Int32) (hf : pf_X5_hopsBeneath sent p1 = some out) (h_this : is_V k A ws q sent sentI best ease fromA vi_pl vi_sz vl_pl vl_sz)  : Met l yX5_hopsBeneath wsX5_hopsBeneath { frames := 1, cells := 0, slots := 0, locals := 20 } (va_Pc [.ref (A q), .int p1] (pw_P D k ws)) (qs_Q (some (.int out))) 0 0 (fun _ => False) := by
  refine Met.ofW (cc := cX5_hopsBeneath) (maxL := 2) (ret := (some .int)) (by decide) rfl ?_
  intro p e s m args below meth c s₁ B hml hv
  obtain ⟨rfl, hP, hK, hD⟩ := hv
  have C0 : cx_P p s m meth c [.ref (A q), .int p1].toArray cX5_hopsBeneath 2 wsX5_hopsBeneath RX5 (some .int) := ⟨B.exec, B.bytes, hml, findClass_of_methodNamed B.named, atoms_spec (ws := wsX5_hopsBeneath) B.pre, B.returns, B.notSynchronized⟩
  obtain ⟨hx, hb, hml, hown, hts, hr, hlocks⟩ := id C0
  have hcf : CallFix p m c cX5_hopsBeneath 2 s [.ref (A q), .int p1].toArray wsX5_hopsBeneath RX5 := ⟨hx, hb, hml, hown, hts⟩
  have w_0 := hts (.initialized RX6) (List.mem_of_getElem? (i := 3) rfl)
  have w_1 := hts (.static yX6_isPrefix) (List.mem_of_getElem? (i := 2) rfl)
  have w_2 := hts (.fieldLink RX5 9 "LeastRoutes$View" "sent" "[I") (List.mem_of_getElem? (i := 1) rfl)
  have hl := lv_entry ([.ref (A q), .int p1]) (n := 2) (Nat.le_of_ble_eq_true rfl)
  rw [lg_entry_eq]
  generalize (lg_sl ([.ref (A q), .int p1]) ++ List.replicate (2 - (lg_sl ([.ref (A q), .int p1])).length) Slot.unset).toArray = ls at hl ⊢
  have hl : lv_has ls 2 [(0, .ref (A q)), (1, .int p1)] := hl
  unfold pf_X5_hopsBeneath at hf
  refine lv_iload_n hx hb dX5_hopsBeneath_0 rfl (lv_at hl 1 rfl) ?_
  obtain ⟨r1, h2, hf⟩ := bd_s hf
  refine ks_i (va_runSN (As := [.int p1]) (rest := []) hcf (cz_X6_isPrefix l D k A ws p1 r1 h2) ⟨(va_cnB 1 hts gX5_hopsBeneath_X6_isPrefix_n51 rfl rfl rfl (hK.2 (RX5, 51, yX6_isPrefix, RX6) (List.mem_of_getElem? (i := 3) rfl)) w_0 (by decide +kernel) ⟨Nat.le_of_ble_eq_true rfl, Nat.le_of_ble_eq_true rfl⟩), w_1, trivial⟩ (pw_S hP hK hD) rfl rfl hl.1 rfl (lv_room (Nat.le_of_ble_eq_true rfl)) dX5_hopsBeneath_1 ⟨Nat.zero_le _, Nat.zero_le _⟩) ?_
  refine lv_if_eq (tgt := 16) hx hb dX5_hopsBeneath_4 (by decide) (fun c3 => ?_) (fun c3 => ?_)
  · have hf := it_p c3 hf
    refine lv_iconst (v := 0) hx hb dX5_hopsBeneath_16 (by decide) ?_
    obtain rfl := so_i hf
    exact W.iret (v := 0) hx hb hr (fun t ht _ => ⟨rfl, ht⟩) (fun _ h => absurd h List.not_mem_nil) dX5_hopsBeneath_17
  · have hf := it_n c3 hf
    refine lv_aload_n hx hb dX5_hopsBeneath_7 rfl (lv_at hl 0 rfl) ?_
    obtain ⟨h4, h5, h6, h7, h8, h9, h10, h11⟩ := h_this
    refine va_get (D := D) (ci := 5) (v := .ref (A (q + 1))) (C := RX5) (T := TX5) (N := 7) hx hb hts in_X5_hopsBeneath_X5 hown hK.1 hP (q) h4 rfl 0 (by decide) w_2 (fun _ h9 => h9) rfl dX5_hopsBeneath_8 ?_
    refine lv_iload_n hx hb dX5_hopsBeneath_11 rfl (lv_at hl 1 rfl) ?_
    obtain ⟨z12, hf⟩ := ck_s hf
    refine va_iald hx hb hK.1 hP (q + 1) 0 h5 rfl (in_s z12) dX5_hopsBeneath_12 ?_
    refine lv_goto (tgt := 17) hx hb dX5_hopsBeneath_13 (by decide) ?_
    obtain rfl := so_i hf
    exact W.iret (v := (sent (Int32.toNatClampNeg p1))) hx hb hr (fun t ht _ => ⟨rfl, ht⟩) (fun _ h => absurd h List.not_mem_nil) dX5_hopsBeneath_17

theorem in_X5_installedHopsBeneath_X5 : ∀ w ∈ u_ws RX5 TX5 7, w ∈ wsX5_installedHopsBeneath := fun w h => List.mem_cons_of_mem _ (List.mem_append_right _ h)
def pf_X5_installedHopsBeneath (sentI : Nat → Int32)  (p1 : Int32) : Option (Int32) :=
  (pf_X6_isPrefix p1).bind (fun r1 =>
    if r1 = 0 then
      some 0
    else
      ck_O (in_b p1 512) (
        some (sentI (Int32.toNatClampNeg p1))))

set_option maxHeartbeats 4000000 in
set_option maxRecDepth 100000 in
theorem cz_X5_installedHopsBeneath (l : Launch) (D : va_G) (k : kt_T) (A : Nat → Nat) (ws : va_W) (q : Nat)  (sent : Nat → Int32) (sentI : Nat → Int32) (best : Nat → Int32) (ease : Nat → Int32) (fromA : Nat → Int32) (vi_pl : Nat → Int64) (vi_sz : Int32) (vl_pl : Nat → Int64) (vl_sz : Int32) (p1 : Int32) (out : Int32) (hf : pf_X5_installedHopsBeneath sentI p1 = some out) (h_this : is_V k A ws q sent sentI best ease fromA vi_pl vi_sz vl_pl vl_sz)  : Met l yX5_installedHopsBeneath wsX5_installedHopsBeneath { frames := 1, cells := 0, slots := 0, locals := 20 } (va_Pc [.ref (A q), .int p1] (pw_P D k ws)) (qs_Q (some (.int out))) 0 0 (fun _ => False) := by
  refine Met.ofW (cc := cX5_installedHopsBeneath) (maxL := 2) (ret := (some .int)) (by decide) rfl ?_
  intro p e s m args below meth c s₁ B hml hv
  obtain ⟨rfl, hP, hK, hD⟩ := hv
  have C0 : cx_P p s m meth c [.ref (A q), .int p1].toArray cX5_installedHopsBeneath 2 wsX5_installedHopsBeneath RX5 (some .int) := ⟨B.exec, B.bytes, hml, findClass_of_methodNamed B.named, atoms_spec (ws := wsX5_installedHopsBeneath) B.pre, B.returns, B.notSynchronized⟩
  obtain ⟨hx, hb, hml, hown, hts, hr, hlocks⟩ := id C0
  have hcf : CallFix p m c cX5_installedHopsBeneath 2 s [.ref (A q), .int p1].toArray wsX5_installedHopsBeneath RX5 := ⟨hx, hb, hml, hown, hts⟩
  have w_0 := hts (.initialized RX6) (List.mem_of_getElem? (i := 3) rfl)
  have w_1 := hts (.static yX6_isPrefix) (List.mem_of_getElem? (i := 2) rfl)
  have w_2 := hts (.fieldLink RX5 15 "LeastRoutes$View" "sentByInstalled" "[I") (List.mem_of_getElem? (i := 1) rfl)
  have hl := lv_entry ([.ref (A q), .int p1]) (n := 2) (Nat.le_of_ble_eq_true rfl)
  rw [lg_entry_eq]
  generalize (lg_sl ([.ref (A q), .int p1]) ++ List.replicate (2 - (lg_sl ([.ref (A q), .int p1])).length) Slot.unset).toArray = ls at hl ⊢
  have hl : lv_has ls 2 [(0, .ref (A q)), (1, .int p1)] := hl
  unfold pf_X5_installedHopsBeneath at hf
  refine lv_iload_n hx hb dX5_installedHopsBeneath_0 rfl (lv_at hl 1 rfl) ?_
  obtain ⟨r1, h2, hf⟩ := bd_s hf
  refine ks_i (va_runSN (As := [.int p1]) (rest := []) hcf (cz_X6_isPrefix l D k A ws p1 r1 h2) ⟨(va_cnB 1 hts gX5_installedHopsBeneath_X6_isPrefix_n51 rfl rfl rfl (hK.2 (RX5, 51, yX6_isPrefix, RX6) (List.mem_of_getElem? (i := 3) rfl)) w_0 (by decide +kernel) ⟨Nat.le_of_ble_eq_true rfl, Nat.le_of_ble_eq_true rfl⟩), w_1, trivial⟩ (pw_S hP hK hD) rfl rfl hl.1 rfl (lv_room (Nat.le_of_ble_eq_true rfl)) dX5_installedHopsBeneath_1 ⟨Nat.zero_le _, Nat.zero_le _⟩) ?_
  refine lv_if_eq (tgt := 16) hx hb dX5_installedHopsBeneath_4 (by decide) (fun c3 => ?_) (fun c3 => ?_)
  · have hf := it_p c3 hf
    refine lv_iconst (v := 0) hx hb dX5_installedHopsBeneath_16 (by decide) ?_
    obtain rfl := so_i hf
    exact W.iret (v := 0) hx hb hr (fun t ht _ => ⟨rfl, ht⟩) (fun _ h => absurd h List.not_mem_nil) dX5_installedHopsBeneath_17
  · have hf := it_n c3 hf
    refine lv_aload_n hx hb dX5_installedHopsBeneath_7 rfl (lv_at hl 0 rfl) ?_
    obtain ⟨h4, h5, h6, h7, h8, h9, h10, h11⟩ := h_this
    refine va_get (D := D) (ci := 5) (v := .ref (A (q + 2))) (C := RX5) (T := TX5) (N := 7) hx hb hts in_X5_installedHopsBeneath_X5 hown hK.1 hP (q) h4 rfl 1 (by decide) w_2 (fun _ h9 => h9) rfl dX5_installedHopsBeneath_8 ?_
    refine lv_iload_n hx hb dX5_installedHopsBeneath_11 rfl (lv_at hl 1 rfl) ?_
    obtain ⟨z12, hf⟩ := ck_s hf
    refine va_iald hx hb hK.1 hP (q + 2) 0 h6 rfl (in_s z12) dX5_installedHopsBeneath_12 ?_
    refine lv_goto (tgt := 17) hx hb dX5_installedHopsBeneath_13 (by decide) ?_
    obtain rfl := so_i hf
    exact W.iret (v := (sentI (Int32.toNatClampNeg p1))) hx hb hr (fun t ht _ => ⟨rfl, ht⟩) (fun _ h => absurd h List.not_mem_nil) dX5_installedHopsBeneath_17

theorem in_X5_bestHops_X5 : ∀ w ∈ u_ws RX5 TX5 7, w ∈ wsX5_bestHops := fun w h => List.mem_cons_of_mem _ (List.mem_append_right _ h)
def pf_X5_bestHops (best : Nat → Int32)  (p1 : Int32) : Option (Int32) :=
  (pf_X6_isPrefix p1).bind (fun r1 =>
    if r1 = 0 then
      some 0
    else
      ck_O (in_b p1 512) (
        some (best (Int32.toNatClampNeg p1))))

set_option maxHeartbeats 4000000 in
set_option maxRecDepth 100000 in
theorem cz_X5_bestHops (l : Launch) (D : va_G) (k : kt_T) (A : Nat → Nat) (ws : va_W) (q : Nat)  (sent : Nat → Int32) (sentI : Nat → Int32) (best : Nat → Int32) (ease : Nat → Int32) (fromA : Nat → Int32) (vi_pl : Nat → Int64) (vi_sz : Int32) (vl_pl : Nat → Int64) (vl_sz : Int32) (p1 : Int32) (out : Int32) (hf : pf_X5_bestHops best p1 = some out) (h_this : is_V k A ws q sent sentI best ease fromA vi_pl vi_sz vl_pl vl_sz)  : Met l yX5_bestHops wsX5_bestHops { frames := 1, cells := 0, slots := 0, locals := 20 } (va_Pc [.ref (A q), .int p1] (pw_P D k ws)) (qs_Q (some (.int out))) 0 0 (fun _ => False) := by
  refine Met.ofW (cc := cX5_bestHops) (maxL := 2) (ret := (some .int)) (by decide) rfl ?_
  intro p e s m args below meth c s₁ B hml hv
  obtain ⟨rfl, hP, hK, hD⟩ := hv
  have C0 : cx_P p s m meth c [.ref (A q), .int p1].toArray cX5_bestHops 2 wsX5_bestHops RX5 (some .int) := ⟨B.exec, B.bytes, hml, findClass_of_methodNamed B.named, atoms_spec (ws := wsX5_bestHops) B.pre, B.returns, B.notSynchronized⟩
  obtain ⟨hx, hb, hml, hown, hts, hr, hlocks⟩ := id C0
  have hcf : CallFix p m c cX5_bestHops 2 s [.ref (A q), .int p1].toArray wsX5_bestHops RX5 := ⟨hx, hb, hml, hown, hts⟩
  have w_0 := hts (.initialized RX6) (List.mem_of_getElem? (i := 3) rfl)
  have w_1 := hts (.static yX6_isPrefix) (List.mem_of_getElem? (i := 2) rfl)
  have w_2 := hts (.fieldLink RX5 18 "LeastRoutes$View" "best" "[I") (List.mem_of_getElem? (i := 1) rfl)
  have hl := lv_entry ([.ref (A q), .int p1]) (n := 2) (Nat.le_of_ble_eq_true rfl)
  rw [lg_entry_eq]
  generalize (lg_sl ([.ref (A q), .int p1]) ++ List.replicate (2 - (lg_sl ([.ref (A q), .int p1])).length) Slot.unset).toArray = ls at hl ⊢
  have hl : lv_has ls 2 [(0, .ref (A q)), (1, .int p1)] := hl
  unfold pf_X5_bestHops at hf
  refine lv_iload_n hx hb dX5_bestHops_0 rfl (lv_at hl 1 rfl) ?_
  obtain ⟨r1, h2, hf⟩ := bd_s hf
  refine ks_i (va_runSN (As := [.int p1]) (rest := []) hcf (cz_X6_isPrefix l D k A ws p1 r1 h2) ⟨(va_cnB 1 hts gX5_bestHops_X6_isPrefix_n51 rfl rfl rfl (hK.2 (RX5, 51, yX6_isPrefix, RX6) (List.mem_of_getElem? (i := 3) rfl)) w_0 (by decide +kernel) ⟨Nat.le_of_ble_eq_true rfl, Nat.le_of_ble_eq_true rfl⟩), w_1, trivial⟩ (pw_S hP hK hD) rfl rfl hl.1 rfl (lv_room (Nat.le_of_ble_eq_true rfl)) dX5_bestHops_1 ⟨Nat.zero_le _, Nat.zero_le _⟩) ?_
  refine lv_if_eq (tgt := 16) hx hb dX5_bestHops_4 (by decide) (fun c3 => ?_) (fun c3 => ?_)
  · have hf := it_p c3 hf
    refine lv_iconst (v := 0) hx hb dX5_bestHops_16 (by decide) ?_
    obtain rfl := so_i hf
    exact W.iret (v := 0) hx hb hr (fun t ht _ => ⟨rfl, ht⟩) (fun _ h => absurd h List.not_mem_nil) dX5_bestHops_17
  · have hf := it_n c3 hf
    refine lv_aload_n hx hb dX5_bestHops_7 rfl (lv_at hl 0 rfl) ?_
    obtain ⟨h4, h5, h6, h7, h8, h9, h10, h11⟩ := h_this
    refine va_get (D := D) (ci := 5) (v := .ref (A (q + 3))) (C := RX5) (T := TX5) (N := 7) hx hb hts in_X5_bestHops_X5 hown hK.1 hP (q) h4 rfl 2 (by decide) w_2 (fun _ h9 => h9) rfl dX5_bestHops_8 ?_
    refine lv_iload_n hx hb dX5_bestHops_11 rfl (lv_at hl 1 rfl) ?_
    obtain ⟨z12, hf⟩ := ck_s hf
    refine va_iald hx hb hK.1 hP (q + 3) 0 h7 rfl (in_s z12) dX5_bestHops_12 ?_
    refine lv_goto (tgt := 17) hx hb dX5_bestHops_13 (by decide) ?_
    obtain rfl := so_i hf
    exact W.iret (v := (best (Int32.toNatClampNeg p1))) hx hb hr (fun t ht _ => ⟨rfl, ht⟩) (fun _ h => absurd h List.not_mem_nil) dX5_bestHops_17

theorem in_X5_easeOf_X5 : ∀ w ∈ u_ws RX5 TX5 7, w ∈ wsX5_easeOf := fun w h => List.mem_cons_of_mem _ (List.mem_append_right _ h)
def pf_X5_easeOf (ease : Nat → Int32)  (p1 : Int32) : Option (Int32) :=
  (pf_X6_isPrefix p1).bind (fun r1 =>
    if r1 = 0 then
      some 0
    else
      ck_O (in_b p1 512) (
        some (ease (Int32.toNatClampNeg p1))))

set_option maxHeartbeats 4000000 in
set_option maxRecDepth 100000 in
theorem cz_X5_easeOf (l : Launch) (D : va_G) (k : kt_T) (A : Nat → Nat) (ws : va_W) (q : Nat)  (sent : Nat → Int32) (sentI : Nat → Int32) (best : Nat → Int32) (ease : Nat → Int32) (fromA : Nat → Int32) (vi_pl : Nat → Int64) (vi_sz : Int32) (vl_pl : Nat → Int64) (vl_sz : Int32) (p1 : Int32) (out : Int32) (hf : pf_X5_easeOf ease p1 = some out) (h_this : is_V k A ws q sent sentI best ease fromA vi_pl vi_sz vl_pl vl_sz)  : Met l yX5_easeOf wsX5_easeOf { frames := 1, cells := 0, slots := 0, locals := 20 } (va_Pc [.ref (A q), .int p1] (pw_P D k ws)) (qs_Q (some (.int out))) 0 0 (fun _ => False) := by
  refine Met.ofW (cc := cX5_easeOf) (maxL := 2) (ret := (some .int)) (by decide) rfl ?_
  intro p e s m args below meth c s₁ B hml hv
  obtain ⟨rfl, hP, hK, hD⟩ := hv
  have C0 : cx_P p s m meth c [.ref (A q), .int p1].toArray cX5_easeOf 2 wsX5_easeOf RX5 (some .int) := ⟨B.exec, B.bytes, hml, findClass_of_methodNamed B.named, atoms_spec (ws := wsX5_easeOf) B.pre, B.returns, B.notSynchronized⟩
  obtain ⟨hx, hb, hml, hown, hts, hr, hlocks⟩ := id C0
  have hcf : CallFix p m c cX5_easeOf 2 s [.ref (A q), .int p1].toArray wsX5_easeOf RX5 := ⟨hx, hb, hml, hown, hts⟩
  have w_0 := hts (.initialized RX6) (List.mem_of_getElem? (i := 3) rfl)
  have w_1 := hts (.static yX6_isPrefix) (List.mem_of_getElem? (i := 2) rfl)
  have w_2 := hts (.fieldLink RX5 21 "LeastRoutes$View" "ease" "[I") (List.mem_of_getElem? (i := 1) rfl)
  have hl := lv_entry ([.ref (A q), .int p1]) (n := 2) (Nat.le_of_ble_eq_true rfl)
  rw [lg_entry_eq]
  generalize (lg_sl ([.ref (A q), .int p1]) ++ List.replicate (2 - (lg_sl ([.ref (A q), .int p1])).length) Slot.unset).toArray = ls at hl ⊢
  have hl : lv_has ls 2 [(0, .ref (A q)), (1, .int p1)] := hl
  unfold pf_X5_easeOf at hf
  refine lv_iload_n hx hb dX5_easeOf_0 rfl (lv_at hl 1 rfl) ?_
  obtain ⟨r1, h2, hf⟩ := bd_s hf
  refine ks_i (va_runSN (As := [.int p1]) (rest := []) hcf (cz_X6_isPrefix l D k A ws p1 r1 h2) ⟨(va_cnB 1 hts gX5_easeOf_X6_isPrefix_n51 rfl rfl rfl (hK.2 (RX5, 51, yX6_isPrefix, RX6) (List.mem_of_getElem? (i := 3) rfl)) w_0 (by decide +kernel) ⟨Nat.le_of_ble_eq_true rfl, Nat.le_of_ble_eq_true rfl⟩), w_1, trivial⟩ (pw_S hP hK hD) rfl rfl hl.1 rfl (lv_room (Nat.le_of_ble_eq_true rfl)) dX5_easeOf_1 ⟨Nat.zero_le _, Nat.zero_le _⟩) ?_
  refine lv_if_eq (tgt := 16) hx hb dX5_easeOf_4 (by decide) (fun c3 => ?_) (fun c3 => ?_)
  · have hf := it_p c3 hf
    refine lv_iconst (v := 0) hx hb dX5_easeOf_16 (by decide) ?_
    obtain rfl := so_i hf
    exact W.iret (v := 0) hx hb hr (fun t ht _ => ⟨rfl, ht⟩) (fun _ h => absurd h List.not_mem_nil) dX5_easeOf_17
  · have hf := it_n c3 hf
    refine lv_aload_n hx hb dX5_easeOf_7 rfl (lv_at hl 0 rfl) ?_
    obtain ⟨h4, h5, h6, h7, h8, h9, h10, h11⟩ := h_this
    refine va_get (D := D) (ci := 5) (v := .ref (A (q + 4))) (C := RX5) (T := TX5) (N := 7) hx hb hts in_X5_easeOf_X5 hown hK.1 hP (q) h4 rfl 3 (by decide) w_2 (fun _ h9 => h9) rfl dX5_easeOf_8 ?_
    refine lv_iload_n hx hb dX5_easeOf_11 rfl (lv_at hl 1 rfl) ?_
    obtain ⟨z12, hf⟩ := ck_s hf
    refine va_iald hx hb hK.1 hP (q + 4) 0 h8 rfl (in_s z12) dX5_easeOf_12 ?_
    refine lv_goto (tgt := 17) hx hb dX5_easeOf_13 (by decide) ?_
    obtain rfl := so_i hf
    exact W.iret (v := (ease (Int32.toNatClampNeg p1))) hx hb hr (fun t ht _ => ⟨rfl, ht⟩) (fun _ h => absurd h List.not_mem_nil) dX5_easeOf_17

def pf_X5_costBy (best : Nat → Int32) (ease : Nat → Int32)  (p1 : Int32) (p2 : Int32) : Option (Int32) :=
  (pf_X5_easeOf ease p1).bind (fun r1 =>
    (pf_X5_bestHops best p1).bind (fun r3 =>
      (pf_X5_hasBit r3 p2).bind (fun r5 =>
        if r5 = 0 then
          some (r1 + 1)
        else
          some (r1 + 0))))

set_option maxHeartbeats 4000000 in
set_option maxRecDepth 100000 in
theorem cz_X5_costBy (l : Launch) (D : va_G) (k : kt_T) (A : Nat → Nat) (ws : va_W) (q : Nat)  (sent : Nat → Int32) (sentI : Nat → Int32) (best : Nat → Int32) (ease : Nat → Int32) (fromA : Nat → Int32) (vi_pl : Nat → Int64) (vi_sz : Int32) (vl_pl : Nat → Int64) (vl_sz : Int32) (p1 : Int32) (p2 : Int32) (out : Int32) (hf : pf_X5_costBy best ease p1 p2 = some out) (h_this : is_V k A ws q sent sentI best ease fromA vi_pl vi_sz vl_pl vl_sz)  : Met l yX5_costBy wsX5_costBy { frames := 2, cells := 0, slots := 0, locals := 41 } (va_Pc [.ref (A q), .int p1, .int p2] (pw_P D k ws)) (qs_Q (some (.int out))) 0 0 (fun _ => False) := by
  refine Met.ofW (cc := cX5_costBy) (maxL := 3) (ret := (some .int)) (by decide) rfl ?_
  intro p e s m args below meth c s₁ B hml hv
  obtain ⟨rfl, hP, hK, hD⟩ := hv
  have C0 : cx_P p s m meth c [.ref (A q), .int p1, .int p2].toArray cX5_costBy 3 wsX5_costBy RX5 (some .int) := ⟨B.exec, B.bytes, hml, findClass_of_methodNamed B.named, atoms_spec (ws := wsX5_costBy) B.pre, B.returns, B.notSynchronized⟩
  obtain ⟨hx, hb, hml, hown, hts, hr, hlocks⟩ := id C0
  have hcf : CallFix p m c cX5_costBy 3 s [.ref (A q), .int p1, .int p2].toArray wsX5_costBy RX5 := ⟨hx, hb, hml, hown, hts⟩
  have hl := lv_entry ([.ref (A q), .int p1, .int p2]) (n := 3) (Nat.le_of_ble_eq_true rfl)
  rw [lg_entry_eq]
  generalize (lg_sl ([.ref (A q), .int p1, .int p2]) ++ List.replicate (3 - (lg_sl ([.ref (A q), .int p1, .int p2])).length) Slot.unset).toArray = ls at hl ⊢
  have hl : lv_has ls 3 [(0, .ref (A q)), (1, .int p1), (2, .int p2)] := hl
  unfold pf_X5_costBy at hf
  refine lv_aload_n hx hb dX5_costBy_0 rfl (lv_at hl 0 rfl) ?_
  refine lv_iload_n hx hb dX5_costBy_1 rfl (lv_at hl 1 rfl) ?_
  obtain ⟨r1, h2, hf⟩ := bd_s hf
  refine ks_i (va_runV (As := [.int p1]) (rest := []) hcf (cz_X5_easeOf l D k A ws (q) sent sentI best ease fromA vi_pl vi_sz vl_pl vl_sz p1 r1 h2 h_this) (cwV 1 hts gX5_costBy_X5_easeOf rfl rfl rfl (by decide +kernel) ⟨Nat.le_of_ble_eq_true rfl, Nat.le_of_ble_eq_true rfl⟩) (pw_V hP hK hD (ci := 5) h_this.1 rfl) rfl rfl hl.1 rfl (lv_room (Nat.le_of_ble_eq_true rfl)) dX5_costBy_2 ⟨Nat.zero_le _, Nat.zero_le _⟩) ?_
  refine lv_aload_n hx hb dX5_costBy_5 rfl (lv_at hl 0 rfl) ?_
  refine lv_iload_n hx hb dX5_costBy_6 rfl (lv_at hl 1 rfl) ?_
  obtain ⟨r3, h4, hf⟩ := bd_s hf
  refine ks_i (va_runV (As := [.int p1]) (rest := [.int r1]) hcf (cz_X5_bestHops l D k A ws (q) sent sentI best ease fromA vi_pl vi_sz vl_pl vl_sz p1 r3 h4 h_this) (cwV 1 hts gX5_costBy_X5_bestHops rfl rfl rfl (by decide +kernel) ⟨Nat.le_of_ble_eq_true rfl, Nat.le_of_ble_eq_true rfl⟩) (pw_V hP hK hD (ci := 5) h_this.1 rfl) rfl rfl hl.1 rfl (lv_room (Nat.le_of_ble_eq_true rfl)) dX5_costBy_7 ⟨Nat.zero_le _, Nat.zero_le _⟩) ?_
  refine lv_iload_n hx hb dX5_costBy_10 rfl (lv_at hl 2 rfl) ?_
  obtain ⟨r5, h6, hf⟩ := bd_s hf
  refine ks_i (va_runS (As := [.int r3, .int p2]) (rest := [.int r1]) hcf (cz_X5_hasBit l D k A ws r3 p2 r5 h6) (va_cwS 2 hts gX5_costBy_X5_hasBit rfl rfl rfl (by decide +kernel) ⟨Nat.le_of_ble_eq_true rfl, Nat.le_of_ble_eq_true rfl⟩) (pw_S hP hK hD) rfl rfl hl.1 rfl (lv_room (Nat.le_of_ble_eq_true rfl)) dX5_costBy_11 ⟨Nat.zero_le _, Nat.zero_le _⟩) ?_
  refine lv_if_eq (tgt := 21) hx hb dX5_costBy_14 (by decide) (fun c7 => ?_) (fun c7 => ?_)
  · have hf := it_p c7 hf
    refine lv_iconst (v := 1) hx hb dX5_costBy_21 (by decide) ?_
    refine lv_iadd hx hb dX5_costBy_22 ?_
    obtain rfl := so_i hf
    exact W.iret (v := (r1 + 1)) hx hb hr (fun t ht _ => ⟨rfl, ht⟩) (fun _ h => absurd h List.not_mem_nil) dX5_costBy_23
  · have hf := it_n c7 hf
    refine lv_iconst (v := 0) hx hb dX5_costBy_17 (by decide) ?_
    refine lv_goto (tgt := 22) hx hb dX5_costBy_18 (by decide) ?_
    refine lv_iadd hx hb dX5_costBy_22 ?_
    obtain rfl := so_i hf
    exact W.iret (v := (r1 + 0)) hx hb hr (fun t ht _ => ⟨rfl, ht⟩) (fun _ h => absurd h List.not_mem_nil) dX5_costBy_23

theorem in_X5_kindOfChange_X5 : ∀ w ∈ u_ws RX5 TX5 7, w ∈ wsX5_kindOfChange := fun w h => List.mem_cons_of_mem _ (List.mem_append_left _ (List.mem_append_right _ h))
def pf_X5_kindOfChange (vi_pl : Nat → Int64) (vl_pl : Nat → Int64)  (p1 : Int32) : Option (Int32) :=
  (pf_X3_hopAt vi_pl p1).bind (fun r9 =>
    (pf_X3_hopAt vl_pl p1).bind (fun r11 =>
      if r9 = r11 then
        some (-4)
      else
        if r11 = (-4) then
          some 0
        else
          if r9 = (-4) then
            some 1
          else
            some 2))

set_option maxHeartbeats 4000000 in
set_option maxRecDepth 100000 in
theorem cz_X5_kindOfChange (l : Launch) (D : va_G) (k : kt_T) (A : Nat → Nat) (ws : va_W) (q : Nat)  (sent : Nat → Int32) (sentI : Nat → Int32) (best : Nat → Int32) (ease : Nat → Int32) (fromA : Nat → Int32) (vi_pl : Nat → Int64) (vi_sz : Int32) (vl_pl : Nat → Int64) (vl_sz : Int32) (p1 : Int32) (out : Int32) (hf : pf_X5_kindOfChange vi_pl vl_pl p1 = some out) (h_this : is_V k A ws q sent sentI best ease fromA vi_pl vi_sz vl_pl vl_sz)  : Met l yX5_kindOfChange wsX5_kindOfChange { frames := 1, cells := 0, slots := 0, locals := 22 } (va_Pc [.ref (A q), .int p1] (pw_P D k ws)) (qs_Q (some (.int out))) 0 0 (fun _ => False) := by
  refine Met.ofW (cc := cX5_kindOfChange) (maxL := 4) (ret := (some .int)) (by decide) rfl ?_
  intro p e s m args below meth c s₁ B hml hv
  obtain ⟨rfl, hP, hK, hD⟩ := hv
  have C0 : cx_P p s m meth c [.ref (A q), .int p1].toArray cX5_kindOfChange 4 wsX5_kindOfChange RX5 (some .int) := ⟨B.exec, B.bytes, hml, findClass_of_methodNamed B.named, atoms_spec (ws := wsX5_kindOfChange) B.pre, B.returns, B.notSynchronized⟩
  obtain ⟨hx, hb, hml, hown, hts, hr, hlocks⟩ := id C0
  have hcf : CallFix p m c cX5_kindOfChange 4 s [.ref (A q), .int p1].toArray wsX5_kindOfChange RX5 := ⟨hx, hb, hml, hown, hts⟩
  have w_0 := hts (.fieldLink RX5 30 "LeastRoutes$View" "inUse" "LLeastRoutes$Table;") (List.mem_of_getElem? (i := 1) rfl)
  have w_1 := hts (.fieldLink RX5 34 "LeastRoutes$View" "leastOne" "LLeastRoutes$Table;") (List.mem_of_getElem? (i := 2) rfl)
  have hl := lv_entry ([.ref (A q), .int p1]) (n := 4) (Nat.le_of_ble_eq_true rfl)
  rw [lg_entry_eq]
  generalize (lg_sl ([.ref (A q), .int p1]) ++ List.replicate (4 - (lg_sl ([.ref (A q), .int p1])).length) Slot.unset).toArray = ls at hl ⊢
  have hl : lv_has ls 4 [(0, .ref (A q)), (1, .int p1)] := hl
  unfold pf_X5_kindOfChange at hf
  refine lv_aload_n hx hb dX5_kindOfChange_0 rfl (lv_at hl 0 rfl) ?_
  obtain ⟨h1, h2, h3, h4, h5, h6, h7, h8⟩ := h_this
  refine va_get (D := D) (ci := 5) (v := .ref (A (q + 6))) (C := RX5) (T := TX5) (N := 7) hx hb hts in_X5_kindOfChange_X5 hown hK.1 hP (q) h1 rfl 5 (by decide) w_0 (fun _ h9 => h9) rfl dX5_kindOfChange_1 ?_
  refine lv_iload_n hx hb dX5_kindOfChange_4 rfl (lv_at hl 1 rfl) ?_
  obtain ⟨r9, h10, hf⟩ := bd_s hf
  refine ks_i (va_runV (As := [.int p1]) (rest := []) hcf (cz_X3_hopAt l D k A ws (q + 6) vi_pl vi_sz p1 r9 h10 h7) (cwV 1 hts gX5_kindOfChange_X3_hopAt rfl rfl rfl (by decide +kernel) ⟨Nat.le_of_ble_eq_true rfl, Nat.le_of_ble_eq_true rfl⟩) (pw_V hP hK hD (ci := 3) h7.1 rfl) rfl rfl hl.1 rfl (lv_room (Nat.le_of_ble_eq_true rfl)) dX5_kindOfChange_5 ⟨Nat.zero_le _, Nat.zero_le _⟩) ?_
  refine lv_istore_n (lv' := [(2, .int r9), (0, .ref (A q)), (1, .int p1)]) hx hb dX5_kindOfChange_8 rfl hl (by decide) rfl (fun ls hl => ?_)
  refine lv_aload_n hx hb dX5_kindOfChange_9 rfl (lv_at hl 1 rfl) ?_
  refine va_get (D := D) (ci := 5) (v := .ref (A (q + 8))) (C := RX5) (T := TX5) (N := 7) hx hb hts in_X5_kindOfChange_X5 hown hK.1 hP (q) h1 rfl 6 (by decide) w_1 (fun _ h9 => h9) rfl dX5_kindOfChange_10 ?_
  refine lv_iload_n hx hb dX5_kindOfChange_13 rfl (lv_at hl 2 rfl) ?_
  obtain ⟨r11, h12, hf⟩ := bd_s hf
  refine ks_i (va_runV (As := [.int p1]) (rest := []) hcf (cz_X3_hopAt l D k A ws (q + 8) vl_pl vl_sz p1 r11 h12 h8) (cwV 1 hts gX5_kindOfChange_X3_hopAt rfl rfl rfl (by decide +kernel) ⟨Nat.le_of_ble_eq_true rfl, Nat.le_of_ble_eq_true rfl⟩) (pw_V hP hK hD (ci := 3) h8.1 rfl) rfl rfl hl.1 rfl (lv_room (Nat.le_of_ble_eq_true rfl)) dX5_kindOfChange_14 ⟨Nat.zero_le _, Nat.zero_le _⟩) ?_
  refine lv_istore_n (lv' := [(3, .int r11), (2, .int r9), (0, .ref (A q)), (1, .int p1)]) hx hb dX5_kindOfChange_17 rfl hl (by decide) rfl (fun ls hl => ?_)
  refine lv_iload_n hx hb dX5_kindOfChange_18 rfl (lv_at hl 1 rfl) ?_
  refine lv_iload_n hx hb dX5_kindOfChange_19 rfl (lv_at hl 0 rfl) ?_
  refine lv_icmp_ne (tgt := 26) hx hb dX5_kindOfChange_20 (by decide) (fun c13 => ?_) (fun c13 => ?_)
  · have hf := it_n c13 hf
    refine lv_iload_n hx hb dX5_kindOfChange_26 rfl (lv_at hl 0 rfl) ?_
    refine lv_bipush (v := (-4)) hx hb dX5_kindOfChange_27 (by decide) ?_
    refine lv_icmp_ne (tgt := 34) hx hb dX5_kindOfChange_29 (by decide) (fun c14 => ?_) (fun c14 => ?_)
    · have hf := it_n c14 hf
      refine lv_iload_n hx hb dX5_kindOfChange_34 rfl (lv_at hl 1 rfl) ?_
      refine lv_bipush (v := (-4)) hx hb dX5_kindOfChange_35 (by decide) ?_
      refine lv_icmp_ne (tgt := 44) hx hb dX5_kindOfChange_37 (by decide) (fun c15 => ?_) (fun c15 => ?_)
      · have hf := it_n c15 hf
        refine lv_iconst (v := 2) hx hb dX5_kindOfChange_44 (by decide) ?_
        obtain rfl := so_i hf
        exact W.iret (v := 2) hx hb hr (fun t ht _ => ⟨rfl, ht⟩) (fun _ h => absurd h List.not_mem_nil) dX5_kindOfChange_45
      · have hf := it_p c15 hf
        refine lv_iconst (v := 1) hx hb dX5_kindOfChange_40 (by decide) ?_
        refine lv_goto (tgt := 45) hx hb dX5_kindOfChange_41 (by decide) ?_
        obtain rfl := so_i hf
        exact W.iret (v := 1) hx hb hr (fun t ht _ => ⟨rfl, ht⟩) (fun _ h => absurd h List.not_mem_nil) dX5_kindOfChange_45
    · have hf := it_p c14 hf
      refine lv_iconst (v := 0) hx hb dX5_kindOfChange_32 (by decide) ?_
      obtain rfl := so_i hf
      exact W.iret (v := 0) hx hb hr (fun t ht _ => ⟨rfl, ht⟩) (fun _ h => absurd h List.not_mem_nil) dX5_kindOfChange_33
  · have hf := it_p c13 hf
    refine lv_bipush (v := (-4)) hx hb dX5_kindOfChange_23 (by decide) ?_
    obtain rfl := so_i hf
    exact W.iret (v := (-4)) hx hb hr (fun t ht _ => ⟨rfl, ht⟩) (fun _ h => absurd h List.not_mem_nil) dX5_kindOfChange_25

def lp_X5_countChanges_4  (vi_pl : Nat → Int64) (vl_pl : Nat → Int64) : Nat → Int32 → Int32 → Option (Int32)
  | 0, _, _ => none
  | n + 1, x1, x2 =>
    if 512 ≤ x2 then
      some x1
    else
      (pf_X5_kindOfChange vi_pl vl_pl x2).bind (fun r2 =>
        if r2 = (-4) then
          lp_X5_countChanges_4 vi_pl vl_pl n x1 (x2 + 1)
        else
          lp_X5_countChanges_4 vi_pl vl_pl n (x1 + 1) (x2 + 1))

def pf_X5_countChanges (vi_pl : Nat → Int64) (vl_pl : Nat → Int64)   : Option (Int32) :=
  lp_X5_countChanges_4 vi_pl vl_pl fu_N 0 1

set_option maxHeartbeats 4000000 in
set_option maxRecDepth 100000 in
theorem wl_X5_countChanges_4 {p : Program} {e : Env} {s : State} {m : MethodId} {args : Array Value} {below : List Frame} {meth : Method} {c : Code} (l : Launch) (D : va_G) (k : kt_T) (A : Nat → Nat) (ws : va_W) (q : Nat)  (out : Int32) (hK : kk_P D k s) (C0 : cx_P p s m meth c args cX5_countChanges 3 wsX5_countChanges RX5 (some .int))  (sent : Nat → Int32) (sentI : Nat → Int32) (best : Nat → Int32) (ease : Nat → Int32) (fromA : Nat → Int32) (vi_pl : Nat → Int64) (vi_sz : Int32) (vl_pl : Nat → Int64) (vl_sz : Int32)    (h_this : is_V k A ws q sent sentI best ease fromA vi_pl vi_sz vl_pl vl_sz) (hP : va_P D vwCl ws s.heap) (hD : va_D (fun _ => True) ws) : ∀ (n : Nat) (x1 : Int32) (x2 : Int32) (ls : Array Slot), lp_X5_countChanges_4 vi_pl vl_pl n x1 x2 = some out → lv_has ls 3 [(0, .ref (A q)), (1, .int x1), (2, .int x2)] → W p l e (headSpec wsX5_countChanges { frames := 2, cells := 0, slots := 0, locals := 45 }).room s m args below meth c s.heap [] 0 0 (MQ below (qs_Q (some (.int out))) args s 0 0 (fun _ => False)) (F0 m 4 ls []) := by
  obtain ⟨hx, hb, hml, hown, hts, hr, hlocks⟩ := id C0
  have hcf : CallFix p m c cX5_countChanges 3 s args wsX5_countChanges RX5 := ⟨hx, hb, hml, hown, hts⟩
  intro n
  induction n with
  | zero =>
    intro x1 x2 ls hf hl
    exact (no_s hf).elim
  | succ n ih =>
    intro x1 x2 ls hf hl
    rw [lp_X5_countChanges_4] at hf
    refine lv_iload_n hx hb dX5_countChanges_4 rfl (lv_at hl 2 rfl) ?_
    refine lv_sipush (v := 512) hx hb dX5_countChanges_5 (by decide) ?_
    refine lv_icmp_ge (tgt := 30) hx hb dX5_countChanges_8 (by decide) (fun c1 => ?_) (fun c1 => ?_)
    · have hf := it_p c1 hf
      refine lv_iload_n hx hb dX5_countChanges_30 rfl (lv_at hl 1 rfl) ?_
      obtain rfl := so_i hf
      exact W.iret (v := x1) hx hb hr (fun t ht _ => ⟨rfl, ht⟩) (fun _ h => absurd h List.not_mem_nil) dX5_countChanges_31
    · have hf := it_n c1 hf
      refine lv_aload_n hx hb dX5_countChanges_11 rfl (lv_at hl 0 rfl) ?_
      refine lv_iload_n hx hb dX5_countChanges_12 rfl (lv_at hl 2 rfl) ?_
      obtain ⟨r2, h3, hf⟩ := bd_s hf
      refine ks_i (va_runV (As := [.int x2]) (rest := []) hcf (cz_X5_kindOfChange l D k A ws (q) sent sentI best ease fromA vi_pl vi_sz vl_pl vl_sz x2 r2 h3 h_this) (cwV 1 hts gX5_countChanges_X5_kindOfChange rfl rfl rfl (by decide +kernel) ⟨Nat.le_of_ble_eq_true rfl, Nat.le_of_ble_eq_true rfl⟩) (pw_V hP hK hD (ci := 5) h_this.1 rfl) rfl rfl hl.1 rfl (lv_room (Nat.le_of_ble_eq_true rfl)) dX5_countChanges_13 ⟨Nat.zero_le _, Nat.zero_le _⟩) ?_
      refine lv_bipush (v := (-4)) hx hb dX5_countChanges_16 (by decide) ?_
      refine lv_icmp_eq (tgt := 24) hx hb dX5_countChanges_18 (by decide) (fun c4 => ?_) (fun c4 => ?_)
      · have hf := it_p c4 hf
        refine lv_iinc (v := (x2 + 1)) (lv' := [(2, .int (x2 + 1)), (0, .ref (A q)), (1, .int x1)]) hx hb dX5_countChanges_24 hl (k := 2) rfl rfl (by decide) rfl (fun ls hl => ?_)
        refine lv_goto (tgt := 4) hx hb dX5_countChanges_27 (by decide) ?_
        exact ih x1 (x2 + 1) _ hf (lv_sub hl [1, 2, 0] rfl)
      · have hf := it_n c4 hf
        refine lv_iinc (v := (x1 + 1)) (lv' := [(1, .int (x1 + 1)), (0, .ref (A q)), (2, .int x2)]) hx hb dX5_countChanges_21 hl (k := 1) rfl rfl (by decide) rfl (fun ls hl => ?_)
        refine lv_iinc (v := (x2 + 1)) (lv' := [(2, .int (x2 + 1)), (1, .int (x1 + 1)), (0, .ref (A q))]) hx hb dX5_countChanges_24 hl (k := 2) rfl rfl (by decide) rfl (fun ls hl => ?_)
        refine lv_goto (tgt := 4) hx hb dX5_countChanges_27 (by decide) ?_
        exact ih (x1 + 1) (x2 + 1) _ hf (lv_sub hl [2, 1, 0] rfl)

set_option maxHeartbeats 4000000 in
set_option maxRecDepth 100000 in
theorem cz_X5_countChanges (l : Launch) (D : va_G) (k : kt_T) (A : Nat → Nat) (ws : va_W) (q : Nat)  (sent : Nat → Int32) (sentI : Nat → Int32) (best : Nat → Int32) (ease : Nat → Int32) (fromA : Nat → Int32) (vi_pl : Nat → Int64) (vi_sz : Int32) (vl_pl : Nat → Int64) (vl_sz : Int32)  (out : Int32) (hf : pf_X5_countChanges vi_pl vl_pl = some out) (h_this : is_V k A ws q sent sentI best ease fromA vi_pl vi_sz vl_pl vl_sz)  : Met l yX5_countChanges wsX5_countChanges { frames := 2, cells := 0, slots := 0, locals := 45 } (va_Pc [.ref (A q)] (pw_P D k ws)) (qs_Q (some (.int out))) 0 0 (fun _ => False) := by
  refine Met.ofW (cc := cX5_countChanges) (maxL := 3) (ret := (some .int)) (by decide) rfl ?_
  intro p e s m args below meth c s₁ B hml hv
  obtain ⟨rfl, hP, hK, hD⟩ := hv
  have C0 : cx_P p s m meth c [.ref (A q)].toArray cX5_countChanges 3 wsX5_countChanges RX5 (some .int) := ⟨B.exec, B.bytes, hml, findClass_of_methodNamed B.named, atoms_spec (ws := wsX5_countChanges) B.pre, B.returns, B.notSynchronized⟩
  obtain ⟨hx, hb, hml, hown, hts, hr, hlocks⟩ := id C0
  have hcf : CallFix p m c cX5_countChanges 3 s [.ref (A q)].toArray wsX5_countChanges RX5 := ⟨hx, hb, hml, hown, hts⟩
  have hl := lv_entry ([.ref (A q)]) (n := 3) (Nat.le_of_ble_eq_true rfl)
  rw [lg_entry_eq]
  generalize (lg_sl ([.ref (A q)]) ++ List.replicate (3 - (lg_sl ([.ref (A q)])).length) Slot.unset).toArray = ls at hl ⊢
  have hl : lv_has ls 3 [(0, .ref (A q))] := hl
  unfold pf_X5_countChanges at hf
  refine lv_iconst (v := 0) hx hb dX5_countChanges_0 (by decide) ?_
  refine lv_istore_n (lv' := [(1, .int 0), (0, .ref (A q))]) hx hb dX5_countChanges_1 rfl hl (by decide) rfl (fun ls hl => ?_)
  refine lv_iconst (v := 1) hx hb dX5_countChanges_2 (by decide) ?_
  refine lv_istore_n (lv' := [(2, .int 1), (1, .int 0), (0, .ref (A q))]) hx hb dX5_countChanges_3 rfl hl (by decide) rfl (fun ls hl => ?_)
  exact wl_X5_countChanges_4 l D k A ws q _ hK C0 sent sentI best ease fromA vi_pl vi_sz vl_pl vl_sz h_this hP hD fu_N 0 1 _ hf (lv_sub hl [2, 1, 0] rfl)

def lp_X5_changeNumber_4  (vi_pl : Nat → Int64) (vl_pl : Nat → Int64) (x1 : Int32) : Nat → Int32 → Int32 → Option (Int32)
  | 0, _, _ => none
  | n + 1, x2, x3 =>
    if 512 ≤ x3 then
      some (-4)
    else
      (pf_X5_kindOfChange vi_pl vl_pl x3).bind (fun r2 =>
        if r2 = (-4) then
          lp_X5_changeNumber_4 vi_pl vl_pl x1 n x2 (x3 + 1)
        else
          if x2 = x1 then
            some x3
          else
            lp_X5_changeNumber_4 vi_pl vl_pl x1 n (x2 + 1) (x3 + 1))

def pf_X5_changeNumber (vi_pl : Nat → Int64) (vl_pl : Nat → Int64)  (p1 : Int32) : Option (Int32) :=
  lp_X5_changeNumber_4 vi_pl vl_pl p1 fu_N 0 1

set_option maxHeartbeats 4000000 in
set_option maxRecDepth 100000 in
theorem wl_X5_changeNumber_4 {p : Program} {e : Env} {s : State} {m : MethodId} {args : Array Value} {below : List Frame} {meth : Method} {c : Code} (l : Launch) (D : va_G) (k : kt_T) (A : Nat → Nat) (ws : va_W) (q : Nat)  (out : Int32) (hK : kk_P D k s) (C0 : cx_P p s m meth c args cX5_changeNumber 4 wsX5_changeNumber RX5 (some .int))  (sent : Nat → Int32) (sentI : Nat → Int32) (best : Nat → Int32) (ease : Nat → Int32) (fromA : Nat → Int32) (vi_pl : Nat → Int64) (vi_sz : Int32) (vl_pl : Nat → Int64) (vl_sz : Int32) (x1 : Int32)   (h_this : is_V k A ws q sent sentI best ease fromA vi_pl vi_sz vl_pl vl_sz) (hP : va_P D vwCl ws s.heap) (hD : va_D (fun _ => True) ws) : ∀ (n : Nat) (x2 : Int32) (x3 : Int32) (ls : Array Slot), lp_X5_changeNumber_4 vi_pl vl_pl x1 n x2 x3 = some out → lv_has ls 4 [(0, .ref (A q)), (1, .int x1), (2, .int x2), (3, .int x3)] → W p l e (headSpec wsX5_changeNumber { frames := 2, cells := 0, slots := 0, locals := 45 }).room s m args below meth c s.heap [] 0 0 (MQ below (qs_Q (some (.int out))) args s 0 0 (fun _ => False)) (F0 m 4 ls []) := by
  obtain ⟨hx, hb, hml, hown, hts, hr, hlocks⟩ := id C0
  have hcf : CallFix p m c cX5_changeNumber 4 s args wsX5_changeNumber RX5 := ⟨hx, hb, hml, hown, hts⟩
  intro n
  induction n with
  | zero =>
    intro x2 x3 ls hf hl
    exact (no_s hf).elim
  | succ n ih =>
    intro x2 x3 ls hf hl
    rw [lp_X5_changeNumber_4] at hf
    refine lv_iload_n hx hb dX5_changeNumber_4 rfl (lv_at hl 3 rfl) ?_
    refine lv_sipush (v := 512) hx hb dX5_changeNumber_5 (by decide) ?_
    refine lv_icmp_ge (tgt := 37) hx hb dX5_changeNumber_8 (by decide) (fun c1 => ?_) (fun c1 => ?_)
    · have hf := it_p c1 hf
      refine lv_bipush (v := (-4)) hx hb dX5_changeNumber_37 (by decide) ?_
      obtain rfl := so_i hf
      exact W.iret (v := (-4)) hx hb hr (fun t ht _ => ⟨rfl, ht⟩) (fun _ h => absurd h List.not_mem_nil) dX5_changeNumber_39
    · have hf := it_n c1 hf
      refine lv_aload_n hx hb dX5_changeNumber_11 rfl (lv_at hl 0 rfl) ?_
      refine lv_iload_n hx hb dX5_changeNumber_12 rfl (lv_at hl 3 rfl) ?_
      obtain ⟨r2, h3, hf⟩ := bd_s hf
      refine ks_i (va_runV (As := [.int x3]) (rest := []) hcf (cz_X5_kindOfChange l D k A ws (q) sent sentI best ease fromA vi_pl vi_sz vl_pl vl_sz x3 r2 h3 h_this) (cwV 1 hts gX5_changeNumber_X5_kindOfChange rfl rfl rfl (by decide +kernel) ⟨Nat.le_of_ble_eq_true rfl, Nat.le_of_ble_eq_true rfl⟩) (pw_V hP hK hD (ci := 5) h_this.1 rfl) rfl rfl hl.1 rfl (lv_room (Nat.le_of_ble_eq_true rfl)) dX5_changeNumber_13 ⟨Nat.zero_le _, Nat.zero_le _⟩) ?_
      refine lv_bipush (v := (-4)) hx hb dX5_changeNumber_16 (by decide) ?_
      refine lv_icmp_eq (tgt := 31) hx hb dX5_changeNumber_18 (by decide) (fun c4 => ?_) (fun c4 => ?_)
      · have hf := it_p c4 hf
        refine lv_iinc (v := (x3 + 1)) (lv' := [(3, .int (x3 + 1)), (0, .ref (A q)), (1, .int x1), (2, .int x2)]) hx hb dX5_changeNumber_31 hl (k := 3) rfl rfl (by decide) rfl (fun ls hl => ?_)
        refine lv_goto (tgt := 4) hx hb dX5_changeNumber_34 (by decide) ?_
        exact ih x2 (x3 + 1) _ hf (lv_sub hl [1, 2, 3, 0] rfl)
      · have hf := it_n c4 hf
        refine lv_iload_n hx hb dX5_changeNumber_21 rfl (lv_at hl 2 rfl) ?_
        refine lv_iload_n hx hb dX5_changeNumber_22 rfl (lv_at hl 1 rfl) ?_
        refine lv_icmp_ne (tgt := 28) hx hb dX5_changeNumber_23 (by decide) (fun c5 => ?_) (fun c5 => ?_)
        · have hf := it_n c5 hf
          refine lv_iinc (v := (x2 + 1)) (lv' := [(2, .int (x2 + 1)), (0, .ref (A q)), (1, .int x1), (3, .int x3)]) hx hb dX5_changeNumber_28 hl (k := 2) rfl rfl (by decide) rfl (fun ls hl => ?_)
          refine lv_iinc (v := (x3 + 1)) (lv' := [(3, .int (x3 + 1)), (2, .int (x2 + 1)), (0, .ref (A q)), (1, .int x1)]) hx hb dX5_changeNumber_31 hl (k := 3) rfl rfl (by decide) rfl (fun ls hl => ?_)
          refine lv_goto (tgt := 4) hx hb dX5_changeNumber_34 (by decide) ?_
          exact ih (x2 + 1) (x3 + 1) _ hf (lv_sub hl [2, 3, 1, 0] rfl)
        · have hf := it_p c5 hf
          refine lv_iload_n hx hb dX5_changeNumber_26 rfl (lv_at hl 3 rfl) ?_
          obtain rfl := so_i hf
          exact W.iret (v := x3) hx hb hr (fun t ht _ => ⟨rfl, ht⟩) (fun _ h => absurd h List.not_mem_nil) dX5_changeNumber_27

set_option maxHeartbeats 4000000 in
set_option maxRecDepth 100000 in
theorem cz_X5_changeNumber (l : Launch) (D : va_G) (k : kt_T) (A : Nat → Nat) (ws : va_W) (q : Nat)  (sent : Nat → Int32) (sentI : Nat → Int32) (best : Nat → Int32) (ease : Nat → Int32) (fromA : Nat → Int32) (vi_pl : Nat → Int64) (vi_sz : Int32) (vl_pl : Nat → Int64) (vl_sz : Int32) (p1 : Int32) (out : Int32) (hf : pf_X5_changeNumber vi_pl vl_pl p1 = some out) (h_this : is_V k A ws q sent sentI best ease fromA vi_pl vi_sz vl_pl vl_sz)  : Met l yX5_changeNumber wsX5_changeNumber { frames := 2, cells := 0, slots := 0, locals := 45 } (va_Pc [.ref (A q), .int p1] (pw_P D k ws)) (qs_Q (some (.int out))) 0 0 (fun _ => False) := by
  refine Met.ofW (cc := cX5_changeNumber) (maxL := 4) (ret := (some .int)) (by decide) rfl ?_
  intro p e s m args below meth c s₁ B hml hv
  obtain ⟨rfl, hP, hK, hD⟩ := hv
  have C0 : cx_P p s m meth c [.ref (A q), .int p1].toArray cX5_changeNumber 4 wsX5_changeNumber RX5 (some .int) := ⟨B.exec, B.bytes, hml, findClass_of_methodNamed B.named, atoms_spec (ws := wsX5_changeNumber) B.pre, B.returns, B.notSynchronized⟩
  obtain ⟨hx, hb, hml, hown, hts, hr, hlocks⟩ := id C0
  have hcf : CallFix p m c cX5_changeNumber 4 s [.ref (A q), .int p1].toArray wsX5_changeNumber RX5 := ⟨hx, hb, hml, hown, hts⟩
  have hl := lv_entry ([.ref (A q), .int p1]) (n := 4) (Nat.le_of_ble_eq_true rfl)
  rw [lg_entry_eq]
  generalize (lg_sl ([.ref (A q), .int p1]) ++ List.replicate (4 - (lg_sl ([.ref (A q), .int p1])).length) Slot.unset).toArray = ls at hl ⊢
  have hl : lv_has ls 4 [(0, .ref (A q)), (1, .int p1)] := hl
  unfold pf_X5_changeNumber at hf
  refine lv_iconst (v := 0) hx hb dX5_changeNumber_0 (by decide) ?_
  refine lv_istore_n (lv' := [(2, .int 0), (0, .ref (A q)), (1, .int p1)]) hx hb dX5_changeNumber_1 rfl hl (by decide) rfl (fun ls hl => ?_)
  refine lv_iconst (v := 1) hx hb dX5_changeNumber_2 (by decide) ?_
  refine lv_istore_n (lv' := [(3, .int 1), (2, .int 0), (0, .ref (A q)), (1, .int p1)]) hx hb dX5_changeNumber_3 rfl hl (by decide) rfl (fun ls hl => ?_)
  exact wl_X5_changeNumber_4 l D k A ws q _ hK C0 sent sentI best ease fromA vi_pl vi_sz vl_pl vl_sz p1 h_this hP hD fu_N 0 1 _ hf (lv_sub hl [2, 3, 1, 0] rfl)

def lp_X5_proofFrom_2  (sent : Nat → Int32) (sentI : Nat → Int32) (x1 : Int32) : Nat → Int32 → Option (Int32)
  | 0, _ => none
  | n + 1, x2 =>
    if 8 < x2 then
      some (-4)
    else
      lt_O ((256 + x1) >>> ((8 - x2) &&& 31)) (fun y2 =>
        (pf_X5_hopsBeneath sent y2).bind (fun r4 =>
          (pf_X6_isOneHop r4).bind (fun r6 =>
            if r6 = 0 then
              lp_X5_proofFrom_2 sent sentI x1 n (x2 + 1)
            else
              (pf_X5_installedHopsBeneath sentI y2).bind (fun r9 =>
                (pf_X6_isOneHop r9).bind (fun r11 =>
                  if r11 = 0 then
                    lp_X5_proofFrom_2 sent sentI x1 n (x2 + 1)
                  else
                    (pf_X6_firstAddress y2).bind (fun r14 =>
                      if r14 = x1 then
                        some y2
                      else
                        some (-4)))))))

def pf_X5_proofFrom (sent : Nat → Int32) (sentI : Nat → Int32)  (p1 : Int32) : Option (Int32) :=
  lp_X5_proofFrom_2 sent sentI p1 fu_N 0

set_option maxHeartbeats 4000000 in
set_option maxRecDepth 100000 in
theorem wl_X5_proofFrom_2 {p : Program} {e : Env} {s : State} {m : MethodId} {args : Array Value} {below : List Frame} {meth : Method} {c : Code} (l : Launch) (D : va_G) (k : kt_T) (A : Nat → Nat) (ws : va_W) (q : Nat)  (out : Int32) (hK : kk_P D k s) (C0 : cx_P p s m meth c args cX5_proofFrom 4 wsX5_proofFrom RX5 (some .int))  (sent : Nat → Int32) (sentI : Nat → Int32) (best : Nat → Int32) (ease : Nat → Int32) (fromA : Nat → Int32) (vi_pl : Nat → Int64) (vi_sz : Int32) (vl_pl : Nat → Int64) (vl_sz : Int32) (x1 : Int32)   (h_this : is_V k A ws q sent sentI best ease fromA vi_pl vi_sz vl_pl vl_sz) (hP : va_P D vwCl ws s.heap) (hD : va_D (fun _ => True) ws) : ∀ (n : Nat) (x2 : Int32) (ls : Array Slot), lp_X5_proofFrom_2 sent sentI x1 n x2 = some out → lv_has ls 4 [(0, .ref (A q)), (1, .int x1), (2, .int x2)] → W p l e (headSpec wsX5_proofFrom { frames := 3, cells := 0, slots := 0, locals := 61 }).room s m args below meth c s.heap [] 0 0 (MQ below (qs_Q (some (.int out))) args s 0 0 (fun _ => False)) (F0 m 2 ls []) := by
  obtain ⟨hx, hb, hml, hown, hts, hr, hlocks⟩ := id C0
  have hcf : CallFix p m c cX5_proofFrom 4 s args wsX5_proofFrom RX5 := ⟨hx, hb, hml, hown, hts⟩
  have w_0 := hts (.initialized RX6) (List.mem_of_getElem? (i := 8) rfl)
  have w_1 := hts (.static yX6_isOneHop) (List.mem_of_getElem? (i := 10) rfl)
  have w_2 := hts (.static yX6_firstAddress) (List.mem_of_getElem? (i := 24) rfl)
  intro n
  induction n with
  | zero =>
    intro x2 ls hf hl
    exact (no_s hf).elim
  | succ n ih =>
    intro x2 ls hf hl
    rw [lp_X5_proofFrom_2] at hf
    refine lv_iload_n hx hb dX5_proofFrom_2 rfl (lv_at hl 2 rfl) ?_
    refine lv_bipush (v := 8) hx hb dX5_proofFrom_3 (by decide) ?_
    refine lv_icmp_gt (tgt := 62) hx hb dX5_proofFrom_5 (by decide) (fun c1 => ?_) (fun c1 => ?_)
    · have hf := it_p c1 hf
      refine lv_bipush (v := (-4)) hx hb dX5_proofFrom_62 (by decide) ?_
      obtain rfl := so_i hf
      exact W.iret (v := (-4)) hx hb hr (fun t ht _ => ⟨rfl, ht⟩) (fun _ h => absurd h List.not_mem_nil) dX5_proofFrom_64
    · have hf := it_n c1 hf
      refine lv_sipush (v := 256) hx hb dX5_proofFrom_8 (by decide) ?_
      refine lv_iload_n hx hb dX5_proofFrom_11 rfl (lv_at hl 1 rfl) ?_
      refine lv_iadd hx hb dX5_proofFrom_12 ?_
      refine lv_bipush (v := 8) hx hb dX5_proofFrom_13 (by decide) ?_
      refine lv_iload_n hx hb dX5_proofFrom_15 rfl (lv_at hl 2 rfl) ?_
      refine lv_isub hx hb dX5_proofFrom_16 ?_
      refine lv_ishr hx hb dX5_proofFrom_17 ?_
      refine lv_topi (fun y2 e3 => ?_)
      have hf := lt_s' e3 hf
      refine lv_istore_n (lv' := [(3, .int y2), (0, .ref (A q)), (1, .int x1), (2, .int x2)]) hx hb dX5_proofFrom_18 rfl hl (by decide) rfl (fun ls hl => ?_)
      refine lv_aload_n hx hb dX5_proofFrom_19 rfl (lv_at hl 1 rfl) ?_
      refine lv_iload_n hx hb dX5_proofFrom_20 rfl (lv_at hl 0 rfl) ?_
      obtain ⟨r4, h5, hf⟩ := bd_s hf
      refine ks_i (va_runV (As := [.int y2]) (rest := []) hcf (cz_X5_hopsBeneath l D k A ws (q) sent sentI best ease fromA vi_pl vi_sz vl_pl vl_sz y2 r4 h5 h_this) (cwV 1 hts gX5_proofFrom_X5_hopsBeneath rfl rfl rfl (by decide +kernel) ⟨Nat.le_of_ble_eq_true rfl, Nat.le_of_ble_eq_true rfl⟩) (pw_V hP hK hD (ci := 5) h_this.1 rfl) rfl rfl hl.1 rfl (lv_room (Nat.le_of_ble_eq_true rfl)) dX5_proofFrom_21 ⟨Nat.zero_le _, Nat.zero_le _⟩) ?_
      obtain ⟨r6, h7, hf⟩ := bd_s hf
      refine ks_i (va_runSN (As := [.int r4]) (rest := []) hcf (cz_X6_isOneHop l D k A ws r4 r6 h7) ⟨(va_cnB 1 hts gX5_proofFrom_X6_isOneHop_n78 rfl rfl rfl (hK.2 (RX5, 78, yX6_isOneHop, RX6) (List.mem_of_getElem? (i := 2) rfl)) w_0 (by decide +kernel) ⟨Nat.le_of_ble_eq_true rfl, Nat.le_of_ble_eq_true rfl⟩), w_1, trivial⟩ (pw_S hP hK hD) rfl rfl hl.1 rfl (lv_room (Nat.le_of_ble_eq_true rfl)) dX5_proofFrom_24 ⟨Nat.zero_le _, Nat.zero_le _⟩) ?_
      refine lv_if_eq (tgt := 56) hx hb dX5_proofFrom_27 (by decide) (fun c8 => ?_) (fun c8 => ?_)
      · have hf := it_p c8 hf
        refine lv_iinc (v := (x2 + 1)) (lv' := [(2, .int (x2 + 1)), (3, .int y2), (0, .ref (A q)), (1, .int x1)]) hx hb dX5_proofFrom_56 hl (k := 3) rfl rfl (by decide) rfl (fun ls hl => ?_)
        refine lv_goto (tgt := 2) hx hb dX5_proofFrom_59 (by decide) ?_
        exact ih (x2 + 1) _ hf (lv_sub hl [2, 3, 0] rfl)
      · have hf := it_n c8 hf
        refine lv_aload_n hx hb dX5_proofFrom_30 rfl (lv_at hl 1 rfl) ?_
        refine lv_iload_n hx hb dX5_proofFrom_31 rfl (lv_at hl 0 rfl) ?_
        obtain ⟨r9, h10, hf⟩ := bd_s hf
        refine ks_i (va_runV (As := [.int y2]) (rest := []) hcf (cz_X5_installedHopsBeneath l D k A ws (q) sent sentI best ease fromA vi_pl vi_sz vl_pl vl_sz y2 r9 h10 h_this) (cwV 1 hts gX5_proofFrom_X5_installedHopsBeneath rfl rfl rfl (by decide +kernel) ⟨Nat.le_of_ble_eq_true rfl, Nat.le_of_ble_eq_true rfl⟩) (pw_V hP hK hD (ci := 5) h_this.1 rfl) rfl rfl hl.1 rfl (lv_room (Nat.le_of_ble_eq_true rfl)) dX5_proofFrom_32 ⟨Nat.zero_le _, Nat.zero_le _⟩) ?_
        obtain ⟨r11, h12, hf⟩ := bd_s hf
        refine ks_i (va_runSN (As := [.int r9]) (rest := []) hcf (cz_X6_isOneHop l D k A ws r9 r11 h12) ⟨(va_cnB 1 hts gX5_proofFrom_X6_isOneHop_n78 rfl rfl rfl (hK.2 (RX5, 78, yX6_isOneHop, RX6) (List.mem_of_getElem? (i := 2) rfl)) w_0 (by decide +kernel) ⟨Nat.le_of_ble_eq_true rfl, Nat.le_of_ble_eq_true rfl⟩), w_1, trivial⟩ (pw_S hP hK hD) rfl rfl hl.1 rfl (lv_room (Nat.le_of_ble_eq_true rfl)) dX5_proofFrom_35 ⟨Nat.zero_le _, Nat.zero_le _⟩) ?_
        refine lv_if_eq (tgt := 56) hx hb dX5_proofFrom_38 (by decide) (fun c13 => ?_) (fun c13 => ?_)
        · have hf := it_p c13 hf
          refine lv_iinc (v := (x2 + 1)) (lv' := [(2, .int (x2 + 1)), (3, .int y2), (0, .ref (A q)), (1, .int x1)]) hx hb dX5_proofFrom_56 hl (k := 3) rfl rfl (by decide) rfl (fun ls hl => ?_)
          refine lv_goto (tgt := 2) hx hb dX5_proofFrom_59 (by decide) ?_
          exact ih (x2 + 1) _ hf (lv_sub hl [2, 3, 0] rfl)
        · have hf := it_n c13 hf
          refine lv_iload_n hx hb dX5_proofFrom_41 rfl (lv_at hl 0 rfl) ?_
          obtain ⟨r14, h15, hf⟩ := bd_s hf
          refine ks_i (va_runSN (As := [.int y2]) (rest := []) hcf (cz_X6_firstAddress l D k A ws y2 r14 h15) ⟨(va_cnB 1 hts gX5_proofFrom_X6_firstAddress_n84 rfl rfl rfl (hK.2 (RX5, 84, yX6_firstAddress, RX6) (List.mem_of_getElem? (i := 1) rfl)) w_0 (by decide +kernel) ⟨Nat.le_of_ble_eq_true rfl, Nat.le_of_ble_eq_true rfl⟩), w_2, trivial⟩ (pw_S hP hK hD) rfl rfl hl.1 rfl (lv_room (Nat.le_of_ble_eq_true rfl)) dX5_proofFrom_42 ⟨Nat.zero_le _, Nat.zero_le _⟩) ?_
          refine lv_iload_n hx hb dX5_proofFrom_45 rfl (lv_at hl 2 rfl) ?_
          refine lv_icmp_ne (tgt := 53) hx hb dX5_proofFrom_46 (by decide) (fun c16 => ?_) (fun c16 => ?_)
          · have hf := it_n c16 hf
            refine lv_bipush (v := (-4)) hx hb dX5_proofFrom_53 (by decide) ?_
            obtain rfl := so_i hf
            exact W.iret (v := (-4)) hx hb hr (fun t ht _ => ⟨rfl, ht⟩) (fun _ h => absurd h List.not_mem_nil) dX5_proofFrom_55
          · have hf := it_p c16 hf
            refine lv_iload_n hx hb dX5_proofFrom_49 rfl (lv_at hl 0 rfl) ?_
            refine lv_goto (tgt := 55) hx hb dX5_proofFrom_50 (by decide) ?_
            obtain rfl := so_i hf
            exact W.iret (v := y2) hx hb hr (fun t ht _ => ⟨rfl, ht⟩) (fun _ h => absurd h List.not_mem_nil) dX5_proofFrom_55

set_option maxHeartbeats 4000000 in
set_option maxRecDepth 100000 in
theorem cz_X5_proofFrom (l : Launch) (D : va_G) (k : kt_T) (A : Nat → Nat) (ws : va_W) (q : Nat)  (sent : Nat → Int32) (sentI : Nat → Int32) (best : Nat → Int32) (ease : Nat → Int32) (fromA : Nat → Int32) (vi_pl : Nat → Int64) (vi_sz : Int32) (vl_pl : Nat → Int64) (vl_sz : Int32) (p1 : Int32) (out : Int32) (hf : pf_X5_proofFrom sent sentI p1 = some out) (h_this : is_V k A ws q sent sentI best ease fromA vi_pl vi_sz vl_pl vl_sz)  : Met l yX5_proofFrom wsX5_proofFrom { frames := 3, cells := 0, slots := 0, locals := 61 } (va_Pc [.ref (A q), .int p1] (pw_P D k ws)) (qs_Q (some (.int out))) 0 0 (fun _ => False) := by
  refine Met.ofW (cc := cX5_proofFrom) (maxL := 4) (ret := (some .int)) (by decide) rfl ?_
  intro p e s m args below meth c s₁ B hml hv
  obtain ⟨rfl, hP, hK, hD⟩ := hv
  have C0 : cx_P p s m meth c [.ref (A q), .int p1].toArray cX5_proofFrom 4 wsX5_proofFrom RX5 (some .int) := ⟨B.exec, B.bytes, hml, findClass_of_methodNamed B.named, atoms_spec (ws := wsX5_proofFrom) B.pre, B.returns, B.notSynchronized⟩
  obtain ⟨hx, hb, hml, hown, hts, hr, hlocks⟩ := id C0
  have hcf : CallFix p m c cX5_proofFrom 4 s [.ref (A q), .int p1].toArray wsX5_proofFrom RX5 := ⟨hx, hb, hml, hown, hts⟩
  have hl := lv_entry ([.ref (A q), .int p1]) (n := 4) (Nat.le_of_ble_eq_true rfl)
  rw [lg_entry_eq]
  generalize (lg_sl ([.ref (A q), .int p1]) ++ List.replicate (4 - (lg_sl ([.ref (A q), .int p1])).length) Slot.unset).toArray = ls at hl ⊢
  have hl : lv_has ls 4 [(0, .ref (A q)), (1, .int p1)] := hl
  unfold pf_X5_proofFrom at hf
  refine lv_iconst (v := 0) hx hb dX5_proofFrom_0 (by decide) ?_
  refine lv_istore_n (lv' := [(2, .int 0), (0, .ref (A q)), (1, .int p1)]) hx hb dX5_proofFrom_1 rfl hl (by decide) rfl (fun ls hl => ?_)
  exact wl_X5_proofFrom_2 l D k A ws q _ hK C0 sent sentI best ease fromA vi_pl vi_sz vl_pl vl_sz p1 h_this hP hD fu_N 0 _ hf (lv_sub hl [1, 2, 0] rfl)

def lp_X5_countProof_4  (sent : Nat → Int32) (sentI : Nat → Int32) : Nat → Int32 → Int32 → Option (Int32)
  | 0, _, _ => none
  | n + 1, x1, x2 =>
    if 256 ≤ x2 then
      some x1
    else
      (pf_X5_proofFrom sent sentI x2).bind (fun r2 =>
        if r2 = (-4) then
          lp_X5_countProof_4 sent sentI n x1 (x2 + 1)
        else
          lp_X5_countProof_4 sent sentI n (x1 + 1) (x2 + 1))

def pf_X5_countProof (sent : Nat → Int32) (sentI : Nat → Int32)   : Option (Int32) :=
  lp_X5_countProof_4 sent sentI fu_N 0 0

set_option maxHeartbeats 4000000 in
set_option maxRecDepth 100000 in
theorem wl_X5_countProof_4 {p : Program} {e : Env} {s : State} {m : MethodId} {args : Array Value} {below : List Frame} {meth : Method} {c : Code} (l : Launch) (D : va_G) (k : kt_T) (A : Nat → Nat) (ws : va_W) (q : Nat)  (out : Int32) (hK : kk_P D k s) (C0 : cx_P p s m meth c args cX5_countProof 3 wsX5_countProof RX5 (some .int))  (sent : Nat → Int32) (sentI : Nat → Int32) (best : Nat → Int32) (ease : Nat → Int32) (fromA : Nat → Int32) (vi_pl : Nat → Int64) (vi_sz : Int32) (vl_pl : Nat → Int64) (vl_sz : Int32)    (h_this : is_V k A ws q sent sentI best ease fromA vi_pl vi_sz vl_pl vl_sz) (hP : va_P D vwCl ws s.heap) (hD : va_D (fun _ => True) ws) : ∀ (n : Nat) (x1 : Int32) (x2 : Int32) (ls : Array Slot), lp_X5_countProof_4 sent sentI n x1 x2 = some out → lv_has ls 3 [(0, .ref (A q)), (1, .int x1), (2, .int x2)] → W p l e (headSpec wsX5_countProof { frames := 4, cells := 0, slots := 0, locals := 84 }).room s m args below meth c s.heap [] 0 0 (MQ below (qs_Q (some (.int out))) args s 0 0 (fun _ => False)) (F0 m 4 ls []) := by
  obtain ⟨hx, hb, hml, hown, hts, hr, hlocks⟩ := id C0
  have hcf : CallFix p m c cX5_countProof 3 s args wsX5_countProof RX5 := ⟨hx, hb, hml, hown, hts⟩
  intro n
  induction n with
  | zero =>
    intro x1 x2 ls hf hl
    exact (no_s hf).elim
  | succ n ih =>
    intro x1 x2 ls hf hl
    rw [lp_X5_countProof_4] at hf
    refine lv_iload_n hx hb dX5_countProof_4 rfl (lv_at hl 2 rfl) ?_
    refine lv_sipush (v := 256) hx hb dX5_countProof_5 (by decide) ?_
    refine lv_icmp_ge (tgt := 30) hx hb dX5_countProof_8 (by decide) (fun c1 => ?_) (fun c1 => ?_)
    · have hf := it_p c1 hf
      refine lv_iload_n hx hb dX5_countProof_30 rfl (lv_at hl 1 rfl) ?_
      obtain rfl := so_i hf
      exact W.iret (v := x1) hx hb hr (fun t ht _ => ⟨rfl, ht⟩) (fun _ h => absurd h List.not_mem_nil) dX5_countProof_31
    · have hf := it_n c1 hf
      refine lv_aload_n hx hb dX5_countProof_11 rfl (lv_at hl 0 rfl) ?_
      refine lv_iload_n hx hb dX5_countProof_12 rfl (lv_at hl 2 rfl) ?_
      obtain ⟨r2, h3, hf⟩ := bd_s hf
      refine ks_i (va_runV (As := [.int x2]) (rest := []) hcf (cz_X5_proofFrom l D k A ws (q) sent sentI best ease fromA vi_pl vi_sz vl_pl vl_sz x2 r2 h3 h_this) (cwV 1 hts gX5_countProof_X5_proofFrom rfl rfl rfl (by decide +kernel) ⟨Nat.le_of_ble_eq_true rfl, Nat.le_of_ble_eq_true rfl⟩) (pw_V hP hK hD (ci := 5) h_this.1 rfl) rfl rfl hl.1 rfl (lv_room (Nat.le_of_ble_eq_true rfl)) dX5_countProof_13 ⟨Nat.zero_le _, Nat.zero_le _⟩) ?_
      refine lv_bipush (v := (-4)) hx hb dX5_countProof_16 (by decide) ?_
      refine lv_icmp_eq (tgt := 24) hx hb dX5_countProof_18 (by decide) (fun c4 => ?_) (fun c4 => ?_)
      · have hf := it_p c4 hf
        refine lv_iinc (v := (x2 + 1)) (lv' := [(2, .int (x2 + 1)), (0, .ref (A q)), (1, .int x1)]) hx hb dX5_countProof_24 hl (k := 2) rfl rfl (by decide) rfl (fun ls hl => ?_)
        refine lv_goto (tgt := 4) hx hb dX5_countProof_27 (by decide) ?_
        exact ih x1 (x2 + 1) _ hf (lv_sub hl [1, 2, 0] rfl)
      · have hf := it_n c4 hf
        refine lv_iinc (v := (x1 + 1)) (lv' := [(1, .int (x1 + 1)), (0, .ref (A q)), (2, .int x2)]) hx hb dX5_countProof_21 hl (k := 1) rfl rfl (by decide) rfl (fun ls hl => ?_)
        refine lv_iinc (v := (x2 + 1)) (lv' := [(2, .int (x2 + 1)), (1, .int (x1 + 1)), (0, .ref (A q))]) hx hb dX5_countProof_24 hl (k := 2) rfl rfl (by decide) rfl (fun ls hl => ?_)
        refine lv_goto (tgt := 4) hx hb dX5_countProof_27 (by decide) ?_
        exact ih (x1 + 1) (x2 + 1) _ hf (lv_sub hl [2, 1, 0] rfl)

set_option maxHeartbeats 4000000 in
set_option maxRecDepth 100000 in
theorem cz_X5_countProof (l : Launch) (D : va_G) (k : kt_T) (A : Nat → Nat) (ws : va_W) (q : Nat)  (sent : Nat → Int32) (sentI : Nat → Int32) (best : Nat → Int32) (ease : Nat → Int32) (fromA : Nat → Int32) (vi_pl : Nat → Int64) (vi_sz : Int32) (vl_pl : Nat → Int64) (vl_sz : Int32)  (out : Int32) (hf : pf_X5_countProof sent sentI = some out) (h_this : is_V k A ws q sent sentI best ease fromA vi_pl vi_sz vl_pl vl_sz)  : Met l yX5_countProof wsX5_countProof { frames := 4, cells := 0, slots := 0, locals := 84 } (va_Pc [.ref (A q)] (pw_P D k ws)) (qs_Q (some (.int out))) 0 0 (fun _ => False) := by
  refine Met.ofW (cc := cX5_countProof) (maxL := 3) (ret := (some .int)) (by decide) rfl ?_
  intro p e s m args below meth c s₁ B hml hv
  obtain ⟨rfl, hP, hK, hD⟩ := hv
  have C0 : cx_P p s m meth c [.ref (A q)].toArray cX5_countProof 3 wsX5_countProof RX5 (some .int) := ⟨B.exec, B.bytes, hml, findClass_of_methodNamed B.named, atoms_spec (ws := wsX5_countProof) B.pre, B.returns, B.notSynchronized⟩
  obtain ⟨hx, hb, hml, hown, hts, hr, hlocks⟩ := id C0
  have hcf : CallFix p m c cX5_countProof 3 s [.ref (A q)].toArray wsX5_countProof RX5 := ⟨hx, hb, hml, hown, hts⟩
  have hl := lv_entry ([.ref (A q)]) (n := 3) (Nat.le_of_ble_eq_true rfl)
  rw [lg_entry_eq]
  generalize (lg_sl ([.ref (A q)]) ++ List.replicate (3 - (lg_sl ([.ref (A q)])).length) Slot.unset).toArray = ls at hl ⊢
  have hl : lv_has ls 3 [(0, .ref (A q))] := hl
  unfold pf_X5_countProof at hf
  refine lv_iconst (v := 0) hx hb dX5_countProof_0 (by decide) ?_
  refine lv_istore_n (lv' := [(1, .int 0), (0, .ref (A q))]) hx hb dX5_countProof_1 rfl hl (by decide) rfl (fun ls hl => ?_)
  refine lv_iconst (v := 0) hx hb dX5_countProof_2 (by decide) ?_
  refine lv_istore_n (lv' := [(2, .int 0), (1, .int 0), (0, .ref (A q))]) hx hb dX5_countProof_3 rfl hl (by decide) rfl (fun ls hl => ?_)
  exact wl_X5_countProof_4 l D k A ws q _ hK C0 sent sentI best ease fromA vi_pl vi_sz vl_pl vl_sz h_this hP hD fu_N 0 0 _ hf (lv_sub hl [2, 1, 0] rfl)

def lp_X5_proofNumber_4  (sent : Nat → Int32) (sentI : Nat → Int32) (x1 : Int32) : Nat → Int32 → Int32 → Option (Int32)
  | 0, _, _ => none
  | n + 1, x2, x3 =>
    if 256 ≤ x3 then
      some (-4)
    else
      (pf_X5_proofFrom sent sentI x3).bind (fun r2 =>
        if r2 = (-4) then
          lp_X5_proofNumber_4 sent sentI x1 n x2 (x3 + 1)
        else
          if x2 = x1 then
            some r2
          else
            lp_X5_proofNumber_4 sent sentI x1 n (x2 + 1) (x3 + 1))

def pf_X5_proofNumber (sent : Nat → Int32) (sentI : Nat → Int32)  (p1 : Int32) : Option (Int32) :=
  lp_X5_proofNumber_4 sent sentI p1 fu_N 0 0

set_option maxHeartbeats 4000000 in
set_option maxRecDepth 100000 in
theorem wl_X5_proofNumber_4 {p : Program} {e : Env} {s : State} {m : MethodId} {args : Array Value} {below : List Frame} {meth : Method} {c : Code} (l : Launch) (D : va_G) (k : kt_T) (A : Nat → Nat) (ws : va_W) (q : Nat)  (out : Int32) (hK : kk_P D k s) (C0 : cx_P p s m meth c args cX5_proofNumber 5 wsX5_proofNumber RX5 (some .int))  (sent : Nat → Int32) (sentI : Nat → Int32) (best : Nat → Int32) (ease : Nat → Int32) (fromA : Nat → Int32) (vi_pl : Nat → Int64) (vi_sz : Int32) (vl_pl : Nat → Int64) (vl_sz : Int32) (x1 : Int32)   (h_this : is_V k A ws q sent sentI best ease fromA vi_pl vi_sz vl_pl vl_sz) (hP : va_P D vwCl ws s.heap) (hD : va_D (fun _ => True) ws) : ∀ (n : Nat) (x2 : Int32) (x3 : Int32) (ls : Array Slot), lp_X5_proofNumber_4 sent sentI x1 n x2 x3 = some out → lv_has ls 5 [(0, .ref (A q)), (1, .int x1), (2, .int x2), (3, .int x3)] → W p l e (headSpec wsX5_proofNumber { frames := 4, cells := 0, slots := 0, locals := 84 }).room s m args below meth c s.heap [] 0 0 (MQ below (qs_Q (some (.int out))) args s 0 0 (fun _ => False)) (F0 m 4 ls []) := by
  obtain ⟨hx, hb, hml, hown, hts, hr, hlocks⟩ := id C0
  have hcf : CallFix p m c cX5_proofNumber 5 s args wsX5_proofNumber RX5 := ⟨hx, hb, hml, hown, hts⟩
  intro n
  induction n with
  | zero =>
    intro x2 x3 ls hf hl
    exact (no_s hf).elim
  | succ n ih =>
    intro x2 x3 ls hf hl
    rw [lp_X5_proofNumber_4] at hf
    refine lv_iload_n hx hb dX5_proofNumber_4 rfl (lv_at hl 3 rfl) ?_
    refine lv_sipush (v := 256) hx hb dX5_proofNumber_5 (by decide) ?_
    refine lv_icmp_ge (tgt := 42) hx hb dX5_proofNumber_8 (by decide) (fun c1 => ?_) (fun c1 => ?_)
    · have hf := it_p c1 hf
      refine lv_bipush (v := (-4)) hx hb dX5_proofNumber_42 (by decide) ?_
      obtain rfl := so_i hf
      exact W.iret (v := (-4)) hx hb hr (fun t ht _ => ⟨rfl, ht⟩) (fun _ h => absurd h List.not_mem_nil) dX5_proofNumber_44
    · have hf := it_n c1 hf
      refine lv_aload_n hx hb dX5_proofNumber_11 rfl (lv_at hl 0 rfl) ?_
      refine lv_iload_n hx hb dX5_proofNumber_12 rfl (lv_at hl 3 rfl) ?_
      obtain ⟨r2, h3, hf⟩ := bd_s hf
      refine ks_i (va_runV (As := [.int x3]) (rest := []) hcf (cz_X5_proofFrom l D k A ws (q) sent sentI best ease fromA vi_pl vi_sz vl_pl vl_sz x3 r2 h3 h_this) (cwV 1 hts gX5_proofNumber_X5_proofFrom rfl rfl rfl (by decide +kernel) ⟨Nat.le_of_ble_eq_true rfl, Nat.le_of_ble_eq_true rfl⟩) (pw_V hP hK hD (ci := 5) h_this.1 rfl) rfl rfl hl.1 rfl (lv_room (Nat.le_of_ble_eq_true rfl)) dX5_proofNumber_13 ⟨Nat.zero_le _, Nat.zero_le _⟩) ?_
      refine lv_istore (lv' := [(4, .int r2), (0, .ref (A q)), (1, .int x1), (2, .int x2), (3, .int x3)]) hx hb dX5_proofNumber_16 hl (by decide) rfl (fun ls hl => ?_)
      refine lv_iload hx hb dX5_proofNumber_18 (lv_at hl 0 rfl) ?_
      refine lv_bipush (v := (-4)) hx hb dX5_proofNumber_20 (by decide) ?_
      refine lv_icmp_eq (tgt := 36) hx hb dX5_proofNumber_22 (by decide) (fun c4 => ?_) (fun c4 => ?_)
      · have hf := it_p c4 hf
        refine lv_iinc (v := (x3 + 1)) (lv' := [(3, .int (x3 + 1)), (4, .int r2), (0, .ref (A q)), (1, .int x1), (2, .int x2)]) hx hb dX5_proofNumber_36 hl (k := 4) rfl rfl (by decide) rfl (fun ls hl => ?_)
        refine lv_goto (tgt := 4) hx hb dX5_proofNumber_39 (by decide) ?_
        exact ih x2 (x3 + 1) _ hf (lv_sub hl [2, 3, 4, 0] rfl)
      · have hf := it_n c4 hf
        refine lv_iload_n hx hb dX5_proofNumber_25 rfl (lv_at hl 3 rfl) ?_
        refine lv_iload_n hx hb dX5_proofNumber_26 rfl (lv_at hl 2 rfl) ?_
        refine lv_icmp_ne (tgt := 33) hx hb dX5_proofNumber_27 (by decide) (fun c5 => ?_) (fun c5 => ?_)
        · have hf := it_n c5 hf
          refine lv_iinc (v := (x2 + 1)) (lv' := [(2, .int (x2 + 1)), (4, .int r2), (0, .ref (A q)), (1, .int x1), (3, .int x3)]) hx hb dX5_proofNumber_33 hl (k := 3) rfl rfl (by decide) rfl (fun ls hl => ?_)
          refine lv_iinc (v := (x3 + 1)) (lv' := [(3, .int (x3 + 1)), (2, .int (x2 + 1)), (4, .int r2), (0, .ref (A q)), (1, .int x1)]) hx hb dX5_proofNumber_36 hl (k := 4) rfl rfl (by decide) rfl (fun ls hl => ?_)
          refine lv_goto (tgt := 4) hx hb dX5_proofNumber_39 (by decide) ?_
          exact ih (x2 + 1) (x3 + 1) _ hf (lv_sub hl [3, 4, 1, 0] rfl)
        · have hf := it_p c5 hf
          refine lv_iload hx hb dX5_proofNumber_30 (lv_at hl 0 rfl) ?_
          obtain rfl := so_i hf
          exact W.iret (v := r2) hx hb hr (fun t ht _ => ⟨rfl, ht⟩) (fun _ h => absurd h List.not_mem_nil) dX5_proofNumber_32

set_option maxHeartbeats 4000000 in
set_option maxRecDepth 100000 in
theorem cz_X5_proofNumber (l : Launch) (D : va_G) (k : kt_T) (A : Nat → Nat) (ws : va_W) (q : Nat)  (sent : Nat → Int32) (sentI : Nat → Int32) (best : Nat → Int32) (ease : Nat → Int32) (fromA : Nat → Int32) (vi_pl : Nat → Int64) (vi_sz : Int32) (vl_pl : Nat → Int64) (vl_sz : Int32) (p1 : Int32) (out : Int32) (hf : pf_X5_proofNumber sent sentI p1 = some out) (h_this : is_V k A ws q sent sentI best ease fromA vi_pl vi_sz vl_pl vl_sz)  : Met l yX5_proofNumber wsX5_proofNumber { frames := 4, cells := 0, slots := 0, locals := 84 } (va_Pc [.ref (A q), .int p1] (pw_P D k ws)) (qs_Q (some (.int out))) 0 0 (fun _ => False) := by
  refine Met.ofW (cc := cX5_proofNumber) (maxL := 5) (ret := (some .int)) (by decide) rfl ?_
  intro p e s m args below meth c s₁ B hml hv
  obtain ⟨rfl, hP, hK, hD⟩ := hv
  have C0 : cx_P p s m meth c [.ref (A q), .int p1].toArray cX5_proofNumber 5 wsX5_proofNumber RX5 (some .int) := ⟨B.exec, B.bytes, hml, findClass_of_methodNamed B.named, atoms_spec (ws := wsX5_proofNumber) B.pre, B.returns, B.notSynchronized⟩
  obtain ⟨hx, hb, hml, hown, hts, hr, hlocks⟩ := id C0
  have hcf : CallFix p m c cX5_proofNumber 5 s [.ref (A q), .int p1].toArray wsX5_proofNumber RX5 := ⟨hx, hb, hml, hown, hts⟩
  have hl := lv_entry ([.ref (A q), .int p1]) (n := 5) (Nat.le_of_ble_eq_true rfl)
  rw [lg_entry_eq]
  generalize (lg_sl ([.ref (A q), .int p1]) ++ List.replicate (5 - (lg_sl ([.ref (A q), .int p1])).length) Slot.unset).toArray = ls at hl ⊢
  have hl : lv_has ls 5 [(0, .ref (A q)), (1, .int p1)] := hl
  unfold pf_X5_proofNumber at hf
  refine lv_iconst (v := 0) hx hb dX5_proofNumber_0 (by decide) ?_
  refine lv_istore_n (lv' := [(2, .int 0), (0, .ref (A q)), (1, .int p1)]) hx hb dX5_proofNumber_1 rfl hl (by decide) rfl (fun ls hl => ?_)
  refine lv_iconst (v := 0) hx hb dX5_proofNumber_2 (by decide) ?_
  refine lv_istore_n (lv' := [(3, .int 0), (2, .int 0), (0, .ref (A q)), (1, .int p1)]) hx hb dX5_proofNumber_3 rfl hl (by decide) rfl (fun ls hl => ?_)
  exact wl_X5_proofNumber_4 l D k A ws q _ hK C0 sent sentI best ease fromA vi_pl vi_sz vl_pl vl_sz p1 h_this hP hD fu_N 0 0 _ hf (lv_sub hl [2, 3, 1, 0] rfl)

theorem in_X5_firstSentElsewhere_X5 : ∀ w ∈ u_ws RX5 TX5 7, w ∈ wsX5_firstSentElsewhere := fun w h => List.mem_cons_of_mem _ (List.mem_append_right _ h)
def lp_X5_firstSentElsewhere_2  (sent : Nat → Int32) (sentI : Nat → Int32) : Nat → Int32 → Option (Int32)
  | 0, _ => none
  | n + 1, x1 =>
    if 256 ≤ x1 then
      some (-4)
    else
      ck_O (in_b (256 + x1) 512) (
        ck_O (in_b (256 + x1) 512) (
          if (sent (Int32.toNatClampNeg (256 + x1))) = (sentI (Int32.toNatClampNeg (256 + x1))) then
            lp_X5_firstSentElsewhere_2 sent sentI n (x1 + 1)
          else
            some x1))

def pf_X5_firstSentElsewhere (sent : Nat → Int32) (sentI : Nat → Int32)   : Option (Int32) :=
  lp_X5_firstSentElsewhere_2 sent sentI fu_N 0

set_option maxHeartbeats 4000000 in
set_option maxRecDepth 100000 in
theorem wl_X5_firstSentElsewhere_2 {p : Program} {e : Env} {s : State} {m : MethodId} {args : Array Value} {below : List Frame} {meth : Method} {c : Code} (l : Launch) (D : va_G) (k : kt_T) (A : Nat → Nat) (ws : va_W) (q : Nat)  (out : Int32) (hK : kk_P D k s) (C0 : cx_P p s m meth c args cX5_firstSentElsewhere 2 wsX5_firstSentElsewhere RX5 (some .int))  (sent : Nat → Int32) (sentI : Nat → Int32) (best : Nat → Int32) (ease : Nat → Int32) (fromA : Nat → Int32) (vi_pl : Nat → Int64) (vi_sz : Int32) (vl_pl : Nat → Int64) (vl_sz : Int32)    (h_this : is_V k A ws q sent sentI best ease fromA vi_pl vi_sz vl_pl vl_sz) (hP : va_P D vwCl ws s.heap) (hD : va_D (fun _ => True) ws) : ∀ (n : Nat) (x1 : Int32) (ls : Array Slot), lp_X5_firstSentElsewhere_2 sent sentI n x1 = some out → lv_has ls 2 [(0, .ref (A q)), (1, .int x1)] → W p l e (headSpec wsX5_firstSentElsewhere { frames := 0, cells := 0, slots := 0, locals := 0 }).room s m args below meth c s.heap [] 0 0 (MQ below (qs_Q (some (.int out))) args s 0 0 (fun _ => False)) (F0 m 2 ls []) := by
  obtain ⟨hx, hb, hml, hown, hts, hr, hlocks⟩ := id C0
  have hcf : CallFix p m c cX5_firstSentElsewhere 2 s args wsX5_firstSentElsewhere RX5 := ⟨hx, hb, hml, hown, hts⟩
  have w_0 := hts (.fieldLink RX5 9 "LeastRoutes$View" "sent" "[I") (List.mem_of_getElem? (i := 1) rfl)
  have w_1 := hts (.fieldLink RX5 15 "LeastRoutes$View" "sentByInstalled" "[I") (List.mem_of_getElem? (i := 2) rfl)
  intro n
  induction n with
  | zero =>
    intro x1 ls hf hl
    exact (no_s hf).elim
  | succ n ih =>
    intro x1 ls hf hl
    rw [lp_X5_firstSentElsewhere_2] at hf
    refine lv_iload_n hx hb dX5_firstSentElsewhere_2 rfl (lv_at hl 1 rfl) ?_
    refine lv_sipush (v := 256) hx hb dX5_firstSentElsewhere_3 (by decide) ?_
    refine lv_icmp_ge (tgt := 40) hx hb dX5_firstSentElsewhere_6 (by decide) (fun c1 => ?_) (fun c1 => ?_)
    · have hf := it_p c1 hf
      refine lv_bipush (v := (-4)) hx hb dX5_firstSentElsewhere_40 (by decide) ?_
      obtain rfl := so_i hf
      exact W.iret (v := (-4)) hx hb hr (fun t ht _ => ⟨rfl, ht⟩) (fun _ h => absurd h List.not_mem_nil) dX5_firstSentElsewhere_42
    · have hf := it_n c1 hf
      refine lv_aload_n hx hb dX5_firstSentElsewhere_9 rfl (lv_at hl 0 rfl) ?_
      obtain ⟨h2, h3, h4, h5, h6, h7, h8, h9⟩ := h_this
      refine va_get (D := D) (ci := 5) (v := .ref (A (q + 1))) (C := RX5) (T := TX5) (N := 7) hx hb hts in_X5_firstSentElsewhere_X5 hown hK.1 hP (q) h2 rfl 0 (by decide) w_0 (fun _ h9 => h9) rfl dX5_firstSentElsewhere_10 ?_
      refine lv_sipush (v := 256) hx hb dX5_firstSentElsewhere_13 (by decide) ?_
      refine lv_iload_n hx hb dX5_firstSentElsewhere_16 rfl (lv_at hl 1 rfl) ?_
      refine lv_iadd hx hb dX5_firstSentElsewhere_17 ?_
      obtain ⟨z10, hf⟩ := ck_s hf
      refine va_iald hx hb hK.1 hP (q + 1) 0 h3 rfl (in_s z10) dX5_firstSentElsewhere_18 ?_
      refine lv_aload_n hx hb dX5_firstSentElsewhere_19 rfl (lv_at hl 0 rfl) ?_
      refine va_get (D := D) (ci := 5) (v := .ref (A (q + 2))) (C := RX5) (T := TX5) (N := 7) hx hb hts in_X5_firstSentElsewhere_X5 hown hK.1 hP (q) h2 rfl 1 (by decide) w_1 (fun _ h9 => h9) rfl dX5_firstSentElsewhere_20 ?_
      refine lv_sipush (v := 256) hx hb dX5_firstSentElsewhere_23 (by decide) ?_
      refine lv_iload_n hx hb dX5_firstSentElsewhere_26 rfl (lv_at hl 1 rfl) ?_
      refine lv_iadd hx hb dX5_firstSentElsewhere_27 ?_
      obtain ⟨z11, hf⟩ := ck_s hf
      refine va_iald hx hb hK.1 hP (q + 2) 0 h4 rfl (in_s z11) dX5_firstSentElsewhere_28 ?_
      refine lv_icmp_eq (tgt := 34) hx hb dX5_firstSentElsewhere_29 (by decide) (fun c12 => ?_) (fun c12 => ?_)
      · have hf := it_p c12 hf
        refine lv_iinc (v := (x1 + 1)) (lv' := [(1, .int (x1 + 1)), (0, .ref (A q))]) hx hb dX5_firstSentElsewhere_34 hl (k := 1) rfl rfl (by decide) rfl (fun ls hl => ?_)
        refine lv_goto (tgt := 2) hx hb dX5_firstSentElsewhere_37 (by decide) ?_
        exact ih (x1 + 1) _ hf (lv_sub hl [1, 0] rfl)
      · have hf := it_n c12 hf
        refine lv_iload_n hx hb dX5_firstSentElsewhere_32 rfl (lv_at hl 1 rfl) ?_
        obtain rfl := so_i hf
        exact W.iret (v := x1) hx hb hr (fun t ht _ => ⟨rfl, ht⟩) (fun _ h => absurd h List.not_mem_nil) dX5_firstSentElsewhere_33

set_option maxHeartbeats 4000000 in
set_option maxRecDepth 100000 in
theorem cz_X5_firstSentElsewhere (l : Launch) (D : va_G) (k : kt_T) (A : Nat → Nat) (ws : va_W) (q : Nat)  (sent : Nat → Int32) (sentI : Nat → Int32) (best : Nat → Int32) (ease : Nat → Int32) (fromA : Nat → Int32) (vi_pl : Nat → Int64) (vi_sz : Int32) (vl_pl : Nat → Int64) (vl_sz : Int32)  (out : Int32) (hf : pf_X5_firstSentElsewhere sent sentI = some out) (h_this : is_V k A ws q sent sentI best ease fromA vi_pl vi_sz vl_pl vl_sz)  : Met l yX5_firstSentElsewhere wsX5_firstSentElsewhere { frames := 0, cells := 0, slots := 0, locals := 0 } (va_Pc [.ref (A q)] (pw_P D k ws)) (qs_Q (some (.int out))) 0 0 (fun _ => False) := by
  refine Met.ofW (cc := cX5_firstSentElsewhere) (maxL := 2) (ret := (some .int)) (by decide) rfl ?_
  intro p e s m args below meth c s₁ B hml hv
  obtain ⟨rfl, hP, hK, hD⟩ := hv
  have C0 : cx_P p s m meth c [.ref (A q)].toArray cX5_firstSentElsewhere 2 wsX5_firstSentElsewhere RX5 (some .int) := ⟨B.exec, B.bytes, hml, findClass_of_methodNamed B.named, atoms_spec (ws := wsX5_firstSentElsewhere) B.pre, B.returns, B.notSynchronized⟩
  obtain ⟨hx, hb, hml, hown, hts, hr, hlocks⟩ := id C0
  have hcf : CallFix p m c cX5_firstSentElsewhere 2 s [.ref (A q)].toArray wsX5_firstSentElsewhere RX5 := ⟨hx, hb, hml, hown, hts⟩
  have hl := lv_entry ([.ref (A q)]) (n := 2) (Nat.le_of_ble_eq_true rfl)
  rw [lg_entry_eq]
  generalize (lg_sl ([.ref (A q)]) ++ List.replicate (2 - (lg_sl ([.ref (A q)])).length) Slot.unset).toArray = ls at hl ⊢
  have hl : lv_has ls 2 [(0, .ref (A q))] := hl
  unfold pf_X5_firstSentElsewhere at hf
  refine lv_iconst (v := 0) hx hb dX5_firstSentElsewhere_0 (by decide) ?_
  refine lv_istore_n (lv' := [(1, .int 0), (0, .ref (A q))]) hx hb dX5_firstSentElsewhere_1 rfl hl (by decide) rfl (fun ls hl => ?_)
  exact wl_X5_firstSentElsewhere_2 l D k A ws q _ hK C0 sent sentI best ease fromA vi_pl vi_sz vl_pl vl_sz h_this hP hD fu_N 0 _ hf (lv_sub hl [1, 0] rfl)

