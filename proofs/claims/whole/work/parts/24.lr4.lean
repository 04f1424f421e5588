theorem in_X6_lengths_X6 : ∀ w ∈ u_ws RX6 TX6 7, w ∈ wsX6_lengths := fun w h => List.mem_cons_of_mem _ (List.mem_append_left _ (List.mem_append_right _ h))
def lp_X6_lengths_78  (sh : Nat → ss_T) (x1 : Int32) (x3 : Int32) (x4 : Int32) : Nat → Int32 → Int32 → Option (Int32)
  | 0, _, _ => none
  | n + 1, x6, x7 =>
    if 8 < x7 then
      some x6
    else
      ck_O (in_b x1 4) (
        (pf_X2_isToldBy ((sh (Int32.toNatClampNeg x1)).1) ((sh (Int32.toNatClampNeg x1)).2.2) x7 x3 x4).bind (fun r52 =>
          if r52 = 0 then
            lp_X6_lengths_78 sh x1 x3 x4 n x6 (x7 + 1)
          else
            lt_O (x6 ||| ((1 : Int32) <<< (x7 &&& 31))) (fun y55 =>
              lp_X6_lengths_78 sh x1 x3 x4 n y55 (x7 + 1))))

def pf_X6_lengths (sh : Nat → ss_T)  (p1 : Int32) (p2 : Int32) (p3 : Int32) (p4 : Int32) : Option (Int32) :=
  (pf_X6_isSheet p1).bind (fun r1 =>
    if r1 = 0 then
      some (-1)
    else
      (pf_X6_isLane p2).bind (fun r4 =>
        if r4 = 0 then
          some (-1)
        else
          if p4 < 1 then
            some (-1)
          else
            if p4 ≤ 12 then
              ck_O (in_b p1 4) (
                (pf_X2_refusal ((sh (Int32.toNatClampNeg p1)).2.1) ((sh (Int32.toNatClampNeg p1)).2.2) p2 p3 (2 * p4)).bind (fun r23 =>
                  if r23 = 0 then
                    ck_O (in_b p1 4) (
                      (pf_X2_holdsPairs ((sh (Int32.toNatClampNeg p1)).1) ((sh (Int32.toNatClampNeg p1)).2.2) p3 p4).bind (fun r34 =>
                        if r34 = 0 then
                          some (-2)
                        else
                          lp_X6_lengths_78 sh p1 p3 p4 fu_N 0 0))
                  else
                    some r23))
            else
              some (-1)))

set_option maxHeartbeats 4000000 in
set_option maxRecDepth 100000 in
theorem wl_X6_lengths_78 {p : Program} {e : Env} {s : State} {m : MethodId} {args : Array Value} {below : List Frame} {meth : Method} {c : Code} (l : Launch) (D : va_G) (k : kt_T) (A : Nat → Nat) (ws : va_W) (q : Nat)  (out : Int32) (hK : kk_P D k s) (C0 : cx_P p s m meth c args cX6_lengths 8 wsX6_lengths RX6 (some .int))  (h_now_told_pl : Nat → Int64) (h_now_told_sz : Int32) (h_now_inUse_pl : Nat → Int64) (h_now_inUse_sz : Int32) (h_now_draw : Int32) (h_kn : Nat → mm_T) (h_size : Int32) (k_now_told_pl : Nat → Int64) (k_now_told_sz : Int32) (k_now_inUse_pl : Nat → Int64) (k_now_inUse_sz : Int32) (k_now_draw : Int32) (k_kn : Nat → mm_T) (k_size : Int32) (v_sent : Nat → Int32) (v_sentI : Nat → Int32) (v_best : Nat → Int32) (v_ease : Nat → Int32) (v_fromA : Nat → Int32) (v_vi_pl : Nat → Int64) (v_vi_sz : Int32) (v_vl_pl : Nat → Int64) (v_vl_sz : Int32) (t_letters : Nat → Int32) (t_tt_pl : Nat → Int64) (t_tt_sz : Int32) (t_size : Int32) (t_place : Int32) (t_number : Int32) (sh : Nat → ss_T) (hasImage : Int32) (viewIsOld : Int32) (x1 : Int32) (x3 : Int32) (x4 : Int32)   (h_this : is_X k A ws q h_now_told_pl h_now_told_sz h_now_inUse_pl h_now_inUse_sz h_now_draw h_kn h_size k_now_told_pl k_now_told_sz k_now_inUse_pl k_now_inUse_sz k_now_draw k_kn k_size v_sent v_sentI v_best v_ease v_fromA v_vi_pl v_vi_sz v_vl_pl v_vl_sz t_letters t_tt_pl t_tt_sz t_size t_place t_number sh hasImage viewIsOld) (hP : va_P D vwCl ws s.heap) (hD : va_D (fun _ => True) ws) : ∀ (n : Nat) (x6 : Int32) (x7 : Int32) (ls : Array Slot), lp_X6_lengths_78 sh x1 x3 x4 n x6 x7 = some out → lv_has ls 8 [(0, .ref (A q)), (1, .int x1), (3, .int x3), (4, .int x4), (6, .int x6), (7, .int x7)] → W p l e (headSpec wsX6_lengths { frames := 2, cells := 0, slots := 0, locals := 49 }).room s m args below meth c s.heap [] 0 0 (MQ below (qs_Q (some (.int out))) args s 0 0 (fun _ => False)) (F0 m 78 ls []) := by
  obtain ⟨hx, hb, hml, hown, hts, hr, hlocks⟩ := id C0
  have hcf : CallFix p m c cX6_lengths 8 s args wsX6_lengths RX6 := ⟨hx, hb, hml, hown, hts⟩
  have w_0 := hts (.fieldLink RX6 35 "LeastRoutes" "sheets" "[LLeastRoutes$Sheet;") (List.mem_of_getElem? (i := 1) rfl)
  intro n
  induction n with
  | zero =>
    intro x6 x7 ls hf hl
    exact (no_s hf).elim
  | succ n ih =>
    intro x6 x7 ls hf hl
    rw [lp_X6_lengths_78] at hf
    refine lv_iload hx hb dX6_lengths_78 (lv_at hl 5 rfl) ?_
    refine lv_bipush (v := 8) hx hb dX6_lengths_80 (by decide) ?_
    refine lv_icmp_gt (tgt := 117) hx hb dX6_lengths_82 (by decide) (fun c37 => ?_) (fun c37 => ?_)
    · have hf := it_p c37 hf
      refine lv_iload hx hb dX6_lengths_117 (lv_at hl 4 rfl) ?_
      obtain rfl := so_i hf
      exact W.iret (v := x6) hx hb hr (fun t ht _ => ⟨rfl, ht⟩) (fun _ h => absurd h List.not_mem_nil) dX6_lengths_119
    · have hf := it_n c37 hf
      refine lv_aload_n hx hb dX6_lengths_85 rfl (lv_at hl 0 rfl) ?_
      obtain ⟨h38, h39, h40, h41, h42, h43⟩ := h_this
      refine va_get (D := D) (ci := 6) (v := .ref (A (q + 89))) (C := RX6) (T := TX6) (N := 7) hx hb hts in_X6_lengths_X6 hown hK.1 hP (q) h38 rfl 4 (by decide) w_0 (fun _ h9 => h9) rfl dX6_lengths_86 ?_
      refine lv_iload_n hx hb dX6_lengths_89 rfl (lv_at hl 1 rfl) ?_
      obtain ⟨z44, hf⟩ := ck_s hf
      obtain ⟨h45, h46, h47, h48, h50, h51⟩ := is_Z_get h43 (in_s z44)
      refine va_aldq hx hb hK.1 hP (q + 89) 3 h46 rfl (in_s z44) dX6_lengths_90 ?_
      refine W.eq (g2 := F0 m 91 ls [.ref (A (q + 89 + 1 + 2 * (Int32.toNatClampNeg x1)))]) (by rw [h47]; rfl) ?_
      refine lv_iload hx hb dX6_lengths_91 (lv_at hl 5 rfl) ?_
      refine lv_iload_n hx hb dX6_lengths_93 rfl (lv_at hl 2 rfl) ?_
      refine lv_iload hx hb dX6_lengths_94 (lv_at hl 3 rfl) ?_
      obtain ⟨r52, h53, hf⟩ := bd_s hf
      refine ks_i (va_runV (As := [.int x7, .int x3, .int x4]) (rest := []) hcf (cz_X2_isToldBy l D k A ws (q + 89 + 1 + 2 * (Int32.toNatClampNeg x1)) ((sh (Int32.toNatClampNeg x1)).1) ((sh (Int32.toNatClampNeg x1)).2.1) ((sh (Int32.toNatClampNeg x1)).2.2) x7 x3 x4 r52 h53 h50) (cwV 3 hts gX6_lengths_X2_isToldBy rfl rfl rfl (by decide +kernel) ⟨Nat.le_of_ble_eq_true rfl, Nat.le_of_ble_eq_true rfl⟩) (pw_V hP hK hD (ci := 2) h50.1 rfl) rfl rfl hl.1 rfl (lv_room (Nat.le_of_ble_eq_true rfl)) dX6_lengths_96 ⟨Nat.zero_le _, Nat.zero_le _⟩) ?_
      refine lv_if_eq (tgt := 111) hx hb dX6_lengths_99 (by decide) (fun c54 => ?_) (fun c54 => ?_)
      · have hf := it_p c54 hf
        refine lv_iinc (v := (x7 + 1)) (lv' := [(7, .int (x7 + 1)), (0, .ref (A q)), (1, .int x1), (3, .int x3), (4, .int x4), (6, .int x6)]) hx hb dX6_lengths_111 hl (k := 5) rfl rfl (by decide) rfl (fun ls hl => ?_)
        refine lv_goto (tgt := 78) hx hb dX6_lengths_114 (by decide) ?_
        exact ih x6 (x7 + 1) _ hf (lv_sub hl [1, 2, 3, 4, 5, 0] rfl)
      · have hf := it_n c54 hf
        refine lv_iload hx hb dX6_lengths_102 (lv_at hl 4 rfl) ?_
        refine lv_iconst (v := 1) hx hb dX6_lengths_104 (by decide) ?_
        refine lv_iload hx hb dX6_lengths_105 (lv_at hl 5 rfl) ?_
        refine lv_ishl hx hb dX6_lengths_107 ?_
        refine lv_ior hx hb dX6_lengths_108 ?_
        refine lv_topi (fun y55 e56 => ?_)
        have hf := lt_s' e56 hf
        refine lv_istore (lv' := [(6, .int y55), (0, .ref (A q)), (1, .int x1), (3, .int x3), (4, .int x4), (7, .int x7)]) hx hb dX6_lengths_109 hl (by decide) rfl (fun ls hl => ?_)
        refine lv_iinc (v := (x7 + 1)) (lv' := [(7, .int (x7 + 1)), (6, .int y55), (0, .ref (A q)), (1, .int x1), (3, .int x3), (4, .int x4)]) hx hb dX6_lengths_111 hl (k := 5) rfl rfl (by decide) rfl (fun ls hl => ?_)
        refine lv_goto (tgt := 78) hx hb dX6_lengths_114 (by decide) ?_
        exact ih y55 (x7 + 1) _ hf (lv_sub hl [2, 3, 4, 5, 1, 0] rfl)

set_option maxHeartbeats 4000000 in
set_option maxRecDepth 100000 in
theorem cz_X6_lengths (l : Launch) (D : va_G) (k : kt_T) (A : Nat → Nat) (ws : va_W) (q : Nat)  (h_now_told_pl : Nat → Int64) (h_now_told_sz : Int32) (h_now_inUse_pl : Nat → Int64) (h_now_inUse_sz : Int32) (h_now_draw : Int32) (h_kn : Nat → mm_T) (h_size : Int32) (k_now_told_pl : Nat → Int64) (k_now_told_sz : Int32) (k_now_inUse_pl : Nat → Int64) (k_now_inUse_sz : Int32) (k_now_draw : Int32) (k_kn : Nat → mm_T) (k_size : Int32) (v_sent : Nat → Int32) (v_sentI : Nat → Int32) (v_best : Nat → Int32) (v_ease : Nat → Int32) (v_fromA : Nat → Int32) (v_vi_pl : Nat → Int64) (v_vi_sz : Int32) (v_vl_pl : Nat → Int64) (v_vl_sz : Int32) (t_letters : Nat → Int32) (t_tt_pl : Nat → Int64) (t_tt_sz : Int32) (t_size : Int32) (t_place : Int32) (t_number : Int32) (sh : Nat → ss_T) (hasImage : Int32) (viewIsOld : Int32) (p1 : Int32) (p2 : Int32) (p3 : Int32) (p4 : Int32) (out : Int32) (hf : pf_X6_lengths sh p1 p2 p3 p4 = some out) (h_this : is_X k A ws q h_now_told_pl h_now_told_sz h_now_inUse_pl h_now_inUse_sz h_now_draw h_kn h_size k_now_told_pl k_now_told_sz k_now_inUse_pl k_now_inUse_sz k_now_draw k_kn k_size v_sent v_sentI v_best v_ease v_fromA v_vi_pl v_vi_sz v_vl_pl v_vl_sz t_letters t_tt_pl t_tt_sz t_size t_place t_number sh hasImage viewIsOld)  : Met l yX6_lengths wsX6_lengths { frames := 2, cells := 0, slots := 0, locals := 49 } (va_Pc [.ref (A q), .int p1, .int p2, .int p3, .int p4] (pw_P D k ws)) (qs_Q (some (.int out))) 0 0 (fun _ => False) := by
  refine Met.ofW (cc := cX6_lengths) (maxL := 8) (ret := (some .int)) (by decide) rfl ?_
  intro p e s m args below meth c s₁ B hml hv
  obtain ⟨rfl, hP, hK, hD⟩ := hv
  have C0 : cx_P p s m meth c [.ref (A q), .int p1, .int p2, .int p3, .int p4].toArray cX6_lengths 8 wsX6_lengths RX6 (some .int) := ⟨B.exec, B.bytes, hml, findClass_of_methodNamed B.named, atoms_spec (ws := wsX6_lengths) B.pre, B.returns, B.notSynchronized⟩
  obtain ⟨hx, hb, hml, hown, hts, hr, hlocks⟩ := id C0
  have hcf : CallFix p m c cX6_lengths 8 s [.ref (A q), .int p1, .int p2, .int p3, .int p4].toArray wsX6_lengths RX6 := ⟨hx, hb, hml, hown, hts⟩
  have w_0 := hts (.fieldLink RX6 35 "LeastRoutes" "sheets" "[LLeastRoutes$Sheet;") (List.mem_of_getElem? (i := 1) rfl)
  have hl := lv_entry ([.ref (A q), .int p1, .int p2, .int p3, .int p4]) (n := 8) (Nat.le_of_ble_eq_true rfl)
  rw [lg_entry_eq]
  generalize (lg_sl ([.ref (A q), .int p1, .int p2, .int p3, .int p4]) ++ List.replicate (8 - (lg_sl ([.ref (A q), .int p1, .int p2, .int p3, .int p4])).length) Slot.unset).toArray = ls at hl ⊢
  have hl : lv_has ls 8 [(0, .ref (A q)), (1, .int p1), (2, .int p2), (3, .int p3), (4, .int p4)] := hl
  unfold pf_X6_lengths at hf
  refine lv_iload_n hx hb dX6_lengths_0 rfl (lv_at hl 1 rfl) ?_
  obtain ⟨r1, h2, hf⟩ := bd_s hf
  refine ks_i (va_runS (As := [.int p1]) (rest := []) hcf (cz_X6_isSheet l D k A ws p1 r1 h2) (va_cwS 1 hts gX6_lengths_X6_isSheet rfl rfl rfl (by decide +kernel) ⟨Nat.le_of_ble_eq_true rfl, Nat.le_of_ble_eq_true rfl⟩) (pw_S hP hK hD) rfl rfl hl.1 rfl (lv_room (Nat.le_of_ble_eq_true rfl)) dX6_lengths_1 ⟨Nat.zero_le _, Nat.zero_le _⟩) ?_
  refine lv_if_eq (tgt := 27) hx hb dX6_lengths_4 (by decide) (fun c3 => ?_) (fun c3 => ?_)
  · have hf := it_p c3 hf
    refine lv_iconst (v := (-1)) hx hb dX6_lengths_27 (by decide) ?_
    obtain rfl := so_i hf
    exact W.iret (v := (-1)) hx hb hr (fun t ht _ => ⟨rfl, ht⟩) (fun _ h => absurd h List.not_mem_nil) dX6_lengths_28
  · have hf := it_n c3 hf
    refine lv_iload_n hx hb dX6_lengths_7 rfl (lv_at hl 2 rfl) ?_
    obtain ⟨r4, h5, hf⟩ := bd_s hf
    refine ks_i (va_runS (As := [.int p2]) (rest := []) hcf (cz_X6_isLane l D k A ws p2 r4 h5) (va_cwS 1 hts gX6_lengths_X6_isLane rfl rfl rfl (by decide +kernel) ⟨Nat.le_of_ble_eq_true rfl, Nat.le_of_ble_eq_true rfl⟩) (pw_S hP hK hD) rfl rfl hl.1 rfl (lv_room (Nat.le_of_ble_eq_true rfl)) dX6_lengths_8 ⟨Nat.zero_le _, Nat.zero_le _⟩) ?_
    refine lv_if_eq (tgt := 27) hx hb dX6_lengths_11 (by decide) (fun c6 => ?_) (fun c6 => ?_)
    · have hf := it_p c6 hf
      refine lv_iconst (v := (-1)) hx hb dX6_lengths_27 (by decide) ?_
      obtain rfl := so_i hf
      exact W.iret (v := (-1)) hx hb hr (fun t ht _ => ⟨rfl, ht⟩) (fun _ h => absurd h List.not_mem_nil) dX6_lengths_28
    · have hf := it_n c6 hf
      refine lv_iload hx hb dX6_lengths_14 (lv_at hl 4 rfl) ?_
      refine lv_iconst (v := 1) hx hb dX6_lengths_16 (by decide) ?_
      refine lv_icmp_lt (tgt := 27) hx hb dX6_lengths_17 (by decide) (fun c7 => ?_) (fun c7 => ?_)
      · have hf := it_p c7 hf
        refine lv_iconst (v := (-1)) hx hb dX6_lengths_27 (by decide) ?_
        obtain rfl := so_i hf
        exact W.iret (v := (-1)) hx hb hr (fun t ht _ => ⟨rfl, ht⟩) (fun _ h => absurd h List.not_mem_nil) dX6_lengths_28
      · have hf := it_n c7 hf
        refine lv_iload hx hb dX6_lengths_20 (lv_at hl 4 rfl) ?_
        refine lv_bipush (v := 12) hx hb dX6_lengths_22 (by decide) ?_
        refine lv_icmp_le (tgt := 29) hx hb dX6_lengths_24 (by decide) (fun c8 => ?_) (fun c8 => ?_)
        · have hf := it_p c8 hf
          refine lv_aload_n hx hb dX6_lengths_29 rfl (lv_at hl 0 rfl) ?_
          obtain ⟨h9, h10, h11, h12, h13, h14⟩ := h_this
          refine va_get (D := D) (ci := 6) (v := .ref (A (q + 89))) (C := RX6) (T := TX6) (N := 7) hx hb hts in_X6_lengths_X6 hown hK.1 hP (q) h9 rfl 4 (by decide) w_0 (fun _ h9 => h9) rfl dX6_lengths_30 ?_
          refine lv_iload_n hx hb dX6_lengths_33 rfl (lv_at hl 1 rfl) ?_
          obtain ⟨z15, hf⟩ := ck_s hf
          obtain ⟨h16, h17, h18, h19, h21, h22⟩ := is_Z_get h14 (in_s z15)
          refine va_aldq hx hb hK.1 hP (q + 89) 3 h17 rfl (in_s z15) dX6_lengths_34 ?_
          refine W.eq (g2 := F0 m 35 ls [.ref (A (q + 89 + 1 + 2 * (Int32.toNatClampNeg p1)))]) (by rw [h18]; rfl) ?_
          refine lv_iload_n hx hb dX6_lengths_35 rfl (lv_at hl 2 rfl) ?_
          refine lv_iload_n hx hb dX6_lengths_36 rfl (lv_at hl 3 rfl) ?_
          refine lv_iconst (v := 2) hx hb dX6_lengths_37 (by decide) ?_
          refine lv_iload hx hb dX6_lengths_38 (lv_at hl 4 rfl) ?_
          refine lv_imul hx hb dX6_lengths_40 ?_
          obtain ⟨r23, h24, hf⟩ := bd_s hf
          refine ks_i (va_runV (As := [.int p2, .int p3, .int (2 * p4)]) (rest := []) hcf (cz_X2_refusal l D k A ws (q + 89 + 1 + 2 * (Int32.toNatClampNeg p1)) ((sh (Int32.toNatClampNeg p1)).1) ((sh (Int32.toNatClampNeg p1)).2.1) ((sh (Int32.toNatClampNeg p1)).2.2) p2 p3 (2 * p4) r23 h24 h21) (cwV 3 hts gX6_lengths_X2_refusal rfl rfl rfl (by decide +kernel) ⟨Nat.le_of_ble_eq_true rfl, Nat.le_of_ble_eq_true rfl⟩) (pw_V hP hK hD (ci := 2) h21.1 rfl) rfl rfl hl.1 rfl (lv_room (Nat.le_of_ble_eq_true rfl)) dX6_lengths_41 ⟨Nat.zero_le _, Nat.zero_le _⟩) ?_
          refine lv_istore (lv' := [(5, .int r23), (0, .ref (A q)), (1, .int p1), (2, .int p2), (3, .int p3), (4, .int p4)]) hx hb dX6_lengths_44 hl (by decide) rfl (fun ls hl => ?_)
          refine lv_iload hx hb dX6_lengths_46 (lv_at hl 0 rfl) ?_
          refine lv_if_eq (tgt := 54) hx hb dX6_lengths_48 (by decide) (fun c25 => ?_) (fun c25 => ?_)
          · have hf := it_p c25 hf
            refine lv_aload_n hx hb dX6_lengths_54 rfl (lv_at hl 1 rfl) ?_
            refine va_get (D := D) (ci := 6) (v := .ref (A (q + 89))) (C := RX6) (T := TX6) (N := 7) hx hb hts in_X6_lengths_X6 hown hK.1 hP (q) h9 rfl 4 (by decide) w_0 (fun _ h9 => h9) rfl dX6_lengths_55 ?_
            refine lv_iload_n hx hb dX6_lengths_58 rfl (lv_at hl 2 rfl) ?_
            obtain ⟨z26, hf⟩ := ck_s hf
            obtain ⟨h27, h28, h29, h30, h32, h33⟩ := is_Z_get h14 (in_s z26)
            refine va_aldq hx hb hK.1 hP (q + 89) 3 h28 rfl (in_s z26) dX6_lengths_59 ?_
            refine W.eq (g2 := F0 m 60 ls [.ref (A (q + 89 + 1 + 2 * (Int32.toNatClampNeg p1)))]) (by rw [h29]; rfl) ?_
            refine lv_iload_n hx hb dX6_lengths_60 rfl (lv_at hl 4 rfl) ?_
            refine lv_iload hx hb dX6_lengths_61 (lv_at hl 5 rfl) ?_
            obtain ⟨r34, h35, hf⟩ := bd_s hf
            refine ks_i (va_runV (As := [.int p3, .int p4]) (rest := []) hcf (cz_X2_holdsPairs l D k A ws (q + 89 + 1 + 2 * (Int32.toNatClampNeg p1)) ((sh (Int32.toNatClampNeg p1)).1) ((sh (Int32.toNatClampNeg p1)).2.1) ((sh (Int32.toNatClampNeg p1)).2.2) p3 p4 r34 h35 h32) (cwV 2 hts gX6_lengths_X2_holdsPairs rfl rfl rfl (by decide +kernel) ⟨Nat.le_of_ble_eq_true rfl, Nat.le_of_ble_eq_true rfl⟩) (pw_V hP hK hD (ci := 2) h32.1 rfl) rfl rfl hl.1 rfl (lv_room (Nat.le_of_ble_eq_true rfl)) dX6_lengths_63 ⟨Nat.zero_le _, Nat.zero_le _⟩) ?_
            refine lv_if_ne (tgt := 72) hx hb dX6_lengths_66 (by decide) (fun c36 => ?_) (fun c36 => ?_)
            · have hf := it_n c36 hf
              refine lv_iconst (v := 0) hx hb dX6_lengths_72 (by decide) ?_
              refine lv_istore (lv' := [(6, .int 0), (5, .int r23), (0, .ref (A q)), (1, .int p1), (2, .int p2), (3, .int p3), (4, .int p4)]) hx hb dX6_lengths_73 hl (by decide) rfl (fun ls hl => ?_)
              refine lv_iconst (v := 0) hx hb dX6_lengths_75 (by decide) ?_
              refine lv_istore (lv' := [(7, .int 0), (6, .int 0), (5, .int r23), (0, .ref (A q)), (1, .int p1), (2, .int p2), (3, .int p3), (4, .int p4)]) hx hb dX6_lengths_76 hl (by decide) rfl (fun ls hl => ?_)
              have h57 : is_X k A ws (q) h_now_told_pl h_now_told_sz h_now_inUse_pl h_now_inUse_sz h_now_draw h_kn h_size k_now_told_pl k_now_told_sz k_now_inUse_pl k_now_inUse_sz k_now_draw k_kn k_size v_sent v_sentI v_best v_ease v_fromA v_vi_pl v_vi_sz v_vl_pl v_vl_sz t_letters t_tt_pl t_tt_sz t_size t_place t_number sh hasImage viewIsOld := ⟨h9, h10, h11, h12, h13, h14⟩
              exact wl_X6_lengths_78 l D k A ws q _ hK C0 h_now_told_pl h_now_told_sz h_now_inUse_pl h_now_inUse_sz h_now_draw h_kn h_size k_now_told_pl k_now_told_sz k_now_inUse_pl k_now_inUse_sz k_now_draw k_kn k_size v_sent v_sentI v_best v_ease v_fromA v_vi_pl v_vi_sz v_vl_pl v_vl_sz t_letters t_tt_pl t_tt_sz t_size t_place t_number sh hasImage viewIsOld p1 p3 p4 h57 hP hD fu_N 0 0 _ hf (lv_sub hl [3, 4, 6, 7, 1, 0] rfl)
            · have hf := it_p c36 hf
              refine lv_bipush (v := (-2)) hx hb dX6_lengths_69 (by decide) ?_
              obtain rfl := so_i hf
              exact W.iret (v := (-2)) hx hb hr (fun t ht _ => ⟨rfl, ht⟩) (fun _ h => absurd h List.not_mem_nil) dX6_lengths_71
          · have hf := it_n c25 hf
            refine lv_iload hx hb dX6_lengths_51 (lv_at hl 0 rfl) ?_
            obtain rfl := so_i hf
            exact W.iret (v := r23) hx hb hr (fun t ht _ => ⟨rfl, ht⟩) (fun _ h => absurd h List.not_mem_nil) dX6_lengths_53
        · have hf := it_n c8 hf
          refine lv_iconst (v := (-1)) hx hb dX6_lengths_27 (by decide) ?_
          obtain rfl := so_i hf
          exact W.iret (v := (-1)) hx hb hr (fun t ht _ => ⟨rfl, ht⟩) (fun _ h => absurd h List.not_mem_nil) dX6_lengths_28

theorem in_X6_film_X6 : ∀ w ∈ u_ws RX6 TX6 7, w ∈ wsX6_film := fun w h => List.mem_cons_of_mem _ (List.mem_append_left _ (List.mem_append_left _ (List.mem_append_left _ (List.mem_append_left _ (List.mem_append_left _ (List.mem_append_right _ h))))))
def lp_X6_film_83  (v_sent : Nat → Int32) (v_sentI : Nat → Int32) (v_best : Nat → Int32) (v_ease : Nat → Int32) (v_fromA : Nat → Int32) (v_vi_pl : Nat → Int64) (v_vi_sz : Int32) (v_vl_pl : Nat → Int64) (v_vl_sz : Int32) (viewIsOld : Int32) (x1 : Int32) (x2 : Int32) (x3 : Int32) (x5 : Int32) : Nat → (Nat → ss_T) → Int32 → Option (Int32 × (Nat → Int32) × (Nat → Int32) × (Nat → Int32) × (Nat → Int32) × (Nat → Int32) × (Nat → Int64) × Int32 × (Nat → Int64) × Int32 × (Nat → ss_T) × Int32)
  | 0, _, _ => none
  | n + 1, sh, x8 =>
    if x2 ≤ x8 then
      some ((2 * x2), v_sent, v_sentI, v_best, v_ease, v_fromA, v_vi_pl, v_vi_sz, v_vl_pl, v_vl_sz, sh, viewIsOld)
    else
      (pf_X3_numberOf v_vl_pl (x1 + x8)).bind (fun r61 =>
        ck_O (in_b x3 4) (
          (pf_X2_setItem ((sh (Int32.toNatClampNeg x3)).1) ((sh (Int32.toNatClampNeg x3)).2.1) ((sh (Int32.toNatClampNeg x3)).2.2) (x5 + (2 * x8)) (Int32.toInt64 r61)).bind (fun r71 =>
            ck_O (in_b x3 4) (
              (pf_X3_hopAt v_vl_pl r61).bind (fun r88 =>
                (pf_X2_setItem (((va_up sh (Int32.toNatClampNeg x3) (r71, (sh (Int32.toNatClampNeg x3)).2.1, (sh (Int32.toNatClampNeg x3)).2.2)) (Int32.toNatClampNeg x3)).1) (((va_up sh (Int32.toNatClampNeg x3) (r71, (sh (Int32.toNatClampNeg x3)).2.1, (sh (Int32.toNatClampNeg x3)).2.2)) (Int32.toNatClampNeg x3)).2.1) (((va_up sh (Int32.toNatClampNeg x3) (r71, (sh (Int32.toNatClampNeg x3)).2.1, (sh (Int32.toNatClampNeg x3)).2.2)) (Int32.toNatClampNeg x3)).2.2) ((x5 + (2 * x8)) + 1) (Int32.toInt64 r88)).bind (fun r90 =>
                  lp_X6_film_83 v_sent v_sentI v_best v_ease v_fromA v_vi_pl v_vi_sz v_vl_pl v_vl_sz viewIsOld x1 x2 x3 x5 n (va_up (va_up sh (Int32.toNatClampNeg x3) (r71, (sh (Int32.toNatClampNeg x3)).2.1, (sh (Int32.toNatClampNeg x3)).2.2)) (Int32.toNatClampNeg x3) (r90, ((va_up sh (Int32.toNatClampNeg x3) (r71, (sh (Int32.toNatClampNeg x3)).2.1, (sh (Int32.toNatClampNeg x3)).2.2)) (Int32.toNatClampNeg x3)).2.1, ((va_up sh (Int32.toNatClampNeg x3) (r71, (sh (Int32.toNatClampNeg x3)).2.1, (sh (Int32.toNatClampNeg x3)).2.2)) (Int32.toNatClampNeg x3)).2.2)) (x8 + 1)))))))

def pf_X6_film (h_now_told_pl : Nat → Int64) (h_now_inUse_pl : Nat → Int64) (h_now_inUse_sz : Int32) (v_sent : Nat → Int32) (v_sentI : Nat → Int32) (v_best : Nat → Int32) (v_ease : Nat → Int32) (v_fromA : Nat → Int32) (v_vi_pl : Nat → Int64) (v_vi_sz : Int32) (v_vl_pl : Nat → Int64) (v_vl_sz : Int32) (sh : Nat → ss_T) (viewIsOld : Int32)  (p1 : Int32) (p2 : Int32) (p3 : Int32) (p4 : Int32) (p5 : Int32) : Option (Int32 × (Nat → Int32) × (Nat → Int32) × (Nat → Int32) × (Nat → Int32) × (Nat → Int32) × (Nat → Int64) × Int32 × (Nat → Int64) × Int32 × (Nat → ss_T) × Int32) :=
  if p1 < 0 then
    some ((-1), v_sent, v_sentI, v_best, v_ease, v_fromA, v_vi_pl, v_vi_sz, v_vl_pl, v_vl_sz, sh, viewIsOld)
  else
    if p2 < 0 then
      some ((-1), v_sent, v_sentI, v_best, v_ease, v_fromA, v_vi_pl, v_vi_sz, v_vl_pl, v_vl_sz, sh, viewIsOld)
    else
      if 12 < p2 then
        some ((-1), v_sent, v_sentI, v_best, v_ease, v_fromA, v_vi_pl, v_vi_sz, v_vl_pl, v_vl_sz, sh, viewIsOld)
      else
        (pf_X6_isSheet p3).bind (fun r4 =>
          if r4 = 0 then
            some ((-1), v_sent, v_sentI, v_best, v_ease, v_fromA, v_vi_pl, v_vi_sz, v_vl_pl, v_vl_sz, sh, viewIsOld)
          else
            (pf_X6_isLane p4).bind (fun r7 =>
              if r7 = 0 then
                some ((-1), v_sent, v_sentI, v_best, v_ease, v_fromA, v_vi_pl, v_vi_sz, v_vl_pl, v_vl_sz, sh, viewIsOld)
              else
                (pf_X6_freshView h_now_told_pl h_now_inUse_pl h_now_inUse_sz v_sent v_sentI v_best v_ease v_fromA v_vi_pl v_vi_sz v_vl_pl v_vl_sz viewIsOld).bind (fun r10 =>
                  (pf_X3_howMany r10.2.2.2.2.2.2.2.2.1).bind (fun r32 =>
                    if p1 ≤ (r32 - p2) then
                      ck_O (in_b p3 4) (
                        (pf_X2_refusal ((sh (Int32.toNatClampNeg p3)).2.1) ((sh (Int32.toNatClampNeg p3)).2.2) p4 p5 (2 * p2)).bind (fun r43 =>
                          if r43 = 0 then
                            lp_X6_film_83 r10.1 r10.2.1 r10.2.2.1 r10.2.2.2.1 r10.2.2.2.2.1 r10.2.2.2.2.2.1 r10.2.2.2.2.2.2.1 r10.2.2.2.2.2.2.2.1 r10.2.2.2.2.2.2.2.2.1 r10.2.2.2.2.2.2.2.2.2 p1 p2 p3 p5 fu_N sh 0
                          else
                            some (r43, r10.1, r10.2.1, r10.2.2.1, r10.2.2.2.1, r10.2.2.2.2.1, r10.2.2.2.2.2.1, r10.2.2.2.2.2.2.1, r10.2.2.2.2.2.2.2.1, r10.2.2.2.2.2.2.2.2.1, sh, r10.2.2.2.2.2.2.2.2.2)))
                    else
                      some ((-2), r10.1, r10.2.1, r10.2.2.1, r10.2.2.2.1, r10.2.2.2.2.1, r10.2.2.2.2.2.1, r10.2.2.2.2.2.2.1, r10.2.2.2.2.2.2.2.1, r10.2.2.2.2.2.2.2.2.1, sh, r10.2.2.2.2.2.2.2.2.2)))))

set_option maxHeartbeats 4000000 in
set_option maxRecDepth 100000 in
theorem wl_X6_film_83 {p : Program} {e : Env} {s : State} {m : MethodId} {args : Array Value} {below : List Frame} {meth : Method} {c : Code} (l : Launch) (D : va_G) (k : kt_T) (A : Nat → Nat) (ws : va_W) (q : Nat)  (out : Int32 × (Nat → Int32) × (Nat → Int32) × (Nat → Int32) × (Nat → Int32) × (Nat → Int32) × (Nat → Int64) × Int32 × (Nat → Int64) × Int32 × (Nat → ss_T) × Int32) (hK : kk_P D k s) (C0 : cx_P p s m meth c args cX6_film 10 wsX6_film RX6 (some .int))  (h_now_told_pl : Nat → Int64) (h_now_told_sz : Int32) (h_now_inUse_pl : Nat → Int64) (h_now_inUse_sz : Int32) (h_now_draw : Int32) (h_kn : Nat → mm_T) (h_size : Int32) (k_now_told_pl : Nat → Int64) (k_now_told_sz : Int32) (k_now_inUse_pl : Nat → Int64) (k_now_inUse_sz : Int32) (k_now_draw : Int32) (k_kn : Nat → mm_T) (k_size : Int32) (v_sent : Nat → Int32) (v_sentI : Nat → Int32) (v_best : Nat → Int32) (v_ease : Nat → Int32) (v_fromA : Nat → Int32) (v_vi_pl : Nat → Int64) (v_vi_sz : Int32) (v_vl_pl : Nat → Int64) (v_vl_sz : Int32) (t_letters : Nat → Int32) (t_tt_pl : Nat → Int64) (t_tt_sz : Int32) (t_size : Int32) (t_place : Int32) (t_number : Int32) (hasImage : Int32) (viewIsOld : Int32) (x1 : Int32) (x2 : Int32) (x3 : Int32) (x5 : Int32)    : ∀ (n : Nat) (sh : Nat → ss_T) (x8 : Int32) (w : va_W) (H : Heap) (locs : List Loc) (ls : Array Slot), lp_X6_film_83 v_sent v_sentI v_best v_ease v_fromA v_vi_pl v_vi_sz v_vl_pl v_vl_sz viewIsOld x1 x2 x3 x5 n sh x8 = some out → is_X k A w q h_now_told_pl h_now_told_sz h_now_inUse_pl h_now_inUse_sz h_now_draw h_kn h_size k_now_told_pl k_now_told_sz k_now_inUse_pl k_now_inUse_sz k_now_draw k_kn k_size v_sent v_sentI v_best v_ease v_fromA v_vi_pl v_vi_sz v_vl_pl v_vl_sz t_letters t_tt_pl t_tt_sz t_size t_place t_number sh hasImage viewIsOld → sm_W ws w q (q + 98) → va_P D vwCl w H → va_D (va_A ws s.heap.size) w → va_S (va_A ws s.heap.size) s.heap H locs → lv_has ls 10 [(0, .ref (A q)), (1, .int x1), (2, .int x2), (3, .int x3), (5, .int x5), (6, .ref (A (q + 75 + 8))), (8, .int x8)] → W p l e (headSpec wsX6_film { frames := 5, cells := 0, slots := 0, locals := 123 }).room s m args below meth c H locs 0 0 (MQ below (qw_Q D ws s.heap.size (some (.int out.1)) (fun u => is_X k A u q h_now_told_pl h_now_told_sz h_now_inUse_pl h_now_inUse_sz h_now_draw h_kn h_size k_now_told_pl k_now_told_sz k_now_inUse_pl k_now_inUse_sz k_now_draw k_kn k_size out.2.1 out.2.2.1 out.2.2.2.1 out.2.2.2.2.1 out.2.2.2.2.2.1 out.2.2.2.2.2.2.1 out.2.2.2.2.2.2.2.1 out.2.2.2.2.2.2.2.2.1 out.2.2.2.2.2.2.2.2.2.1 t_letters t_tt_pl t_tt_sz t_size t_place t_number out.2.2.2.2.2.2.2.2.2.2.1 hasImage out.2.2.2.2.2.2.2.2.2.2.2 ∧ sm_W ws u q (q + 98))) args s 0 0 (va_A ws s.heap.size)) (F0 m 83 ls []) := by
  obtain ⟨hx, hb, hml, hown, hts, hr, hlocks⟩ := id C0
  have hcf : CallFix p m c cX6_film 10 s args wsX6_film RX6 := ⟨hx, hb, hml, hown, hts⟩
  have hA : ∀ q, s.heap.size ≤ q → va_A ws s.heap.size q := fun q h => Or.inr h
  have w_0 := hts (.fieldLink RX6 35 "LeastRoutes" "sheets" "[LLeastRoutes$Sheet;") (List.mem_of_getElem? (i := 1) rfl)
  intro n
  induction n with
  | zero =>
    intro sh x8 w H locs ls hf h_this hsm hP hD hS hl
    exact (no_s hf).elim
  | succ n ih =>
    intro sh x8 w H locs ls hf h_this hsm hP hD hS hl
    rw [lp_X6_film_83] at hf
    refine lv_iload hx hb dX6_film_83 (lv_at hl 6 rfl) ?_
    refine lv_iload_n hx hb dX6_film_85 rfl (lv_at hl 2 rfl) ?_
    refine lv_icmp_ge (tgt := 151) hx hb dX6_film_86 (by decide) (fun c46 => ?_) (fun c46 => ?_)
    · have hf := it_p c46 hf
      refine lv_iconst (v := 2) hx hb dX6_film_151 (by decide) ?_
      refine lv_iload_n hx hb dX6_film_152 rfl (lv_at hl 2 rfl) ?_
      refine lv_imul hx hb dX6_film_153 ?_
      obtain rfl := so_i hf
      exact W.iret (v := (2 * x2)) hx hb hr (qw_end hS hP hD ⟨h_this, hsm⟩) hS.2.2 dX6_film_154
    · have hf := it_n c46 hf
      refine lv_aload hx hb dX6_film_89 (lv_at hl 5 rfl) ?_
      refine lv_iload_n hx hb dX6_film_91 rfl (lv_at hl 1 rfl) ?_
      refine lv_iload hx hb dX6_film_92 (lv_at hl 6 rfl) ?_
      refine lv_iadd hx hb dX6_film_94 ?_
      obtain ⟨h47, h48, h49, h50, h51, h52⟩ := h_this
      obtain ⟨h53, h54, h55, h56, h57, h58, h59, h60⟩ := h50
      obtain ⟨r61, h62, hf⟩ := bd_s hf
      refine ks_i (va_runV (As := [.int (x1 + x8)]) (rest := []) hcf (cz_X3_numberOf l D k A w (q + 75 + 8) v_vl_pl v_vl_sz (x1 + x8) r61 h62 h60) (cwV 1 hts gX6_film_X3_numberOf rfl rfl rfl (by decide +kernel) ⟨Nat.le_of_ble_eq_true rfl, Nat.le_of_ble_eq_true rfl⟩) (pw_V hP hK hD (ci := 3) h60.1 rfl) rfl rfl hl.1 rfl (lv_room (Nat.le_of_ble_eq_true rfl)) dX6_film_95 ⟨Nat.zero_le _, Nat.zero_le _⟩) ?_
      refine lv_istore (lv' := [(9, .int r61), (0, .ref (A q)), (1, .int x1), (2, .int x2), (3, .int x3), (5, .int x5), (6, .ref (A (q + 75 + 8))), (8, .int x8)]) hx hb dX6_film_98 hl (by decide) rfl (fun ls hl => ?_)
      refine lv_aload_n hx hb dX6_film_100 rfl (lv_at hl 1 rfl) ?_
      refine va_get (D := D) (ci := 6) (v := .ref (A (q + 89))) (C := RX6) (T := TX6) (N := 7) hx hb hts in_X6_film_X6 hown hK.1 hP (q) h47 rfl 4 (by decide) w_0 (fun _ h9 => h9) rfl dX6_film_101 ?_
      refine lv_iload_n hx hb dX6_film_104 rfl (lv_at hl 4 rfl) ?_
      obtain ⟨z63, hf⟩ := ck_s hf
      obtain ⟨h64, h65, h66, h67, h69, h70⟩ := is_Z_get h52 (in_s z63)
      refine va_aldq hx hb hK.1 hP (q + 89) 3 h65 rfl (in_s z63) dX6_film_105 ?_
      refine W.eq (g2 := F0 m 106 ls [.ref (A (q + 89 + 1 + 2 * (Int32.toNatClampNeg x3)))]) (by rw [h66]; rfl) ?_
      refine lv_iload hx hb dX6_film_106 (lv_at hl 5 rfl) ?_
      refine lv_iconst (v := 2) hx hb dX6_film_108 (by decide) ?_
      refine lv_iload hx hb dX6_film_109 (lv_at hl 7 rfl) ?_
      refine lv_imul hx hb dX6_film_111 ?_
      refine lv_iadd hx hb dX6_film_112 ?_
      refine lv_iload hx hb dX6_film_113 (lv_at hl 0 rfl) ?_
      refine lv_i2l hx hb dX6_film_115 rfl ?_
      obtain ⟨r71, h72, hf⟩ := bd_s hf
      refine kw_v (va_runV (As := [.int (x5 + (2 * x8)), .long (Int32.toInt64 r61)]) (rest := []) hcf (cz_X2_setItem l D k A w (q + 89 + 1 + 2 * (Int32.toNatClampNeg x3)) ((sh (Int32.toNatClampNeg x3)).1) ((sh (Int32.toNatClampNeg x3)).2.1) ((sh (Int32.toNatClampNeg x3)).2.2) (x5 + (2 * x8)) (Int32.toInt64 r61) r71 h72 h69 _) (cwV 2 hts gX6_film_X2_setItem rfl rfl rfl (by decide +kernel) ⟨Nat.le_of_ble_eq_true rfl, Nat.le_of_ble_eq_true rfl⟩) (px_V hP hK hD (ci := 2) h69.1 rfl) rfl rfl hl.1 rfl (lv_room (Nat.le_of_ble_eq_true rfl)) dX6_film_116 ⟨Nat.zero_le _, Nat.zero_le _⟩) hD hS hA (fun u73 _ _ h74 hP hD hS => ?_)
      obtain ⟨h76, m75⟩ := h74
      have hsm := sm_tr hsm m75 (by omega) (by omega)
      have h77 : is_Z k A u73 (q + 89) (va_up sh (Int32.toNatClampNeg x3) (r71, (sh (Int32.toNatClampNeg x3)).2.1, (sh (Int32.toNatClampNeg x3)).2.2)) := h70 _ (r71, (sh (Int32.toNatClampNeg x3)).2.1, (sh (Int32.toNatClampNeg x3)).2.2) h76 m75
      refine lv_aload_n hx hb dX6_film_119 rfl (lv_at hl 1 rfl) ?_
      have h78 := sm_at m75 (by omega) h47
      refine va_get (D := D) (ci := 6) (v := .ref (A (q + 89))) (C := RX6) (T := TX6) (N := 7) hx hb hts in_X6_film_X6 hown hK.1 hP (q) h78 rfl 4 (by decide) w_0 (fun _ h9 => h9) rfl dX6_film_120 ?_
      refine lv_iload_n hx hb dX6_film_123 rfl (lv_at hl 4 rfl) ?_
      obtain ⟨z79, hf⟩ := ck_s hf
      obtain ⟨h80, h81, h82, h83, h85, h86⟩ := is_Z_get h77 (in_s z79)
      refine va_aldq hx hb hK.1 hP (q + 89) 3 h81 rfl (in_s z79) dX6_film_124 ?_
      refine W.eq (g2 := F0 m 125 ls [.ref (A (q + 89 + 1 + 2 * (Int32.toNatClampNeg x3)))]) (by rw [h82]; rfl) ?_
      refine lv_iload hx hb dX6_film_125 (lv_at hl 5 rfl) ?_
      refine lv_iconst (v := 2) hx hb dX6_film_127 (by decide) ?_
      refine lv_iload hx hb dX6_film_128 (lv_at hl 7 rfl) ?_
      refine lv_imul hx hb dX6_film_130 ?_
      refine lv_iadd hx hb dX6_film_131 ?_
      refine lv_iconst (v := 1) hx hb dX6_film_132 (by decide) ?_
      refine lv_iadd hx hb dX6_film_133 ?_
      refine lv_aload hx hb dX6_film_134 (lv_at hl 6 rfl) ?_
      refine lv_iload hx hb dX6_film_136 (lv_at hl 0 rfl) ?_
      have h87 := is_T_tr h60 m75 (by omega)
      obtain ⟨r88, h89, hf⟩ := bd_s hf
      refine ks_i (va_runV (As := [.int r61]) (rest := [.int ((x5 + (2 * x8)) + 1), .ref (A (q + 89 + 1 + 2 * (Int32.toNatClampNeg x3)))]) hcf (cz_X3_hopAt l D k A u73 (q + 75 + 8) v_vl_pl v_vl_sz r61 r88 h89 h87) (cwV 1 hts gX6_film_X3_hopAt rfl rfl rfl (by decide +kernel) ⟨Nat.le_of_ble_eq_true rfl, Nat.le_of_ble_eq_true rfl⟩) (pw_V hP hK hD (ci := 3) h87.1 rfl) rfl rfl hl.1 rfl (lv_room (Nat.le_of_ble_eq_true rfl)) dX6_film_138 ⟨Nat.zero_le _, Nat.zero_le _⟩) ?_
      refine lv_i2l hx hb dX6_film_141 rfl ?_
      obtain ⟨r90, h91, hf⟩ := bd_s hf
      refine kw_v (va_runV (As := [.int ((x5 + (2 * x8)) + 1), .long (Int32.toInt64 r88)]) (rest := []) hcf (cz_X2_setItem l D k A u73 (q + 89 + 1 + 2 * (Int32.toNatClampNeg x3)) (((va_up sh (Int32.toNatClampNeg x3) (r71, (sh (Int32.toNatClampNeg x3)).2.1, (sh (Int32.toNatClampNeg x3)).2.2)) (Int32.toNatClampNeg x3)).1) (((va_up sh (Int32.toNatClampNeg x3) (r71, (sh (Int32.toNatClampNeg x3)).2.1, (sh (Int32.toNatClampNeg x3)).2.2)) (Int32.toNatClampNeg x3)).2.1) (((va_up sh (Int32.toNatClampNeg x3) (r71, (sh (Int32.toNatClampNeg x3)).2.1, (sh (Int32.toNatClampNeg x3)).2.2)) (Int32.toNatClampNeg x3)).2.2) ((x5 + (2 * x8)) + 1) (Int32.toInt64 r88) r90 h91 h85 _) (cwV 2 hts gX6_film_X2_setItem rfl rfl rfl (by decide +kernel) ⟨Nat.le_of_ble_eq_true rfl, Nat.le_of_ble_eq_true rfl⟩) (px_V hP hK hD (ci := 2) h85.1 rfl) rfl rfl hl.1 rfl (lv_room (Nat.le_of_ble_eq_true rfl)) dX6_film_142 ⟨Nat.zero_le _, Nat.zero_le _⟩) hD hS hA (fun u92 _ _ h93 hP hD hS => ?_)
      obtain ⟨h95, m94⟩ := h93
      have hsm := sm_tr hsm m94 (by omega) (by omega)
      have h96 : is_Z k A u92 (q + 89) (va_up (va_up sh (Int32.toNatClampNeg x3) (r71, (sh (Int32.toNatClampNeg x3)).2.1, (sh (Int32.toNatClampNeg x3)).2.2)) (Int32.toNatClampNeg x3) (r90, ((va_up sh (Int32.toNatClampNeg x3) (r71, (sh (Int32.toNatClampNeg x3)).2.1, (sh (Int32.toNatClampNeg x3)).2.2)) (Int32.toNatClampNeg x3)).2.1, ((va_up sh (Int32.toNatClampNeg x3) (r71, (sh (Int32.toNatClampNeg x3)).2.1, (sh (Int32.toNatClampNeg x3)).2.2)) (Int32.toNatClampNeg x3)).2.2)) := h86 _ (r90, ((va_up sh (Int32.toNatClampNeg x3) (r71, (sh (Int32.toNatClampNeg x3)).2.1, (sh (Int32.toNatClampNeg x3)).2.2)) (Int32.toNatClampNeg x3)).2.1, ((va_up sh (Int32.toNatClampNeg x3) (r71, (sh (Int32.toNatClampNeg x3)).2.1, (sh (Int32.toNatClampNeg x3)).2.2)) (Int32.toNatClampNeg x3)).2.2) h95 m94
      refine lv_iinc (v := (x8 + 1)) (lv' := [(8, .int (x8 + 1)), (9, .int r61), (0, .ref (A q)), (1, .int x1), (2, .int x2), (3, .int x3), (5, .int x5), (6, .ref (A (q + 75 + 8)))]) hx hb dX6_film_145 hl (k := 7) rfl rfl (by decide) rfl (fun ls hl => ?_)
      refine lv_goto (tgt := 83) hx hb dX6_film_148 (by decide) ?_
      have h97 := sm_at m94 (by omega) h78
      have h98 := is_H_tr h48 m75 (by omega)
      have h99 := is_H_tr h98 m94 (by omega)
      have h100 := is_H_tr h49 m75 (by omega)
      have h101 := is_H_tr h100 m94 (by omega)
      have h102 := sm_at m75 (by omega) h53
      have h103 := sm_at m94 (by omega) h102
      have h104 := sm_at m75 (by omega) h54
      have h105 := sm_at m94 (by omega) h104
      have h106 := sm_at m75 (by omega) h55
      have h107 := sm_at m94 (by omega) h106
      have h108 := sm_at m75 (by omega) h56
      have h109 := sm_at m94 (by omega) h108
      have h110 := sm_at m75 (by omega) h57
      have h111 := sm_at m94 (by omega) h110
      have h112 := sm_at m75 (by omega) h58
      have h113 := sm_at m94 (by omega) h112
      have h114 := is_T_tr h59 m75 (by omega)
      have h115 := is_T_tr h114 m94 (by omega)
      have h116 := is_T_tr h87 m94 (by omega)
      have h117 : is_V k A u92 (q + 75) v_sent v_sentI v_best v_ease v_fromA v_vi_pl v_vi_sz v_vl_pl v_vl_sz := ⟨h103, h105, h107, h109, h111, h113, h115, h116⟩
      have h118 := is_P_tr h51 m75 (by omega)
      have h119 := is_P_tr h118 m94 (by omega)
      have h120 : is_X k A u92 (q) h_now_told_pl h_now_told_sz h_now_inUse_pl h_now_inUse_sz h_now_draw h_kn h_size k_now_told_pl k_now_told_sz k_now_inUse_pl k_now_inUse_sz k_now_draw k_kn k_size v_sent v_sentI v_best v_ease v_fromA v_vi_pl v_vi_sz v_vl_pl v_vl_sz t_letters t_tt_pl t_tt_sz t_size t_place t_number (va_up (va_up sh (Int32.toNatClampNeg x3) (r71, (sh (Int32.toNatClampNeg x3)).2.1, (sh (Int32.toNatClampNeg x3)).2.2)) (Int32.toNatClampNeg x3) (r90, ((va_up sh (Int32.toNatClampNeg x3) (r71, (sh (Int32.toNatClampNeg x3)).2.1, (sh (Int32.toNatClampNeg x3)).2.2)) (Int32.toNatClampNeg x3)).2.1, ((va_up sh (Int32.toNatClampNeg x3) (r71, (sh (Int32.toNatClampNeg x3)).2.1, (sh (Int32.toNatClampNeg x3)).2.2)) (Int32.toNatClampNeg x3)).2.2)) hasImage viewIsOld := ⟨h97, h99, h101, h117, h119, h96⟩
      exact ih (va_up (va_up sh (Int32.toNatClampNeg x3) (r71, (sh (Int32.toNatClampNeg x3)).2.1, (sh (Int32.toNatClampNeg x3)).2.2)) (Int32.toNatClampNeg x3) (r90, ((va_up sh (Int32.toNatClampNeg x3) (r71, (sh (Int32.toNatClampNeg x3)).2.1, (sh (Int32.toNatClampNeg x3)).2.2)) (Int32.toNatClampNeg x3)).2.1, ((va_up sh (Int32.toNatClampNeg x3) (r71, (sh (Int32.toNatClampNeg x3)).2.1, (sh (Int32.toNatClampNeg x3)).2.2)) (Int32.toNatClampNeg x3)).2.2)) (x8 + 1) _ _ _ _ hf h120 hsm hP hD hS (lv_sub hl [2, 3, 4, 5, 6, 7, 0] rfl)

set_option maxHeartbeats 4000000 in
set_option maxRecDepth 100000 in
theorem cz_X6_film (l : Launch) (D : va_G) (k : kt_T) (A : Nat → Nat) (ws : va_W) (q : Nat)  (h_now_told_pl : Nat → Int64) (h_now_told_sz : Int32) (h_now_inUse_pl : Nat → Int64) (h_now_inUse_sz : Int32) (h_now_draw : Int32) (h_kn : Nat → mm_T) (h_size : Int32) (k_now_told_pl : Nat → Int64) (k_now_told_sz : Int32) (k_now_inUse_pl : Nat → Int64) (k_now_inUse_sz : Int32) (k_now_draw : Int32) (k_kn : Nat → mm_T) (k_size : Int32) (v_sent : Nat → Int32) (v_sentI : Nat → Int32) (v_best : Nat → Int32) (v_ease : Nat → Int32) (v_fromA : Nat → Int32) (v_vi_pl : Nat → Int64) (v_vi_sz : Int32) (v_vl_pl : Nat → Int64) (v_vl_sz : Int32) (t_letters : Nat → Int32) (t_tt_pl : Nat → Int64) (t_tt_sz : Int32) (t_size : Int32) (t_place : Int32) (t_number : Int32) (sh : Nat → ss_T) (hasImage : Int32) (viewIsOld : Int32) (p1 : Int32) (p2 : Int32) (p3 : Int32) (p4 : Int32) (p5 : Int32) (out : Int32 × (Nat → Int32) × (Nat → Int32) × (Nat → Int32) × (Nat → Int32) × (Nat → Int32) × (Nat → Int64) × Int32 × (Nat → Int64) × Int32 × (Nat → ss_T) × Int32) (hf : pf_X6_film h_now_told_pl h_now_inUse_pl h_now_inUse_sz v_sent v_sentI v_best v_ease v_fromA v_vi_pl v_vi_sz v_vl_pl v_vl_sz sh viewIsOld p1 p2 p3 p4 p5 = some out) (h_this : is_X k A ws q h_now_told_pl h_now_told_sz h_now_inUse_pl h_now_inUse_sz h_now_draw h_kn h_size k_now_told_pl k_now_told_sz k_now_inUse_pl k_now_inUse_sz k_now_draw k_kn k_size v_sent v_sentI v_best v_ease v_fromA v_vi_pl v_vi_sz v_vl_pl v_vl_sz t_letters t_tt_pl t_tt_sz t_size t_place t_number sh hasImage viewIsOld)  (sz0 : Nat) : Met l yX6_film wsX6_film { frames := 5, cells := 0, slots := 0, locals := 123 } (va_Pc [.ref (A q), .int p1, .int p2, .int p3, .int p4, .int p5] (px_P D k ws sz0)) (qw_Q D ws sz0 (some (.int out.1)) (fun u => is_X k A u q h_now_told_pl h_now_told_sz h_now_inUse_pl h_now_inUse_sz h_now_draw h_kn h_size k_now_told_pl k_now_told_sz k_now_inUse_pl k_now_inUse_sz k_now_draw k_kn k_size out.2.1 out.2.2.1 out.2.2.2.1 out.2.2.2.2.1 out.2.2.2.2.2.1 out.2.2.2.2.2.2.1 out.2.2.2.2.2.2.2.1 out.2.2.2.2.2.2.2.2.1 out.2.2.2.2.2.2.2.2.2.1 t_letters t_tt_pl t_tt_sz t_size t_place t_number out.2.2.2.2.2.2.2.2.2.2.1 hasImage out.2.2.2.2.2.2.2.2.2.2.2 ∧ sm_W ws u q (q + 98))) 0 0 (va_A ws sz0) := by
  refine Met.ofW (cc := cX6_film) (maxL := 10) (ret := (some .int)) (by decide) rfl ?_
  intro p e s m args below meth c s₁ B hml hv
  obtain ⟨rfl, hsz, hP, hK, hD0⟩ := hv
  subst hsz
  have hD := hD0.self (sz := s.heap.size)
  have C0 : cx_P p s m meth c [.ref (A q), .int p1, .int p2, .int p3, .int p4, .int p5].toArray cX6_film 10 wsX6_film RX6 (some .int) := ⟨B.exec, B.bytes, hml, findClass_of_methodNamed B.named, atoms_spec (ws := wsX6_film) B.pre, B.returns, B.notSynchronized⟩
  obtain ⟨hx, hb, hml, hown, hts, hr, hlocks⟩ := id C0
  have hcf : CallFix p m c cX6_film 10 s [.ref (A q), .int p1, .int p2, .int p3, .int p4, .int p5].toArray wsX6_film RX6 := ⟨hx, hb, hml, hown, hts⟩
  have hA : ∀ q, s.heap.size ≤ q → va_A ws s.heap.size q := fun q h => Or.inr h
  have hS : va_S (va_A ws s.heap.size) s.heap s.heap [] := va_S.rf
  have hsm : sm_W ws ws q (q + 98) := sm_rf
  have w_0 := hts (.fieldLink RX6 35 "LeastRoutes" "sheets" "[LLeastRoutes$Sheet;") (List.mem_of_getElem? (i := 1) rfl)
  have hl := lv_entry ([.ref (A q), .int p1, .int p2, .int p3, .int p4, .int p5]) (n := 10) (Nat.le_of_ble_eq_true rfl)
  rw [lg_entry_eq]
  generalize (lg_sl ([.ref (A q), .int p1, .int p2, .int p3, .int p4, .int p5]) ++ List.replicate (10 - (lg_sl ([.ref (A q), .int p1, .int p2, .int p3, .int p4, .int p5])).length) Slot.unset).toArray = ls at hl ⊢
  have hl : lv_has ls 10 [(0, .ref (A q)), (1, .int p1), (2, .int p2), (3, .int p3), (4, .int p4), (5, .int p5)] := hl
  unfold pf_X6_film at hf
  refine lv_iload_n hx hb dX6_film_0 rfl (lv_at hl 1 rfl) ?_
  refine lv_if_lt (tgt := 29) hx hb dX6_film_1 (by decide) (fun c1 => ?_) (fun c1 => ?_)
  · have hf := it_p c1 hf
    refine lv_iconst (v := (-1)) hx hb dX6_film_29 (by decide) ?_
    obtain rfl := so_i hf
    exact W.iret (v := (-1)) hx hb hr (qw_end hS hP hD ⟨h_this, hsm⟩) hS.2.2 dX6_film_30
  · have hf := it_n c1 hf
    refine lv_iload_n hx hb dX6_film_4 rfl (lv_at hl 2 rfl) ?_
    refine lv_if_lt (tgt := 29) hx hb dX6_film_5 (by decide) (fun c2 => ?_) (fun c2 => ?_)
    · have hf := it_p c2 hf
      refine lv_iconst (v := (-1)) hx hb dX6_film_29 (by decide) ?_
      obtain rfl := so_i hf
      exact W.iret (v := (-1)) hx hb hr (qw_end hS hP hD ⟨h_this, hsm⟩) hS.2.2 dX6_film_30
    · have hf := it_n c2 hf
      refine lv_iload_n hx hb dX6_film_8 rfl (lv_at hl 2 rfl) ?_
      refine lv_bipush (v := 12) hx hb dX6_film_9 (by decide) ?_
      refine lv_icmp_gt (tgt := 29) hx hb dX6_film_11 (by decide) (fun c3 => ?_) (fun c3 => ?_)
      · have hf := it_p c3 hf
        refine lv_iconst (v := (-1)) hx hb dX6_film_29 (by decide) ?_
        obtain rfl := so_i hf
        exact W.iret (v := (-1)) hx hb hr (qw_end hS hP hD ⟨h_this, hsm⟩) hS.2.2 dX6_film_30
      · have hf := it_n c3 hf
        refine lv_iload_n hx hb dX6_film_14 rfl (lv_at hl 3 rfl) ?_
        obtain ⟨r4, h5, hf⟩ := bd_s hf
        refine ks_i (va_runS (As := [.int p3]) (rest := []) hcf (cz_X6_isSheet l D k A ws p3 r4 h5) (va_cwS 1 hts gX6_film_X6_isSheet rfl rfl rfl (by decide +kernel) ⟨Nat.le_of_ble_eq_true rfl, Nat.le_of_ble_eq_true rfl⟩) (pw_S hP hK hD) rfl rfl hl.1 rfl (lv_room (Nat.le_of_ble_eq_true rfl)) dX6_film_15 ⟨Nat.zero_le _, Nat.zero_le _⟩) ?_
        refine lv_if_eq (tgt := 29) hx hb dX6_film_18 (by decide) (fun c6 => ?_) (fun c6 => ?_)
        · have hf := it_p c6 hf
          refine lv_iconst (v := (-1)) hx hb dX6_film_29 (by decide) ?_
          obtain rfl := so_i hf
          exact W.iret (v := (-1)) hx hb hr (qw_end hS hP hD ⟨h_this, hsm⟩) hS.2.2 dX6_film_30
        · have hf := it_n c6 hf
          refine lv_iload hx hb dX6_film_21 (lv_at hl 4 rfl) ?_
          obtain ⟨r7, h8, hf⟩ := bd_s hf
          refine ks_i (va_runS (As := [.int p4]) (rest := []) hcf (cz_X6_isLane l D k A ws p4 r7 h8) (va_cwS 1 hts gX6_film_X6_isLane rfl rfl rfl (by decide +kernel) ⟨Nat.le_of_ble_eq_true rfl, Nat.le_of_ble_eq_true rfl⟩) (pw_S hP hK hD) rfl rfl hl.1 rfl (lv_room (Nat.le_of_ble_eq_true rfl)) dX6_film_23 ⟨Nat.zero_le _, Nat.zero_le _⟩) ?_
          refine lv_if_ne (tgt := 31) hx hb dX6_film_26 (by decide) (fun c9 => ?_) (fun c9 => ?_)
          · have hf := it_n c9 hf
            refine lv_aload_n hx hb dX6_film_31 rfl (lv_at hl 0 rfl) ?_
            obtain ⟨r10, h11, hf⟩ := bd_s hf
            refine kw_r (va_runV (As := []) (rest := []) hcf (cz_X6_freshView l D k A ws (q) h_now_told_pl h_now_told_sz h_now_inUse_pl h_now_inUse_sz h_now_draw h_kn h_size k_now_told_pl k_now_told_sz k_now_inUse_pl k_now_inUse_sz k_now_draw k_kn k_size v_sent v_sentI v_best v_ease v_fromA v_vi_pl v_vi_sz v_vl_pl v_vl_sz t_letters t_tt_pl t_tt_sz t_size t_place t_number sh hasImage viewIsOld r10 h11 h_this _) (cwV 0 hts gX6_film_X6_freshView rfl rfl rfl (by decide +kernel) ⟨Nat.le_of_ble_eq_true rfl, Nat.le_of_ble_eq_true rfl⟩) (px_V hP hK hD (ci := 6) h_this.1 rfl) rfl rfl hl.1 rfl (lv_room (Nat.le_of_ble_eq_true rfl)) dX6_film_32 ⟨Nat.zero_le _, Nat.zero_le _⟩) hD hS hA (fun u12 _ _ h13 hP hD hS => ?_)
            obtain ⟨h15, m14⟩ := h13
            have hsm := sm_tr hsm m14 (by omega) (by omega)
            obtain ⟨h16, h17, h18, h19, h20, h21⟩ := h15
            obtain ⟨h22, h23, h24, h25, h26, h27, h28, h29⟩ := h19
            refine ks_r (va_runV (As := []) (rest := []) hcf (cz_X5_leastTable l D k A u12 (q + 75) h22) (cwV 0 hts gX6_film_X5_leastTable rfl rfl rfl (by decide +kernel) ⟨Nat.le_of_ble_eq_true rfl, Nat.le_of_ble_eq_true rfl⟩) (pw_V hP hK hD (ci := 5) h22 rfl) rfl rfl hl.1 rfl (lv_room (Nat.le_of_ble_eq_true rfl)) dX6_film_35 ⟨Nat.zero_le _, Nat.zero_le _⟩) ?_
            refine lv_astore (lv' := [(6, .ref (A (q + 75 + 8))), (0, .ref (A q)), (1, .int p1), (2, .int p2), (3, .int p3), (4, .int p4), (5, .int p5)]) hx hb dX6_film_38 hl (by decide) rfl (fun ls hl => ?_)
            refine lv_iload_n hx hb dX6_film_40 rfl (lv_at hl 2 rfl) ?_
            refine lv_aload hx hb dX6_film_41 (lv_at hl 0 rfl) ?_
            obtain ⟨r32, h33, hf⟩ := bd_s hf
            refine ks_i (va_runV (As := []) (rest := [.int p1]) hcf (cz_X3_howMany l D k A u12 (q + 75 + 8) r10.2.2.2.2.2.2.2.1 r10.2.2.2.2.2.2.2.2.1 r32 h33 h29) (cwV 0 hts gX6_film_X3_howMany rfl rfl rfl (by decide +kernel) ⟨Nat.le_of_ble_eq_true rfl, Nat.le_of_ble_eq_true rfl⟩) (pw_V hP hK hD (ci := 3) h29.1 rfl) rfl rfl hl.1 rfl (lv_room (Nat.le_of_ble_eq_true rfl)) dX6_film_43 ⟨Nat.zero_le _, Nat.zero_le _⟩) ?_
            refine lv_iload_n hx hb dX6_film_46 rfl (lv_at hl 3 rfl) ?_
            refine lv_isub hx hb dX6_film_47 ?_
            refine lv_icmp_le (tgt := 54) hx hb dX6_film_48 (by decide) (fun c34 => ?_) (fun c34 => ?_)
            · have hf := it_p c34 hf
              refine lv_aload_n hx hb dX6_film_54 rfl (lv_at hl 1 rfl) ?_
              refine va_get (D := D) (ci := 6) (v := .ref (A (q + 89))) (C := RX6) (T := TX6) (N := 7) hx hb hts in_X6_film_X6 hown hK.1 hP (q) h16 rfl 4 (by decide) w_0 (fun _ h9 => h9) rfl dX6_film_55 ?_
              refine lv_iload_n hx hb dX6_film_58 rfl (lv_at hl 4 rfl) ?_
              obtain ⟨z35, hf⟩ := ck_s hf
              obtain ⟨h36, h37, h38, h39, h41, h42⟩ := is_Z_get h21 (in_s z35)
              refine va_aldq hx hb hK.1 hP (q + 89) 3 h37 rfl (in_s z35) dX6_film_59 ?_
              refine W.eq (g2 := F0 m 60 ls [.ref (A (q + 89 + 1 + 2 * (Int32.toNatClampNeg p3)))]) (by rw [h38]; rfl) ?_
              refine lv_iload hx hb dX6_film_60 (lv_at hl 5 rfl) ?_
              refine lv_iload hx hb dX6_film_62 (lv_at hl 6 rfl) ?_
              refine lv_iconst (v := 2) hx hb dX6_film_64 (by decide) ?_
              refine lv_iload_n hx hb dX6_film_65 rfl (lv_at hl 3 rfl) ?_
              refine lv_imul hx hb dX6_film_66 ?_
              obtain ⟨r43, h44, hf⟩ := bd_s hf
              refine ks_i (va_runV (As := [.int p4, .int p5, .int (2 * p2)]) (rest := []) hcf (cz_X2_refusal l D k A u12 (q + 89 + 1 + 2 * (Int32.toNatClampNeg p3)) ((sh (Int32.toNatClampNeg p3)).1) ((sh (Int32.toNatClampNeg p3)).2.1) ((sh (Int32.toNatClampNeg p3)).2.2) p4 p5 (2 * p2) r43 h44 h41) (cwV 3 hts gX6_film_X2_refusal rfl rfl rfl (by decide +kernel) ⟨Nat.le_of_ble_eq_true rfl, Nat.le_of_ble_eq_true rfl⟩) (pw_V hP hK hD (ci := 2) h41.1 rfl) rfl rfl hl.1 rfl (lv_room (Nat.le_of_ble_eq_true rfl)) dX6_film_67 ⟨Nat.zero_le _, Nat.zero_le _⟩) ?_
              refine lv_istore (lv' := [(7, .int r43), (6, .ref (A (q + 75 + 8))), (0, .ref (A q)), (1, .int p1), (2, .int p2), (3, .int p3), (4, .int p4), (5, .int p5)]) hx hb dX6_film_70 hl (by decide) rfl (fun ls hl => ?_)
              refine lv_iload hx hb dX6_film_72 (lv_at hl 0 rfl) ?_
              refine lv_if_eq (tgt := 80) hx hb dX6_film_74 (by decide) (fun c45 => ?_) (fun c45 => ?_)
              · have hf := it_p c45 hf
                refine lv_iconst (v := 0) hx hb dX6_film_80 (by decide) ?_
                refine lv_istore (lv' := [(8, .int 0), (7, .int r43), (6, .ref (A (q + 75 + 8))), (0, .ref (A q)), (1, .int p1), (2, .int p2), (3, .int p3), (4, .int p4), (5, .int p5)]) hx hb dX6_film_81 hl (by decide) rfl (fun ls hl => ?_)
                have h121 : is_V k A u12 (q + 75) r10.1 r10.2.1 r10.2.2.1 r10.2.2.2.1 r10.2.2.2.2.1 r10.2.2.2.2.2.1 r10.2.2.2.2.2.2.1 r10.2.2.2.2.2.2.2.1 r10.2.2.2.2.2.2.2.2.1 := ⟨h22, h23, h24, h25, h26, h27, h28, h29⟩
                have h122 : is_X k A u12 (q) h_now_told_pl h_now_told_sz h_now_inUse_pl h_now_inUse_sz h_now_draw h_kn h_size k_now_told_pl k_now_told_sz k_now_inUse_pl k_now_inUse_sz k_now_draw k_kn k_size r10.1 r10.2.1 r10.2.2.1 r10.2.2.2.1 r10.2.2.2.2.1 r10.2.2.2.2.2.1 r10.2.2.2.2.2.2.1 r10.2.2.2.2.2.2.2.1 r10.2.2.2.2.2.2.2.2.1 t_letters t_tt_pl t_tt_sz t_size t_place t_number sh hasImage r10.2.2.2.2.2.2.2.2.2 := ⟨h16, h17, h18, h121, h20, h21⟩
                exact wl_X6_film_83 l D k A ws q _ hK C0 h_now_told_pl h_now_told_sz h_now_inUse_pl h_now_inUse_sz h_now_draw h_kn h_size k_now_told_pl k_now_told_sz k_now_inUse_pl k_now_inUse_sz k_now_draw k_kn k_size r10.1 r10.2.1 r10.2.2.1 r10.2.2.2.1 r10.2.2.2.2.1 r10.2.2.2.2.2.1 r10.2.2.2.2.2.2.1 r10.2.2.2.2.2.2.2.1 r10.2.2.2.2.2.2.2.2.1 t_letters t_tt_pl t_tt_sz t_size t_place t_number hasImage r10.2.2.2.2.2.2.2.2.2 p1 p2 p3 p5 fu_N sh 0 _ _ _ _ hf h122 hsm hP hD hS (lv_sub hl [3, 4, 5, 6, 8, 2, 0] rfl)
              · have hf := it_n c45 hf
                refine lv_iload hx hb dX6_film_77 (lv_at hl 0 rfl) ?_
                obtain rfl := so_i hf
                have h123 : is_V k A u12 (q + 75) r10.1 r10.2.1 r10.2.2.1 r10.2.2.2.1 r10.2.2.2.2.1 r10.2.2.2.2.2.1 r10.2.2.2.2.2.2.1 r10.2.2.2.2.2.2.2.1 r10.2.2.2.2.2.2.2.2.1 := ⟨h22, h23, h24, h25, h26, h27, h28, h29⟩
                have h124 : is_X k A u12 (q) h_now_told_pl h_now_told_sz h_now_inUse_pl h_now_inUse_sz h_now_draw h_kn h_size k_now_told_pl k_now_told_sz k_now_inUse_pl k_now_inUse_sz k_now_draw k_kn k_size r10.1 r10.2.1 r10.2.2.1 r10.2.2.2.1 r10.2.2.2.2.1 r10.2.2.2.2.2.1 r10.2.2.2.2.2.2.1 r10.2.2.2.2.2.2.2.1 r10.2.2.2.2.2.2.2.2.1 t_letters t_tt_pl t_tt_sz t_size t_place t_number sh hasImage r10.2.2.2.2.2.2.2.2.2 := ⟨h16, h17, h18, h123, h20, h21⟩
                exact W.iret (v := r43) hx hb hr (qw_end hS hP hD ⟨h124, hsm⟩) hS.2.2 dX6_film_79
            · have hf := it_n c34 hf
              refine lv_bipush (v := (-2)) hx hb dX6_film_51 (by decide) ?_
              obtain rfl := so_i hf
              have h125 : is_V k A u12 (q + 75) r10.1 r10.2.1 r10.2.2.1 r10.2.2.2.1 r10.2.2.2.2.1 r10.2.2.2.2.2.1 r10.2.2.2.2.2.2.1 r10.2.2.2.2.2.2.2.1 r10.2.2.2.2.2.2.2.2.1 := ⟨h22, h23, h24, h25, h26, h27, h28, h29⟩
              have h126 : is_X k A u12 (q) h_now_told_pl h_now_told_sz h_now_inUse_pl h_now_inUse_sz h_now_draw h_kn h_size k_now_told_pl k_now_told_sz k_now_inUse_pl k_now_inUse_sz k_now_draw k_kn k_size r10.1 r10.2.1 r10.2.2.1 r10.2.2.2.1 r10.2.2.2.2.1 r10.2.2.2.2.2.1 r10.2.2.2.2.2.2.1 r10.2.2.2.2.2.2.2.1 r10.2.2.2.2.2.2.2.2.1 t_letters t_tt_pl t_tt_sz t_size t_place t_number sh hasImage r10.2.2.2.2.2.2.2.2.2 := ⟨h16, h17, h18, h125, h20, h21⟩
              exact W.iret (v := (-2)) hx hb hr (qw_end hS hP hD ⟨h126, hsm⟩) hS.2.2 dX6_film_53
          · have hf := it_p c9 hf
            refine lv_iconst (v := (-1)) hx hb dX6_film_29 (by decide) ?_
            obtain rfl := so_i hf
            exact W.iret (v := (-1)) hx hb hr (qw_end hS hP hD ⟨h_this, hsm⟩) hS.2.2 dX6_film_30

theorem in_X6_sheet_X6 : ∀ w ∈ u_ws RX6 TX6 7, w ∈ wsX6_sheet := fun w h => List.mem_cons_of_mem _ (List.mem_append_left _ (List.mem_append_right _ h))
def pf_X6_sheet (sh : Nat → ss_T)  (p1 : Int32) (p2 : Int32) (p3 : Int32) : Option (Int32 × (Nat → ss_T)) :=
  (pf_X6_isSheet p1).bind (fun r1 =>
    if r1 = 0 then
      some ((-1), sh)
    else
      (pf_X6_isLane p2).bind (fun r4 =>
        if r4 = 0 then
          some ((-1), sh)
        else
          if p3 ≤ 30 then
            if 0 ≤ p3 then
              ck_O (in_b p1 4) (
                (pf_X2_startRow ((sh (Int32.toNatClampNeg p1)).1) ((sh (Int32.toNatClampNeg p1)).2.1) ((sh (Int32.toNatClampNeg p1)).2.2) p2 p3).bind (fun r23 =>
                  some (p3, (va_up sh (Int32.toNatClampNeg p1) (r23.1, r23.2.1, r23.2.2)))))
            else
              some ((-14), sh)
          else
            some ((-1), sh)))

set_option maxHeartbeats 4000000 in
set_option maxRecDepth 100000 in
theorem cz_X6_sheet (l : Launch) (D : va_G) (k : kt_T) (A : Nat → Nat) (ws : va_W) (q : Nat)  (h_now_told_pl : Nat → Int64) (h_now_told_sz : Int32) (h_now_inUse_pl : Nat → Int64) (h_now_inUse_sz : Int32) (h_now_draw : Int32) (h_kn : Nat → mm_T) (h_size : Int32) (k_now_told_pl : Nat → Int64) (k_now_told_sz : Int32) (k_now_inUse_pl : Nat → Int64) (k_now_inUse_sz : Int32) (k_now_draw : Int32) (k_kn : Nat → mm_T) (k_size : Int32) (v_sent : Nat → Int32) (v_sentI : Nat → Int32) (v_best : Nat → Int32) (v_ease : Nat → Int32) (v_fromA : Nat → Int32) (v_vi_pl : Nat → Int64) (v_vi_sz : Int32) (v_vl_pl : Nat → Int64) (v_vl_sz : Int32) (t_letters : Nat → Int32) (t_tt_pl : Nat → Int64) (t_tt_sz : Int32) (t_size : Int32) (t_place : Int32) (t_number : Int32) (sh : Nat → ss_T) (hasImage : Int32) (viewIsOld : Int32) (p1 : Int32) (p2 : Int32) (p3 : Int32) (out : Int32 × (Nat → ss_T)) (hf : pf_X6_sheet sh p1 p2 p3 = some out) (h_this : is_X k A ws q h_now_told_pl h_now_told_sz h_now_inUse_pl h_now_inUse_sz h_now_draw h_kn h_size k_now_told_pl k_now_told_sz k_now_inUse_pl k_now_inUse_sz k_now_draw k_kn k_size v_sent v_sentI v_best v_ease v_fromA v_vi_pl v_vi_sz v_vl_pl v_vl_sz t_letters t_tt_pl t_tt_sz t_size t_place t_number sh hasImage viewIsOld)  (sz0 : Nat) : Met l yX6_sheet wsX6_sheet { frames := 2, cells := 0, slots := 0, locals := 46 } (va_Pc [.ref (A q), .int p1, .int p2, .int p3] (px_P D k ws sz0)) (qw_Q D ws sz0 (some (.int out.1)) (fun u => is_X k A u q h_now_told_pl h_now_told_sz h_now_inUse_pl h_now_inUse_sz h_now_draw h_kn h_size k_now_told_pl k_now_told_sz k_now_inUse_pl k_now_inUse_sz k_now_draw k_kn k_size v_sent v_sentI v_best v_ease v_fromA v_vi_pl v_vi_sz v_vl_pl v_vl_sz t_letters t_tt_pl t_tt_sz t_size t_place t_number out.2 hasImage viewIsOld ∧ sm_W ws u q (q + 98))) 0 0 (va_A ws sz0) := by
  refine Met.ofW (cc := cX6_sheet) (maxL := 4) (ret := (some .int)) (by decide) rfl ?_
  intro p e s m args below meth c s₁ B hml hv
  obtain ⟨rfl, hsz, hP, hK, hD0⟩ := hv
  subst hsz
  have hD := hD0.self (sz := s.heap.size)
  have C0 : cx_P p s m meth c [.ref (A q), .int p1, .int p2, .int p3].toArray cX6_sheet 4 wsX6_sheet RX6 (some .int) := ⟨B.exec, B.bytes, hml, findClass_of_methodNamed B.named, atoms_spec (ws := wsX6_sheet) B.pre, B.returns, B.notSynchronized⟩
  obtain ⟨hx, hb, hml, hown, hts, hr, hlocks⟩ := id C0
  have hcf : CallFix p m c cX6_sheet 4 s [.ref (A q), .int p1, .int p2, .int p3].toArray wsX6_sheet RX6 := ⟨hx, hb, hml, hown, hts⟩
  have hA : ∀ q, s.heap.size ≤ q → va_A ws s.heap.size q := fun q h => Or.inr h
  have hS : va_S (va_A ws s.heap.size) s.heap s.heap [] := va_S.rf
  have hsm : sm_W ws ws q (q + 98) := sm_rf
  have w_0 := hts (.fieldLink RX6 35 "LeastRoutes" "sheets" "[LLeastRoutes$Sheet;") (List.mem_of_getElem? (i := 1) rfl)
  have hl := lv_entry ([.ref (A q), .int p1, .int p2, .int p3]) (n := 4) (Nat.le_of_ble_eq_true rfl)
  rw [lg_entry_eq]
  generalize (lg_sl ([.ref (A q), .int p1, .int p2, .int p3]) ++ List.replicate (4 - (lg_sl ([.ref (A q), .int p1, .int p2, .int p3])).length) Slot.unset).toArray = ls at hl ⊢
  have hl : lv_has ls 4 [(0, .ref (A q)), (1, .int p1), (2, .int p2), (3, .int p3)] := hl
  unfold pf_X6_sheet at hf
  refine lv_iload_n hx hb dX6_sheet_0 rfl (lv_at hl 1 rfl) ?_
  obtain ⟨r1, h2, hf⟩ := bd_s hf
  refine ks_i (va_runS (As := [.int p1]) (rest := []) hcf (cz_X6_isSheet l D k A ws p1 r1 h2) (va_cwS 1 hts gX6_sheet_X6_isSheet rfl rfl rfl (by decide +kernel) ⟨Nat.le_of_ble_eq_true rfl, Nat.le_of_ble_eq_true rfl⟩) (pw_S hP hK hD) rfl rfl hl.1 rfl (lv_room (Nat.le_of_ble_eq_true rfl)) dX6_sheet_1 ⟨Nat.zero_le _, Nat.zero_le _⟩) ?_
  refine lv_if_eq (tgt := 20) hx hb dX6_sheet_4 (by decide) (fun c3 => ?_) (fun c3 => ?_)
  · have hf := it_p c3 hf
    refine lv_iconst (v := (-1)) hx hb dX6_sheet_20 (by decide) ?_
    obtain rfl := so_i hf
    exact W.iret (v := (-1)) hx hb hr (qw_end hS hP hD ⟨h_this, hsm⟩) hS.2.2 dX6_sheet_21
  · have hf := it_n c3 hf
    refine lv_iload_n hx hb dX6_sheet_7 rfl (lv_at hl 2 rfl) ?_
    obtain ⟨r4, h5, hf⟩ := bd_s hf
    refine ks_i (va_runS (As := [.int p2]) (rest := []) hcf (cz_X6_isLane l D k A ws p2 r4 h5) (va_cwS 1 hts gX6_sheet_X6_isLane rfl rfl rfl (by decide +kernel) ⟨Nat.le_of_ble_eq_true rfl, Nat.le_of_ble_eq_true rfl⟩) (pw_S hP hK hD) rfl rfl hl.1 rfl (lv_room (Nat.le_of_ble_eq_true rfl)) dX6_sheet_8 ⟨Nat.zero_le _, Nat.zero_le _⟩) ?_
    refine lv_if_eq (tgt := 20) hx hb dX6_sheet_11 (by decide) (fun c6 => ?_) (fun c6 => ?_)
    · have hf := it_p c6 hf
      refine lv_iconst (v := (-1)) hx hb dX6_sheet_20 (by decide) ?_
      obtain rfl := so_i hf
      exact W.iret (v := (-1)) hx hb hr (qw_end hS hP hD ⟨h_this, hsm⟩) hS.2.2 dX6_sheet_21
    · have hf := it_n c6 hf
      refine lv_iload_n hx hb dX6_sheet_14 rfl (lv_at hl 3 rfl) ?_
      refine lv_bipush (v := 30) hx hb dX6_sheet_15 (by decide) ?_
      refine lv_icmp_le (tgt := 22) hx hb dX6_sheet_17 (by decide) (fun c7 => ?_) (fun c7 => ?_)
      · have hf := it_p c7 hf
        refine lv_iload_n hx hb dX6_sheet_22 rfl (lv_at hl 3 rfl) ?_
        refine lv_if_ge (tgt := 29) hx hb dX6_sheet_23 (by decide) (fun c8 => ?_) (fun c8 => ?_)
        · have hf := it_p c8 hf
          refine lv_aload_n hx hb dX6_sheet_29 rfl (lv_at hl 0 rfl) ?_
          obtain ⟨h9, h10, h11, h12, h13, h14⟩ := h_this
          refine va_get (D := D) (ci := 6) (v := .ref (A (q + 89))) (C := RX6) (T := TX6) (N := 7) hx hb hts in_X6_sheet_X6 hown hK.1 hP (q) h9 rfl 4 (by decide) w_0 (fun _ h9 => h9) rfl dX6_sheet_30 ?_
          refine lv_iload_n hx hb dX6_sheet_33 rfl (lv_at hl 1 rfl) ?_
          obtain ⟨z15, hf⟩ := ck_s hf
          obtain ⟨h16, h17, h18, h19, h21, h22⟩ := is_Z_get h14 (in_s z15)
          refine va_aldq hx hb hK.1 hP (q + 89) 3 h17 rfl (in_s z15) dX6_sheet_34 ?_
          refine W.eq (g2 := F0 m 35 ls [.ref (A (q + 89 + 1 + 2 * (Int32.toNatClampNeg p1)))]) (by rw [h18]; rfl) ?_
          refine lv_iload_n hx hb dX6_sheet_35 rfl (lv_at hl 2 rfl) ?_
          refine lv_iload_n hx hb dX6_sheet_36 rfl (lv_at hl 3 rfl) ?_
          obtain ⟨r23, h24, hf⟩ := bd_s hf
          refine kw_v (va_runV (As := [.int p2, .int p3]) (rest := []) hcf (cz_X2_startRow l D k A ws (q + 89 + 1 + 2 * (Int32.toNatClampNeg p1)) ((sh (Int32.toNatClampNeg p1)).1) ((sh (Int32.toNatClampNeg p1)).2.1) ((sh (Int32.toNatClampNeg p1)).2.2) p2 p3 r23 h24 h21 _) (cwV 2 hts gX6_sheet_X2_startRow rfl rfl rfl (by decide +kernel) ⟨Nat.le_of_ble_eq_true rfl, Nat.le_of_ble_eq_true rfl⟩) (px_V hP hK hD (ci := 2) h21.1 rfl) rfl rfl hl.1 rfl (lv_room (Nat.le_of_ble_eq_true rfl)) dX6_sheet_37 ⟨Nat.zero_le _, Nat.zero_le _⟩) hD hS hA (fun u25 _ _ h26 hP hD hS => ?_)
          obtain ⟨h28, m27⟩ := h26
          have hsm := sm_tr hsm m27 (by omega) (by omega)
          have h29 : is_Z k A u25 (q + 89) (va_up sh (Int32.toNatClampNeg p1) (r23.1, r23.2.1, r23.2.2)) := h22 _ (r23.1, r23.2.1, r23.2.2) h28 m27
          refine lv_iload_n hx hb dX6_sheet_40 rfl (lv_at hl 3 rfl) ?_
          obtain rfl := so_i hf
          have h30 := sm_at m27 (by omega) h9
          have h31 := is_H_tr h10 m27 (by omega)
          have h32 := is_H_tr h11 m27 (by omega)
          have h33 := is_V_tr h12 m27 (by omega)
          have h34 := is_P_tr h13 m27 (by omega)
          have h35 : is_X k A u25 (q) h_now_told_pl h_now_told_sz h_now_inUse_pl h_now_inUse_sz h_now_draw h_kn h_size k_now_told_pl k_now_told_sz k_now_inUse_pl k_now_inUse_sz k_now_draw k_kn k_size v_sent v_sentI v_best v_ease v_fromA v_vi_pl v_vi_sz v_vl_pl v_vl_sz t_letters t_tt_pl t_tt_sz t_size t_place t_number (va_up sh (Int32.toNatClampNeg p1) (r23.1, r23.2.1, r23.2.2)) hasImage viewIsOld := ⟨h30, h31, h32, h33, h34, h29⟩
          exact W.iret (v := p3) hx hb hr (qw_end hS hP hD ⟨h35, hsm⟩) hS.2.2 dX6_sheet_41
        · have hf := it_n c8 hf
          refine lv_bipush (v := (-14)) hx hb dX6_sheet_26 (by decide) ?_
          obtain rfl := so_i hf
          exact W.iret (v := (-14)) hx hb hr (qw_end hS hP hD ⟨h_this, hsm⟩) hS.2.2 dX6_sheet_28
      · have hf := it_n c7 hf
        refine lv_iconst (v := (-1)) hx hb dX6_sheet_20 (by decide) ?_
        obtain rfl := so_i hf
        exact W.iret (v := (-1)) hx hb hr (qw_end hS hP hD ⟨h_this, hsm⟩) hS.2.2 dX6_sheet_21

theorem in_X6_drop_X6 : ∀ w ∈ u_ws RX6 TX6 7, w ∈ wsX6_drop := fun w h => List.mem_cons_of_mem _ (List.mem_append_left _ (List.mem_append_right _ h))
def pf_X6_drop (sh : Nat → ss_T)  (p1 : Int32) : Option (Int32 × (Nat → ss_T)) :=
  (pf_X6_isSheet p1).bind (fun r1 =>
    if r1 = 0 then
      some ((-1), sh)
    else
      ck_O (in_b p1 4) (
        (pf_X2_holdsNothing ((sh (Int32.toNatClampNeg p1)).2.1)).bind (fun r18 =>
          if r18 = 0 then
            ck_O (in_b p1 4) (
              (pf_X2_makeNothing ((sh (Int32.toNatClampNeg p1)).2.1) ((sh (Int32.toNatClampNeg p1)).2.2)).bind (fun r29 =>
                some (r29.1, (va_up sh (Int32.toNatClampNeg p1) ((sh (Int32.toNatClampNeg p1)).1, r29.2.1, r29.2.2)))))
          else
            some ((-11), sh))))

set_option maxHeartbeats 4000000 in
set_option maxRecDepth 100000 in
theorem cz_X6_drop (l : Launch) (D : va_G) (k : kt_T) (A : Nat → Nat) (ws : va_W) (q : Nat)  (h_now_told_pl : Nat → Int64) (h_now_told_sz : Int32) (h_now_inUse_pl : Nat → Int64) (h_now_inUse_sz : Int32) (h_now_draw : Int32) (h_kn : Nat → mm_T) (h_size : Int32) (k_now_told_pl : Nat → Int64) (k_now_told_sz : Int32) (k_now_inUse_pl : Nat → Int64) (k_now_inUse_sz : Int32) (k_now_draw : Int32) (k_kn : Nat → mm_T) (k_size : Int32) (v_sent : Nat → Int32) (v_sentI : Nat → Int32) (v_best : Nat → Int32) (v_ease : Nat → Int32) (v_fromA : Nat → Int32) (v_vi_pl : Nat → Int64) (v_vi_sz : Int32) (v_vl_pl : Nat → Int64) (v_vl_sz : Int32) (t_letters : Nat → Int32) (t_tt_pl : Nat → Int64) (t_tt_sz : Int32) (t_size : Int32) (t_place : Int32) (t_number : Int32) (sh : Nat → ss_T) (hasImage : Int32) (viewIsOld : Int32) (p1 : Int32) (out : Int32 × (Nat → ss_T)) (hf : pf_X6_drop sh p1 = some out) (h_this : is_X k A ws q h_now_told_pl h_now_told_sz h_now_inUse_pl h_now_inUse_sz h_now_draw h_kn h_size k_now_told_pl k_now_told_sz k_now_inUse_pl k_now_inUse_sz k_now_draw k_kn k_size v_sent v_sentI v_best v_ease v_fromA v_vi_pl v_vi_sz v_vl_pl v_vl_sz t_letters t_tt_pl t_tt_sz t_size t_place t_number sh hasImage viewIsOld)  (sz0 : Nat) : Met l yX6_drop wsX6_drop { frames := 1, cells := 0, slots := 0, locals := 21 } (va_Pc [.ref (A q), .int p1] (px_P D k ws sz0)) (qw_Q D ws sz0 (some (.int out.1)) (fun u => is_X k A u q h_now_told_pl h_now_told_sz h_now_inUse_pl h_now_inUse_sz h_now_draw h_kn h_size k_now_told_pl k_now_told_sz k_now_inUse_pl k_now_inUse_sz k_now_draw k_kn k_size v_sent v_sentI v_best v_ease v_fromA v_vi_pl v_vi_sz v_vl_pl v_vl_sz t_letters t_tt_pl t_tt_sz t_size t_place t_number out.2 hasImage viewIsOld ∧ sm_W ws u q (q + 98))) 0 0 (va_A ws sz0) := by
  refine Met.ofW (cc := cX6_drop) (maxL := 2) (ret := (some .int)) (by decide) rfl ?_
  intro p e s m args below meth c s₁ B hml hv
  obtain ⟨rfl, hsz, hP, hK, hD0⟩ := hv
  subst hsz
  have hD := hD0.self (sz := s.heap.size)
  have C0 : cx_P p s m meth c [.ref (A q), .int p1].toArray cX6_drop 2 wsX6_drop RX6 (some .int) := ⟨B.exec, B.bytes, hml, findClass_of_methodNamed B.named, atoms_spec (ws := wsX6_drop) B.pre, B.returns, B.notSynchronized⟩
  obtain ⟨hx, hb, hml, hown, hts, hr, hlocks⟩ := id C0
  have hcf : CallFix p m c cX6_drop 2 s [.ref (A q), .int p1].toArray wsX6_drop RX6 := ⟨hx, hb, hml, hown, hts⟩
  have hA : ∀ q, s.heap.size ≤ q → va_A ws s.heap.size q := fun q h => Or.inr h
  have hS : va_S (va_A ws s.heap.size) s.heap s.heap [] := va_S.rf
  have hsm : sm_W ws ws q (q + 98) := sm_rf
  have w_0 := hts (.fieldLink RX6 35 "LeastRoutes" "sheets" "[LLeastRoutes$Sheet;") (List.mem_of_getElem? (i := 1) rfl)
  have hl := lv_entry ([.ref (A q), .int p1]) (n := 2) (Nat.le_of_ble_eq_true rfl)
  rw [lg_entry_eq]
  generalize (lg_sl ([.ref (A q), .int p1]) ++ List.replicate (2 - (lg_sl ([.ref (A q), .int p1])).length) Slot.unset).toArray = ls at hl ⊢
  have hl : lv_has ls 2 [(0, .ref (A q)), (1, .int p1)] := hl
  unfold pf_X6_drop at hf
  refine lv_iload_n hx hb dX6_drop_0 rfl (lv_at hl 1 rfl) ?_
  obtain ⟨r1, h2, hf⟩ := bd_s hf
  refine ks_i (va_runS (As := [.int p1]) (rest := []) hcf (cz_X6_isSheet l D k A ws p1 r1 h2) (va_cwS 1 hts gX6_drop_X6_isSheet rfl rfl rfl (by decide +kernel) ⟨Nat.le_of_ble_eq_true rfl, Nat.le_of_ble_eq_true rfl⟩) (pw_S hP hK hD) rfl rfl hl.1 rfl (lv_room (Nat.le_of_ble_eq_true rfl)) dX6_drop_1 ⟨Nat.zero_le _, Nat.zero_le _⟩) ?_
  refine lv_if_ne (tgt := 9) hx hb dX6_drop_4 (by decide) (fun c3 => ?_) (fun c3 => ?_)
  · have hf := it_n c3 hf
    refine lv_aload_n hx hb dX6_drop_9 rfl (lv_at hl 0 rfl) ?_
    obtain ⟨h4, h5, h6, h7, h8, h9⟩ := h_this
    refine va_get (D := D) (ci := 6) (v := .ref (A (q + 89))) (C := RX6) (T := TX6) (N := 7) hx hb hts in_X6_drop_X6 hown hK.1 hP (q) h4 rfl 4 (by decide) w_0 (fun _ h9 => h9) rfl dX6_drop_10 ?_
    refine lv_iload_n hx hb dX6_drop_13 rfl (lv_at hl 1 rfl) ?_
    obtain ⟨z10, hf⟩ := ck_s hf
    obtain ⟨h11, h12, h13, h14, h16, h17⟩ := is_Z_get h9 (in_s z10)
    refine va_aldq hx hb hK.1 hP (q + 89) 3 h12 rfl (in_s z10) dX6_drop_14 ?_
    refine W.eq (g2 := F0 m 15 ls [.ref (A (q + 89 + 1 + 2 * (Int32.toNatClampNeg p1)))]) (by rw [h13]; rfl) ?_
    obtain ⟨r18, h19, hf⟩ := bd_s hf
    refine ks_i (va_runV (As := []) (rest := []) hcf (cz_X2_holdsNothing l D k A ws (q + 89 + 1 + 2 * (Int32.toNatClampNeg p1)) ((sh (Int32.toNatClampNeg p1)).1) ((sh (Int32.toNatClampNeg p1)).2.1) ((sh (Int32.toNatClampNeg p1)).2.2) r18 h19 h16) (cwV 0 hts gX6_drop_X2_holdsNothing rfl rfl rfl (by decide +kernel) ⟨Nat.le_of_ble_eq_true rfl, Nat.le_of_ble_eq_true rfl⟩) (pw_V hP hK hD (ci := 2) h16.1 rfl) rfl rfl hl.1 rfl (lv_room (Nat.le_of_ble_eq_true rfl)) dX6_drop_15 ⟨Nat.zero_le _, Nat.zero_le _⟩) ?_
    refine lv_if_eq (tgt := 24) hx hb dX6_drop_18 (by decide) (fun c20 => ?_) (fun c20 => ?_)
    · have hf := it_p c20 hf
      refine lv_aload_n hx hb dX6_drop_24 rfl (lv_at hl 0 rfl) ?_
      refine va_get (D := D) (ci := 6) (v := .ref (A (q + 89))) (C := RX6) (T := TX6) (N := 7) hx hb hts in_X6_drop_X6 hown hK.1 hP (q) h4 rfl 4 (by decide) w_0 (fun _ h9 => h9) rfl dX6_drop_25 ?_
      refine lv_iload_n hx hb dX6_drop_28 rfl (lv_at hl 1 rfl) ?_
      obtain ⟨z21, hf⟩ := ck_s hf
      obtain ⟨h22, h23, h24, h25, h27, h28⟩ := is_Z_get h9 (in_s z21)
      refine va_aldq hx hb hK.1 hP (q + 89) 3 h23 rfl (in_s z21) dX6_drop_29 ?_
      refine W.eq (g2 := F0 m 30 ls [.ref (A (q + 89 + 1 + 2 * (Int32.toNatClampNeg p1)))]) (by rw [h24]; rfl) ?_
      obtain ⟨r29, h30, hf⟩ := bd_s hf
      refine kw_i (va_runV (As := []) (rest := []) hcf (cz_X2_makeNothing l D k A ws (q + 89 + 1 + 2 * (Int32.toNatClampNeg p1)) ((sh (Int32.toNatClampNeg p1)).1) ((sh (Int32.toNatClampNeg p1)).2.1) ((sh (Int32.toNatClampNeg p1)).2.2) r29 h30 h27 _) (cwV 0 hts gX6_drop_X2_makeNothing rfl rfl rfl (by decide +kernel) ⟨Nat.le_of_ble_eq_true rfl, Nat.le_of_ble_eq_true rfl⟩) (px_V hP hK hD (ci := 2) h27.1 rfl) rfl rfl hl.1 rfl (lv_room (Nat.le_of_ble_eq_true rfl)) dX6_drop_30 ⟨Nat.zero_le _, Nat.zero_le _⟩) hD hS hA (fun u31 _ _ h32 hP hD hS => ?_)
      obtain ⟨h34, m33⟩ := h32
      have hsm := sm_tr hsm m33 (by omega) (by omega)
      have h35 : is_Z k A u31 (q + 89) (va_up sh (Int32.toNatClampNeg p1) ((sh (Int32.toNatClampNeg p1)).1, r29.2.1, r29.2.2)) := h28 _ ((sh (Int32.toNatClampNeg p1)).1, r29.2.1, r29.2.2) h34 m33
      obtain rfl := so_i hf
      have h36 := sm_at m33 (by omega) h4
      have h37 := is_H_tr h5 m33 (by omega)
      have h38 := is_H_tr h6 m33 (by omega)
      have h39 := is_V_tr h7 m33 (by omega)
      have h40 := is_P_tr h8 m33 (by omega)
      have h41 : is_X k A u31 (q) h_now_told_pl h_now_told_sz h_now_inUse_pl h_now_inUse_sz h_now_draw h_kn h_size k_now_told_pl k_now_told_sz k_now_inUse_pl k_now_inUse_sz k_now_draw k_kn k_size v_sent v_sentI v_best v_ease v_fromA v_vi_pl v_vi_sz v_vl_pl v_vl_sz t_letters t_tt_pl t_tt_sz t_size t_place t_number (va_up sh (Int32.toNatClampNeg p1) ((sh (Int32.toNatClampNeg p1)).1, r29.2.1, r29.2.2)) hasImage viewIsOld := ⟨h36, h37, h38, h39, h40, h35⟩
      exact W.iret (v := r29.1) hx hb hr (qw_end hS hP hD ⟨h41, hsm⟩) hS.2.2 dX6_drop_33
    · have hf := it_n c20 hf
      refine lv_bipush (v := (-11)) hx hb dX6_drop_21 (by decide) ?_
      obtain rfl := so_i hf
      have h42 : is_X k A ws (q) h_now_told_pl h_now_told_sz h_now_inUse_pl h_now_inUse_sz h_now_draw h_kn h_size k_now_told_pl k_now_told_sz k_now_inUse_pl k_now_inUse_sz k_now_draw k_kn k_size v_sent v_sentI v_best v_ease v_fromA v_vi_pl v_vi_sz v_vl_pl v_vl_sz t_letters t_tt_pl t_tt_sz t_size t_place t_number sh hasImage viewIsOld := ⟨h4, h5, h6, h7, h8, h9⟩
      exact W.iret (v := (-11)) hx hb hr (qw_end hS hP hD ⟨h42, hsm⟩) hS.2.2 dX6_drop_23
  · have hf := it_p c3 hf
    refine lv_iconst (v := (-1)) hx hb dX6_drop_7 (by decide) ?_
    obtain rfl := so_i hf
    exact W.iret (v := (-1)) hx hb hr (qw_end hS hP hD ⟨h_this, hsm⟩) hS.2.2 dX6_drop_8

theorem in_X6_item_X6 : ∀ w ∈ u_ws RX6 TX6 7, w ∈ wsX6_item := fun w h => List.mem_cons_of_mem _ (List.mem_append_left _ (List.mem_append_right _ h))
def pf_X6_item (sh : Nat → ss_T)  (p1 : Int32) (p2 : Int32) (p3 : Int32) (p4 : Int64) : Option (Int32 × (Nat → ss_T)) :=
  (pf_X6_isSheet p1).bind (fun r1 =>
    if r1 = 0 then
      some ((-1), sh)
    else
      (pf_X6_isLane p2).bind (fun r4 =>
        if r4 = 0 then
          some ((-1), sh)
        else
          ck_O (in_b p1 4) (
            (pf_X2_refusal ((sh (Int32.toNatClampNeg p1)).2.1) ((sh (Int32.toNatClampNeg p1)).2.2) p2 p3 1).bind (fun r21 =>
              if r21 = 0 then
                ck_O (in_b p1 4) (
                  (pf_X2_setItem ((sh (Int32.toNatClampNeg p1)).1) ((sh (Int32.toNatClampNeg p1)).2.1) ((sh (Int32.toNatClampNeg p1)).2.2) p3 p4).bind (fun r32 =>
                    some (1, (va_up sh (Int32.toNatClampNeg p1) (r32, (sh (Int32.toNatClampNeg p1)).2.1, (sh (Int32.toNatClampNeg p1)).2.2)))))
              else
                some (r21, sh)))))

set_option maxHeartbeats 4000000 in
set_option maxRecDepth 100000 in
theorem cz_X6_item (l : Launch) (D : va_G) (k : kt_T) (A : Nat → Nat) (ws : va_W) (q : Nat)  (h_now_told_pl : Nat → Int64) (h_now_told_sz : Int32) (h_now_inUse_pl : Nat → Int64) (h_now_inUse_sz : Int32) (h_now_draw : Int32) (h_kn : Nat → mm_T) (h_size : Int32) (k_now_told_pl : Nat → Int64) (k_now_told_sz : Int32) (k_now_inUse_pl : Nat → Int64) (k_now_inUse_sz : Int32) (k_now_draw : Int32) (k_kn : Nat → mm_T) (k_size : Int32) (v_sent : Nat → Int32) (v_sentI : Nat → Int32) (v_best : Nat → Int32) (v_ease : Nat → Int32) (v_fromA : Nat → Int32) (v_vi_pl : Nat → Int64) (v_vi_sz : Int32) (v_vl_pl : Nat → Int64) (v_vl_sz : Int32) (t_letters : Nat → Int32) (t_tt_pl : Nat → Int64) (t_tt_sz : Int32) (t_size : Int32) (t_place : Int32) (t_number : Int32) (sh : Nat → ss_T) (hasImage : Int32) (viewIsOld : Int32) (p1 : Int32) (p2 : Int32) (p3 : Int32) (p4 : Int64) (out : Int32 × (Nat → ss_T)) (hf : pf_X6_item sh p1 p2 p3 p4 = some out) (h_this : is_X k A ws q h_now_told_pl h_now_told_sz h_now_inUse_pl h_now_inUse_sz h_now_draw h_kn h_size k_now_told_pl k_now_told_sz k_now_inUse_pl k_now_inUse_sz k_now_draw k_kn k_size v_sent v_sentI v_best v_ease v_fromA v_vi_pl v_vi_sz v_vl_pl v_vl_sz t_letters t_tt_pl t_tt_sz t_size t_place t_number sh hasImage viewIsOld)  (sz0 : Nat) : Met l yX6_item wsX6_item { frames := 2, cells := 0, slots := 0, locals := 45 } (va_Pc [.ref (A q), .int p1, .int p2, .int p3, .long p4] (px_P D k ws sz0)) (qw_Q D ws sz0 (some (.int out.1)) (fun u => is_X k A u q h_now_told_pl h_now_told_sz h_now_inUse_pl h_now_inUse_sz h_now_draw h_kn h_size k_now_told_pl k_now_told_sz k_now_inUse_pl k_now_inUse_sz k_now_draw k_kn k_size v_sent v_sentI v_best v_ease v_fromA v_vi_pl v_vi_sz v_vl_pl v_vl_sz t_letters t_tt_pl t_tt_sz t_size t_place t_number out.2 hasImage viewIsOld ∧ sm_W ws u q (q + 98))) 0 0 (va_A ws sz0) := by
  refine Met.ofW (cc := cX6_item) (maxL := 7) (ret := (some .int)) (by decide) rfl ?_
  intro p e s m args below meth c s₁ B hml hv
  obtain ⟨rfl, hsz, hP, hK, hD0⟩ := hv
  subst hsz
  have hD := hD0.self (sz := s.heap.size)
  have C0 : cx_P p s m meth c [.ref (A q), .int p1, .int p2, .int p3, .long p4].toArray cX6_item 7 wsX6_item RX6 (some .int) := ⟨B.exec, B.bytes, hml, findClass_of_methodNamed B.named, atoms_spec (ws := wsX6_item) B.pre, B.returns, B.notSynchronized⟩
  obtain ⟨hx, hb, hml, hown, hts, hr, hlocks⟩ := id C0
  have hcf : CallFix p m c cX6_item 7 s [.ref (A q), .int p1, .int p2, .int p3, .long p4].toArray wsX6_item RX6 := ⟨hx, hb, hml, hown, hts⟩
  have hA : ∀ q, s.heap.size ≤ q → va_A ws s.heap.size q := fun q h => Or.inr h
  have hS : va_S (va_A ws s.heap.size) s.heap s.heap [] := va_S.rf
  have hsm : sm_W ws ws q (q + 98) := sm_rf
  have w_0 := hts (.fieldLink RX6 35 "LeastRoutes" "sheets" "[LLeastRoutes$Sheet;") (List.mem_of_getElem? (i := 1) rfl)
  have hl := lv_entry ([.ref (A q), .int p1, .int p2, .int p3, .long p4]) (n := 7) (Nat.le_of_ble_eq_true rfl)
  rw [lg_entry_eq]
  generalize (lg_sl ([.ref (A q), .int p1, .int p2, .int p3, .long p4]) ++ List.replicate (7 - (lg_sl ([.ref (A q), .int p1, .int p2, .int p3, .long p4])).length) Slot.unset).toArray = ls at hl ⊢
  have hl : lv_has ls 7 [(0, .ref (A q)), (1, .int p1), (2, .int p2), (3, .int p3), (4, .long p4)] := hl
  unfold pf_X6_item at hf
  refine lv_iload_n hx hb dX6_item_0 rfl (lv_at hl 1 rfl) ?_
  obtain ⟨r1, h2, hf⟩ := bd_s hf
  refine ks_i (va_runS (As := [.int p1]) (rest := []) hcf (cz_X6_isSheet l D k A ws p1 r1 h2) (va_cwS 1 hts gX6_item_X6_isSheet rfl rfl rfl (by decide +kernel) ⟨Nat.le_of_ble_eq_true rfl, Nat.le_of_ble_eq_true rfl⟩) (pw_S hP hK hD) rfl rfl hl.1 rfl (lv_room (Nat.le_of_ble_eq_true rfl)) dX6_item_1 ⟨Nat.zero_le _, Nat.zero_le _⟩) ?_
  refine lv_if_eq (tgt := 14) hx hb dX6_item_4 (by decide) (fun c3 => ?_) (fun c3 => ?_)
  · have hf := it_p c3 hf
    refine lv_iconst (v := (-1)) hx hb dX6_item_14 (by decide) ?_
    obtain rfl := so_i hf
    exact W.iret (v := (-1)) hx hb hr (qw_end hS hP hD ⟨h_this, hsm⟩) hS.2.2 dX6_item_15
  · have hf := it_n c3 hf
    refine lv_iload_n hx hb dX6_item_7 rfl (lv_at hl 2 rfl) ?_
    obtain ⟨r4, h5, hf⟩ := bd_s hf
    refine ks_i (va_runS (As := [.int p2]) (rest := []) hcf (cz_X6_isLane l D k A ws p2 r4 h5) (va_cwS 1 hts gX6_item_X6_isLane rfl rfl rfl (by decide +kernel) ⟨Nat.le_of_ble_eq_true rfl, Nat.le_of_ble_eq_true rfl⟩) (pw_S hP hK hD) rfl rfl hl.1 rfl (lv_room (Nat.le_of_ble_eq_true rfl)) dX6_item_8 ⟨Nat.zero_le _, Nat.zero_le _⟩) ?_
    refine lv_if_ne (tgt := 16) hx hb dX6_item_11 (by decide) (fun c6 => ?_) (fun c6 => ?_)
    · have hf := it_n c6 hf
      refine lv_aload_n hx hb dX6_item_16 rfl (lv_at hl 0 rfl) ?_
      obtain ⟨h7, h8, h9, h10, h11, h12⟩ := h_this
      refine va_get (D := D) (ci := 6) (v := .ref (A (q + 89))) (C := RX6) (T := TX6) (N := 7) hx hb hts in_X6_item_X6 hown hK.1 hP (q) h7 rfl 4 (by decide) w_0 (fun _ h9 => h9) rfl dX6_item_17 ?_
      refine lv_iload_n hx hb dX6_item_20 rfl (lv_at hl 1 rfl) ?_
      obtain ⟨z13, hf⟩ := ck_s hf
      obtain ⟨h14, h15, h16, h17, h19, h20⟩ := is_Z_get h12 (in_s z13)
      refine va_aldq hx hb hK.1 hP (q + 89) 3 h15 rfl (in_s z13) dX6_item_21 ?_
      refine W.eq (g2 := F0 m 22 ls [.ref (A (q + 89 + 1 + 2 * (Int32.toNatClampNeg p1)))]) (by rw [h16]; rfl) ?_
      refine lv_iload_n hx hb dX6_item_22 rfl (lv_at hl 2 rfl) ?_
      refine lv_iload_n hx hb dX6_item_23 rfl (lv_at hl 3 rfl) ?_
      refine lv_iconst (v := 1) hx hb dX6_item_24 (by decide) ?_
      obtain ⟨r21, h22, hf⟩ := bd_s hf
      refine ks_i (va_runV (As := [.int p2, .int p3, .int 1]) (rest := []) hcf (cz_X2_refusal l D k A ws (q + 89 + 1 + 2 * (Int32.toNatClampNeg p1)) ((sh (Int32.toNatClampNeg p1)).1) ((sh (Int32.toNatClampNeg p1)).2.1) ((sh (Int32.toNatClampNeg p1)).2.2) p2 p3 1 r21 h22 h19) (cwV 3 hts gX6_item_X2_refusal rfl rfl rfl (by decide +kernel) ⟨Nat.le_of_ble_eq_true rfl, Nat.le_of_ble_eq_true rfl⟩) (pw_V hP hK hD (ci := 2) h19.1 rfl) rfl rfl hl.1 rfl (lv_room (Nat.le_of_ble_eq_true rfl)) dX6_item_25 ⟨Nat.zero_le _, Nat.zero_le _⟩) ?_
      refine lv_istore (lv' := [(6, .int r21), (0, .ref (A q)), (1, .int p1), (2, .int p2), (3, .int p3), (4, .long p4)]) hx hb dX6_item_28 hl (by decide) rfl (fun ls hl => ?_)
      refine lv_iload hx hb dX6_item_30 (lv_at hl 0 rfl) ?_
      refine lv_if_eq (tgt := 38) hx hb dX6_item_32 (by decide) (fun c23 => ?_) (fun c23 => ?_)
      · have hf := it_p c23 hf
        refine lv_aload_n hx hb dX6_item_38 rfl (lv_at hl 1 rfl) ?_
        refine va_get (D := D) (ci := 6) (v := .ref (A (q + 89))) (C := RX6) (T := TX6) (N := 7) hx hb hts in_X6_item_X6 hown hK.1 hP (q) h7 rfl 4 (by decide) w_0 (fun _ h9 => h9) rfl dX6_item_39 ?_
        refine lv_iload_n hx hb dX6_item_42 rfl (lv_at hl 2 rfl) ?_
        obtain ⟨z24, hf⟩ := ck_s hf
        obtain ⟨h25, h26, h27, h28, h30, h31⟩ := is_Z_get h12 (in_s z24)
        refine va_aldq hx hb hK.1 hP (q + 89) 3 h26 rfl (in_s z24) dX6_item_43 ?_
        refine W.eq (g2 := F0 m 44 ls [.ref (A (q + 89 + 1 + 2 * (Int32.toNatClampNeg p1)))]) (by rw [h27]; rfl) ?_
        refine lv_iload_n hx hb dX6_item_44 rfl (lv_at hl 4 rfl) ?_
        refine lv_lload hx hb dX6_item_45 (lv_at hl 5 rfl) ?_
        obtain ⟨r32, h33, hf⟩ := bd_s hf
        refine kw_v (va_runV (As := [.int p3, .long p4]) (rest := []) hcf (cz_X2_setItem l D k A ws (q + 89 + 1 + 2 * (Int32.toNatClampNeg p1)) ((sh (Int32.toNatClampNeg p1)).1) ((sh (Int32.toNatClampNeg p1)).2.1) ((sh (Int32.toNatClampNeg p1)).2.2) p3 p4 r32 h33 h30 _) (cwV 2 hts gX6_item_X2_setItem rfl rfl rfl (by decide +kernel) ⟨Nat.le_of_ble_eq_true rfl, Nat.le_of_ble_eq_true rfl⟩) (px_V hP hK hD (ci := 2) h30.1 rfl) rfl rfl hl.1 rfl (lv_room (Nat.le_of_ble_eq_true rfl)) dX6_item_47 ⟨Nat.zero_le _, Nat.zero_le _⟩) hD hS hA (fun u34 _ _ h35 hP hD hS => ?_)
        obtain ⟨h37, m36⟩ := h35
        have hsm := sm_tr hsm m36 (by omega) (by omega)
        have h38 : is_Z k A u34 (q + 89) (va_up sh (Int32.toNatClampNeg p1) (r32, (sh (Int32.toNatClampNeg p1)).2.1, (sh (Int32.toNatClampNeg p1)).2.2)) := h31 _ (r32, (sh (Int32.toNatClampNeg p1)).2.1, (sh (Int32.toNatClampNeg p1)).2.2) h37 m36
        refine lv_iconst (v := 1) hx hb dX6_item_50 (by decide) ?_
        obtain rfl := so_i hf
        have h39 := sm_at m36 (by omega) h7
        have h40 := is_H_tr h8 m36 (by omega)
        have h41 := is_H_tr h9 m36 (by omega)
        have h42 := is_V_tr h10 m36 (by omega)
        have h43 := is_P_tr h11 m36 (by omega)
        have h44 : is_X k A u34 (q) h_now_told_pl h_now_told_sz h_now_inUse_pl h_now_inUse_sz h_now_draw h_kn h_size k_now_told_pl k_now_told_sz k_now_inUse_pl k_now_inUse_sz k_now_draw k_kn k_size v_sent v_sentI v_best v_ease v_fromA v_vi_pl v_vi_sz v_vl_pl v_vl_sz t_letters t_tt_pl t_tt_sz t_size t_place t_number (va_up sh (Int32.toNatClampNeg p1) (r32, (sh (Int32.toNatClampNeg p1)).2.1, (sh (Int32.toNatClampNeg p1)).2.2)) hasImage viewIsOld := ⟨h39, h40, h41, h42, h43, h38⟩
        exact W.iret (v := 1) hx hb hr (qw_end hS hP hD ⟨h44, hsm⟩) hS.2.2 dX6_item_51
      · have hf := it_n c23 hf
        refine lv_iload hx hb dX6_item_35 (lv_at hl 0 rfl) ?_
        obtain rfl := so_i hf
        have h45 : is_X k A ws (q) h_now_told_pl h_now_told_sz h_now_inUse_pl h_now_inUse_sz h_now_draw h_kn h_size k_now_told_pl k_now_told_sz k_now_inUse_pl k_now_inUse_sz k_now_draw k_kn k_size v_sent v_sentI v_best v_ease v_fromA v_vi_pl v_vi_sz v_vl_pl v_vl_sz t_letters t_tt_pl t_tt_sz t_size t_place t_number sh hasImage viewIsOld := ⟨h7, h8, h9, h10, h11, h12⟩
        exact W.iret (v := r21) hx hb hr (qw_end hS hP hD ⟨h45, hsm⟩) hS.2.2 dX6_item_37
    · have hf := it_p c6 hf
      refine lv_iconst (v := (-1)) hx hb dX6_item_14 (by decide) ?_
      obtain rfl := so_i hf
      exact W.iret (v := (-1)) hx hb hr (qw_end hS hP hD ⟨h_this, hsm⟩) hS.2.2 dX6_item_15

theorem in_X6_copy_X6 : ∀ w ∈ u_ws RX6 TX6 7, w ∈ wsX6_copy := fun w h => List.mem_cons_of_mem _ (List.mem_append_left _ (List.mem_append_right _ h))
def pf_X6_copy (sh : Nat → ss_T)  (p1 : Int32) (p2 : Int32) (p3 : Int32) (p4 : Int32) (p5 : Int32) : Option (Int32 × (Nat → ss_T)) :=
  (pf_X6_isSheet p1).bind (fun r1 =>
    if r1 = 0 then
      some ((-1), sh)
    else
      (pf_X6_isSheet p3).bind (fun r4 =>
        if r4 = 0 then
          some ((-1), sh)
        else
          ck_O (in_b p1 4) (
            if p1 = p3 then
              ck_O (in_b p3 4) (
                (pf_X2_holdsNothing ((sh (Int32.toNatClampNeg p1)).2.1)).bind (fun r23 =>
                  if r23 = 0 then
                    (pf_X2_holdsNothing ((sh (Int32.toNatClampNeg p1)).2.1)).bind (fun r27 =>
                      if r27 = 0 then
                        (pf_X2_hasLaneOf_s ((sh (Int32.toNatClampNeg p1)).2.1)).bind (fun r30 =>
                          if r30 = 0 then
                            some ((-12), sh)
                          else
                            (pf_X2_hasItems ((sh (Int32.toNatClampNeg p1)).2.2) p2 p5).bind (fun r33 =>
                              if r33 = 0 then
                                some ((-13), sh)
                              else
                                (pf_X2_hasItems ((sh (Int32.toNatClampNeg p1)).2.2) p4 p5).bind (fun r37 =>
                                  if r37 = 0 then
                                    some ((-13), sh)
                                  else
                                    (pf_X2_takeItems_s ((sh (Int32.toNatClampNeg p1)).1) ((sh (Int32.toNatClampNeg p1)).2.2) p4 p2 p5).bind (fun r40 =>
                                      some (p5, (va_up sh (Int32.toNatClampNeg p1) (r40, (sh (Int32.toNatClampNeg p1)).2.1, (sh (Int32.toNatClampNeg p1)).2.2)))))))
                      else
                        some ((-11), sh))
                  else
                    some ((-11), sh)))
            else
              ck_O (in_b p3 4) (
                (pf_X2_holdsNothing ((sh (Int32.toNatClampNeg p1)).2.1)).bind (fun r64 =>
                  if r64 = 0 then
                    (pf_X2_holdsNothing ((sh (Int32.toNatClampNeg p3)).2.1)).bind (fun r68 =>
                      if r68 = 0 then
                        (pf_X2_hasLaneOf ((sh (Int32.toNatClampNeg p3)).2.1) ((sh (Int32.toNatClampNeg p1)).2.1)).bind (fun r71 =>
                          if r71 = 0 then
                            some ((-12), sh)
                          else
                            (pf_X2_hasItems ((sh (Int32.toNatClampNeg p1)).2.2) p2 p5).bind (fun r74 =>
                              if r74 = 0 then
                                some ((-13), sh)
                              else
                                (pf_X2_hasItems ((sh (Int32.toNatClampNeg p3)).2.2) p4 p5).bind (fun r78 =>
                                  if r78 = 0 then
                                    some ((-13), sh)
                                  else
                                    (pf_X2_takeItems ((sh (Int32.toNatClampNeg p3)).1) ((sh (Int32.toNatClampNeg p3)).2.2) ((sh (Int32.toNatClampNeg p1)).1) ((sh (Int32.toNatClampNeg p1)).2.2) p4 p2 p5).bind (fun r81 =>
                                      some (p5, (va_up sh (Int32.toNatClampNeg p3) (r81, (sh (Int32.toNatClampNeg p3)).2.1, (sh (Int32.toNatClampNeg p3)).2.2)))))))
                      else
                        some ((-11), sh))
                  else
                    some ((-11), sh))))))

set_option maxHeartbeats 4000000 in
set_option maxRecDepth 100000 in
theorem cz_X6_copy (l : Launch) (D : va_G) (k : kt_T) (A : Nat → Nat) (ws : va_W) (q : Nat)  (h_now_told_pl : Nat → Int64) (h_now_told_sz : Int32) (h_now_inUse_pl : Nat → Int64) (h_now_inUse_sz : Int32) (h_now_draw : Int32) (h_kn : Nat → mm_T) (h_size : Int32) (k_now_told_pl : Nat → Int64) (k_now_told_sz : Int32) (k_now_inUse_pl : Nat → Int64) (k_now_inUse_sz : Int32) (k_now_draw : Int32) (k_kn : Nat → mm_T) (k_size : Int32) (v_sent : Nat → Int32) (v_sentI : Nat → Int32) (v_best : Nat → Int32) (v_ease : Nat → Int32) (v_fromA : Nat → Int32) (v_vi_pl : Nat → Int64) (v_vi_sz : Int32) (v_vl_pl : Nat → Int64) (v_vl_sz : Int32) (t_letters : Nat → Int32) (t_tt_pl : Nat → Int64) (t_tt_sz : Int32) (t_size : Int32) (t_place : Int32) (t_number : Int32) (sh : Nat → ss_T) (hasImage : Int32) (viewIsOld : Int32) (p1 : Int32) (p2 : Int32) (p3 : Int32) (p4 : Int32) (p5 : Int32) (out : Int32 × (Nat → ss_T)) (hf : pf_X6_copy sh p1 p2 p3 p4 p5 = some out) (h_this : is_X k A ws q h_now_told_pl h_now_told_sz h_now_inUse_pl h_now_inUse_sz h_now_draw h_kn h_size k_now_told_pl k_now_told_sz k_now_inUse_pl k_now_inUse_sz k_now_draw k_kn k_size v_sent v_sentI v_best v_ease v_fromA v_vi_pl v_vi_sz v_vl_pl v_vl_sz t_letters t_tt_pl t_tt_sz t_size t_place t_number sh hasImage viewIsOld)  (sz0 : Nat) : Met l yX6_copy wsX6_copy { frames := 2, cells := 0, slots := 0, locals := 84 } (va_Pc [.ref (A q), .int p1, .int p2, .int p3, .int p4, .int p5] (px_P D k ws sz0)) (qw_Q D ws sz0 (some (.int out.1)) (fun u => is_X k A u q h_now_told_pl h_now_told_sz h_now_inUse_pl h_now_inUse_sz h_now_draw h_kn h_size k_now_told_pl k_now_told_sz k_now_inUse_pl k_now_inUse_sz k_now_draw k_kn k_size v_sent v_sentI v_best v_ease v_fromA v_vi_pl v_vi_sz v_vl_pl v_vl_sz t_letters t_tt_pl t_tt_sz t_size t_place t_number out.2 hasImage viewIsOld ∧ sm_W ws u q (q + 98))) 0 0 (va_A ws sz0) := by
  refine Met.ofW (cc := cX6_copy) (maxL := 8) (ret := (some .int)) (by decide) rfl ?_
  intro p e s m args below meth c s₁ B hml hv
  obtain ⟨rfl, hsz, hP, hK, hD0⟩ := hv
  subst hsz
  have hD := hD0.self (sz := s.heap.size)
  have C0 : cx_P p s m meth c [.ref (A q), .int p1, .int p2, .int p3, .int p4, .int p5].toArray cX6_copy 8 wsX6_copy RX6 (some .int) := ⟨B.exec, B.bytes, hml, findClass_of_methodNamed B.named, atoms_spec (ws := wsX6_copy) B.pre, B.returns, B.notSynchronized⟩
  obtain ⟨hx, hb, hml, hown, hts, hr, hlocks⟩ := id C0
  have hcf : CallFix p m c cX6_copy 8 s [.ref (A q), .int p1, .int p2, .int p3, .int p4, .int p5].toArray wsX6_copy RX6 := ⟨hx, hb, hml, hown, hts⟩
  have hA : ∀ q, s.heap.size ≤ q → va_A ws s.heap.size q := fun q h => Or.inr h
  have hS : va_S (va_A ws s.heap.size) s.heap s.heap [] := va_S.rf
  have hsm : sm_W ws ws q (q + 98) := sm_rf
  have w_0 := hts (.fieldLink RX6 35 "LeastRoutes" "sheets" "[LLeastRoutes$Sheet;") (List.mem_of_getElem? (i := 1) rfl)
  have hl := lv_entry ([.ref (A q), .int p1, .int p2, .int p3, .int p4, .int p5]) (n := 8) (Nat.le_of_ble_eq_true rfl)
  rw [lg_entry_eq]
  generalize (lg_sl ([.ref (A q), .int p1, .int p2, .int p3, .int p4, .int p5]) ++ List.replicate (8 - (lg_sl ([.ref (A q), .int p1, .int p2, .int p3, .int p4, .int p5])).length) Slot.unset).toArray = ls at hl ⊢
  have hl : lv_has ls 8 [(0, .ref (A q)), (1, .int p1), (2, .int p2), (3, .int p3), (4, .int p4), (5, .int p5)] := hl
  unfold pf_X6_copy at hf
  refine lv_iload_n hx hb dX6_copy_0 rfl (lv_at hl 1 rfl) ?_
  obtain ⟨r1, h2, hf⟩ := bd_s hf
  refine ks_i (va_runS (As := [.int p1]) (rest := []) hcf (cz_X6_isSheet l D k A ws p1 r1 h2) (va_cwS 1 hts gX6_copy_X6_isSheet rfl rfl rfl (by decide +kernel) ⟨Nat.le_of_ble_eq_true rfl, Nat.le_of_ble_eq_true rfl⟩) (pw_S hP hK hD) rfl rfl hl.1 rfl (lv_room (Nat.le_of_ble_eq_true rfl)) dX6_copy_1 ⟨Nat.zero_le _, Nat.zero_le _⟩) ?_
  refine lv_if_eq (tgt := 14) hx hb dX6_copy_4 (by decide) (fun c3 => ?_) (fun c3 => ?_)
  · have hf := it_p c3 hf
    refine lv_iconst (v := (-1)) hx hb dX6_copy_14 (by decide) ?_
    obtain rfl := so_i hf
    exact W.iret (v := (-1)) hx hb hr (qw_end hS hP hD ⟨h_this, hsm⟩) hS.2.2 dX6_copy_15
  · have hf := it_n c3 hf
    refine lv_iload_n hx hb dX6_copy_7 rfl (lv_at hl 3 rfl) ?_
    obtain ⟨r4, h5, hf⟩ := bd_s hf
    refine ks_i (va_runS (As := [.int p3]) (rest := []) hcf (cz_X6_isSheet l D k A ws p3 r4 h5) (va_cwS 1 hts gX6_copy_X6_isSheet rfl rfl rfl (by decide +kernel) ⟨Nat.le_of_ble_eq_true rfl, Nat.le_of_ble_eq_true rfl⟩) (pw_S hP hK hD) rfl rfl hl.1 rfl (lv_room (Nat.le_of_ble_eq_true rfl)) dX6_copy_8 ⟨Nat.zero_le _, Nat.zero_le _⟩) ?_
    refine lv_if_ne (tgt := 16) hx hb dX6_copy_11 (by decide) (fun c6 => ?_) (fun c6 => ?_)
    · have hf := it_n c6 hf
      refine lv_aload_n hx hb dX6_copy_16 rfl (lv_at hl 0 rfl) ?_
      obtain ⟨h7, h8, h9, h10, h11, h12⟩ := h_this
      refine va_get (D := D) (ci := 6) (v := .ref (A (q + 89))) (C := RX6) (T := TX6) (N := 7) hx hb hts in_X6_copy_X6 hown hK.1 hP (q) h7 rfl 4 (by decide) w_0 (fun _ h9 => h9) rfl dX6_copy_17 ?_
      refine lv_iload_n hx hb dX6_copy_20 rfl (lv_at hl 1 rfl) ?_
      obtain ⟨z13, hf⟩ := ck_s hf
      obtain ⟨h14, h15, h16, h17, h19, h20⟩ := is_Z_get h12 (in_s z13)
      refine va_aldq hx hb hK.1 hP (q + 89) 3 h15 rfl (in_s z13) dX6_copy_21 ?_
      refine W.eq (g2 := F0 m 22 ls [.ref (A (q + 89 + 1 + 2 * (Int32.toNatClampNeg p1)))]) (by rw [h16]; rfl) ?_
      refine lv_astore (lv' := [(6, .ref (A (q + 89 + 1 + 2 * (Int32.toNatClampNeg p1)))), (0, .ref (A q)), (1, .int p1), (2, .int p2), (3, .int p3), (4, .int p4), (5, .int p5)]) hx hb dX6_copy_22 hl (by decide) rfl (fun ls hl => ?_)
      refine lv_aload_n hx hb dX6_copy_24 rfl (lv_at hl 1 rfl) ?_
      refine va_get (D := D) (ci := 6) (v := .ref (A (q + 89))) (C := RX6) (T := TX6) (N := 7) hx hb hts in_X6_copy_X6 hown hK.1 hP (q) h7 rfl 4 (by decide) w_0 (fun _ h9 => h9) rfl dX6_copy_25 ?_
      refine lv_iload_n hx hb dX6_copy_28 rfl (lv_at hl 4 rfl) ?_
      by_cases c21 : p1 = p3
      · have hf := it_p c21 hf
        obtain ⟨z22, hf⟩ := ck_s hf
        refine va_aldq hx hb hK.1 hP (q + 89) 3 h15 rfl (in_s z22) dX6_copy_29 ?_
        refine W.eq (g2 := F0 m 30 ls [.ref (A (q + 89 + 1 + 2 * (Int32.toNatClampNeg p1)))]) (by rw [← c21, h16]; rfl) ?_
        refine lv_astore (lv' := [(7, .ref (A (q + 89 + 1 + 2 * (Int32.toNatClampNeg p1)))), (6, .ref (A (q + 89 + 1 + 2 * (Int32.toNatClampNeg p1)))), (0, .ref (A q)), (1, .int p1), (2, .int p2), (3, .int p3), (4, .int p4), (5, .int p5)]) hx hb dX6_copy_30 hl (by decide) rfl (fun ls hl => ?_)
        refine lv_aload hx hb dX6_copy_32 (lv_at hl 1 rfl) ?_
        obtain ⟨r23, h24, hf⟩ := bd_s hf
        refine ks_i (va_runV (As := []) (rest := []) hcf (cz_X2_holdsNothing l D k A ws (q + 89 + 1 + 2 * (Int32.toNatClampNeg p1)) ((sh (Int32.toNatClampNeg p1)).1) ((sh (Int32.toNatClampNeg p1)).2.1) ((sh (Int32.toNatClampNeg p1)).2.2) r23 h24 h19) (cwV 0 hts gX6_copy_X2_holdsNothing rfl rfl rfl (by decide +kernel) ⟨Nat.le_of_ble_eq_true rfl, Nat.le_of_ble_eq_true rfl⟩) (pw_V hP hK hD (ci := 2) h19.1 rfl) rfl rfl hl.1 rfl (lv_room (Nat.le_of_ble_eq_true rfl)) dX6_copy_34 ⟨Nat.zero_le _, Nat.zero_le _⟩) ?_
        refine lv_if_ne (tgt := 48) hx hb dX6_copy_37 (by decide) (fun c25 => ?_) (fun c25 => ?_)
        · have hf := it_n c25 hf
          refine lv_bipush (v := (-11)) hx hb dX6_copy_48 (by decide) ?_
          obtain rfl := so_i hf
          have h26 : is_X k A ws (q) h_now_told_pl h_now_told_sz h_now_inUse_pl h_now_inUse_sz h_now_draw h_kn h_size k_now_told_pl k_now_told_sz k_now_inUse_pl k_now_inUse_sz k_now_draw k_kn k_size v_sent v_sentI v_best v_ease v_fromA v_vi_pl v_vi_sz v_vl_pl v_vl_sz t_letters t_tt_pl t_tt_sz t_size t_place t_number sh hasImage viewIsOld := ⟨h7, h8, h9, h10, h11, h12⟩
          exact W.iret (v := (-11)) hx hb hr (qw_end hS hP hD ⟨h26, hsm⟩) hS.2.2 dX6_copy_50
        · have hf := it_p c25 hf
          refine lv_aload hx hb dX6_copy_40 (lv_at hl 0 rfl) ?_
          obtain ⟨r27, h28, hf⟩ := bd_s hf
          refine ks_i (va_runV (As := []) (rest := []) hcf (cz_X2_holdsNothing l D k A ws (q + 89 + 1 + 2 * (Int32.toNatClampNeg p1)) ((sh (Int32.toNatClampNeg p1)).1) ((sh (Int32.toNatClampNeg p1)).2.1) ((sh (Int32.toNatClampNeg p1)).2.2) r27 h28 h19) (cwV 0 hts gX6_copy_X2_holdsNothing rfl rfl rfl (by decide +kernel) ⟨Nat.le_of_ble_eq_true rfl, Nat.le_of_ble_eq_true rfl⟩) (pw_V hP hK hD (ci := 2) h19.1 rfl) rfl rfl hl.1 rfl (lv_room (Nat.le_of_ble_eq_true rfl)) dX6_copy_42 ⟨Nat.zero_le _, Nat.zero_le _⟩) ?_
          refine lv_if_eq (tgt := 51) hx hb dX6_copy_45 (by decide) (fun c29 => ?_) (fun c29 => ?_)
          · have hf := it_p c29 hf
            refine lv_aload hx hb dX6_copy_51 (lv_at hl 0 rfl) ?_
            refine lv_aload hx hb dX6_copy_53 (lv_at hl 1 rfl) ?_
            obtain ⟨r30, h31, hf⟩ := bd_s hf
            refine ks_i (va_runV (As := [.ref (A (q + 89 + 1 + 2 * (Int32.toNatClampNeg p1)))]) (rest := []) hcf (cz_X2_hasLaneOf_s l D k A ws (q + 89 + 1 + 2 * (Int32.toNatClampNeg p1)) ((sh (Int32.toNatClampNeg p1)).1) ((sh (Int32.toNatClampNeg p1)).2.1) ((sh (Int32.toNatClampNeg p1)).2.2) r30 h31 h19) (cwV 1 hts gX6_copy_X2_hasLaneOf rfl rfl rfl (by decide +kernel) ⟨Nat.le_of_ble_eq_true rfl, Nat.le_of_ble_eq_true rfl⟩) (pw_V hP hK hD (ci := 2) h19.1 rfl) rfl rfl hl.1 rfl (lv_room (Nat.le_of_ble_eq_true rfl)) dX6_copy_55 ⟨Nat.zero_le _, Nat.zero_le _⟩) ?_
            refine lv_if_ne (tgt := 64) hx hb dX6_copy_58 (by decide) (fun c32 => ?_) (fun c32 => ?_)
            · have hf := it_n c32 hf
              refine lv_aload hx hb dX6_copy_64 (lv_at hl 1 rfl) ?_
              refine lv_iload_n hx hb dX6_copy_66 rfl (lv_at hl 4 rfl) ?_
              refine lv_iload hx hb dX6_copy_67 (lv_at hl 7 rfl) ?_
              obtain ⟨r33, h34, hf⟩ := bd_s hf
              refine ks_i (va_runV (As := [.int p2, .int p5]) (rest := []) hcf (cz_X2_hasItems l D k A ws (q + 89 + 1 + 2 * (Int32.toNatClampNeg p1)) ((sh (Int32.toNatClampNeg p1)).1) ((sh (Int32.toNatClampNeg p1)).2.1) ((sh (Int32.toNatClampNeg p1)).2.2) p2 p5 r33 h34 h19) (cwV 2 hts gX6_copy_X2_hasItems rfl rfl rfl (by decide +kernel) ⟨Nat.le_of_ble_eq_true rfl, Nat.le_of_ble_eq_true rfl⟩) (pw_V hP hK hD (ci := 2) h19.1 rfl) rfl rfl hl.1 rfl (lv_room (Nat.le_of_ble_eq_true rfl)) dX6_copy_69 ⟨Nat.zero_le _, Nat.zero_le _⟩) ?_
              refine lv_if_eq (tgt := 87) hx hb dX6_copy_72 (by decide) (fun c35 => ?_) (fun c35 => ?_)
              · have hf := it_p c35 hf
                refine lv_bipush (v := (-13)) hx hb dX6_copy_87 (by decide) ?_
                obtain rfl := so_i hf
                have h36 : is_X k A ws (q) h_now_told_pl h_now_told_sz h_now_inUse_pl h_now_inUse_sz h_now_draw h_kn h_size k_now_told_pl k_now_told_sz k_now_inUse_pl k_now_inUse_sz k_now_draw k_kn k_size v_sent v_sentI v_best v_ease v_fromA v_vi_pl v_vi_sz v_vl_pl v_vl_sz t_letters t_tt_pl t_tt_sz t_size t_place t_number sh hasImage viewIsOld := ⟨h7, h8, h9, h10, h11, h12⟩
                exact W.iret (v := (-13)) hx hb hr (qw_end hS hP hD ⟨h36, hsm⟩) hS.2.2 dX6_copy_89
              · have hf := it_n c35 hf
                refine lv_aload hx hb dX6_copy_75 (lv_at hl 0 rfl) ?_
                refine lv_iload hx hb dX6_copy_77 (lv_at hl 6 rfl) ?_
                refine lv_iload hx hb dX6_copy_79 (lv_at hl 7 rfl) ?_
                obtain ⟨r37, h38, hf⟩ := bd_s hf
                refine ks_i (va_runV (As := [.int p4, .int p5]) (rest := []) hcf (cz_X2_hasItems l D k A ws (q + 89 + 1 + 2 * (Int32.toNatClampNeg p1)) ((sh (Int32.toNatClampNeg p1)).1) ((sh (Int32.toNatClampNeg p1)).2.1) ((sh (Int32.toNatClampNeg p1)).2.2) p4 p5 r37 h38 h19) (cwV 2 hts gX6_copy_X2_hasItems rfl rfl rfl (by decide +kernel) ⟨Nat.le_of_ble_eq_true rfl, Nat.le_of_ble_eq_true rfl⟩) (pw_V hP hK hD (ci := 2) h19.1 rfl) rfl rfl hl.1 rfl (lv_room (Nat.le_of_ble_eq_true rfl)) dX6_copy_81 ⟨Nat.zero_le _, Nat.zero_le _⟩) ?_
                refine lv_if_ne (tgt := 90) hx hb dX6_copy_84 (by decide) (fun c39 => ?_) (fun c39 => ?_)
                · have hf := it_n c39 hf
                  refine lv_aload hx hb dX6_copy_90 (lv_at hl 0 rfl) ?_
                  refine lv_iload hx hb dX6_copy_92 (lv_at hl 6 rfl) ?_
                  refine lv_aload hx hb dX6_copy_94 (lv_at hl 1 rfl) ?_
                  refine lv_iload_n hx hb dX6_copy_96 rfl (lv_at hl 4 rfl) ?_
                  refine lv_iload hx hb dX6_copy_97 (lv_at hl 7 rfl) ?_
                  obtain ⟨r40, h41, hf⟩ := bd_s hf
                  refine kw_v (va_runV (As := [.int p4, .ref (A (q + 89 + 1 + 2 * (Int32.toNatClampNeg p1))), .int p2, .int p5]) (rest := []) hcf (cz_X2_takeItems_s l D k A ws (q + 89 + 1 + 2 * (Int32.toNatClampNeg p1)) ((sh (Int32.toNatClampNeg p1)).1) ((sh (Int32.toNatClampNeg p1)).2.1) ((sh (Int32.toNatClampNeg p1)).2.2) p4 p2 p5 r40 h41 h19 _) (cwV 4 hts gX6_copy_X2_takeItems rfl rfl rfl (by decide +kernel) ⟨Nat.le_of_ble_eq_true rfl, Nat.le_of_ble_eq_true rfl⟩) (px_V hP hK hD (ci := 2) h19.1 rfl) rfl rfl hl.1 rfl (lv_room (Nat.le_of_ble_eq_true rfl)) dX6_copy_99 ⟨Nat.zero_le _, Nat.zero_le _⟩) hD hS hA (fun u42 _ _ h43 hP hD hS => ?_)
                  obtain ⟨h45, m44⟩ := h43
                  have hsm := sm_tr hsm m44 (by omega) (by omega)
                  have h46 : is_Z k A u42 (q + 89) (va_up sh (Int32.toNatClampNeg p1) (r40, (sh (Int32.toNatClampNeg p1)).2.1, (sh (Int32.toNatClampNeg p1)).2.2)) := h20 _ (r40, (sh (Int32.toNatClampNeg p1)).2.1, (sh (Int32.toNatClampNeg p1)).2.2) h45 m44
                  refine lv_iload hx hb dX6_copy_102 (lv_at hl 7 rfl) ?_
                  obtain rfl := so_i hf
                  have h47 := sm_at m44 (by omega) h7
                  have h48 := is_H_tr h8 m44 (by omega)
                  have h49 := is_H_tr h9 m44 (by omega)
                  have h50 := is_V_tr h10 m44 (by omega)
                  have h51 := is_P_tr h11 m44 (by omega)
                  have h52 : is_X k A u42 (q) h_now_told_pl h_now_told_sz h_now_inUse_pl h_now_inUse_sz h_now_draw h_kn h_size k_now_told_pl k_now_told_sz k_now_inUse_pl k_now_inUse_sz k_now_draw k_kn k_size v_sent v_sentI v_best v_ease v_fromA v_vi_pl v_vi_sz v_vl_pl v_vl_sz t_letters t_tt_pl t_tt_sz t_size t_place t_number (va_up sh (Int32.toNatClampNeg p1) (r40, (sh (Int32.toNatClampNeg p1)).2.1, (sh (Int32.toNatClampNeg p1)).2.2)) hasImage viewIsOld := ⟨h47, h48, h49, h50, h51, h46⟩
                  exact W.iret (v := p5) hx hb hr (qw_end hS hP hD ⟨h52, hsm⟩) hS.2.2 dX6_copy_104
                · have hf := it_p c39 hf
                  refine lv_bipush (v := (-13)) hx hb dX6_copy_87 (by decide) ?_
                  obtain rfl := so_i hf
                  have h53 : is_X k A ws (q) h_now_told_pl h_now_told_sz h_now_inUse_pl h_now_inUse_sz h_now_draw h_kn h_size k_now_told_pl k_now_told_sz k_now_inUse_pl k_now_inUse_sz k_now_draw k_kn k_size v_sent v_sentI v_best v_ease v_fromA v_vi_pl v_vi_sz v_vl_pl v_vl_sz t_letters t_tt_pl t_tt_sz t_size t_place t_number sh hasImage viewIsOld := ⟨h7, h8, h9, h10, h11, h12⟩
                  exact W.iret (v := (-13)) hx hb hr (qw_end hS hP hD ⟨h53, hsm⟩) hS.2.2 dX6_copy_89
            · have hf := it_p c32 hf
              refine lv_bipush (v := (-12)) hx hb dX6_copy_61 (by decide) ?_
              obtain rfl := so_i hf
              have h54 : is_X k A ws (q) h_now_told_pl h_now_told_sz h_now_inUse_pl h_now_inUse_sz h_now_draw h_kn h_size k_now_told_pl k_now_told_sz k_now_inUse_pl k_now_inUse_sz k_now_draw k_kn k_size v_sent v_sentI v_best v_ease v_fromA v_vi_pl v_vi_sz v_vl_pl v_vl_sz t_letters t_tt_pl t_tt_sz t_size t_place t_number sh hasImage viewIsOld := ⟨h7, h8, h9, h10, h11, h12⟩
              exact W.iret (v := (-12)) hx hb hr (qw_end hS hP hD ⟨h54, hsm⟩) hS.2.2 dX6_copy_63
          · have hf := it_n c29 hf
            refine lv_bipush (v := (-11)) hx hb dX6_copy_48 (by decide) ?_
            obtain rfl := so_i hf
            have h55 : is_X k A ws (q) h_now_told_pl h_now_told_sz h_now_inUse_pl h_now_inUse_sz h_now_draw h_kn h_size k_now_told_pl k_now_told_sz k_now_inUse_pl k_now_inUse_sz k_now_draw k_kn k_size v_sent v_sentI v_best v_ease v_fromA v_vi_pl v_vi_sz v_vl_pl v_vl_sz t_letters t_tt_pl t_tt_sz t_size t_place t_number sh hasImage viewIsOld := ⟨h7, h8, h9, h10, h11, h12⟩
            exact W.iret (v := (-11)) hx hb hr (qw_end hS hP hD ⟨h55, hsm⟩) hS.2.2 dX6_copy_50
      · have hf := it_n c21 hf
        obtain ⟨z56, hf⟩ := ck_s hf
        obtain ⟨h57, h58, h59, h60, h62, h63⟩ := is_Z_get h12 (in_s z56)
        refine va_aldq hx hb hK.1 hP (q + 89) 3 h58 rfl (in_s z56) dX6_copy_29 ?_
        refine W.eq (g2 := F0 m 30 ls [.ref (A (q + 89 + 1 + 2 * (Int32.toNatClampNeg p3)))]) (by rw [h59]; rfl) ?_
        have hne := tn_ne c21 (in_s z13) (in_s z56)
        refine lv_astore (lv' := [(7, .ref (A (q + 89 + 1 + 2 * (Int32.toNatClampNeg p3)))), (6, .ref (A (q + 89 + 1 + 2 * (Int32.toNatClampNeg p1)))), (0, .ref (A q)), (1, .int p1), (2, .int p2), (3, .int p3), (4, .int p4), (5, .int p5)]) hx hb dX6_copy_30 hl (by decide) rfl (fun ls hl => ?_)
        refine lv_aload hx hb dX6_copy_32 (lv_at hl 1 rfl) ?_
        obtain ⟨r64, h65, hf⟩ := bd_s hf
        refine ks_i (va_runV (As := []) (rest := []) hcf (cz_X2_holdsNothing l D k A ws (q + 89 + 1 + 2 * (Int32.toNatClampNeg p1)) ((sh (Int32.toNatClampNeg p1)).1) ((sh (Int32.toNatClampNeg p1)).2.1) ((sh (Int32.toNatClampNeg p1)).2.2) r64 h65 h19) (cwV 0 hts gX6_copy_X2_holdsNothing rfl rfl rfl (by decide +kernel) ⟨Nat.le_of_ble_eq_true rfl, Nat.le_of_ble_eq_true rfl⟩) (pw_V hP hK hD (ci := 2) h19.1 rfl) rfl rfl hl.1 rfl (lv_room (Nat.le_of_ble_eq_true rfl)) dX6_copy_34 ⟨Nat.zero_le _, Nat.zero_le _⟩) ?_
        refine lv_if_ne (tgt := 48) hx hb dX6_copy_37 (by decide) (fun c66 => ?_) (fun c66 => ?_)
        · have hf := it_n c66 hf
          refine lv_bipush (v := (-11)) hx hb dX6_copy_48 (by decide) ?_
          obtain rfl := so_i hf
          have h67 : is_X k A ws (q) h_now_told_pl h_now_told_sz h_now_inUse_pl h_now_inUse_sz h_now_draw h_kn h_size k_now_told_pl k_now_told_sz k_now_inUse_pl k_now_inUse_sz k_now_draw k_kn k_size v_sent v_sentI v_best v_ease v_fromA v_vi_pl v_vi_sz v_vl_pl v_vl_sz t_letters t_tt_pl t_tt_sz t_size t_place t_number sh hasImage viewIsOld := ⟨h7, h8, h9, h10, h11, h12⟩
          exact W.iret (v := (-11)) hx hb hr (qw_end hS hP hD ⟨h67, hsm⟩) hS.2.2 dX6_copy_50
        · have hf := it_p c66 hf
          refine lv_aload hx hb dX6_copy_40 (lv_at hl 0 rfl) ?_
          obtain ⟨r68, h69, hf⟩ := bd_s hf
          refine ks_i (va_runV (As := []) (rest := []) hcf (cz_X2_holdsNothing l D k A ws (q + 89 + 1 + 2 * (Int32.toNatClampNeg p3)) ((sh (Int32.toNatClampNeg p3)).1) ((sh (Int32.toNatClampNeg p3)).2.1) ((sh (Int32.toNatClampNeg p3)).2.2) r68 h69 h62) (cwV 0 hts gX6_copy_X2_holdsNothing rfl rfl rfl (by decide +kernel) ⟨Nat.le_of_ble_eq_true rfl, Nat.le_of_ble_eq_true rfl⟩) (pw_V hP hK hD (ci := 2) h62.1 rfl) rfl rfl hl.1 rfl (lv_room (Nat.le_of_ble_eq_true rfl)) dX6_copy_42 ⟨Nat.zero_le _, Nat.zero_le _⟩) ?_
          refine lv_if_eq (tgt := 51) hx hb dX6_copy_45 (by decide) (fun c70 => ?_) (fun c70 => ?_)
          · have hf := it_p c70 hf
            refine lv_aload hx hb dX6_copy_51 (lv_at hl 0 rfl) ?_
            refine lv_aload hx hb dX6_copy_53 (lv_at hl 1 rfl) ?_
            obtain ⟨r71, h72, hf⟩ := bd_s hf
            refine ks_i (va_runV (As := [.ref (A (q + 89 + 1 + 2 * (Int32.toNatClampNeg p1)))]) (rest := []) hcf (cz_X2_hasLaneOf l D k A ws (q + 89 + 1 + 2 * (Int32.toNatClampNeg p3)) (q + 89 + 1 + 2 * (Int32.toNatClampNeg p1)) ((sh (Int32.toNatClampNeg p3)).1) ((sh (Int32.toNatClampNeg p3)).2.1) ((sh (Int32.toNatClampNeg p3)).2.2) ((sh (Int32.toNatClampNeg p1)).1) ((sh (Int32.toNatClampNeg p1)).2.1) ((sh (Int32.toNatClampNeg p1)).2.2) r71 h72 h62 h19) (cwV 1 hts gX6_copy_X2_hasLaneOf rfl rfl rfl (by decide +kernel) ⟨Nat.le_of_ble_eq_true rfl, Nat.le_of_ble_eq_true rfl⟩) (pw_V hP hK hD (ci := 2) h62.1 rfl) rfl rfl hl.1 rfl (lv_room (Nat.le_of_ble_eq_true rfl)) dX6_copy_55 ⟨Nat.zero_le _, Nat.zero_le _⟩) ?_
            refine lv_if_ne (tgt := 64) hx hb dX6_copy_58 (by decide) (fun c73 => ?_) (fun c73 => ?_)
            · have hf := it_n c73 hf
              refine lv_aload hx hb dX6_copy_64 (lv_at hl 1 rfl) ?_
              refine lv_iload_n hx hb dX6_copy_66 rfl (lv_at hl 4 rfl) ?_
              refine lv_iload hx hb dX6_copy_67 (lv_at hl 7 rfl) ?_
              obtain ⟨r74, h75, hf⟩ := bd_s hf
              refine ks_i (va_runV (As := [.int p2, .int p5]) (rest := []) hcf (cz_X2_hasItems l D k A ws (q + 89 + 1 + 2 * (Int32.toNatClampNeg p1)) ((sh (Int32.toNatClampNeg p1)).1) ((sh (Int32.toNatClampNeg p1)).2.1) ((sh (Int32.toNatClampNeg p1)).2.2) p2 p5 r74 h75 h19) (cwV 2 hts gX6_copy_X2_hasItems rfl rfl rfl (by decide +kernel) ⟨Nat.le_of_ble_eq_true rfl, Nat.le_of_ble_eq_true rfl⟩) (pw_V hP hK hD (ci := 2) h19.1 rfl) rfl rfl hl.1 rfl (lv_room (Nat.le_of_ble_eq_true rfl)) dX6_copy_69 ⟨Nat.zero_le _, Nat.zero_le _⟩) ?_
              refine lv_if_eq (tgt := 87) hx hb dX6_copy_72 (by decide) (fun c76 => ?_) (fun c76 => ?_)
              · have hf := it_p c76 hf
                refine lv_bipush (v := (-13)) hx hb dX6_copy_87 (by decide) ?_
                obtain rfl := so_i hf
                have h77 : is_X k A ws (q) h_now_told_pl h_now_told_sz h_now_inUse_pl h_now_inUse_sz h_now_draw h_kn h_size k_now_told_pl k_now_told_sz k_now_inUse_pl k_now_inUse_sz k_now_draw k_kn k_size v_sent v_sentI v_best v_ease v_fromA v_vi_pl v_vi_sz v_vl_pl v_vl_sz t_letters t_tt_pl t_tt_sz t_size t_place t_number sh hasImage viewIsOld := ⟨h7, h8, h9, h10, h11, h12⟩
                exact W.iret (v := (-13)) hx hb hr (qw_end hS hP hD ⟨h77, hsm⟩) hS.2.2 dX6_copy_89
              · have hf := it_n c76 hf
                refine lv_aload hx hb dX6_copy_75 (lv_at hl 0 rfl) ?_
                refine lv_iload hx hb dX6_copy_77 (lv_at hl 6 rfl) ?_
                refine lv_iload hx hb dX6_copy_79 (lv_at hl 7 rfl) ?_
                obtain ⟨r78, h79, hf⟩ := bd_s hf
                refine ks_i (va_runV (As := [.int p4, .int p5]) (rest := []) hcf (cz_X2_hasItems l D k A ws (q + 89 + 1 + 2 * (Int32.toNatClampNeg p3)) ((sh (Int32.toNatClampNeg p3)).1) ((sh (Int32.toNatClampNeg p3)).2.1) ((sh (Int32.toNatClampNeg p3)).2.2) p4 p5 r78 h79 h62) (cwV 2 hts gX6_copy_X2_hasItems rfl rfl rfl (by decide +kernel) ⟨Nat.le_of_ble_eq_true rfl, Nat.le_of_ble_eq_true rfl⟩) (pw_V hP hK hD (ci := 2) h62.1 rfl) rfl rfl hl.1 rfl (lv_room (Nat.le_of_ble_eq_true rfl)) dX6_copy_81 ⟨Nat.zero_le _, Nat.zero_le _⟩) ?_
                refine lv_if_ne (tgt := 90) hx hb dX6_copy_84 (by decide) (fun c80 => ?_) (fun c80 => ?_)
                · have hf := it_n c80 hf
                  refine lv_aload hx hb dX6_copy_90 (lv_at hl 0 rfl) ?_
                  refine lv_iload hx hb dX6_copy_92 (lv_at hl 6 rfl) ?_
                  refine lv_aload hx hb dX6_copy_94 (lv_at hl 1 rfl) ?_
                  refine lv_iload_n hx hb dX6_copy_96 rfl (lv_at hl 4 rfl) ?_
                  refine lv_iload hx hb dX6_copy_97 (lv_at hl 7 rfl) ?_
                  obtain ⟨r81, h82, hf⟩ := bd_s hf
                  refine kw_v (va_runV (As := [.int p4, .ref (A (q + 89 + 1 + 2 * (Int32.toNatClampNeg p1))), .int p2, .int p5]) (rest := []) hcf (cz_X2_takeItems l D k A ws (q + 89 + 1 + 2 * (Int32.toNatClampNeg p3)) (q + 89 + 1 + 2 * (Int32.toNatClampNeg p1)) ((sh (Int32.toNatClampNeg p3)).1) ((sh (Int32.toNatClampNeg p3)).2.1) ((sh (Int32.toNatClampNeg p3)).2.2) ((sh (Int32.toNatClampNeg p1)).1) ((sh (Int32.toNatClampNeg p1)).2.1) ((sh (Int32.toNatClampNeg p1)).2.2) p4 p2 p5 r81 h82 h62 h19 (by omega) _) (cwV 4 hts gX6_copy_X2_takeItems rfl rfl rfl (by decide +kernel) ⟨Nat.le_of_ble_eq_true rfl, Nat.le_of_ble_eq_true rfl⟩) (px_V hP hK hD (ci := 2) h62.1 rfl) rfl rfl hl.1 rfl (lv_room (Nat.le_of_ble_eq_true rfl)) dX6_copy_99 ⟨Nat.zero_le _, Nat.zero_le _⟩) hD hS hA (fun u83 _ _ h84 hP hD hS => ?_)
                  obtain ⟨h86, m85⟩ := h84
                  have hsm := sm_tr hsm m85 (by omega) (by omega)
                  have h87 : is_Z k A u83 (q + 89) (va_up sh (Int32.toNatClampNeg p3) (r81, (sh (Int32.toNatClampNeg p3)).2.1, (sh (Int32.toNatClampNeg p3)).2.2)) := h63 _ (r81, (sh (Int32.toNatClampNeg p3)).2.1, (sh (Int32.toNatClampNeg p3)).2.2) h86 m85
                  refine lv_iload hx hb dX6_copy_102 (lv_at hl 7 rfl) ?_
                  obtain rfl := so_i hf
                  have h88 := sm_at m85 (by omega) h7
                  have h89 := is_H_tr h8 m85 (by omega)
                  have h90 := is_H_tr h9 m85 (by omega)
                  have h91 := is_V_tr h10 m85 (by omega)
                  have h92 := is_P_tr h11 m85 (by omega)
                  have h93 : is_X k A u83 (q) h_now_told_pl h_now_told_sz h_now_inUse_pl h_now_inUse_sz h_now_draw h_kn h_size k_now_told_pl k_now_told_sz k_now_inUse_pl k_now_inUse_sz k_now_draw k_kn k_size v_sent v_sentI v_best v_ease v_fromA v_vi_pl v_vi_sz v_vl_pl v_vl_sz t_letters t_tt_pl t_tt_sz t_size t_place t_number (va_up sh (Int32.toNatClampNeg p3) (r81, (sh (Int32.toNatClampNeg p3)).2.1, (sh (Int32.toNatClampNeg p3)).2.2)) hasImage viewIsOld := ⟨h88, h89, h90, h91, h92, h87⟩
                  exact W.iret (v := p5) hx hb hr (qw_end hS hP hD ⟨h93, hsm⟩) hS.2.2 dX6_copy_104
                · have hf := it_p c80 hf
                  refine lv_bipush (v := (-13)) hx hb dX6_copy_87 (by decide) ?_
                  obtain rfl := so_i hf
                  have h94 : is_X k A ws (q) h_now_told_pl h_now_told_sz h_now_inUse_pl h_now_inUse_sz h_now_draw h_kn h_size k_now_told_pl k_now_told_sz k_now_inUse_pl k_now_inUse_sz k_now_draw k_kn k_size v_sent v_sentI v_best v_ease v_fromA v_vi_pl v_vi_sz v_vl_pl v_vl_sz t_letters t_tt_pl t_tt_sz t_size t_place t_number sh hasImage viewIsOld := ⟨h7, h8, h9, h10, h11, h12⟩
                  exact W.iret (v := (-13)) hx hb hr (qw_end hS hP hD ⟨h94, hsm⟩) hS.2.2 dX6_copy_89
            · have hf := it_p c73 hf
              refine lv_bipush (v := (-12)) hx hb dX6_copy_61 (by decide) ?_
              obtain rfl := so_i hf
              have h95 : is_X k A ws (q) h_now_told_pl h_now_told_sz h_now_inUse_pl h_now_inUse_sz h_now_draw h_kn h_size k_now_told_pl k_now_told_sz k_now_inUse_pl k_now_inUse_sz k_now_draw k_kn k_size v_sent v_sentI v_best v_ease v_fromA v_vi_pl v_vi_sz v_vl_pl v_vl_sz t_letters t_tt_pl t_tt_sz t_size t_place t_number sh hasImage viewIsOld := ⟨h7, h8, h9, h10, h11, h12⟩
              exact W.iret (v := (-12)) hx hb hr (qw_end hS hP hD ⟨h95, hsm⟩) hS.2.2 dX6_copy_63
          · have hf := it_n c70 hf
            refine lv_bipush (v := (-11)) hx hb dX6_copy_48 (by decide) ?_
            obtain rfl := so_i hf
            have h96 : is_X k A ws (q) h_now_told_pl h_now_told_sz h_now_inUse_pl h_now_inUse_sz h_now_draw h_kn h_size k_now_told_pl k_now_told_sz k_now_inUse_pl k_now_inUse_sz k_now_draw k_kn k_size v_sent v_sentI v_best v_ease v_fromA v_vi_pl v_vi_sz v_vl_pl v_vl_sz t_letters t_tt_pl t_tt_sz t_size t_place t_number sh hasImage viewIsOld := ⟨h7, h8, h9, h10, h11, h12⟩
            exact W.iret (v := (-11)) hx hb hr (qw_end hS hP hD ⟨h96, hsm⟩) hS.2.2 dX6_copy_50
    · have hf := it_p c6 hf
      refine lv_iconst (v := (-1)) hx hb dX6_copy_14 (by decide) ?_
      obtain rfl := so_i hf
      exact W.iret (v := (-1)) hx hb hr (qw_end hS hP hD ⟨h_this, hsm⟩) hS.2.2 dX6_copy_15

