def is_T (k : kt_T) (A : Nat → Nat) (ws : va_W) (q : Nat) (pl : Nat → Int64) (sz : Int32) : Prop := ws[q]? = some (A q, .inr (3, [.ref (A (q + 1)), .int sz])) ∧ ws[q + 1]? = some (A (q + 1), .inl (k.2.1, 32, .inr (.inl pl)))
theorem is_T_tr {k : kt_T} {A : Nat → Nat} {ws u : va_W} {q lo hi : Nat} {pl : Nat → Int64} {sz : Int32} (h : is_T k A ws q pl sz) (g : sm_W ws u lo hi) (d : q + 2 ≤ lo ∨ hi ≤ q) : is_T k A u q pl sz := ⟨sm_at g (by omega) h.1, sm_at g (by omega) h.2⟩
def is_M (k : kt_T) (A : Nat → Nat) (ws : va_W) (q : Nat) (told_pl : Nat → Int64) (told_sz : Int32) (inUse_pl : Nat → Int64) (inUse_sz : Int32) (draw : Int32) : Prop := ws[q]? = some (A q, .inr (1, [.ref (A (q + 1)), .ref (A (q + 3)), .int draw])) ∧ is_T k A ws (q + 1) told_pl told_sz ∧ is_T k A ws (q + 3) inUse_pl inUse_sz
theorem is_M_tr {k : kt_T} {A : Nat → Nat} {ws u : va_W} {q lo hi : Nat} {told_pl : Nat → Int64} {told_sz : Int32} {inUse_pl : Nat → Int64} {inUse_sz : Int32} {draw : Int32} (h : is_M k A ws q told_pl told_sz inUse_pl inUse_sz draw) (g : sm_W ws u lo hi) (d : q + 5 ≤ lo ∨ hi ≤ q) : is_M k A u q told_pl told_sz inUse_pl inUse_sz draw := ⟨sm_at g (by omega) h.1, is_T_tr h.2.1 g (by omega), is_T_tr h.2.2 g (by omega)⟩
def is_S (k : kt_T) (A : Nat → Nat) (ws : va_W) (q : Nat) (items : Nat → Int64) (lane : Int32) (size : Int32) : Prop := ws[q]? = some (A q, .inr (2, [.ref (A (q + 1)), .int lane, .int size])) ∧ ws[q + 1]? = some (A (q + 1), .inl (k.2.1, 30, .inr (.inl items)))
theorem is_S_tr {k : kt_T} {A : Nat → Nat} {ws u : va_W} {q lo hi : Nat} {items : Nat → Int64} {lane : Int32} {size : Int32} (h : is_S k A ws q items lane size) (g : sm_W ws u lo hi) (d : q + 2 ≤ lo ∨ hi ≤ q) : is_S k A u q items lane size := ⟨sm_at g (by omega) h.1, sm_at g (by omega) h.2⟩
def is_P (k : kt_T) (A : Nat → Nat) (ws : va_W) (q : Nat) (letters : Nat → Int32) (tt_pl : Nat → Int64) (tt_sz : Int32) (size : Int32) (place : Int32) (number : Int32) : Prop := ws[q]? = some (A q, .inr (4, [.ref (A (q + 1)), .ref (A (q + 2)), .int size, .int place, .int number])) ∧ ws[q + 1]? = some (A (q + 1), .inl (k.1, 100, .inl letters)) ∧ is_T k A ws (q + 2) tt_pl tt_sz
theorem is_P_tr {k : kt_T} {A : Nat → Nat} {ws u : va_W} {q lo hi : Nat} {letters : Nat → Int32} {tt_pl : Nat → Int64} {tt_sz : Int32} {size : Int32} {place : Int32} {number : Int32} (h : is_P k A ws q letters tt_pl tt_sz size place number) (g : sm_W ws u lo hi) (d : q + 4 ≤ lo ∨ hi ≤ q) : is_P k A u q letters tt_pl tt_sz size place number := ⟨sm_at g (by omega) h.1, sm_at g (by omega) h.2.1, is_T_tr h.2.2 g (by omega)⟩
def is_V (k : kt_T) (A : Nat → Nat) (ws : va_W) (q : Nat) (sent : Nat → Int32) (sentI : Nat → Int32) (best : Nat → Int32) (ease : Nat → Int32) (fromA : Nat → Int32) (vi_pl : Nat → Int64) (vi_sz : Int32) (vl_pl : Nat → Int64) (vl_sz : Int32) : Prop := ws[q]? = some (A q, .inr (5, [.ref (A (q + 1)), .ref (A (q + 2)), .ref (A (q + 3)), .ref (A (q + 4)), .ref (A (q + 5)), .ref (A (q + 6)), .ref (A (q + 8))])) ∧ ws[q + 1]? = some (A (q + 1), .inl (k.1, 512, .inl sent)) ∧ ws[q + 2]? = some (A (q + 2), .inl (k.1, 512, .inl sentI)) ∧ ws[q + 3]? = some (A (q + 3), .inl (k.1, 512, .inl best)) ∧ ws[q + 4]? = some (A (q + 4), .inl (k.1, 512, .inl ease)) ∧ ws[q + 5]? = some (A (q + 5), .inl (k.1, 512, .inl fromA)) ∧ is_T k A ws (q + 6) vi_pl vi_sz ∧ is_T k A ws (q + 8) vl_pl vl_sz
theorem is_V_tr {k : kt_T} {A : Nat → Nat} {ws u : va_W} {q lo hi : Nat} {sent : Nat → Int32} {sentI : Nat → Int32} {best : Nat → Int32} {ease : Nat → Int32} {fromA : Nat → Int32} {vi_pl : Nat → Int64} {vi_sz : Int32} {vl_pl : Nat → Int64} {vl_sz : Int32} (h : is_V k A ws q sent sentI best ease fromA vi_pl vi_sz vl_pl vl_sz) (g : sm_W ws u lo hi) (d : q + 10 ≤ lo ∨ hi ≤ q) : is_V k A u q sent sentI best ease fromA vi_pl vi_sz vl_pl vl_sz := ⟨sm_at g (by omega) h.1, sm_at g (by omega) h.2.1, sm_at g (by omega) h.2.2.1, sm_at g (by omega) h.2.2.2.1, sm_at g (by omega) h.2.2.2.2.1, sm_at g (by omega) h.2.2.2.2.2.1, is_T_tr h.2.2.2.2.2.2.1 g (by omega), is_T_tr h.2.2.2.2.2.2.2 g (by omega)⟩
def is_Y (k : kt_T) (A : Nat → Nat) (ws : va_W) (q : Nat) (st : Nat → Int32) (past : Nat → Int32) (image : Nat → Int32) (imagePast : Nat → Int32) (tape : Nat → Int32) (laneOf : Nat → Int32) (sizeOf : Nat → Int32) (items : Nat → Int64) (least : Nat → Int32) (costs : Nat → Int32) (hops : Nat → Int32) (comes : Nat → Int32) (chain : Nat → Int32) (told : Nat → Int32) (acts : Int32) (imageActs : Int32) (tapeMany : Int32) (readAt : Int32) : Prop := ws[q]? = some (A q, .inr (7, [.ref (A (q + 1)), .ref (A (q + 2)), .int acts, .ref (A (q + 3)), .ref (A (q + 4)), .int imageActs, .ref (A (q + 5)), .int tapeMany, .ref (A (q + 6)), .ref (A (q + 7)), .ref (A (q + 8)), .ref (A (q + 9)), .ref (A (q + 10)), .ref (A (q + 11)), .ref (A (q + 12)), .ref (A (q + 13)), .ref (A (q + 14)), .int readAt])) ∧ ws[q + 1]? = some (A (q + 1), .inl (k.1, 1025, .inl st)) ∧ ws[q + 2]? = some (A (q + 2), .inl (k.1, 6150, .inl past)) ∧ ws[q + 3]? = some (A (q + 3), .inl (k.1, 1025, .inl image)) ∧ ws[q + 4]? = some (A (q + 4), .inl (k.1, 6150, .inl imagePast)) ∧ ws[q + 5]? = some (A (q + 5), .inl (k.1, 100, .inl tape)) ∧ ws[q + 6]? = some (A (q + 6), .inl (k.1, 4, .inl laneOf)) ∧ ws[q + 7]? = some (A (q + 7), .inl (k.1, 4, .inl sizeOf)) ∧ ws[q + 8]? = some (A (q + 8), .inl (k.2.1, 120, .inr (.inl items))) ∧ ws[q + 9]? = some (A (q + 9), .inl (k.1, 512, .inl least)) ∧ ws[q + 10]? = some (A (q + 10), .inl (k.1, 4096, .inl costs)) ∧ ws[q + 11]? = some (A (q + 11), .inl (k.1, 512, .inl hops)) ∧ ws[q + 12]? = some (A (q + 12), .inl (k.1, 1024, .inl comes)) ∧ ws[q + 13]? = some (A (q + 13), .inl (k.1, 9, .inl chain)) ∧ ws[q + 14]? = some (A (q + 14), .inl (k.1, 512, .inl told))
theorem is_Y_tr {k : kt_T} {A : Nat → Nat} {ws u : va_W} {q lo hi : Nat} {st : Nat → Int32} {past : Nat → Int32} {image : Nat → Int32} {imagePast : Nat → Int32} {tape : Nat → Int32} {laneOf : Nat → Int32} {sizeOf : Nat → Int32} {items : Nat → Int64} {least : Nat → Int32} {costs : Nat → Int32} {hops : Nat → Int32} {comes : Nat → Int32} {chain : Nat → Int32} {told : Nat → Int32} {acts : Int32} {imageActs : Int32} {tapeMany : Int32} {readAt : Int32} (h : is_Y k A ws q st past image imagePast tape laneOf sizeOf items least costs hops comes chain told acts imageActs tapeMany readAt) (g : sm_W ws u lo hi) (d : q + 15 ≤ lo ∨ hi ≤ q) : is_Y k A u q st past image imagePast tape laneOf sizeOf items least costs hops comes chain told acts imageActs tapeMany readAt := ⟨sm_at g (by omega) h.1, sm_at g (by omega) h.2.1, sm_at g (by omega) h.2.2.1, sm_at g (by omega) h.2.2.2.1, sm_at g (by omega) h.2.2.2.2.1, sm_at g (by omega) h.2.2.2.2.2.1, sm_at g (by omega) h.2.2.2.2.2.2.1, sm_at g (by omega) h.2.2.2.2.2.2.2.1, sm_at g (by omega) h.2.2.2.2.2.2.2.2.1, sm_at g (by omega) h.2.2.2.2.2.2.2.2.2.1, sm_at g (by omega) h.2.2.2.2.2.2.2.2.2.2.1, sm_at g (by omega) h.2.2.2.2.2.2.2.2.2.2.2.1, sm_at g (by omega) h.2.2.2.2.2.2.2.2.2.2.2.2.1, sm_at g (by omega) h.2.2.2.2.2.2.2.2.2.2.2.2.2.1, sm_at g (by omega) h.2.2.2.2.2.2.2.2.2.2.2.2.2.2⟩
/-- a moment, a sheet as values -/
abbrev mm_T : Type := (Nat → Int64) × Int32 × (Nat → Int64) × Int32 × Int32
abbrev ss_T : Type := (Nat → Int64) × Int32 × Int32
/-- the row of known moments, in any order, and the moments -/
def is_K (k : kt_T) (A : Nat → Nat) (ws : va_W) (q : Nat) (kn : Nat → mm_T) : Prop := ∃ (pn : Nat → Nat) (g : Nat → Option Nat), ws[q]? = some (A q, .inl (k.2.2.1, 6, .inr (.inr (.inr (.inr g))))) ∧ (∀ j, j < 6 → g j = some (A (pn j)) ∧ q + 1 ≤ pn j ∧ pn j + 5 ≤ q + 31 ∧ is_M k A ws (pn j) (kn j).1 (kn j).2.1 (kn j).2.2.1 (kn j).2.2.2.1 (kn j).2.2.2.2) ∧ (∀ i j, i < 6 → j < 6 → i ≠ j → pn i + 5 ≤ pn j ∨ pn j + 5 ≤ pn i)
theorem is_K_tr {k : kt_T} {A : Nat → Nat} {ws u : va_W} {q lo hi : Nat} {kn : Nat → mm_T} (h : is_K k A ws q kn) (g : sm_W ws u lo hi) (d : q + 31 ≤ lo ∨ hi ≤ q) : is_K k A u q kn := by
  obtain ⟨pn, f, h1, h2, h3⟩ := h
  refine ⟨pn, f, sm_at g (by omega) h1, fun j hj => ?_, h3⟩
  obtain ⟨a1, a2, a3, a4⟩ := h2 j hj
  exact ⟨a1, a2, a3, is_M_tr a4 g (by omega)⟩
theorem in_lt {i : Int32} {n : Nat} (h : vp_in i n) : i.toNatClampNeg < n := Nat.not_le.mp fun q => h (Or.inr q)
theorem is_K_get {k : kt_T} {A : Nat → Nat} {ws : va_W} {q : Nat} {kn : Nat → mm_T} {i : Int32} (h : is_K k A ws q kn) (hi : vp_in i 6) : ∃ (b : Nat) (g : Nat → Option Nat), ws[q]? = some (A q, .inl (k.2.2.1, 6, .inr (.inr (.inr (.inr g))))) ∧ g i.toNatClampNeg = some (A b) ∧ q + 1 ≤ b ∧ b + 5 ≤ q + 31 ∧ is_M k A ws b (kn i.toNatClampNeg).1 (kn i.toNatClampNeg).2.1 (kn i.toNatClampNeg).2.2.1 (kn i.toNatClampNeg).2.2.2.1 (kn i.toNatClampNeg).2.2.2.2 ∧ ∀ (u : va_W) (v : mm_T), is_M k A u b v.1 v.2.1 v.2.2.1 v.2.2.2.1 v.2.2.2.2 → sm_W ws u b (b + 5) → is_K k A u q (va_up kn i.toNatClampNeg v) := by
  obtain ⟨pn, f, h1, h2, h3⟩ := h
  have hl := in_lt hi
  generalize i.toNatClampNeg = j at hl ⊢
  obtain ⟨a1, a2, a3, a4⟩ := h2 j hl
  refine ⟨pn j, f, h1, a1, a2, a3, a4, fun u v hM sm => ⟨pn, f, sm_at sm (by omega) h1, fun x hx => ?_, h3⟩⟩
  obtain ⟨b1, b2, b3, b4⟩ := h2 x hx
  by_cases hxj : x = j
  · subst hxj
    rw [va_up_self]
    exact ⟨b1, b2, b3, hM⟩
  · rw [va_up_ne _ _ hxj]
    exact ⟨b1, b2, b3, is_M_tr b4 sm (by have := h3 x j hx hl hxj; omega)⟩
/-- the oldest moment goes to the end -/
def lo_K (kn : Nat → mm_T) : Nat → mm_T := fun j => if j = 5 then kn 0 else kn (j + 1)
theorem lo_pack {k : kt_T} {A : Nat → Nat} {ws : va_W} {q : Nat} {kn : Nat → mm_T} {pn : Nat → Nat} {g : Nat → Option Nat} (hq : ws[q]? = some (A q, .inl (k.2.2.1, 6, .inr (.inr (.inr (.inr g)))))) (hd : ∀ i j, i < 6 → j < 6 → i ≠ j → pn i + 5 ≤ pn j ∨ pn j + 5 ≤ pn i)
    (g0 : g 0 = some (A (pn 1))) (g1 : g 1 = some (A (pn 2))) (g2 : g 2 = some (A (pn 3))) (g3 : g 3 = some (A (pn 4))) (g4 : g 4 = some (A (pn 5))) (g5 : g 5 = some (A (pn 0)))
    (r0 : q + 1 ≤ pn 0) (s0 : pn 0 + 5 ≤ q + 31) (r1 : q + 1 ≤ pn 1) (s1 : pn 1 + 5 ≤ q + 31) (r2 : q + 1 ≤ pn 2) (s2 : pn 2 + 5 ≤ q + 31) (r3 : q + 1 ≤ pn 3) (s3 : pn 3 + 5 ≤ q + 31) (r4 : q + 1 ≤ pn 4) (s4 : pn 4 + 5 ≤ q + 31) (r5 : q + 1 ≤ pn 5) (s5 : pn 5 + 5 ≤ q + 31)
    (m0 : is_M k A ws (pn 0) (kn 0).1 (kn 0).2.1 (kn 0).2.2.1 (kn 0).2.2.2.1 (kn 0).2.2.2.2) (m1 : is_M k A ws (pn 1) (kn 1).1 (kn 1).2.1 (kn 1).2.2.1 (kn 1).2.2.2.1 (kn 1).2.2.2.2) (m2 : is_M k A ws (pn 2) (kn 2).1 (kn 2).2.1 (kn 2).2.2.1 (kn 2).2.2.2.1 (kn 2).2.2.2.2) (m3 : is_M k A ws (pn 3) (kn 3).1 (kn 3).2.1 (kn 3).2.2.1 (kn 3).2.2.2.1 (kn 3).2.2.2.2) (m4 : is_M k A ws (pn 4) (kn 4).1 (kn 4).2.1 (kn 4).2.2.1 (kn 4).2.2.2.1 (kn 4).2.2.2.2) (m5 : is_M k A ws (pn 5) (kn 5).1 (kn 5).2.1 (kn 5).2.2.1 (kn 5).2.2.2.1 (kn 5).2.2.2.2) : is_K k A ws q (lo_K kn) := by
  refine ⟨fun j => if j = 5 then pn 0 else pn (j + 1), g, hq, fun j hj => ?_, fun i j hi hj hij => ?_⟩
  · match j, hj with
    | 0, _ => exact ⟨g0, r1, s1, m1⟩
    | 1, _ => exact ⟨g1, r2, s2, m2⟩
    | 2, _ => exact ⟨g2, r3, s3, m3⟩
    | 3, _ => exact ⟨g3, r4, s4, m4⟩
    | 4, _ => exact ⟨g4, r5, s5, m5⟩
    | 5, _ => exact ⟨g5, r0, s0, m0⟩
  · dsimp only
    by_cases h1 : i = 5 <;> by_cases h2 : j = 5
    · omega
    · rw [if_pos h1, if_neg h2]; exact hd 0 (j + 1) (by omega) (by omega) (by omega)
    · rw [if_neg h1, if_pos h2]; exact hd (i + 1) 0 (by omega) (by omega) (by omega)
    · rw [if_neg h1, if_neg h2]; exact hd (i + 1) (j + 1) (by omega) (by omega) (by omega)
/-- the row of sheets, and the sheets -/
def is_Z (k : kt_T) (A : Nat → Nat) (ws : va_W) (q : Nat) (sh : Nat → ss_T) : Prop := ∃ (g : Nat → Option Nat), ws[q]? = some (A q, .inl (k.2.2.2, 4, .inr (.inr (.inr (.inr g))))) ∧ (∀ j, j < 4 → g j = some (A (q + 1 + 2 * j)) ∧ is_S k A ws (q + 1 + 2 * j) (sh j).1 (sh j).2.1 (sh j).2.2)
theorem is_Z_tr {k : kt_T} {A : Nat → Nat} {ws u : va_W} {q lo hi : Nat} {sh : Nat → ss_T} (h : is_Z k A ws q sh) (g : sm_W ws u lo hi) (d : q + 9 ≤ lo ∨ hi ≤ q) : is_Z k A u q sh := by
  obtain ⟨f, h1, h2⟩ := h
  refine ⟨f, sm_at g (by omega) h1, fun j hj => ?_⟩
  obtain ⟨a1, a2⟩ := h2 j hj
  exact ⟨a1, is_S_tr a2 g (by omega)⟩
theorem is_Z_get {k : kt_T} {A : Nat → Nat} {ws : va_W} {q : Nat} {sh : Nat → ss_T} {i : Int32} (h : is_Z k A ws q sh) (hi : vp_in i 4) : ∃ (g : Nat → Option Nat), ws[q]? = some (A q, .inl (k.2.2.2, 4, .inr (.inr (.inr (.inr g))))) ∧ g i.toNatClampNeg = some (A (q + 1 + 2 * i.toNatClampNeg)) ∧ i.toNatClampNeg < 4 ∧ is_S k A ws (q + 1 + 2 * i.toNatClampNeg) (sh i.toNatClampNeg).1 (sh i.toNatClampNeg).2.1 (sh i.toNatClampNeg).2.2 ∧ ∀ (u : va_W) (v : ss_T), is_S k A u (q + 1 + 2 * i.toNatClampNeg) v.1 v.2.1 v.2.2 → sm_W ws u (q + 1 + 2 * i.toNatClampNeg) (q + 1 + 2 * i.toNatClampNeg + 2) → is_Z k A u q (va_up sh i.toNatClampNeg v) := by
  obtain ⟨f, h1, h2⟩ := h
  have hl := in_lt hi
  generalize i.toNatClampNeg = j at hl ⊢
  obtain ⟨a1, a2⟩ := h2 j hl
  refine ⟨f, h1, a1, hl, a2, fun u v hM sm => ⟨f, sm_at sm (by omega) h1, fun x hx => ?_⟩⟩
  obtain ⟨b1, b2⟩ := h2 x hx
  by_cases hxj : x = j
  · subst hxj
    rw [va_up_self]
    exact ⟨b1, hM⟩
  · rw [va_up_ne _ _ hxj]
    exact ⟨b1, is_S_tr b2 sm (by omega)⟩
theorem tn_ne {a b : Int32} (h : ¬ a = b) (ha : vp_in a 4) (hb : vp_in b 4) : a.toNatClampNeg ≠ b.toNatClampNeg := by
  intro e
  obtain ⟨i, hi, rfl⟩ := vp_in_of ha (by decide)
  obtain ⟨j, hj, rfl⟩ := vp_in_of hb (by decide)
  rw [nI_clamp (by omega), nI_clamp (by omega)] at e
  exact h (by rw [e])

def is_H (k : kt_T) (A : Nat → Nat) (ws : va_W) (q : Nat) (now_told_pl : Nat → Int64) (now_told_sz : Int32) (now_inUse_pl : Nat → Int64) (now_inUse_sz : Int32) (now_draw : Int32) (kn : Nat → mm_T) (size : Int32) : Prop := ws[q]? = some (A q, .inr (0, [.ref (A (q + 1)), .ref (A (q + 6)), .int size])) ∧ is_M k A ws (q + 1) now_told_pl now_told_sz now_inUse_pl now_inUse_sz now_draw ∧ is_K k A ws (q + 6) kn
theorem is_H_tr {k : kt_T} {A : Nat → Nat} {ws u : va_W} {q lo hi : Nat} {now_told_pl : Nat → Int64} {now_told_sz : Int32} {now_inUse_pl : Nat → Int64} {now_inUse_sz : Int32} {now_draw : Int32} {kn : Nat → mm_T} {size : Int32} (h : is_H k A ws q now_told_pl now_told_sz now_inUse_pl now_inUse_sz now_draw kn size) (g : sm_W ws u lo hi) (d : q + 37 ≤ lo ∨ hi ≤ q) : is_H k A u q now_told_pl now_told_sz now_inUse_pl now_inUse_sz now_draw kn size := ⟨sm_at g (by omega) h.1, is_M_tr h.2.1 g (by omega), is_K_tr h.2.2 g (by omega)⟩
def is_X (k : kt_T) (A : Nat → Nat) (ws : va_W) (q : Nat) (h_now_told_pl : Nat → Int64) (h_now_told_sz : Int32) (h_now_inUse_pl : Nat → Int64) (h_now_inUse_sz : Int32) (h_now_draw : Int32) (h_kn : Nat → mm_T) (h_size : Int32) (k_now_told_pl : Nat → Int64) (k_now_told_sz : Int32) (k_now_inUse_pl : Nat → Int64) (k_now_inUse_sz : Int32) (k_now_draw : Int32) (k_kn : Nat → mm_T) (k_size : Int32) (v_sent : Nat → Int32) (v_sentI : Nat → Int32) (v_best : Nat → Int32) (v_ease : Nat → Int32) (v_fromA : Nat → Int32) (v_vi_pl : Nat → Int64) (v_vi_sz : Int32) (v_vl_pl : Nat → Int64) (v_vl_sz : Int32) (t_letters : Nat → Int32) (t_tt_pl : Nat → Int64) (t_tt_sz : Int32) (t_size : Int32) (t_place : Int32) (t_number : Int32) (sh : Nat → ss_T) (hasImage : Int32) (viewIsOld : Int32) : Prop := ws[q]? = some (A q, .inr (6, [.ref (A (q + 1)), .ref (A (q + 38)), .ref (A (q + 75)), .ref (A (q + 85)), .ref (A (q + 89)), .int hasImage, .int viewIsOld])) ∧ is_H k A ws (q + 1) h_now_told_pl h_now_told_sz h_now_inUse_pl h_now_inUse_sz h_now_draw h_kn h_size ∧ is_H k A ws (q + 38) k_now_told_pl k_now_told_sz k_now_inUse_pl k_now_inUse_sz k_now_draw k_kn k_size ∧ is_V k A ws (q + 75) v_sent v_sentI v_best v_ease v_fromA v_vi_pl v_vi_sz v_vl_pl v_vl_sz ∧ is_P k A ws (q + 85) t_letters t_tt_pl t_tt_sz t_size t_place t_number ∧ is_Z k A ws (q + 89) sh
theorem is_X_tr {k : kt_T} {A : Nat → Nat} {ws u : va_W} {q lo hi : Nat} {h_now_told_pl : Nat → Int64} {h_now_told_sz : Int32} {h_now_inUse_pl : Nat → Int64} {h_now_inUse_sz : Int32} {h_now_draw : Int32} {h_kn : Nat → mm_T} {h_size : Int32} {k_now_told_pl : Nat → Int64} {k_now_told_sz : Int32} {k_now_inUse_pl : Nat → Int64} {k_now_inUse_sz : Int32} {k_now_draw : Int32} {k_kn : Nat → mm_T} {k_size : Int32} {v_sent : Nat → Int32} {v_sentI : Nat → Int32} {v_best : Nat → Int32} {v_ease : Nat → Int32} {v_fromA : Nat → Int32} {v_vi_pl : Nat → Int64} {v_vi_sz : Int32} {v_vl_pl : Nat → Int64} {v_vl_sz : Int32} {t_letters : Nat → Int32} {t_tt_pl : Nat → Int64} {t_tt_sz : Int32} {t_size : Int32} {t_place : Int32} {t_number : Int32} {sh : Nat → ss_T} {hasImage : Int32} {viewIsOld : Int32} (h : is_X k A ws q h_now_told_pl h_now_told_sz h_now_inUse_pl h_now_inUse_sz h_now_draw h_kn h_size k_now_told_pl k_now_told_sz k_now_inUse_pl k_now_inUse_sz k_now_draw k_kn k_size v_sent v_sentI v_best v_ease v_fromA v_vi_pl v_vi_sz v_vl_pl v_vl_sz t_letters t_tt_pl t_tt_sz t_size t_place t_number sh hasImage viewIsOld) (g : sm_W ws u lo hi) (d : q + 98 ≤ lo ∨ hi ≤ q) : is_X k A u q h_now_told_pl h_now_told_sz h_now_inUse_pl h_now_inUse_sz h_now_draw h_kn h_size k_now_told_pl k_now_told_sz k_now_inUse_pl k_now_inUse_sz k_now_draw k_kn k_size v_sent v_sentI v_best v_ease v_fromA v_vi_pl v_vi_sz v_vl_pl v_vl_sz t_letters t_tt_pl t_tt_sz t_size t_place t_number sh hasImage viewIsOld := ⟨sm_at g (by omega) h.1, is_H_tr h.2.1 g (by omega), is_H_tr h.2.2.1 g (by omega), is_V_tr h.2.2.2.1 g (by omega), is_P_tr h.2.2.2.2.1 g (by omega), is_Z_tr h.2.2.2.2.2 g (by omega)⟩
