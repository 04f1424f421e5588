/-! the base: what all contracts share. A world is any list of cells 'ws'; a method names the places of the cells that it touches; it gives back a world 'u' and says which places are as they were. -/
abbrev kt_T : Type := ClassId × ClassId × ClassId × ClassId
/-- the array classes: ints, longs, moments, sheets -/
def kt_l (k : kt_T) : List (ClassId × FieldType) := [(k.1, .int), (k.2.1, .long), (k.2.2.1, .object RX1), (k.2.2.2, .object RX2)]
/-- links to private members of nest mates -/
def ns_l : List (String × Nat × MethodName × String) := [(RX5, 96, yX6_lowestHop, RX6), (RX5, 84, yX6_firstAddress, RX6), (RX5, 78, yX6_isOneHop, RX6), (RX5, 51, yX6_isPrefix, RX6), (RX5, 29, yX3_init, RX6), (RX4, 49, yX6_isHop, RX6), (RX4, 17, yX3_init, RX6), (RX3, 64, yX6_howManyAddresses, RX6), (RX3, 61, yX6_firstAddress, RX6), (RX3, 23, yX6_isHop, RX6), (RX3, 19, yX6_isPrefix, RX6), (RX1, 9, yX3_init, RX6), (RX0, 11, yX1_init, RX6), (RX6, 46, yX2_init, RX6), (RX6, 28, yX4_init, RX6), (RX6, 21, yX5_init, RX6)]
/-- what the tables say, all along -/
def kk_P (D : va_G) (k : kt_T) (U : State) : Prop := va_K D vwCl (kt_l k) U ∧ (∀ q ∈ ns_l, va_Nw (.methodLinkNest q.1 q.2.1 q.2.2.1 q.2.2.2) U)
theorem kk_warm {D : va_G} {k : kt_T} {s U : State} (hW : s.WarmedH U.vm) (h : kk_P D k s) : kk_P D k U := ⟨va_K.moved hW.alike h.1, fun q hq => va_Nw.warmM hW (h.2 q hq)⟩
theorem kk_call {D : va_G} {k : kt_T} {U : State} {g : JFrame} {mk : MethodId} {a : Array Value} (h : kk_P D k U) : kk_P D k (U.calling g mk a) := ⟨va_K.moved (u := U) (U := U.calling g mk a) (Vm.Alike.refl U.vm) h.1, fun q hq => va_Nw.same (u := U) (U := U.calling g mk a) rfl rfl (h.2 q hq)⟩
/-- a reader's start, a writer's start -/
def pw_P (D : va_G) (k : kt_T) (ws : va_W) (U : State) : Prop := va_P D vwCl ws U.heap ∧ kk_P D k U ∧ va_D (fun _ => True) ws
def px_P (D : va_G) (k : kt_T) (ws : va_W) (sz : Nat) (U : State) : Prop := U.heap.size = sz ∧ pw_P D k ws U
theorem pw_blind {D : va_G} {k : kt_T} {ws : va_W} {As : List Value} : FrameBlind (va_Pc As (pw_P D k ws)) := fun _ _ _ _ q => ⟨q.1, q.2.1, kk_call q.2.2.1, q.2.2.2⟩
theorem px_blind {D : va_G} {k : kt_T} {ws : va_W} {sz : Nat} {As : List Value} : FrameBlind (va_Pc As (px_P D k ws sz)) := fun _ _ _ _ q => ⟨q.1, q.2.1, q.2.2.1, kk_call q.2.2.2.1, q.2.2.2.2⟩
theorem pw_V {D : va_G} {k : kt_T} {ws : va_W} {A : Nat → Prop} {s : State} {H : Heap} {b : Nat} {As : List Value} (hP : va_P D vwCl ws H) (hK : kk_P D k s) (hD : va_D A ws) {q ci : Nat} {fs : List Value} {r : vw_C} (he : ws[q]? = some (b, .inr (ci, fs))) (hc : vwCl[ci]? = some r) : PreV s H r.1 b (va_Pc (.ref b :: As) (pw_P D k ws)) As :=
  ⟨pw_blind, va_recv hK.1 hP hc he, fun U hU hW => ⟨rfl, by rw [hU]; exact hP, kk_warm hW hK, hD.weaken (fun _ _ _ _ => trivial)⟩⟩
theorem px_V {D : va_G} {k : kt_T} {ws : va_W} {A : Nat → Prop} {s : State} {H : Heap} {b : Nat} {As : List Value} (hP : va_P D vwCl ws H) (hK : kk_P D k s) (hD : va_D A ws) {q ci : Nat} {fs : List Value} {r : vw_C} (he : ws[q]? = some (b, .inr (ci, fs))) (hc : vwCl[ci]? = some r) : PreV s H r.1 b (va_Pc (.ref b :: As) (px_P D k ws H.size)) As :=
  ⟨px_blind, va_recv hK.1 hP hc he, fun U hU hW => ⟨rfl, by rw [hU], by rw [hU]; exact hP, kk_warm hW hK, hD.weaken (fun _ _ _ _ => trivial)⟩⟩
theorem pw_S {D : va_G} {k : kt_T} {ws : va_W} {A : Nat → Prop} {s : State} {H : Heap} {As : List Value} (hP : va_P D vwCl ws H) (hK : kk_P D k s) (hD : va_D A ws) : PreS s H (va_Pc As (pw_P D k ws)) As :=
  ⟨pw_blind, fun U hU hW => ⟨rfl, by rw [hU]; exact hP, kk_warm hW hK, hD.weaken (fun _ _ _ _ => trivial)⟩⟩
theorem px_S {D : va_G} {k : kt_T} {ws : va_W} {A : Nat → Prop} {s : State} {H : Heap} {As : List Value} (hP : va_P D vwCl ws H) (hK : kk_P D k s) (hD : va_D A ws) : PreS s H (va_Pc As (px_P D k ws H.size)) As :=
  ⟨px_blind, fun U hU hW => ⟨rfl, by rw [hU], by rw [hU]; exact hP, kk_warm hW hK, hD.weaken (fun _ _ _ _ => trivial)⟩⟩
/-- a reader's end: the answer, and the heap as it was; a writer's end: a new world -/
def qs_Q (o : Option Value) : Array Value → State → Outcome → State → Prop := fun _ st oc t => oc = .returned o ∧ t.heap = st.heap
def qw_Q (D : va_G) (ws : va_W) (sz : Nat) (o : Option Value) (post : va_W → Prop) : Array Value → State → Outcome → State → Prop := fun _ st oc t => (∃ u : va_W, oc = .returned o ∧ post u ∧ va_P D vwCl u t.heap ∧ va_D (va_A ws sz) u) ∧ va_F (va_A ws sz) st t
theorem fr_A {A : Nat → Prop} {ws : va_W} {H0 H : Heap} {locs : List Loc} (hD : va_D A ws) (hS : va_S A H0 H locs) (hA : ∀ q, H0.size ≤ q → A q) : ∀ q, va_A ws H.size q → A q := by
  intro q h
  rcases h with ⟨k, e, h⟩ | h
  · exact hD.2 k (q, e) h
  · exact hA q (Nat.le_trans hS.1 h)
section ZBC
variable {p : Program} {l : Launch} {e : Env} {R : Room} {s : State} {m : MethodId} {args : Array Value} {below : List Frame} {meth : Method} {c : Code} {H : Heap} {locs : List Loc} {cells slots : Nat} {Q : State → Prop}
variable {pc : Nat} {ls : Array Slot} {rest st0 : List Value} {a : Array Value} {A : Nat → Prop} {H0 : Heap} {mc ms : Nat} {D : va_G} {ws : va_W} {free : Addr → Prop}
theorem ks_g {o : Option Value} (hr : va_Run p l e R s m args below meth c H locs cells slots 0 0 (F0 m pc ls st0) rest (qs_Q o a) (fun _ => False))
    (kk : W p l e R s m args below meth c H locs cells slots Q (F0 m (pc + 3) ls (o.toList ++ rest))) : W p l e R s m args below meth c H locs cells slots Q (F0 m pc ls st0) := by
  intro T hT X
  obtain ⟨v, st₀, t, T', L, h0, X', hL, e1, -, ⟨hv, hh⟩, st⟩ := hr T hT X
  cases hv
  obtain ⟨t2, a1, b1⟩ := kk T' (by rw [e1, hh, h0]) (Stand.forget X' (fun q h => (hL q h).elim))
  exact ⟨t2, st t2 a1, b1⟩
theorem ks_i {v : Int32} (hr : va_Run p l e R s m args below meth c H locs cells slots 0 0 (F0 m pc ls st0) rest (qs_Q (some (.int v)) a) (fun _ => False))
    (kk : W p l e R s m args below meth c H locs cells slots Q (F0 m (pc + 3) ls (.int v :: rest))) : W p l e R s m args below meth c H locs cells slots Q (F0 m pc ls st0) := ks_g hr kk
theorem ks_l {v : Int64} (hr : va_Run p l e R s m args below meth c H locs cells slots 0 0 (F0 m pc ls st0) rest (qs_Q (some (.long v)) a) (fun _ => False))
    (kk : W p l e R s m args below meth c H locs cells slots Q (F0 m (pc + 3) ls (.long v :: rest))) : W p l e R s m args below meth c H locs cells slots Q (F0 m pc ls st0) := ks_g hr kk
theorem ks_r {v : Nat} (hr : va_Run p l e R s m args below meth c H locs cells slots 0 0 (F0 m pc ls st0) rest (qs_Q (some (.ref v)) a) (fun _ => False))
    (kk : W p l e R s m args below meth c H locs cells slots Q (F0 m (pc + 3) ls (.ref v :: rest))) : W p l e R s m args below meth c H locs cells slots Q (F0 m pc ls st0) := ks_g hr kk
theorem kw_g {o : Option Value} {post : va_W → Prop} (hr : va_Run p l e R s m args below meth c H locs cells slots mc ms (F0 m pc ls st0) rest (qw_Q D ws H.size o post a) (va_A ws H.size)) (hD : va_D A ws) (hS : va_S A H0 H locs) (hA : ∀ q, H0.size ≤ q → A q)
    (kk : ∀ (u : va_W) (H1 : Heap) (locs1 : List Loc), post u → va_P D vwCl u H1 → va_D A u → va_S A H0 H1 locs1 → W p l e R s m args below meth c H1 locs1 (cells + mc) (slots + ms) Q (F0 m (pc + 3) ls (o.toList ++ rest))) : W p l e R s m args below meth c H locs cells slots Q (F0 m pc ls st0) := by
  have hF := fr_A hD hS hA
  intro T hT X
  obtain ⟨v, st₀, t, T', L, h0, X', hL, e1, -, ⟨⟨u, hv, hp, hP, hD1⟩, hz, hk⟩, st⟩ := hr T hT X
  cases hv
  have hS1 : va_S A H0 T'.heap (locs ++ L) := by
    rw [h0] at hz hk
    refine ⟨by rw [e1]; exact Nat.le_trans hS.1 hz, fun q h1 h2 => ?_, fun q hq => ?_⟩
    · rw [e1, hk q (Nat.lt_of_lt_of_le h1 hS.1) (fun h => h2 (hF q h))]
      exact hS.2.1 q h1 h2
    · rcases List.mem_append.mp hq with h | h
      · exact hS.2.2 q h
      · exact hF _ (hL q h)
  obtain ⟨t2, a1, b1⟩ := kk u T'.heap (locs ++ L) hp (by rw [e1]; exact hP) (hD1.weaken (fun _ q _ h => hF q.1 h)) hS1 T' rfl X'
  exact ⟨t2, st t2 a1, b1⟩
theorem kw_i {v : Int32} {post : va_W → Prop} (hr : va_Run p l e R s m args below meth c H locs cells slots mc ms (F0 m pc ls st0) rest (qw_Q D ws H.size (some (.int v)) post a) (va_A ws H.size)) (hD : va_D A ws) (hS : va_S A H0 H locs) (hA : ∀ q, H0.size ≤ q → A q)
    (kk : ∀ (u : va_W) (H1 : Heap) (locs1 : List Loc), post u → va_P D vwCl u H1 → va_D A u → va_S A H0 H1 locs1 → W p l e R s m args below meth c H1 locs1 (cells + mc) (slots + ms) Q (F0 m (pc + 3) ls (.int v :: rest))) : W p l e R s m args below meth c H locs cells slots Q (F0 m pc ls st0) := kw_g hr hD hS hA kk
theorem kw_r {v : Nat} {post : va_W → Prop} (hr : va_Run p l e R s m args below meth c H locs cells slots mc ms (F0 m pc ls st0) rest (qw_Q D ws H.size (some (.ref v)) post a) (va_A ws H.size)) (hD : va_D A ws) (hS : va_S A H0 H locs) (hA : ∀ q, H0.size ≤ q → A q)
    (kk : ∀ (u : va_W) (H1 : Heap) (locs1 : List Loc), post u → va_P D vwCl u H1 → va_D A u → va_S A H0 H1 locs1 → W p l e R s m args below meth c H1 locs1 (cells + mc) (slots + ms) Q (F0 m (pc + 3) ls (.ref v :: rest))) : W p l e R s m args below meth c H locs cells slots Q (F0 m pc ls st0) := kw_g hr hD hS hA kk
theorem kw_v {post : va_W → Prop} (hr : va_Run p l e R s m args below meth c H locs cells slots mc ms (F0 m pc ls st0) rest (qw_Q D ws H.size none post a) (va_A ws H.size)) (hD : va_D A ws) (hS : va_S A H0 H locs) (hA : ∀ q, H0.size ≤ q → A q)
    (kk : ∀ (u : va_W) (H1 : Heap) (locs1 : List Loc), post u → va_P D vwCl u H1 → va_D A u → va_S A H0 H1 locs1 → W p l e R s m args below meth c H1 locs1 (cells + mc) (slots + ms) Q (F0 m (pc + 3) ls rest)) : W p l e R s m args below meth c H locs cells slots Q (F0 m pc ls st0) := kw_g hr hD hS hA kk
end ZBC
/-- a writer's end out of what stands there -/
theorem qw_end {D : va_G} {ws u : va_W} {s : State} {o : Option Value} {post : va_W → Prop} {a : Array Value} {H : Heap} {locs : List Loc} (hS : va_S (va_A ws s.heap.size) s.heap H locs) (hP : va_P D vwCl u H) (hD : va_D (va_A ws s.heap.size) u) (hp : post u) : ∀ t : State, t.heap = H → s.WarmedH t.vm → qw_Q D ws s.heap.size o post a s (.returned o) t := fun t ht _ => ⟨⟨u, rfl, hp, by rw [ht]; exact hP, hD⟩, hS.F ht⟩
/-- lookups behind a write -/
theorem ls_ne {ws : va_W} {q k : Nat} {x : Nat × va_E} {o : Option (Nat × va_E)} (h : ws[k]? = o) (n : q ≠ k) : (ws.set q x)[k]? = o := by rw [List.getElem?_set_ne n]; exact h
theorem ls_eq {ws : va_W} {q : Nat} {x y : Nat × va_E} (h : ws[q]? = some y) : (ws.set q x)[q]? = some x := by
  have := (List.getElem?_eq_some_iff.mp h).1
  rw [List.getElem?_set_self this]
/-- as it was, but from lo to hi -/
def sm_W (ws u : va_W) (lo hi : Nat) : Prop := ∀ k, k < lo ∨ hi ≤ k → u[k]? = ws[k]?
theorem sm_rf {ws : va_W} {lo hi : Nat} : sm_W ws ws lo hi := fun _ _ => rfl
theorem sm_set {ws u : va_W} {lo hi q : Nat} {x : Nat × va_E} (h : sm_W ws u lo hi) (h1 : lo ≤ q) (h2 : q < hi) : sm_W ws (u.set q x) lo hi := fun k hk => by
  rw [List.getElem?_set_ne (by omega)]; exact h k hk
theorem sm_tr {ws u v : va_W} {lo hi lo' hi' : Nat} (h : sm_W ws u lo hi) (h2 : sm_W u v lo' hi') (h3 : lo ≤ lo') (h4 : hi' ≤ hi) : sm_W ws v lo hi := fun k hk => (h2 k (by omega)).trans (h k hk)
theorem sm_at {ws u : va_W} {lo hi k : Nat} {o : Option (Nat × va_E)} (h : sm_W ws u lo hi) (hk : k < lo ∨ hi ≤ k) (e : ws[k]? = o) : u[k]? = o := (h k hk).trans e
/-- the words of partial programs -/
def ck_O {α : Type} (b : Bool) (x : Option α) : Option α := if b = true then x else none
def lt_O {α β : Type} (x : α) (f : α → Option β) : Option β := f x
theorem ck_s {α : Type} {b : Bool} {x : Option α} {o : α} (h : ck_O b x = some o) : b = true ∧ x = some o := by
  cases b
  · cases h
  · exact ⟨rfl, h⟩
def in_b (i : Int32) (n : Nat) : Bool := decide (¬ (i < 0 ∨ n ≤ i.toNatClampNeg))
theorem in_s {i : Int32} {n : Nat} (h : in_b i n = true) : vp_in i n := of_decide_eq_true (p := ¬ (i < 0 ∨ n ≤ i.toNatClampNeg)) h
def nz_b (y : Int32) : Bool := decide (¬ y = 0)
theorem nz_s {y : Int32} (h : nz_b y = true) : ¬ y = 0 := of_decide_eq_true h
def nz_c (y : Int64) : Bool := decide (¬ y = 0)
theorem nz_t {y : Int64} (h : nz_c y = true) : ¬ y = 0 := of_decide_eq_true h
def bo_b (r : Int32) : Bool := decide (r = 0 ∨ r = 1)
theorem bo_s {r : Int32} (h : bo_b r = true) : narrow .boolean (.int r) = .int r := by
  rcases of_decide_eq_true h with h | h <;> subst h <;> rfl
theorem lt_s' {α β : Type} {y x : α} {f : α → Option β} {o : β} (e : y = x) (h : lt_O x f = some o) : f y = some o := by rw [e]; exact h
theorem bd_s {α β : Type} {x : Option α} {f : α → Option β} {o : β} (h : x.bind f = some o) : ∃ v, x = some v ∧ f v = some o := Option.bind_eq_some_iff.mp h
theorem it_p {α : Type} {P : Prop} {d : Decidable P} {x y : Option α} {o : α} (c : P) (h : @ite _ P d x y = some o) : x = some o := by rw [if_pos c] at h; exact h
theorem it_n {α : Type} {P : Prop} {d : Decidable P} {x y : Option α} {o : α} (c : ¬ P) (h : @ite _ P d x y = some o) : y = some o := by rw [if_neg c] at h; exact h
theorem so_i {α : Type} {x y : α} (h : some x = some y) : x = y := Option.some.inj h
/-- a world behind one write, by a name -/
theorem wd_put {D : va_G} {cl : List vw_C} {ws : va_W} {A : Nat → Prop} {H : Heap} {q : Nat} {x y : Nat × va_E} (hP : va_P D cl (ws.set q x) H) (hD : va_D A (ws.set q x)) (he : ws[q]? = some y) : ∃ u : va_W, u[q]? = some x ∧ sm_W ws u q (q + 1) ∧ va_P D cl u H ∧ va_D A u := ⟨ws.set q x, ls_eq he, sm_set sm_rf (Nat.le_refl _) (Nat.lt_succ_self _), hP, hD⟩
theorem no_s {α : Type} {o : α} (h : (none : Option α) = some o) : False := by cases h
/-- what a method's body knows -/
def cx_P (p : Program) (s : State) (m : MethodId) (meth : Method) (c : Code) (args : Array Value) (cc : ByteArray) (nL : Nat) (Ts : List Cond) (own : String) (ret : Option FieldType) : Prop := p.tables.exec = Jvm.exec ∧ c.code = cc ∧ c.maxLocals = nL ∧ s.vm.findClass own = some m.cls ∧ (∀ w ∈ Ts, w.before args s = true) ∧ meth.sig.returnType = ret ∧ meth.locks = false
/-- more turns than any loop here takes -/
def fu_N : Nat := 10000
def cp_b (sp dp n : Int32) (n0 n1 : Nat) : Bool := decide (¬ sp < 0 ∧ ¬ dp < 0 ∧ ¬ n < 0 ∧ sp.toNatClampNeg + n.toNatClampNeg ≤ n0 ∧ dp.toNatClampNeg + n.toNatClampNeg ≤ n1)
theorem cp_s {sp dp n : Int32} {n0 n1 : Nat} (h : cp_b sp dp n n0 n1 = true) : ¬ sp < 0 ∧ ¬ dp < 0 ∧ ¬ n < 0 ∧ sp.toNatClampNeg + n.toNatClampNeg ≤ n0 ∧ dp.toNatClampNeg + n.toNatClampNeg ≤ n1 := of_decide_eq_true h
