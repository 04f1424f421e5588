section
-- ===== PART A: goes FIRST, ahead of the names: the tables' words, and 'selects' of the private methods out of them =====
/-- a private method of a class that the tables say can be made, by its rows of tables_1 -/
def lw_okq (q : MethodName × Nat) : Prop := (q.1.cls ≠ "java/lang/invoke/MethodHandle" ∧ q.1.cls ≠ "java/lang/invoke/VarHandle") ∧ Cond.instantiable q.1.cls q.2 ∈ tables_1 ∧ Cond.privateMethod q.1 ∈ tables_1 ∧ Cond.instanceMethod q.1 ∈ tables_1
theorem lw_p0 : lw_okq (⟨"LeastRoutes", "table", "()LLeastRoutes$Table;"⟩, 7) := ⟨⟨by decide +kernel, by decide +kernel⟩, List.mem_of_getElem? (i := 14) (by decide +kernel), List.mem_of_getElem? (i := 170) (by decide +kernel), List.mem_of_getElem? (i := 171) (by decide +kernel)⟩
theorem lw_p1 : lw_okq (⟨"LeastRoutes", "installed", "()LLeastRoutes$Table;"⟩, 7) := ⟨⟨by decide +kernel, by decide +kernel⟩, List.mem_of_getElem? (i := 14) (by decide +kernel), List.mem_of_getElem? (i := 195) (by decide +kernel), List.mem_of_getElem? (i := 196) (by decide +kernel)⟩
theorem lw_p2 : lw_okq (⟨"LeastRoutes", "freshView", "()LLeastRoutes$View;"⟩, 7) := ⟨⟨by decide +kernel, by decide +kernel⟩, List.mem_of_getElem? (i := 14) (by decide +kernel), List.mem_of_getElem? (i := 203) (by decide +kernel), List.mem_of_getElem? (i := 204) (by decide +kernel)⟩
theorem lw_p3 : lw_okq (⟨"LeastRoutes$View", "findBest", "()V"⟩, 7) := ⟨⟨by decide +kernel, by decide +kernel⟩, List.mem_of_getElem? (i := 69) (by decide +kernel), List.mem_of_getElem? (i := 225) (by decide +kernel), List.mem_of_getElem? (i := 226) (by decide +kernel)⟩
theorem lw_p4 : lw_okq (⟨"LeastRoutes$View", "findLeast", "()V"⟩, 7) := ⟨⟨by decide +kernel, by decide +kernel⟩, List.mem_of_getElem? (i := 69) (by decide +kernel), List.mem_of_getElem? (i := 229) (by decide +kernel), List.mem_of_getElem? (i := 230) (by decide +kernel)⟩
theorem lw_p5 : lw_okq (⟨"LeastRoutes$Table", "setPlace", "(II)V"⟩, 2) := ⟨⟨by decide +kernel, by decide +kernel⟩, List.mem_of_getElem? (i := 34) (by decide +kernel), List.mem_of_getElem? (i := 260) (by decide +kernel), List.mem_of_getElem? (i := 261) (by decide +kernel)⟩
theorem lw_p6 : lw_okq (⟨"LeastRoutes$Table", "decidesAny", "(I)Z"⟩, 2) := ⟨⟨by decide +kernel, by decide +kernel⟩, List.mem_of_getElem? (i := 34) (by decide +kernel), List.mem_of_getElem? (i := 297) (by decide +kernel), List.mem_of_getElem? (i := 298) (by decide +kernel)⟩
theorem lw_p7 : lw_okq (⟨"LeastRoutes$View", "proofFrom", "(I)I"⟩, 7) := ⟨⟨by decide +kernel, by decide +kernel⟩, List.mem_of_getElem? (i := 69) (by decide +kernel), List.mem_of_getElem? (i := 352) (by decide +kernel), List.mem_of_getElem? (i := 353) (by decide +kernel)⟩
theorem lw_p8 : lw_okq (⟨"LeastRoutes", "beginStep", "()V"⟩, 7) := ⟨⟨by decide +kernel, by decide +kernel⟩, List.mem_of_getElem? (i := 14) (by decide +kernel), List.mem_of_getElem? (i := 415) (by decide +kernel), List.mem_of_getElem? (i := 416) (by decide +kernel)⟩
theorem lw_p9 : lw_okq (⟨"LeastRoutes$History", "loseOldest", "()V"⟩, 3) := ⟨⟨by decide +kernel, by decide +kernel⟩, List.mem_of_getElem? (i := 22) (by decide +kernel), List.mem_of_getElem? (i := 423) (by decide +kernel), List.mem_of_getElem? (i := 424) (by decide +kernel)⟩
theorem lw_p10 : lw_okq (⟨"LeastRoutes$Tape", "parseEntry", "()I"⟩, 5) := ⟨⟨by decide +kernel, by decide +kernel⟩, List.mem_of_getElem? (i := 100) (by decide +kernel), List.mem_of_getElem? (i := 476) (by decide +kernel), List.mem_of_getElem? (i := 477) (by decide +kernel)⟩
theorem lw_p11 : lw_okq (⟨"LeastRoutes$Tape", "letterHere", "()I"⟩, 5) := ⟨⟨by decide +kernel, by decide +kernel⟩, List.mem_of_getElem? (i := 100) (by decide +kernel), List.mem_of_getElem? (i := 480) (by decide +kernel), List.mem_of_getElem? (i := 481) (by decide +kernel)⟩
theorem lw_p12 : lw_okq (⟨"LeastRoutes$Tape", "parseFigures", "()I"⟩, 5) := ⟨⟨by decide +kernel, by decide +kernel⟩, List.mem_of_getElem? (i := 100) (by decide +kernel), List.mem_of_getElem? (i := 484) (by decide +kernel), List.mem_of_getElem? (i := 485) (by decide +kernel)⟩
theorem lw_p13 : lw_okq (⟨"LeastRoutes", "takeTurn", "()V"⟩, 7) := ⟨⟨by decide +kernel, by decide +kernel⟩, List.mem_of_getElem? (i := 14) (by decide +kernel), List.mem_of_getElem? (i := 503) (by decide +kernel), List.mem_of_getElem? (i := 504) (by decide +kernel)⟩
theorem lw_p14 : lw_okq (⟨"LeastRoutes$Sheet", "lowestBits", "(J)J"⟩, 3) := ⟨⟨by decide +kernel, by decide +kernel⟩, List.mem_of_getElem? (i := 125) (by decide +kernel), List.mem_of_getElem? (i := 585) (by decide +kernel), List.mem_of_getElem? (i := 586) (by decide +kernel)⟩
theorem lw_p15 : lw_okq (⟨"LeastRoutesModel", "lays", "()V"⟩, 18) := ⟨⟨by decide +kernel, by decide +kernel⟩, List.mem_of_getElem? (i := 625) (by decide +kernel), List.mem_of_getElem? (i := 695) (by decide +kernel), List.mem_of_getElem? (i := 696) (by decide +kernel)⟩
def lw_privs_1 : List (MethodName × Nat) := [(⟨"LeastRoutes", "table", "()LLeastRoutes$Table;"⟩, 7), (⟨"LeastRoutes", "installed", "()LLeastRoutes$Table;"⟩, 7), (⟨"LeastRoutes", "freshView", "()LLeastRoutes$View;"⟩, 7), (⟨"LeastRoutes$View", "findBest", "()V"⟩, 7), (⟨"LeastRoutes$View", "findLeast", "()V"⟩, 7), (⟨"LeastRoutes$Table", "setPlace", "(II)V"⟩, 2), (⟨"LeastRoutes$Table", "decidesAny", "(I)Z"⟩, 2), (⟨"LeastRoutes$View", "proofFrom", "(I)I"⟩, 7), (⟨"LeastRoutes", "beginStep", "()V"⟩, 7), (⟨"LeastRoutes$History", "loseOldest", "()V"⟩, 3), (⟨"LeastRoutes$Tape", "parseEntry", "()I"⟩, 5), (⟨"LeastRoutes$Tape", "letterHere", "()I"⟩, 5), (⟨"LeastRoutes$Tape", "parseFigures", "()I"⟩, 5), (⟨"LeastRoutes", "takeTurn", "()V"⟩, 7), (⟨"LeastRoutes$Sheet", "lowestBits", "(J)J"⟩, 3), (⟨"LeastRoutesModel", "lays", "()V"⟩, 18)]
theorem lw_r1 : ∀ q ∈ lw_privs_1, lw_okq q := List.forall_mem_cons.mpr ⟨lw_p0, List.forall_mem_cons.mpr ⟨lw_p1, List.forall_mem_cons.mpr ⟨lw_p2, List.forall_mem_cons.mpr ⟨lw_p3, List.forall_mem_cons.mpr ⟨lw_p4, List.forall_mem_cons.mpr ⟨lw_p5, List.forall_mem_cons.mpr ⟨lw_p6, List.forall_mem_cons.mpr ⟨lw_p7, List.forall_mem_cons.mpr ⟨lw_p8, List.forall_mem_cons.mpr ⟨lw_p9, List.forall_mem_cons.mpr ⟨lw_p10, List.forall_mem_cons.mpr ⟨lw_p11, List.forall_mem_cons.mpr ⟨lw_p12, List.forall_mem_cons.mpr ⟨lw_p13, List.forall_mem_cons.mpr ⟨lw_p14, List.forall_mem_cons.mpr ⟨lw_p15, fun _ h => absurd h List.not_mem_nil⟩⟩⟩⟩⟩⟩⟩⟩⟩⟩⟩⟩⟩⟩⟩⟩
theorem lw_p16 : lw_okq (⟨"LeastRoutesModel", "laysHops", "()V"⟩, 18) := ⟨⟨by decide +kernel, by decide +kernel⟩, List.mem_of_getElem? (i := 625) (by decide +kernel), List.mem_of_getElem? (i := 699) (by decide +kernel), List.mem_of_getElem? (i := 700) (by decide +kernel)⟩
theorem lw_p17 : lw_okq (⟨"LeastRoutesModel", "laysCosts", "()V"⟩, 18) := ⟨⟨by decide +kernel, by decide +kernel⟩, List.mem_of_getElem? (i := 625) (by decide +kernel), List.mem_of_getElem? (i := 709) (by decide +kernel), List.mem_of_getElem? (i := 710) (by decide +kernel)⟩
theorem lw_p18 : lw_okq (⟨"LeastRoutesModel", "laysLeast", "()V"⟩, 18) := ⟨⟨by decide +kernel, by decide +kernel⟩, List.mem_of_getElem? (i := 625) (by decide +kernel), List.mem_of_getElem? (i := 716) (by decide +kernel), List.mem_of_getElem? (i := 717) (by decide +kernel)⟩
theorem lw_p19 : lw_okq (⟨"LeastRoutesModel", "setOf", "(I)I"⟩, 18) := ⟨⟨by decide +kernel, by decide +kernel⟩, List.mem_of_getElem? (i := 625) (by decide +kernel), List.mem_of_getElem? (i := 720) (by decide +kernel), List.mem_of_getElem? (i := 721) (by decide +kernel)⟩
theorem lw_p20 : lw_okq (⟨"LeastRoutesModel", "ease", "(I)I"⟩, 18) := ⟨⟨by decide +kernel, by decide +kernel⟩, List.mem_of_getElem? (i := 625) (by decide +kernel), List.mem_of_getElem? (i := 724) (by decide +kernel), List.mem_of_getElem? (i := 725) (by decide +kernel)⟩
theorem lw_p21 : lw_okq (⟨"LeastRoutesModel", "hopsIn", "(I)I"⟩, 18) := ⟨⟨by decide +kernel, by decide +kernel⟩, List.mem_of_getElem? (i := 625) (by decide +kernel), List.mem_of_getElem? (i := 740) (by decide +kernel), List.mem_of_getElem? (i := 741) (by decide +kernel)⟩
theorem lw_p22 : lw_okq (⟨"LeastRoutesModel", "isRedundant", "(I)Z"⟩, 18) := ⟨⟨by decide +kernel, by decide +kernel⟩, List.mem_of_getElem? (i := 625) (by decide +kernel), List.mem_of_getElem? (i := 747) (by decide +kernel), List.mem_of_getElem? (i := 748) (by decide +kernel)⟩
theorem lw_p23 : lw_okq (⟨"LeastRoutesModel", "leastAt", "(I)I"⟩, 18) := ⟨⟨by decide +kernel, by decide +kernel⟩, List.mem_of_getElem? (i := 625) (by decide +kernel), List.mem_of_getElem? (i := 760) (by decide +kernel), List.mem_of_getElem? (i := 761) (by decide +kernel)⟩
theorem lw_p24 : lw_okq (⟨"LeastRoutesModel", "changeAt", "(I)I"⟩, 18) := ⟨⟨by decide +kernel, by decide +kernel⟩, List.mem_of_getElem? (i := 625) (by decide +kernel), List.mem_of_getElem? (i := 768) (by decide +kernel), List.mem_of_getElem? (i := 769) (by decide +kernel)⟩
theorem lw_p25 : lw_okq (⟨"LeastRoutesModel", "proofAt", "(I)I"⟩, 18) := ⟨⟨by decide +kernel, by decide +kernel⟩, List.mem_of_getElem? (i := 625) (by decide +kernel), List.mem_of_getElem? (i := 777) (by decide +kernel), List.mem_of_getElem? (i := 778) (by decide +kernel)⟩
theorem lw_p26 : lw_okq (⟨"LeastRoutesModel", "proofOf", "(I)I"⟩, 18) := ⟨⟨by decide +kernel, by decide +kernel⟩, List.mem_of_getElem? (i := 625) (by decide +kernel), List.mem_of_getElem? (i := 781) (by decide +kernel), List.mem_of_getElem? (i := 782) (by decide +kernel)⟩
theorem lw_p27 : lw_okq (⟨"LeastRoutesModel", "isOne", "(I)Z"⟩, 18) := ⟨⟨by decide +kernel, by decide +kernel⟩, List.mem_of_getElem? (i := 625) (by decide +kernel), List.mem_of_getElem? (i := 785) (by decide +kernel), List.mem_of_getElem? (i := 786) (by decide +kernel)⟩
theorem lw_p28 : lw_okq (⟨"LeastRoutesModel", "changes", "()I"⟩, 18) := ⟨⟨by decide +kernel, by decide +kernel⟩, List.mem_of_getElem? (i := 625) (by decide +kernel), List.mem_of_getElem? (i := 799) (by decide +kernel), List.mem_of_getElem? (i := 800) (by decide +kernel)⟩
theorem lw_p29 : lw_okq (⟨"LeastRoutesModel", "redundant", "()I"⟩, 18) := ⟨⟨by decide +kernel, by decide +kernel⟩, List.mem_of_getElem? (i := 625) (by decide +kernel), List.mem_of_getElem? (i := 803) (by decide +kernel), List.mem_of_getElem? (i := 804) (by decide +kernel)⟩
theorem lw_p30 : lw_okq (⟨"LeastRoutesModel", "firstUnlike", "()I"⟩, 18) := ⟨⟨by decide +kernel, by decide +kernel⟩, List.mem_of_getElem? (i := 625) (by decide +kernel), List.mem_of_getElem? (i := 807) (by decide +kernel), List.mem_of_getElem? (i := 808) (by decide +kernel)⟩
theorem lw_p31 : lw_okq (⟨"LeastRoutesModel", "chances", "(III)I"⟩, 18) := ⟨⟨by decide +kernel, by decide +kernel⟩, List.mem_of_getElem? (i := 625) (by decide +kernel), List.mem_of_getElem? (i := 816) (by decide +kernel), List.mem_of_getElem? (i := 817) (by decide +kernel)⟩
def lw_privs_2 : List (MethodName × Nat) := [(⟨"LeastRoutesModel", "laysHops", "()V"⟩, 18), (⟨"LeastRoutesModel", "laysCosts", "()V"⟩, 18), (⟨"LeastRoutesModel", "laysLeast", "()V"⟩, 18), (⟨"LeastRoutesModel", "setOf", "(I)I"⟩, 18), (⟨"LeastRoutesModel", "ease", "(I)I"⟩, 18), (⟨"LeastRoutesModel", "hopsIn", "(I)I"⟩, 18), (⟨"LeastRoutesModel", "isRedundant", "(I)Z"⟩, 18), (⟨"LeastRoutesModel", "leastAt", "(I)I"⟩, 18), (⟨"LeastRoutesModel", "changeAt", "(I)I"⟩, 18), (⟨"LeastRoutesModel", "proofAt", "(I)I"⟩, 18), (⟨"LeastRoutesModel", "proofOf", "(I)I"⟩, 18), (⟨"LeastRoutesModel", "isOne", "(I)Z"⟩, 18), (⟨"LeastRoutesModel", "changes", "()I"⟩, 18), (⟨"LeastRoutesModel", "redundant", "()I"⟩, 18), (⟨"LeastRoutesModel", "firstUnlike", "()I"⟩, 18), (⟨"LeastRoutesModel", "chances", "(III)I"⟩, 18)]
theorem lw_r2 : ∀ q ∈ lw_privs_2, lw_okq q := List.forall_mem_cons.mpr ⟨lw_p16, List.forall_mem_cons.mpr ⟨lw_p17, List.forall_mem_cons.mpr ⟨lw_p18, List.forall_mem_cons.mpr ⟨lw_p19, List.forall_mem_cons.mpr ⟨lw_p20, List.forall_mem_cons.mpr ⟨lw_p21, List.forall_mem_cons.mpr ⟨lw_p22, List.forall_mem_cons.mpr ⟨lw_p23, List.forall_mem_cons.mpr ⟨lw_p24, List.forall_mem_cons.mpr ⟨lw_p25, List.forall_mem_cons.mpr ⟨lw_p26, List.forall_mem_cons.mpr ⟨lw_p27, List.forall_mem_cons.mpr ⟨lw_p28, List.forall_mem_cons.mpr ⟨lw_p29, List.forall_mem_cons.mpr ⟨lw_p30, List.forall_mem_cons.mpr ⟨lw_p31, fun _ h => absurd h List.not_mem_nil⟩⟩⟩⟩⟩⟩⟩⟩⟩⟩⟩⟩⟩⟩⟩⟩
theorem lw_p32 : lw_okq (⟨"LeastRoutesModel", "notes", "()V"⟩, 18) := ⟨⟨by decide +kernel, by decide +kernel⟩, List.mem_of_getElem? (i := 625) (by decide +kernel), List.mem_of_getElem? (i := 824) (by decide +kernel), List.mem_of_getElem? (i := 825) (by decide +kernel)⟩
theorem lw_p33 : lw_okq (⟨"LeastRoutesModel", "readsAll", "()Z"⟩, 18) := ⟨⟨by decide +kernel, by decide +kernel⟩, List.mem_of_getElem? (i := 625) (by decide +kernel), List.mem_of_getElem? (i := 853) (by decide +kernel), List.mem_of_getElem? (i := 854) (by decide +kernel)⟩
theorem lw_p34 : lw_okq (⟨"LeastRoutesModel", "readsEntry", "()Z"⟩, 18) := ⟨⟨by decide +kernel, by decide +kernel⟩, List.mem_of_getElem? (i := 625) (by decide +kernel), List.mem_of_getElem? (i := 857) (by decide +kernel), List.mem_of_getElem? (i := 858) (by decide +kernel)⟩
theorem lw_p35 : lw_okq (⟨"LeastRoutesModel", "looks", "()I"⟩, 18) := ⟨⟨by decide +kernel, by decide +kernel⟩, List.mem_of_getElem? (i := 625) (by decide +kernel), List.mem_of_getElem? (i := 861) (by decide +kernel), List.mem_of_getElem? (i := 862) (by decide +kernel)⟩
theorem lw_p36 : lw_okq (⟨"LeastRoutesModel", "turnsOnce", "()V"⟩, 18) := ⟨⟨by decide +kernel, by decide +kernel⟩, List.mem_of_getElem? (i := 625) (by decide +kernel), List.mem_of_getElem? (i := 872) (by decide +kernel), List.mem_of_getElem? (i := 873) (by decide +kernel)⟩
theorem lw_p37 : lw_okq (⟨"LeastRoutesModel", "found", "(IIII)I"⟩, 18) := ⟨⟨by decide +kernel, by decide +kernel⟩, List.mem_of_getElem? (i := 625) (by decide +kernel), List.mem_of_getElem? (i := 904) (by decide +kernel), List.mem_of_getElem? (i := 905) (by decide +kernel)⟩
theorem lw_p38 : lw_okq (⟨"LeastRoutesModel", "isLength", "(III)Z"⟩, 18) := ⟨⟨by decide +kernel, by decide +kernel⟩, List.mem_of_getElem? (i := 625) (by decide +kernel), List.mem_of_getElem? (i := 908) (by decide +kernel), List.mem_of_getElem? (i := 909) (by decide +kernel)⟩
def lw_privs_3 : List (MethodName × Nat) := [(⟨"LeastRoutesModel", "notes", "()V"⟩, 18), (⟨"LeastRoutesModel", "readsAll", "()Z"⟩, 18), (⟨"LeastRoutesModel", "readsEntry", "()Z"⟩, 18), (⟨"LeastRoutesModel", "looks", "()I"⟩, 18), (⟨"LeastRoutesModel", "turnsOnce", "()V"⟩, 18), (⟨"LeastRoutesModel", "found", "(IIII)I"⟩, 18), (⟨"LeastRoutesModel", "isLength", "(III)Z"⟩, 18)]
theorem lw_r3 : ∀ q ∈ lw_privs_3, lw_okq q := List.forall_mem_cons.mpr ⟨lw_p32, List.forall_mem_cons.mpr ⟨lw_p33, List.forall_mem_cons.mpr ⟨lw_p34, List.forall_mem_cons.mpr ⟨lw_p35, List.forall_mem_cons.mpr ⟨lw_p36, List.forall_mem_cons.mpr ⟨lw_p37, List.forall_mem_cons.mpr ⟨lw_p38, fun _ h => absurd h List.not_mem_nil⟩⟩⟩⟩⟩⟩⟩
def lw_privs : List (MethodName × Nat) := lw_privs_1 ++ (lw_privs_2 ++ (lw_privs_3))
def lw_tbl : List Cond := k2_sels lw_privs ++ tables_1
theorem lw_privs_ok : ∀ q ∈ lw_privs, lw_okq q := by
  show ∀ q ∈ lw_privs_1 ++ (lw_privs_2 ++ (lw_privs_3)), lw_okq q
  exact List.forall_mem_append.mpr ⟨lw_r1, List.forall_mem_append.mpr ⟨lw_r2, lw_r3⟩⟩
end
section
/-! ===== BEGIN words of one list among another's, by their places ===== -/
theorem goodIn_r {big : List Cond} (ws : List Cond) (ps : List Nat) (hp : ws = ps.filterMap (fun i => big[i]?)) (h : ws.all goodWord = true) : GoodIn big ws := by
  intro w hw
  have h1 := List.all_eq_true.mp h w hw
  rw [hp] at hw
  obtain ⟨i, -, hi⟩ := List.mem_filterMap.mp hw
  have hm : w ∈ big := by first | exact List.mem_of_getElem? hi | exact List.getElem?_mem hi
  exact ⟨hm, good_of_word h1⟩
theorem goodIn_app {big a b : List Cond} (ha : GoodIn big a) (hb : GoodIn big b) : GoodIn big (a ++ b) := fun w h => (List.mem_append.mp h).elim (ha w) (hb w)
theorem goodIn_ca {big a b : List Cond} {c : Cond} (ha : GoodIn big (c :: a)) (hb : GoodIn big b) : GoodIn big (c :: (a ++ b)) := fun w h => (List.mem_cons.mp h).elim (fun e => ha w (List.mem_cons.mpr (Or.inl e))) (fun h => (List.mem_append.mp h).elim (fun h => ha w (List.mem_cons.mpr (Or.inr h))) (hb w))
theorem goodIn_sub {big ws : List Cond} (hm : ∀ w ∈ ws, w ∈ big) (h : ws.all goodWord = true) : GoodIn big ws := fun w hw => ⟨hm w hw, good_of_word (List.all_eq_true.mp h w hw)⟩
/-! ===== END ===== -/

/-! ===== BEGIN printed: names, fields, word lists, decode rows ===== -/
def RX0 : String := "LeastRoutes$History"
def TX0 : u_T := fun k => match k with
  | 0 => ("LeastRoutes$History", "now", "LLeastRoutes$Moment;", true)
  | 1 => ("LeastRoutes$History", "known", "[LLeastRoutes$Moment;", true)
  | _ => ("LeastRoutes$History", "size", "I", false)
def tyX0 : Nat → FieldType := fun k => match k with
  | 0 => .object "LeastRoutes$Moment"
  | 1 => .array (.object "LeastRoutes$Moment")
  | _ => .int
abbrev wsX00 : List Cond := u_ws RX0 TX0 3
theorem nmX0 : ∀ a, a < 3 → ∀ b, b < 3 → a ≠ b → (TX0 a).2.1 ≠ (TX0 b).2.1 := by decide +kernel
theorem tyX0_ok : ∀ k, k < 3 → parseFieldDescriptor (TX0 k).2.2.1 = some (tyX0 k) := by decide +kernel
abbrev cX0_init : ByteArray := prog_2_method_1_code
def yX0_init : MethodName := ⟨RX0, "<init>", "()V"⟩
abbrev cX0_present : ByteArray := prog_2_method_2_code
def yX0_present : MethodName := ⟨RX0, "present", "()LLeastRoutes$Moment;"⟩
abbrev cX0_howManyKnown : ByteArray := prog_2_method_3_code
def yX0_howManyKnown : MethodName := ⟨RX0, "howManyKnown", "()I"⟩
abbrev cX0_remember : ByteArray := prog_2_method_4_code
def yX0_remember : MethodName := ⟨RX0, "remember", "()V"⟩
abbrev cX0_goBack : ByteArray := prog_2_method_5_code
def yX0_goBack : MethodName := ⟨RX0, "goBack", "()V"⟩
abbrev cX0_takeAllFrom : ByteArray := prog_2_method_6_code
def yX0_takeAllFrom : MethodName := ⟨RX0, "takeAllFrom", "(LLeastRoutes$History;)V"⟩
abbrev cX0_loseOldest : ByteArray := prog_2_method_7_code
def yX0_loseOldest : MethodName := ⟨RX0, "loseOldest", "()V"⟩
def RX1 : String := "LeastRoutes$Moment"
def TX1 : u_T := fun k => match k with
  | 0 => ("LeastRoutes$Moment", "told", "LLeastRoutes$Table;", true)
  | 1 => ("LeastRoutes$Moment", "inUse", "LLeastRoutes$Table;", true)
  | _ => ("LeastRoutes$Moment", "draw", "I", false)
def tyX1 : Nat → FieldType := fun k => match k with
  | 0 => .object "LeastRoutes$Table"
  | 1 => .object "LeastRoutes$Table"
  | _ => .int
abbrev wsX10 : List Cond := u_ws RX1 TX1 3
theorem nmX1 : ∀ a, a < 3 → ∀ b, b < 3 → a ≠ b → (TX1 a).2.1 ≠ (TX1 b).2.1 := by decide +kernel
theorem tyX1_ok : ∀ k, k < 3 → parseFieldDescriptor (TX1 k).2.2.1 = some (tyX1 k) := by decide +kernel
abbrev cX1_init : ByteArray := prog_3_method_1_code
def yX1_init : MethodName := ⟨RX1, "<init>", "()V"⟩
abbrev cX1_tableNow : ByteArray := prog_3_method_2_code
def yX1_tableNow : MethodName := ⟨RX1, "tableNow", "()LLeastRoutes$Table;"⟩
abbrev cX1_installedNow : ByteArray := prog_3_method_3_code
def yX1_installedNow : MethodName := ⟨RX1, "installedNow", "()LLeastRoutes$Table;"⟩
abbrev cX1_drawNow : ByteArray := prog_3_method_4_code
def yX1_drawNow : MethodName := ⟨RX1, "drawNow", "()I"⟩
abbrev cX1_setDraw : ByteArray := prog_3_method_5_code
def yX1_setDraw : MethodName := ⟨RX1, "setDraw", "(I)V"⟩
abbrev cX1_nextDraw : ByteArray := prog_3_method_6_code
def yX1_nextDraw : MethodName := ⟨RX1, "nextDraw", "()I"⟩
abbrev cX1_takeFrom : ByteArray := prog_3_method_7_code
def yX1_takeFrom : MethodName := ⟨RX1, "takeFrom", "(LLeastRoutes$Moment;)V"⟩
def RX2 : String := "LeastRoutes$Sheet"
def TX2 : u_T := fun k => match k with
  | 0 => ("LeastRoutes$Sheet", "items", "[J", true)
  | 1 => ("LeastRoutes$Sheet", "ownLane", "I", false)
  | _ => ("LeastRoutes$Sheet", "size", "I", false)
def tyX2 : Nat → FieldType := fun k => match k with
  | 0 => .array .long
  | 1 => .int
  | _ => .int
abbrev wsX20 : List Cond := u_ws RX2 TX2 3
theorem nmX2 : ∀ a, a < 3 → ∀ b, b < 3 → a ≠ b → (TX2 a).2.1 ≠ (TX2 b).2.1 := by decide +kernel
theorem tyX2_ok : ∀ k, k < 3 → parseFieldDescriptor (TX2 k).2.2.1 = some (tyX2 k) := by decide +kernel
abbrev cX2_init : ByteArray := prog_4_method_1_code
def yX2_init : MethodName := ⟨RX2, "<init>", "()V"⟩
abbrev cX2_holdsNothing : ByteArray := prog_4_method_2_code
def yX2_holdsNothing : MethodName := ⟨RX2, "holdsNothing", "()Z"⟩
abbrev cX2_hasLaneOf : ByteArray := prog_4_method_3_code
def yX2_hasLaneOf : MethodName := ⟨RX2, "hasLaneOf", "(LLeastRoutes$Sheet;)Z"⟩
abbrev cX2_hasItems : ByteArray := prog_4_method_4_code
def yX2_hasItems : MethodName := ⟨RX2, "hasItems", "(II)Z"⟩
abbrev cX2_refusal : ByteArray := prog_4_method_5_code
def yX2_refusal : MethodName := ⟨RX2, "refusal", "(III)I"⟩
abbrev cX2_startRow : ByteArray := prog_4_method_6_code
def yX2_startRow : MethodName := ⟨RX2, "startRow", "(II)V"⟩
abbrev cX2_makeNothing : ByteArray := prog_4_method_7_code
def yX2_makeNothing : MethodName := ⟨RX2, "makeNothing", "()I"⟩
abbrev cX2_setItem : ByteArray := prog_4_method_8_code
def yX2_setItem : MethodName := ⟨RX2, "setItem", "(IJ)V"⟩
abbrev cX2_takeItems : ByteArray := prog_4_method_9_code
def yX2_takeItems : MethodName := ⟨RX2, "takeItems", "(ILLeastRoutes$Sheet;II)V"⟩
abbrev cX2_holdsPairs : ByteArray := prog_4_method_10_code
def yX2_holdsPairs : MethodName := ⟨RX2, "holdsPairs", "(II)Z"⟩
abbrev cX2_isToldBy : ByteArray := prog_4_method_11_code
def yX2_isToldBy : MethodName := ⟨RX2, "isToldBy", "(III)Z"⟩
abbrev cX2_lowestBits : ByteArray := prog_4_method_12_code
def yX2_lowestBits : MethodName := ⟨RX2, "lowestBits", "(J)J"⟩
def RX3 : String := "LeastRoutes$Table"
def TX3 : u_T := fun k => match k with
  | 0 => ("LeastRoutes$Table", "places", "[J", true)
  | _ => ("LeastRoutes$Table", "size", "I", false)
def tyX3 : Nat → FieldType := fun k => match k with
  | 0 => .array .long
  | _ => .int
abbrev wsX30 : List Cond := u_ws RX3 TX3 2
theorem nmX3 : ∀ a, a < 2 → ∀ b, b < 2 → a ≠ b → (TX3 a).2.1 ≠ (TX3 b).2.1 := by decide +kernel
theorem tyX3_ok : ∀ k, k < 2 → parseFieldDescriptor (TX3 k).2.2.1 = some (tyX3 k) := by decide +kernel
abbrev cX3_init : ByteArray := prog_5_method_1_code
def yX3_init : MethodName := ⟨RX3, "<init>", "()V"⟩
abbrev cX3_howMany : ByteArray := prog_5_method_2_code
def yX3_howMany : MethodName := ⟨RX3, "howMany", "()I"⟩
abbrev cX3_hopAt : ByteArray := prog_5_method_3_code
def yX3_hopAt : MethodName := ⟨RX3, "hopAt", "(I)I"⟩
abbrev cX3_put : ByteArray := prog_5_method_4_code
def yX3_put : MethodName := ⟨RX3, "put", "(II)V"⟩
abbrev cX3_takeOut : ByteArray := prog_5_method_5_code
def yX3_takeOut : MethodName := ⟨RX3, "takeOut", "(I)V"⟩
abbrev cX3_makeEmpty : ByteArray := prog_5_method_6_code
def yX3_makeEmpty : MethodName := ⟨RX3, "makeEmpty", "()V"⟩
abbrev cX3_takeFrom : ByteArray := prog_5_method_7_code
def yX3_takeFrom : MethodName := ⟨RX3, "takeFrom", "(LLeastRoutes$Table;)V"⟩
abbrev cX3_deciderOf : ByteArray := prog_5_method_8_code
def yX3_deciderOf : MethodName := ⟨RX3, "deciderOf", "(I)I"⟩
abbrev cX3_hopOfAddress : ByteArray := prog_5_method_9_code
def yX3_hopOfAddress : MethodName := ⟨RX3, "hopOfAddress", "(I)I"⟩
abbrev cX3_hopFromAbove : ByteArray := prog_5_method_10_code
def yX3_hopFromAbove : MethodName := ⟨RX3, "hopFromAbove", "(I)I"⟩
abbrev cX3_numberOf : ByteArray := prog_5_method_11_code
def yX3_numberOf : MethodName := ⟨RX3, "numberOf", "(I)I"⟩
abbrev cX3_hasHop : ByteArray := prog_5_method_12_code
def yX3_hasHop : MethodName := ⟨RX3, "hasHop", "(I)Z"⟩
abbrev cX3_replaceHop : ByteArray := prog_5_method_13_code
def yX3_replaceHop : MethodName := ⟨RX3, "replaceHop", "(II)I"⟩
abbrev cX3_redundancyOf : ByteArray := prog_5_method_14_code
def yX3_redundancyOf : MethodName := ⟨RX3, "redundancyOf", "(I)I"⟩
abbrev cX3_countRedundant : ByteArray := prog_5_method_15_code
def yX3_countRedundant : MethodName := ⟨RX3, "countRedundant", "()I"⟩
abbrev cX3_decidesAny : ByteArray := prog_5_method_16_code
def yX3_decidesAny : MethodName := ⟨RX3, "decidesAny", "(I)Z"⟩
abbrev cX3_setPlace : ByteArray := prog_5_method_17_code
def yX3_setPlace : MethodName := ⟨RX3, "setPlace", "(II)V"⟩
def RX4 : String := "LeastRoutes$Tape"
def TX4 : u_T := fun k => match k with
  | 0 => ("LeastRoutes$Tape", "letters", "[I", true)
  | 1 => ("LeastRoutes$Tape", "told", "LLeastRoutes$Table;", true)
  | 2 => ("LeastRoutes$Tape", "size", "I", false)
  | 3 => ("LeastRoutes$Tape", "place", "I", false)
  | _ => ("LeastRoutes$Tape", "number", "I", false)
def tyX4 : Nat → FieldType := fun k => match k with
  | 0 => .array .int
  | 1 => .object "LeastRoutes$Table"
  | 2 => .int
  | 3 => .int
  | _ => .int
abbrev wsX40 : List Cond := u_ws RX4 TX4 5
theorem nmX4 : ∀ a, a < 5 → ∀ b, b < 5 → a ≠ b → (TX4 a).2.1 ≠ (TX4 b).2.1 := by decide +kernel
theorem tyX4_ok : ∀ k, k < 5 → parseFieldDescriptor (TX4 k).2.2.1 = some (tyX4 k) := by decide +kernel
abbrev cX4_init : ByteArray := prog_6_method_1_code
def yX4_init : MethodName := ⟨RX4, "<init>", "()V"⟩
abbrev cX4_addLetter : ByteArray := prog_6_method_2_code
def yX4_addLetter : MethodName := ⟨RX4, "addLetter", "(I)I"⟩
abbrev cX4_makeEmpty : ByteArray := prog_6_method_3_code
def yX4_makeEmpty : MethodName := ⟨RX4, "makeEmpty", "()V"⟩
abbrev cX4_toldTable : ByteArray := prog_6_method_4_code
def yX4_toldTable : MethodName := ⟨RX4, "toldTable", "()LLeastRoutes$Table;"⟩
abbrev cX4_parse : ByteArray := prog_6_method_5_code
def yX4_parse : MethodName := ⟨RX4, "parse", "()I"⟩
abbrev cX4_parseEntry : ByteArray := prog_6_method_6_code
def yX4_parseEntry : MethodName := ⟨RX4, "parseEntry", "()I"⟩
abbrev cX4_parseFigures : ByteArray := prog_6_method_7_code
def yX4_parseFigures : MethodName := ⟨RX4, "parseFigures", "()I"⟩
abbrev cX4_letterHere : ByteArray := prog_6_method_8_code
def yX4_letterHere : MethodName := ⟨RX4, "letterHere", "()I"⟩
def RX5 : String := "LeastRoutes$View"
def TX5 : u_T := fun k => match k with
  | 0 => ("LeastRoutes$View", "sent", "[I", true)
  | 1 => ("LeastRoutes$View", "sentByInstalled", "[I", true)
  | 2 => ("LeastRoutes$View", "best", "[I", true)
  | 3 => ("LeastRoutes$View", "ease", "[I", true)
  | 4 => ("LeastRoutes$View", "fromAbove", "[I", true)
  | 5 => ("LeastRoutes$View", "inUse", "LLeastRoutes$Table;", true)
  | _ => ("LeastRoutes$View", "leastOne", "LLeastRoutes$Table;", true)
def tyX5 : Nat → FieldType := fun k => match k with
  | 0 => .array .int
  | 1 => .array .int
  | 2 => .array .int
  | 3 => .array .int
  | 4 => .array .int
  | 5 => .object "LeastRoutes$Table"
  | _ => .object "LeastRoutes$Table"
abbrev wsX50 : List Cond := u_ws RX5 TX5 7
theorem nmX5 : ∀ a, a < 7 → ∀ b, b < 7 → a ≠ b → (TX5 a).2.1 ≠ (TX5 b).2.1 := by decide +kernel
theorem tyX5_ok : ∀ k, k < 7 → parseFieldDescriptor (TX5 k).2.2.1 = some (tyX5 k) := by decide +kernel
abbrev cX5_init : ByteArray := prog_7_method_1_code
def yX5_init : MethodName := ⟨RX5, "<init>", "()V"⟩
abbrev cX5_make : ByteArray := prog_7_method_2_code
def yX5_make : MethodName := ⟨RX5, "make", "(LLeastRoutes$Table;LLeastRoutes$Table;)V"⟩
abbrev cX5_leastTable : ByteArray := prog_7_method_3_code
def yX5_leastTable : MethodName := ⟨RX5, "leastTable", "()LLeastRoutes$Table;"⟩
abbrev cX5_hopsBeneath : ByteArray := prog_7_method_4_code
def yX5_hopsBeneath : MethodName := ⟨RX5, "hopsBeneath", "(I)I"⟩
abbrev cX5_installedHopsBeneath : ByteArray := prog_7_method_5_code
def yX5_installedHopsBeneath : MethodName := ⟨RX5, "installedHopsBeneath", "(I)I"⟩
abbrev cX5_bestHops : ByteArray := prog_7_method_6_code
def yX5_bestHops : MethodName := ⟨RX5, "bestHops", "(I)I"⟩
abbrev cX5_easeOf : ByteArray := prog_7_method_7_code
def yX5_easeOf : MethodName := ⟨RX5, "easeOf", "(I)I"⟩
abbrev cX5_costBy : ByteArray := prog_7_method_8_code
def yX5_costBy : MethodName := ⟨RX5, "costBy", "(II)I"⟩
abbrev cX5_kindOfChange : ByteArray := prog_7_method_9_code
def yX5_kindOfChange : MethodName := ⟨RX5, "kindOfChange", "(I)I"⟩
abbrev cX5_countChanges : ByteArray := prog_7_method_10_code
def yX5_countChanges : MethodName := ⟨RX5, "countChanges", "()I"⟩
abbrev cX5_changeNumber : ByteArray := prog_7_method_11_code
def yX5_changeNumber : MethodName := ⟨RX5, "changeNumber", "(I)I"⟩
abbrev cX5_countProof : ByteArray := prog_7_method_12_code
def yX5_countProof : MethodName := ⟨RX5, "countProof", "()I"⟩
abbrev cX5_proofNumber : ByteArray := prog_7_method_13_code
def yX5_proofNumber : MethodName := ⟨RX5, "proofNumber", "(I)I"⟩
abbrev cX5_firstSentElsewhere : ByteArray := prog_7_method_14_code
def yX5_firstSentElsewhere : MethodName := ⟨RX5, "firstSentElsewhere", "()I"⟩
abbrev cX5_proofFrom : ByteArray := prog_7_method_15_code
def yX5_proofFrom : MethodName := ⟨RX5, "proofFrom", "(I)I"⟩
abbrev cX5_spread : ByteArray := prog_7_method_16_code
def yX5_spread : MethodName := ⟨RX5, "spread", "(LLeastRoutes$Table;[I)V"⟩
abbrev cX5_findBest : ByteArray := prog_7_method_17_code
def yX5_findBest : MethodName := ⟨RX5, "findBest", "()V"⟩
abbrev cX5_findLeast : ByteArray := prog_7_method_18_code
def yX5_findLeast : MethodName := ⟨RX5, "findLeast", "()V"⟩
abbrev cX5_hasBit : ByteArray := prog_7_method_19_code
def yX5_hasBit : MethodName := ⟨RX5, "hasBit", "(II)Z"⟩
def RX6 : String := "LeastRoutes"
def TX6 : u_T := fun k => match k with
  | 0 => ("LeastRoutes", "history", "LLeastRoutes$History;", true)
  | 1 => ("LeastRoutes", "kept", "LLeastRoutes$History;", true)
  | 2 => ("LeastRoutes", "view", "LLeastRoutes$View;", true)
  | 3 => ("LeastRoutes", "tape", "LLeastRoutes$Tape;", true)
  | 4 => ("LeastRoutes", "sheets", "[LLeastRoutes$Sheet;", true)
  | 5 => ("LeastRoutes", "hasImage", "Z", false)
  | _ => ("LeastRoutes", "viewIsOld", "Z", false)
def tyX6 : Nat → FieldType := fun k => match k with
  | 0 => .object "LeastRoutes$History"
  | 1 => .object "LeastRoutes$History"
  | 2 => .object "LeastRoutes$View"
  | 3 => .object "LeastRoutes$Tape"
  | 4 => .array (.object "LeastRoutes$Sheet")
  | 5 => .boolean
  | _ => .boolean
abbrev wsX60 : List Cond := u_ws RX6 TX6 7
theorem nmX6 : ∀ a, a < 7 → ∀ b, b < 7 → a ≠ b → (TX6 a).2.1 ≠ (TX6 b).2.1 := by decide +kernel
theorem tyX6_ok : ∀ k, k < 7 → parseFieldDescriptor (TX6 k).2.2.1 = some (tyX6 k) := by decide +kernel
abbrev cX6_init : ByteArray := prog_1_method_1_code
def yX6_init : MethodName := ⟨RX6, "<init>", "()V"⟩
abbrev cX6_look : ByteArray := prog_1_method_2_code
def yX6_look : MethodName := ⟨RX6, "look", "(II)I"⟩
abbrev cX6_prefix : ByteArray := prog_1_method_3_code
def yX6_prefix : MethodName := ⟨RX6, "prefix", "(II)I"⟩
abbrev cX6_cost : ByteArray := prog_1_method_4_code
def yX6_cost : MethodName := ⟨RX6, "cost", "(II)I"⟩
abbrev cX6_least : ByteArray := prog_1_method_5_code
def yX6_least : MethodName := ⟨RX6, "least", "(II)I"⟩
abbrev cX6_count : ByteArray := prog_1_method_6_code
def yX6_count : MethodName := ⟨RX6, "count", "(I)I"⟩
abbrev cX6_change : ByteArray := prog_1_method_7_code
def yX6_change : MethodName := ⟨RX6, "change", "(II)I"⟩
abbrev cX6_proof : ByteArray := prog_1_method_8_code
def yX6_proof : MethodName := ⟨RX6, "proof", "(II)I"⟩
abbrev cX6_lost : ByteArray := prog_1_method_9_code
def yX6_lost : MethodName := ⟨RX6, "lost", "(III)I"⟩
abbrev cX6_tell : ByteArray := prog_1_method_10_code
def yX6_tell : MethodName := ⟨RX6, "tell", "(II)I"⟩
abbrev cX6_out : ByteArray := prog_1_method_11_code
def yX6_out : MethodName := ⟨RX6, "out", "(I)I"⟩
abbrev cX6_rename : ByteArray := prog_1_method_12_code
def yX6_rename : MethodName := ⟨RX6, "rename", "(II)I"⟩
abbrev cX6_install : ByteArray := prog_1_method_13_code
def yX6_install : MethodName := ⟨RX6, "install", "()I"⟩
abbrev cX6_type : ByteArray := prog_1_method_14_code
def yX6_type : MethodName := ⟨RX6, "type", "(I)I"⟩
abbrev cX6_read : ByteArray := prog_1_method_15_code
def yX6_read : MethodName := ⟨RX6, "read", "()I"⟩
abbrev cX6_drift : ByteArray := prog_1_method_16_code
def yX6_drift : MethodName := ⟨RX6, "drift", "(I)I"⟩
abbrev cX6_undo : ByteArray := prog_1_method_17_code
def yX6_undo : MethodName := ⟨RX6, "undo", "()I"⟩
abbrev cX6_seed : ByteArray := prog_1_method_18_code
def yX6_seed : MethodName := ⟨RX6, "seed", "(I)I"⟩
abbrev cX6_image : ByteArray := prog_1_method_19_code
def yX6_image : MethodName := ⟨RX6, "image", "()I"⟩
abbrev cX6_restore : ByteArray := prog_1_method_20_code
def yX6_restore : MethodName := ⟨RX6, "restore", "()I"⟩
abbrev cX6_lengths : ByteArray := prog_1_method_21_code
def yX6_lengths : MethodName := ⟨RX6, "lengths", "(IIII)I"⟩
abbrev cX6_film : ByteArray := prog_1_method_22_code
def yX6_film : MethodName := ⟨RX6, "film", "(IIIII)I"⟩
abbrev cX6_sheet : ByteArray := prog_1_method_23_code
def yX6_sheet : MethodName := ⟨RX6, "sheet", "(III)I"⟩
abbrev cX6_drop : ByteArray := prog_1_method_24_code
def yX6_drop : MethodName := ⟨RX6, "drop", "(I)I"⟩
abbrev cX6_item : ByteArray := prog_1_method_25_code
def yX6_item : MethodName := ⟨RX6, "item", "(IIIJ)I"⟩
abbrev cX6_copy : ByteArray := prog_1_method_26_code
def yX6_copy : MethodName := ⟨RX6, "copy", "(IIIII)I"⟩
abbrev cX6_isAddress : ByteArray := prog_1_method_27_code
def yX6_isAddress : MethodName := ⟨RX6, "isAddress", "(I)Z"⟩
abbrev cX6_isPrefix : ByteArray := prog_1_method_28_code
def yX6_isPrefix : MethodName := ⟨RX6, "isPrefix", "(I)Z"⟩
abbrev cX6_isHop : ByteArray := prog_1_method_29_code
def yX6_isHop : MethodName := ⟨RX6, "isHop", "(I)Z"⟩
abbrev cX6_isSheet : ByteArray := prog_1_method_30_code
def yX6_isSheet : MethodName := ⟨RX6, "isSheet", "(I)Z"⟩
abbrev cX6_isLane : ByteArray := prog_1_method_31_code
def yX6_isLane : MethodName := ⟨RX6, "isLane", "(I)Z"⟩
abbrev cX6_lowestHop : ByteArray := prog_1_method_32_code
def yX6_lowestHop : MethodName := ⟨RX6, "lowestHop", "(I)I"⟩
abbrev cX6_isOneHop : ByteArray := prog_1_method_33_code
def yX6_isOneHop : MethodName := ⟨RX6, "isOneHop", "(I)Z"⟩
abbrev cX6_bitsOf : ByteArray := prog_1_method_34_code
def yX6_bitsOf : MethodName := ⟨RX6, "bitsOf", "(I)I"⟩
abbrev cX6_firstAddress : ByteArray := prog_1_method_35_code
def yX6_firstAddress : MethodName := ⟨RX6, "firstAddress", "(I)I"⟩
abbrev cX6_howManyAddresses : ByteArray := prog_1_method_36_code
def yX6_howManyAddresses : MethodName := ⟨RX6, "howManyAddresses", "(I)I"⟩
abbrev cX6_greatestDivisor : ByteArray := prog_1_method_37_code
def yX6_greatestDivisor : MethodName := ⟨RX6, "greatestDivisor", "(JJ)J"⟩
abbrev cX6_table : ByteArray := prog_1_method_38_code
def yX6_table : MethodName := ⟨RX6, "table", "()LLeastRoutes$Table;"⟩
abbrev cX6_installed : ByteArray := prog_1_method_39_code
def yX6_installed : MethodName := ⟨RX6, "installed", "()LLeastRoutes$Table;"⟩
abbrev cX6_freshView : ByteArray := prog_1_method_40_code
def yX6_freshView : MethodName := ⟨RX6, "freshView", "()LLeastRoutes$View;"⟩
abbrev cX6_beginStep : ByteArray := prog_1_method_41_code
def yX6_beginStep : MethodName := ⟨RX6, "beginStep", "()V"⟩
abbrev cX6_takeTurn : ByteArray := prog_1_method_42_code
def yX6_takeTurn : MethodName := ⟨RX6, "takeTurn", "()V"⟩
def RX7 : String := "LeastRoutesModel"
def TX7 : u_T := fun k => match k with
  | 0 => ("LeastRoutesModel", "st", "[I", true)
  | 1 => ("LeastRoutesModel", "past", "[I", true)
  | 2 => ("LeastRoutesModel", "acts", "I", false)
  | 3 => ("LeastRoutesModel", "image", "[I", true)
  | 4 => ("LeastRoutesModel", "imagePast", "[I", true)
  | 5 => ("LeastRoutesModel", "imageActs", "I", false)
  | 6 => ("LeastRoutesModel", "tape", "[I", true)
  | 7 => ("LeastRoutesModel", "tapeMany", "I", false)
  | 8 => ("LeastRoutesModel", "laneOf", "[I", true)
  | 9 => ("LeastRoutesModel", "sizeOf", "[I", true)
  | 10 => ("LeastRoutesModel", "items", "[J", true)
  | 11 => ("LeastRoutesModel", "least", "[I", true)
  | 12 => ("LeastRoutesModel", "costs", "[I", true)
  | 13 => ("LeastRoutesModel", "hops", "[I", true)
  | 14 => ("LeastRoutesModel", "comes", "[I", true)
  | 15 => ("LeastRoutesModel", "chain", "[I", true)
  | 16 => ("LeastRoutesModel", "told", "[I", true)
  | _ => ("LeastRoutesModel", "readAt", "I", false)
def tyX7 : Nat → FieldType := fun k => match k with
  | 0 => .array .int
  | 1 => .array .int
  | 2 => .int
  | 3 => .array .int
  | 4 => .array .int
  | 5 => .int
  | 6 => .array .int
  | 7 => .int
  | 8 => .array .int
  | 9 => .array .int
  | 10 => .array .long
  | 11 => .array .int
  | 12 => .array .int
  | 13 => .array .int
  | 14 => .array .int
  | 15 => .array .int
  | 16 => .array .int
  | _ => .int
abbrev wsX70 : List Cond := u_ws RX7 TX7 18
theorem nmX7 : ∀ a, a < 18 → ∀ b, b < 18 → a ≠ b → (TX7 a).2.1 ≠ (TX7 b).2.1 := by decide +kernel
theorem tyX7_ok : ∀ k, k < 18 → parseFieldDescriptor (TX7 k).2.2.1 = some (tyX7 k) := by decide +kernel
abbrev cX7_init : ByteArray := prog_9_method_1_code
def yX7_init : MethodName := ⟨RX7, "<init>", "()V"⟩
abbrev cX7_in : ByteArray := prog_9_method_2_code
def yX7_in : MethodName := ⟨RX7, "in", "(JJJ)Z"⟩
abbrev cX7_bring : ByteArray := prog_9_method_3_code
def yX7_bring : MethodName := ⟨RX7, "bring", "([II[III)V"⟩
abbrev cX7_decides : ByteArray := prog_9_method_4_code
def yX7_decides : MethodName := ⟨RX7, "decides", "([IIII)I"⟩
abbrev cX7_hopBy : ByteArray := prog_9_method_5_code
def yX7_hopBy : MethodName := ⟨RX7, "hopBy", "([IIII)I"⟩
abbrev cX7_lesser : ByteArray := prog_9_method_6_code
def yX7_lesser : MethodName := ⟨RX7, "lesser", "(II)I"⟩
abbrev cX7_laysCosts : ByteArray := prog_9_method_7_code
def yX7_laysCosts : MethodName := ⟨RX7, "laysCosts", "()V"⟩
abbrev cX7_ease : ByteArray := prog_9_method_8_code
def yX7_ease : MethodName := ⟨RX7, "ease", "(I)I"⟩
abbrev cX7_setOf : ByteArray := prog_9_method_9_code
def yX7_setOf : MethodName := ⟨RX7, "setOf", "(I)I"⟩
abbrev cX7_laysLeast : ByteArray := prog_9_method_10_code
def yX7_laysLeast : MethodName := ⟨RX7, "laysLeast", "()V"⟩
abbrev cX7_laysHops : ByteArray := prog_9_method_11_code
def yX7_laysHops : MethodName := ⟨RX7, "laysHops", "()V"⟩
abbrev cX7_lays : ByteArray := prog_9_method_12_code
def yX7_lays : MethodName := ⟨RX7, "lays", "()V"⟩
abbrev cX7_has : ByteArray := prog_9_method_13_code
def yX7_has : MethodName := ⟨RX7, "has", "(II)Z"⟩
abbrev cX7_hopsIn : ByteArray := prog_9_method_14_code
def yX7_hopsIn : MethodName := ⟨RX7, "hopsIn", "(I)I"⟩
abbrev cX7_isRedundant : ByteArray := prog_9_method_15_code
def yX7_isRedundant : MethodName := ⟨RX7, "isRedundant", "(I)Z"⟩
abbrev cX7_toldOf : ByteArray := prog_9_method_16_code
def yX7_toldOf : MethodName := ⟨RX7, "toldOf", "(I)I"⟩
abbrev cX7_look : ByteArray := prog_9_method_17_code
def yX7_look : MethodName := ⟨RX7, "look", "(II)I"⟩
abbrev cX7_isPrefix : ByteArray := prog_9_method_18_code
def yX7_isPrefix : MethodName := ⟨RX7, "isPrefix", "(I)Z"⟩
abbrev cX7_prefix : ByteArray := prog_9_method_19_code
def yX7_prefix : MethodName := ⟨RX7, "prefix", "(II)I"⟩
abbrev cX7_cost : ByteArray := prog_9_method_20_code
def yX7_cost : MethodName := ⟨RX7, "cost", "(II)I"⟩
abbrev cX7_many : ByteArray := prog_9_method_21_code
def yX7_many : MethodName := ⟨RX7, "many", "([II)I"⟩
abbrev cX7_leastAt : ByteArray := prog_9_method_22_code
def yX7_leastAt : MethodName := ⟨RX7, "leastAt", "(I)I"⟩
abbrev cX7_least : ByteArray := prog_9_method_23_code
def yX7_least : MethodName := ⟨RX7, "least", "(II)I"⟩
abbrev cX7_changeAt : ByteArray := prog_9_method_24_code
def yX7_changeAt : MethodName := ⟨RX7, "changeAt", "(I)I"⟩
abbrev cX7_changes : ByteArray := prog_9_method_25_code
def yX7_changes : MethodName := ⟨RX7, "changes", "()I"⟩
abbrev cX7_change : ByteArray := prog_9_method_26_code
def yX7_change : MethodName := ⟨RX7, "change", "(II)I"⟩
abbrev cX7_isOne : ByteArray := prog_9_method_27_code
def yX7_isOne : MethodName := ⟨RX7, "isOne", "(I)Z"⟩
abbrev cX7_proofOf : ByteArray := prog_9_method_28_code
def yX7_proofOf : MethodName := ⟨RX7, "proofOf", "(I)I"⟩
abbrev cX7_wide : ByteArray := prog_9_method_29_code
def yX7_wide : MethodName := ⟨RX7, "wide", "(I)I"⟩
abbrev cX7_proofAt : ByteArray := prog_9_method_30_code
def yX7_proofAt : MethodName := ⟨RX7, "proofAt", "(I)I"⟩
abbrev cX7_proof : ByteArray := prog_9_method_31_code
def yX7_proof : MethodName := ⟨RX7, "proof", "(II)I"⟩
abbrev cX7_redundant : ByteArray := prog_9_method_32_code
def yX7_redundant : MethodName := ⟨RX7, "redundant", "()I"⟩
abbrev cX7_firstUnlike : ByteArray := prog_9_method_33_code
def yX7_firstUnlike : MethodName := ⟨RX7, "firstUnlike", "()I"⟩
abbrev cX7_count : ByteArray := prog_9_method_34_code
def yX7_count : MethodName := ⟨RX7, "count", "(I)I"⟩
abbrev cX7_chances : ByteArray := prog_9_method_35_code
def yX7_chances : MethodName := ⟨RX7, "chances", "(III)I"⟩
abbrev cX7_lost : ByteArray := prog_9_method_36_code
def yX7_lost : MethodName := ⟨RX7, "lost", "(III)I"⟩
abbrev cX7_notes : ByteArray := prog_9_method_37_code
def yX7_notes : MethodName := ⟨RX7, "notes", "()V"⟩
abbrev cX7_tell : ByteArray := prog_9_method_38_code
def yX7_tell : MethodName := ⟨RX7, "tell", "(II)I"⟩
abbrev cX7_out : ByteArray := prog_9_method_39_code
def yX7_out : MethodName := ⟨RX7, "out", "(I)I"⟩
abbrev cX7_rename : ByteArray := prog_9_method_40_code
def yX7_rename : MethodName := ⟨RX7, "rename", "(II)I"⟩
abbrev cX7_install : ByteArray := prog_9_method_41_code
def yX7_install : MethodName := ⟨RX7, "install", "()I"⟩
abbrev cX7_type : ByteArray := prog_9_method_42_code
def yX7_type : MethodName := ⟨RX7, "type", "(I)I"⟩
abbrev cX7_looks : ByteArray := prog_9_method_43_code
def yX7_looks : MethodName := ⟨RX7, "looks", "()I"⟩
abbrev cX7_readsEntry : ByteArray := prog_9_method_44_code
def yX7_readsEntry : MethodName := ⟨RX7, "readsEntry", "()Z"⟩
abbrev cX7_readsAll : ByteArray := prog_9_method_45_code
def yX7_readsAll : MethodName := ⟨RX7, "readsAll", "()Z"⟩
abbrev cX7_read : ByteArray := prog_9_method_46_code
def yX7_read : MethodName := ⟨RX7, "read", "()I"⟩
abbrev cX7_turnsOnce : ByteArray := prog_9_method_47_code
def yX7_turnsOnce : MethodName := ⟨RX7, "turnsOnce", "()V"⟩
abbrev cX7_drift : ByteArray := prog_9_method_48_code
def yX7_drift : MethodName := ⟨RX7, "drift", "(I)I"⟩
abbrev cX7_undo : ByteArray := prog_9_method_49_code
def yX7_undo : MethodName := ⟨RX7, "undo", "()I"⟩
abbrev cX7_seed : ByteArray := prog_9_method_50_code
def yX7_seed : MethodName := ⟨RX7, "seed", "(I)I"⟩
abbrev cX7_image : ByteArray := prog_9_method_51_code
def yX7_image : MethodName := ⟨RX7, "image", "()I"⟩
abbrev cX7_restore : ByteArray := prog_9_method_52_code
def yX7_restore : MethodName := ⟨RX7, "restore", "()I"⟩
abbrev cX7_isSheet : ByteArray := prog_9_method_53_code
def yX7_isSheet : MethodName := ⟨RX7, "isSheet", "(II)Z"⟩
abbrev cX7_found : ByteArray := prog_9_method_54_code
def yX7_found : MethodName := ⟨RX7, "found", "(IIII)I"⟩
abbrev cX7_isLength : ByteArray := prog_9_method_55_code
def yX7_isLength : MethodName := ⟨RX7, "isLength", "(III)Z"⟩
abbrev cX7_lengths : ByteArray := prog_9_method_56_code
def yX7_lengths : MethodName := ⟨RX7, "lengths", "(IIII)I"⟩
abbrev cX7_lowest : ByteArray := prog_9_method_57_code
def yX7_lowest : MethodName := ⟨RX7, "lowest", "(JI)J"⟩
abbrev cX7_film : ByteArray := prog_9_method_58_code
def yX7_film : MethodName := ⟨RX7, "film", "(IIIII)I"⟩
abbrev cX7_sheet : ByteArray := prog_9_method_59_code
def yX7_sheet : MethodName := ⟨RX7, "sheet", "(III)I"⟩
abbrev cX7_drop : ByteArray := prog_9_method_60_code
def yX7_drop : MethodName := ⟨RX7, "drop", "(I)I"⟩
abbrev cX7_item : ByteArray := prog_9_method_61_code
def yX7_item : MethodName := ⟨RX7, "item", "(IIIJ)I"⟩
abbrev cX7_copy : ByteArray := prog_9_method_62_code
def yX7_copy : MethodName := ⟨RX7, "copy", "(IIIII)I"⟩
def RJ6 : String := "java/lang/Integer"
def TJ6 : u_T := fun k => match k with
  | _ => ("", "", "", false)
def tyJ6 : Nat → FieldType := fun k => match k with
  | _ => .int
abbrev wsJ60 : List Cond := u_ws RJ6 TJ6 0
theorem nmJ6 : ∀ a, a < 0 → ∀ b, b < 0 → a ≠ b → (TJ6 a).2.1 ≠ (TJ6 b).2.1 := by decide +kernel
theorem tyJ6_ok : ∀ k, k < 0 → parseFieldDescriptor (TJ6 k).2.2.1 = some (tyJ6 k) := by decide +kernel
abbrev cJ6_numberOfLeadingZeros_0f7a4 : ByteArray := prog_10_method_47_code
def yJ6_numberOfLeadingZeros_0f7a4 : MethodName := ⟨RJ6, "numberOfLeadingZeros", "(I)I"⟩
abbrev cJ6_numberOfTrailingZeros_0f7a4 : ByteArray := prog_10_method_48_code
def yJ6_numberOfTrailingZeros_0f7a4 : MethodName := ⟨RJ6, "numberOfTrailingZeros", "(I)I"⟩
abbrev cJ6_bitCount_0f7a4 : ByteArray := prog_10_method_49_code
def yJ6_bitCount_0f7a4 : MethodName := ⟨RJ6, "bitCount", "(I)I"⟩
def RJ9 : String := "java/lang/Math"
def TJ9 : u_T := fun k => match k with
  | _ => ("", "", "", false)
def tyJ9 : Nat → FieldType := fun k => match k with
  | _ => .int
abbrev wsJ90 : List Cond := u_ws RJ9 TJ9 0
theorem nmJ9 : ∀ a, a < 0 → ∀ b, b < 0 → a ≠ b → (TJ9 a).2.1 ≠ (TJ9 b).2.1 := by decide +kernel
theorem tyJ9_ok : ∀ k, k < 0 → parseFieldDescriptor (TJ9 k).2.2.1 = some (tyJ9 k) := by decide +kernel
abbrev cJ9_max_7cf53 : ByteArray := prog_11_method_65_code
def yJ9_max_7cf53 : MethodName := ⟨RJ9, "max", "(II)I"⟩
def RJ10 : String := "java/lang/System"
def TJ10 : u_T := fun k => match k with
  | _ => ("", "", "", false)
def tyJ10 : Nat → FieldType := fun k => match k with
  | _ => .int
abbrev wsJ100 : List Cond := u_ws RJ10 TJ10 0
theorem nmJ10 : ∀ a, a < 0 → ∀ b, b < 0 → a ≠ b → (TJ10 a).2.1 ≠ (TJ10 b).2.1 := by decide +kernel
theorem tyJ10_ok : ∀ k, k < 0 → parseFieldDescriptor (TJ10 k).2.2.1 = some (tyJ10 k) := by decide +kernel
def RJ7 : String := "java/util/Arrays"
def TJ7 : u_T := fun k => match k with
  | _ => ("", "", "", false)
def tyJ7 : Nat → FieldType := fun k => match k with
  | _ => .int
abbrev wsJ70 : List Cond := u_ws RJ7 TJ7 0
theorem nmJ7 : ∀ a, a < 0 → ∀ b, b < 0 → a ≠ b → (TJ7 a).2.1 ≠ (TJ7 b).2.1 := by decide +kernel
theorem tyJ7_ok : ∀ k, k < 0 → parseFieldDescriptor (TJ7 k).2.2.1 = some (tyJ7 k) := by decide +kernel
abbrev cJ7_fill_d0a16 : ByteArray := prog_13_method_101_code
def yJ7_fill_d0a16 : MethodName := ⟨RJ7, "fill", "([JJ)V"⟩
def RL : String := "LeastRoutesLaw"
abbrev cL_law : ByteArray := code
def yL_law : MethodName := ⟨RL, "law", "([I)Z"⟩
def wsX3_init : List Cond := .code yX3_init cX3_init 1 none :: ([.methodLink RX3 3 objectInit, .instanceMethod objectInit, .code objectInit ⟨#[0xb1]⟩ 1 none, .arrayClass .long, .fieldLink RX3 9 "LeastRoutes$Table" "places" "[J", .fieldLink RX3 15 "LeastRoutes$Table" "size" "I"] ++ wsX30)
def wsX1_init : List Cond := .code yX1_init cX1_init 1 none :: ([.methodLink RX1 1 objectInit, .instanceMethod objectInit, .code objectInit ⟨#[0xb1]⟩ 1 none, .classLink RX1 7 RX3, .instantiable RX3 2, .initialized RX3, .fieldLink RX1 10 "LeastRoutes$Moment" "told" "LLeastRoutes$Table;", .fieldLink RX1 16 "LeastRoutes$Moment" "inUse" "LLeastRoutes$Table;", .fieldLink RX1 19 "LeastRoutes$Moment" "draw" "I", .instanceMethod yX3_init, .code yX3_init cX3_init 1 none, .methodLink RX3 3 objectInit, .arrayClass .long, .fieldLink RX3 9 "LeastRoutes$Table" "places" "[J", .fieldLink RX3 15 "LeastRoutes$Table" "size" "I"] ++ wsX30 ++ wsX10)
def wsX0_init : List Cond := .code yX0_init cX0_init 2 none :: ([.methodLink RX0 3 objectInit, .instanceMethod objectInit, .code objectInit ⟨#[0xb1]⟩ 1 none, .classLink RX0 9 RX1, .instantiable RX1 3, .initialized RX1, .fieldLink RX0 12 "LeastRoutes$History" "now" "LLeastRoutes$Moment;", .fieldLink RX0 18 "LeastRoutes$History" "known" "[LLeastRoutes$Moment;", .fieldLink RX0 22 "LeastRoutes$History" "size" "I", .instanceMethod yX1_init, .code yX1_init cX1_init 1 none, .methodLink RX1 1 objectInit, .classLink RX1 7 RX3, .instantiable RX3 2, .initialized RX3, .fieldLink RX1 10 "LeastRoutes$Moment" "told" "LLeastRoutes$Table;", .fieldLink RX1 16 "LeastRoutes$Moment" "inUse" "LLeastRoutes$Table;", .fieldLink RX1 19 "LeastRoutes$Moment" "draw" "I", .instanceMethod yX3_init, .code yX3_init cX3_init 1 none, .methodLink RX3 3 objectInit, .arrayClass .long, .fieldLink RX3 9 "LeastRoutes$Table" "places" "[J", .fieldLink RX3 15 "LeastRoutes$Table" "size" "I"] ++ wsX10 ++ wsX00 ++ wsX30)
def wsX0_present : List Cond := .code yX0_present cX0_present 1 (some (.object "LeastRoutes$Moment")) :: ([.fieldLink RX0 12 "LeastRoutes$History" "now" "LLeastRoutes$Moment;"] ++ wsX00)
def wsX0_howManyKnown : List Cond := .code yX0_howManyKnown cX0_howManyKnown 1 (some .int) :: ([.fieldLink RX0 22 "LeastRoutes$History" "size" "I"] ++ wsX00)
def wsX0_loseOldest : List Cond := .code yX0_loseOldest cX0_loseOldest 3 none :: ([.fieldLink RX0 18 "LeastRoutes$History" "known" "[LLeastRoutes$Moment;", .fieldLink RX0 22 "LeastRoutes$History" "size" "I"] ++ wsX00)
def wsX3_takeFrom : List Cond := .code yX3_takeFrom cX3_takeFrom 2 none :: ([.fieldLink RX3 9 "LeastRoutes$Table" "places" "[J", .methodLink RX3 40 arraycopyName, .native arraycopyName, .static arraycopyName, .initialized "java/lang/System", .fieldLink RX3 15 "LeastRoutes$Table" "size" "I"] ++ wsX30)
def wsX1_takeFrom : List Cond := .code yX1_takeFrom cX1_takeFrom 2 none :: ([.fieldLink RX1 10 "LeastRoutes$Moment" "told" "LLeastRoutes$Table;", .fieldLink RX1 16 "LeastRoutes$Moment" "inUse" "LLeastRoutes$Table;", .fieldLink RX1 19 "LeastRoutes$Moment" "draw" "I", .methodLink RX1 25 yX3_takeFrom, .instanceMethod yX3_takeFrom, .selects RX3 yX3_takeFrom yX3_takeFrom, .initialized RX3, .code yX3_takeFrom cX3_takeFrom 2 none, .fieldLink RX3 9 "LeastRoutes$Table" "places" "[J", .methodLink RX3 40 arraycopyName, .native arraycopyName, .static arraycopyName, .initialized "java/lang/System", .fieldLink RX3 15 "LeastRoutes$Table" "size" "I"] ++ wsX10 ++ wsX30)
def wsX0_remember_r1 : List Cond := [Cond.fieldLink RX0 22 "LeastRoutes$History" "size" "I", Cond.fieldLink RX0 18 "LeastRoutes$History" "known" "[LLeastRoutes$Moment;", Cond.fieldLink RX0 12 "LeastRoutes$History" "now" "LLeastRoutes$Moment;", Cond.methodLink RX0 26 yX0_loseOldest, Cond.instanceMethod yX0_loseOldest, Cond.selects RX0 yX0_loseOldest yX0_loseOldest, Cond.initialized RX0, Cond.code yX0_loseOldest cX0_loseOldest 3 none, Cond.methodLink RX0 29 yX1_takeFrom, Cond.instanceMethod yX1_takeFrom, Cond.selects RX1 yX1_takeFrom yX1_takeFrom, Cond.initialized RX1, Cond.code yX1_takeFrom cX1_takeFrom 2 none, Cond.fieldLink RX1 10 "LeastRoutes$Moment" "told" "LLeastRoutes$Table;", Cond.fieldLink RX1 16 "LeastRoutes$Moment" "inUse" "LLeastRoutes$Table;", Cond.fieldLink RX1 19 "LeastRoutes$Moment" "draw" "I", Cond.methodLink RX1 25 yX3_takeFrom, Cond.instanceMethod yX3_takeFrom, Cond.selects RX3 yX3_takeFrom yX3_takeFrom, Cond.initialized RX3, Cond.code yX3_takeFrom cX3_takeFrom 2 none, Cond.fieldLink RX3 9 "LeastRoutes$Table" "places" "[J", Cond.methodLink RX3 40 arraycopyName, Cond.native arraycopyName]
def wsX0_remember_r2 : List Cond := [Cond.static arraycopyName, Cond.initialized "java/lang/System", Cond.fieldLink RX3 15 "LeastRoutes$Table" "size" "I"]
def wsX0_remember : List Cond := .code yX0_remember cX0_remember 1 none :: ((wsX0_remember_r1 ++ wsX0_remember_r2) ++ wsX00 ++ wsX10 ++ wsX30)
def wsX0_goBack : List Cond := .code yX0_goBack cX0_goBack 1 none :: ([.fieldLink RX0 22 "LeastRoutes$History" "size" "I", .fieldLink RX0 12 "LeastRoutes$History" "now" "LLeastRoutes$Moment;", .fieldLink RX0 18 "LeastRoutes$History" "known" "[LLeastRoutes$Moment;", .methodLink RX0 29 yX1_takeFrom, .instanceMethod yX1_takeFrom, .selects RX1 yX1_takeFrom yX1_takeFrom, .initialized RX1, .code yX1_takeFrom cX1_takeFrom 2 none, .fieldLink RX1 10 "LeastRoutes$Moment" "told" "LLeastRoutes$Table;", .fieldLink RX1 16 "LeastRoutes$Moment" "inUse" "LLeastRoutes$Table;", .fieldLink RX1 19 "LeastRoutes$Moment" "draw" "I", .methodLink RX1 25 yX3_takeFrom, .instanceMethod yX3_takeFrom, .selects RX3 yX3_takeFrom yX3_takeFrom, .initialized RX3, .code yX3_takeFrom cX3_takeFrom 2 none, .fieldLink RX3 9 "LeastRoutes$Table" "places" "[J", .methodLink RX3 40 arraycopyName, .native arraycopyName, .static arraycopyName, .initialized "java/lang/System", .fieldLink RX3 15 "LeastRoutes$Table" "size" "I"] ++ wsX00 ++ wsX10 ++ wsX30)
def wsX0_takeAllFrom : List Cond := .code yX0_takeAllFrom cX0_takeAllFrom 3 none :: ([.fieldLink RX0 12 "LeastRoutes$History" "now" "LLeastRoutes$Moment;", .fieldLink RX0 18 "LeastRoutes$History" "known" "[LLeastRoutes$Moment;", .fieldLink RX0 22 "LeastRoutes$History" "size" "I", .methodLink RX0 29 yX1_takeFrom, .instanceMethod yX1_takeFrom, .selects RX1 yX1_takeFrom yX1_takeFrom, .initialized RX1, .code yX1_takeFrom cX1_takeFrom 2 none, .fieldLink RX1 10 "LeastRoutes$Moment" "told" "LLeastRoutes$Table;", .fieldLink RX1 16 "LeastRoutes$Moment" "inUse" "LLeastRoutes$Table;", .fieldLink RX1 19 "LeastRoutes$Moment" "draw" "I", .methodLink RX1 25 yX3_takeFrom, .instanceMethod yX3_takeFrom, .selects RX3 yX3_takeFrom yX3_takeFrom, .initialized RX3, .code yX3_takeFrom cX3_takeFrom 2 none, .fieldLink RX3 9 "LeastRoutes$Table" "places" "[J", .methodLink RX3 40 arraycopyName, .native arraycopyName, .static arraycopyName, .initialized "java/lang/System", .fieldLink RX3 15 "LeastRoutes$Table" "size" "I"] ++ wsX00 ++ wsX10 ++ wsX30)
def wsX1_tableNow : List Cond := .code yX1_tableNow cX1_tableNow 1 (some (.object "LeastRoutes$Table")) :: ([.fieldLink RX1 10 "LeastRoutes$Moment" "told" "LLeastRoutes$Table;"] ++ wsX10)
def wsX1_installedNow : List Cond := .code yX1_installedNow cX1_installedNow 1 (some (.object "LeastRoutes$Table")) :: ([.fieldLink RX1 16 "LeastRoutes$Moment" "inUse" "LLeastRoutes$Table;"] ++ wsX10)
def wsX1_drawNow : List Cond := .code yX1_drawNow cX1_drawNow 1 (some .int) :: ([.fieldLink RX1 19 "LeastRoutes$Moment" "draw" "I"] ++ wsX10)
def wsX1_setDraw : List Cond := .code yX1_setDraw cX1_setDraw 2 none :: ([.fieldLink RX1 19 "LeastRoutes$Moment" "draw" "I"] ++ wsX10)
def wsX1_nextDraw : List Cond := .code yX1_nextDraw cX1_nextDraw 1 (some .int) :: ([.fieldLink RX1 19 "LeastRoutes$Moment" "draw" "I", .constant RX1 23 (1103515245), .constant RX1 24 (2147483647)] ++ wsX10)
def wsX2_init : List Cond := .code yX2_init cX2_init 1 none :: ([.methodLink RX2 3 objectInit, .instanceMethod objectInit, .code objectInit ⟨#[0xb1]⟩ 1 none, .arrayClass .long, .fieldLink RX2 9 "LeastRoutes$Sheet" "items" "[J", .fieldLink RX2 15 "LeastRoutes$Sheet" "ownLane" "I", .fieldLink RX2 19 "LeastRoutes$Sheet" "size" "I"] ++ wsX20)
def wsX2_holdsNothing : List Cond := .code yX2_holdsNothing cX2_holdsNothing 1 (some .boolean) :: ([.fieldLink RX2 15 "LeastRoutes$Sheet" "ownLane" "I"] ++ wsX20)
def wsX2_hasLaneOf : List Cond := .code yX2_hasLaneOf cX2_hasLaneOf 2 (some .boolean) :: ([.fieldLink RX2 15 "LeastRoutes$Sheet" "ownLane" "I"] ++ wsX20)
def wsX2_hasItems : List Cond := .code yX2_hasItems cX2_hasItems 3 (some .boolean) :: ([.fieldLink RX2 19 "LeastRoutes$Sheet" "size" "I"] ++ wsX20)
def wsX2_refusal : List Cond := .code yX2_refusal cX2_refusal 4 (some .int) :: ([.fieldLink RX2 15 "LeastRoutes$Sheet" "ownLane" "I", .methodLink RX2 22 yX2_holdsNothing, .instanceMethod yX2_holdsNothing, .selects RX2 yX2_holdsNothing yX2_holdsNothing, .initialized RX2, .code yX2_holdsNothing cX2_holdsNothing 1 (some .boolean), .methodLink RX2 26 yX2_hasItems, .instanceMethod yX2_hasItems, .selects RX2 yX2_hasItems yX2_hasItems, .code yX2_hasItems cX2_hasItems 3 (some .boolean), .fieldLink RX2 19 "LeastRoutes$Sheet" "size" "I"] ++ wsX20)
def wsJ7_fill_d0a16 : List Cond := .code yJ7_fill_d0a16 cJ7_fill_d0a16 5 none :: ([])
def wsX2_startRow : List Cond := .code yX2_startRow cX2_startRow 3 none :: ([.fieldLink RX2 9 "LeastRoutes$Sheet" "items" "[J", .fieldLink RX2 15 "LeastRoutes$Sheet" "ownLane" "I", .fieldLink RX2 19 "LeastRoutes$Sheet" "size" "I", .methodLink RX2 30 yJ7_fill_d0a16, .static yJ7_fill_d0a16, .initialized RJ7, .code yJ7_fill_d0a16 cJ7_fill_d0a16 5 none] ++ wsX20)
def wsX2_makeNothing : List Cond := .code yX2_makeNothing cX2_makeNothing 2 (some .int) :: ([.fieldLink RX2 19 "LeastRoutes$Sheet" "size" "I", .fieldLink RX2 15 "LeastRoutes$Sheet" "ownLane" "I"] ++ wsX20)
def wsX2_lowestBits : List Cond := .code yX2_lowestBits cX2_lowestBits 3 (some .long) :: ([.fieldLink RX2 15 "LeastRoutes$Sheet" "ownLane" "I"] ++ wsX20)
def wsX2_setItem : List Cond := .code yX2_setItem cX2_setItem 4 none :: ([.fieldLink RX2 9 "LeastRoutes$Sheet" "items" "[J", .methodLink RX2 26 yX2_hasItems, .instanceMethod yX2_hasItems, .selects RX2 yX2_hasItems yX2_hasItems, .initialized RX2, .code yX2_hasItems cX2_hasItems 3 (some .boolean), .fieldLink RX2 19 "LeastRoutes$Sheet" "size" "I", .methodLink RX2 36 yX2_lowestBits, .instanceMethod yX2_lowestBits, .selects RX2 yX2_lowestBits yX2_lowestBits, .code yX2_lowestBits cX2_lowestBits 3 (some .long), .fieldLink RX2 15 "LeastRoutes$Sheet" "ownLane" "I"] ++ wsX20)
def wsX2_takeItems : List Cond := .code yX2_takeItems cX2_takeItems 5 none :: ([.fieldLink RX2 9 "LeastRoutes$Sheet" "items" "[J", .methodLink RX2 40 arraycopyName, .native arraycopyName, .static arraycopyName, .initialized "java/lang/System", .methodLink RX2 26 yX2_hasItems, .instanceMethod yX2_hasItems, .selects RX2 yX2_hasItems yX2_hasItems, .initialized RX2, .code yX2_hasItems cX2_hasItems 3 (some .boolean), .fieldLink RX2 19 "LeastRoutes$Sheet" "size" "I"] ++ wsX20)
def wsX2_holdsPairs : List Cond := .code yX2_holdsPairs cX2_holdsPairs 8 (some .boolean) :: ([.fieldLink RX2 9 "LeastRoutes$Sheet" "items" "[J", .constantLong RX2 46 (256), .constantLong RX2 48 (8), .methodLink RX2 26 yX2_hasItems, .instanceMethod yX2_hasItems, .selects RX2 yX2_hasItems yX2_hasItems, .initialized RX2, .code yX2_hasItems cX2_hasItems 3 (some .boolean), .fieldLink RX2 19 "LeastRoutes$Sheet" "size" "I"] ++ wsX20)
def wsX2_isToldBy : List Cond := .code yX2_isToldBy cX2_isToldBy 8 (some .boolean) :: ([.fieldLink RX2 9 "LeastRoutes$Sheet" "items" "[J", .methodLink RX2 26 yX2_hasItems, .instanceMethod yX2_hasItems, .selects RX2 yX2_hasItems yX2_hasItems, .initialized RX2, .code yX2_hasItems cX2_hasItems 3 (some .boolean), .fieldLink RX2 19 "LeastRoutes$Sheet" "size" "I"] ++ wsX20)
def wsX3_howMany : List Cond := .code yX3_howMany cX3_howMany 1 (some .int) :: ([.fieldLink RX3 15 "LeastRoutes$Table" "size" "I"] ++ wsX30)
def wsX3_hopAt : List Cond := .code yX3_hopAt cX3_hopAt 3 (some .int) :: ([.fieldLink RX3 9 "LeastRoutes$Table" "places" "[J"] ++ wsX30)
def wsX6_isPrefix : List Cond := .code yX6_isPrefix cX6_isPrefix 1 (some .boolean) :: ([])
def wsX6_isHop : List Cond := .code yX6_isHop cX6_isHop 1 (some .boolean) :: ([])
def wsX3_setPlace : List Cond := .code yX3_setPlace cX3_setPlace 4 none :: ([.fieldLink RX3 9 "LeastRoutes$Table" "places" "[J", .constantLong RX3 67 (15), .constantLong RX3 69 (-1)] ++ wsX30)
def wsX3_put : List Cond := .code yX3_put cX3_put 3 none :: ([.fieldLink RX3 15 "LeastRoutes$Table" "size" "I", .static yX6_isPrefix, .initialized RX6, .code yX6_isPrefix cX6_isPrefix 1 (some .boolean), .static yX6_isHop, .code yX6_isHop cX6_isHop 1 (some .boolean), .methodLink RX3 26 yX3_hopAt, .instanceMethod yX3_hopAt, .selects RX3 yX3_hopAt yX3_hopAt, .initialized RX3, .code yX3_hopAt cX3_hopAt 3 (some .int), .fieldLink RX3 9 "LeastRoutes$Table" "places" "[J", .methodLink RX3 30 yX3_setPlace, .instanceMethod yX3_setPlace, .selects RX3 yX3_setPlace yX3_setPlace, .code yX3_setPlace cX3_setPlace 4 none, .constantLong RX3 67 (15), .constantLong RX3 69 (-1)] ++ wsX30)
def wsX3_takeOut : List Cond := .code yX3_takeOut cX3_takeOut 2 none :: ([.fieldLink RX3 15 "LeastRoutes$Table" "size" "I", .methodLink RX3 26 yX3_hopAt, .instanceMethod yX3_hopAt, .selects RX3 yX3_hopAt yX3_hopAt, .initialized RX3, .code yX3_hopAt cX3_hopAt 3 (some .int), .fieldLink RX3 9 "LeastRoutes$Table" "places" "[J", .methodLink RX3 30 yX3_setPlace, .instanceMethod yX3_setPlace, .selects RX3 yX3_setPlace yX3_setPlace, .code yX3_setPlace cX3_setPlace 4 none, .constantLong RX3 67 (15), .constantLong RX3 69 (-1)] ++ wsX30)
def wsX3_makeEmpty : List Cond := .code yX3_makeEmpty cX3_makeEmpty 1 none :: ([.fieldLink RX3 9 "LeastRoutes$Table" "places" "[J", .fieldLink RX3 15 "LeastRoutes$Table" "size" "I", .methodLink RX3 34 yJ7_fill_d0a16, .static yJ7_fill_d0a16, .initialized RJ7, .code yJ7_fill_d0a16 cJ7_fill_d0a16 5 none] ++ wsX30)
def wsX3_deciderOf : List Cond := .code yX3_deciderOf cX3_deciderOf 4 (some .int) :: ([.methodLink RX3 26 yX3_hopAt, .instanceMethod yX3_hopAt, .selects RX3 yX3_hopAt yX3_hopAt, .initialized RX3, .code yX3_hopAt cX3_hopAt 3 (some .int), .fieldLink RX3 9 "LeastRoutes$Table" "places" "[J"] ++ wsX30)
def wsX3_hopOfAddress : List Cond := .code yX3_hopOfAddress cX3_hopOfAddress 3 (some .int) :: ([.methodLink RX3 46 yX3_deciderOf, .instanceMethod yX3_deciderOf, .selects RX3 yX3_deciderOf yX3_deciderOf, .initialized RX3, .code yX3_deciderOf cX3_deciderOf 4 (some .int), .methodLink RX3 26 yX3_hopAt, .instanceMethod yX3_hopAt, .selects RX3 yX3_hopAt yX3_hopAt, .code yX3_hopAt cX3_hopAt 3 (some .int), .fieldLink RX3 9 "LeastRoutes$Table" "places" "[J"] ++ wsX30)
def wsX3_hopFromAbove : List Cond := .code yX3_hopFromAbove cX3_hopFromAbove 4 (some .int) :: ([.methodLink RX3 26 yX3_hopAt, .instanceMethod yX3_hopAt, .selects RX3 yX3_hopAt yX3_hopAt, .initialized RX3, .code yX3_hopAt cX3_hopAt 3 (some .int), .fieldLink RX3 9 "LeastRoutes$Table" "places" "[J"] ++ wsX30)
def wsX3_numberOf : List Cond := .code yX3_numberOf cX3_numberOf 4 (some .int) :: ([.methodLink RX3 26 yX3_hopAt, .instanceMethod yX3_hopAt, .selects RX3 yX3_hopAt yX3_hopAt, .initialized RX3, .code yX3_hopAt cX3_hopAt 3 (some .int), .fieldLink RX3 9 "LeastRoutes$Table" "places" "[J"] ++ wsX30)
def wsX3_hasHop : List Cond := .code yX3_hasHop cX3_hasHop 3 (some .boolean) :: ([.methodLink RX3 26 yX3_hopAt, .instanceMethod yX3_hopAt, .selects RX3 yX3_hopAt yX3_hopAt, .initialized RX3, .code yX3_hopAt cX3_hopAt 3 (some .int), .fieldLink RX3 9 "LeastRoutes$Table" "places" "[J"] ++ wsX30)
def wsX3_replaceHop : List Cond := .code yX3_replaceHop cX3_replaceHop 5 (some .int) :: ([.methodLink RX3 26 yX3_hopAt, .instanceMethod yX3_hopAt, .selects RX3 yX3_hopAt yX3_hopAt, .initialized RX3, .code yX3_hopAt cX3_hopAt 3 (some .int), .fieldLink RX3 9 "LeastRoutes$Table" "places" "[J", .methodLink RX3 49 yX3_put, .instanceMethod yX3_put, .selects RX3 yX3_put yX3_put, .code yX3_put cX3_put 3 none, .fieldLink RX3 15 "LeastRoutes$Table" "size" "I", .static yX6_isPrefix, .initialized RX6, .code yX6_isPrefix cX6_isPrefix 1 (some .boolean), .static yX6_isHop, .code yX6_isHop cX6_isHop 1 (some .boolean), .methodLink RX3 30 yX3_setPlace, .instanceMethod yX3_setPlace, .selects RX3 yX3_setPlace yX3_setPlace, .code yX3_setPlace cX3_setPlace 4 none, .constantLong RX3 67 (15), .constantLong RX3 69 (-1)] ++ wsX30)
def wsJ6_numberOfLeadingZeros_0f7a4 : List Cond := .code yJ6_numberOfLeadingZeros_0f7a4 cJ6_numberOfLeadingZeros_0f7a4 2 (some .int) :: ([.constant RJ6 264 (65536)])
def wsX6_bitsOf : List Cond := .code yX6_bitsOf cX6_bitsOf 1 (some .int) :: ([.methodLink RX6 248 yJ6_numberOfLeadingZeros_0f7a4, .static yJ6_numberOfLeadingZeros_0f7a4, .initialized RJ6, .code yJ6_numberOfLeadingZeros_0f7a4 cJ6_numberOfLeadingZeros_0f7a4 2 (some .int), .constant RJ6 264 (65536)])
def wsX6_firstAddress : List Cond := .code yX6_firstAddress cX6_firstAddress 1 (some .int) :: ([.methodLink RX6 251 yX6_bitsOf, .static yX6_bitsOf, .initialized RX6, .code yX6_bitsOf cX6_bitsOf 1 (some .int), .methodLink RX6 248 yJ6_numberOfLeadingZeros_0f7a4, .static yJ6_numberOfLeadingZeros_0f7a4, .initialized RJ6, .code yJ6_numberOfLeadingZeros_0f7a4 cJ6_numberOfLeadingZeros_0f7a4 2 (some .int), .constant RJ6 264 (65536)])
def wsX6_howManyAddresses : List Cond := .code yX6_howManyAddresses cX6_howManyAddresses 1 (some .int) :: ([.methodLink RX6 251 yX6_bitsOf, .static yX6_bitsOf, .initialized RX6, .code yX6_bitsOf cX6_bitsOf 1 (some .int), .methodLink RX6 248 yJ6_numberOfLeadingZeros_0f7a4, .static yJ6_numberOfLeadingZeros_0f7a4, .initialized RJ6, .code yJ6_numberOfLeadingZeros_0f7a4 cJ6_numberOfLeadingZeros_0f7a4 2 (some .int), .constant RJ6 264 (65536)])
def wsX3_decidesAny : List Cond := .code yX3_decidesAny cX3_decidesAny 5 (some .boolean) :: ([.static yX6_firstAddress, .initialized RX6, .code yX6_firstAddress cX6_firstAddress 1 (some .int), .methodLink RX6 251 yX6_bitsOf, .static yX6_bitsOf, .code yX6_bitsOf cX6_bitsOf 1 (some .int), .methodLink RX6 248 yJ6_numberOfLeadingZeros_0f7a4, .static yJ6_numberOfLeadingZeros_0f7a4, .initialized RJ6, .code yJ6_numberOfLeadingZeros_0f7a4 cJ6_numberOfLeadingZeros_0f7a4 2 (some .int), .constant RJ6 264 (65536), .static yX6_howManyAddresses, .code yX6_howManyAddresses cX6_howManyAddresses 1 (some .int), .methodLink RX3 46 yX3_deciderOf, .instanceMethod yX3_deciderOf, .selects RX3 yX3_deciderOf yX3_deciderOf, .initialized RX3, .code yX3_deciderOf cX3_deciderOf 4 (some .int), .methodLink RX3 26 yX3_hopAt, .instanceMethod yX3_hopAt, .selects RX3 yX3_hopAt yX3_hopAt, .code yX3_hopAt cX3_hopAt 3 (some .int), .fieldLink RX3 9 "LeastRoutes$Table" "places" "[J"] ++ wsX30)
def wsX3_redundancyOf_r1 : List Cond := [Cond.methodLink RX3 26 yX3_hopAt, Cond.instanceMethod yX3_hopAt, Cond.selects RX3 yX3_hopAt yX3_hopAt, Cond.initialized RX3, Cond.code yX3_hopAt cX3_hopAt 3 (some .int), Cond.fieldLink RX3 9 "LeastRoutes$Table" "places" "[J", Cond.methodLink RX3 52 yX3_hopFromAbove, Cond.instanceMethod yX3_hopFromAbove, Cond.selects RX3 yX3_hopFromAbove yX3_hopFromAbove, Cond.code yX3_hopFromAbove cX3_hopFromAbove 4 (some .int), Cond.methodLink RX3 55 yX3_decidesAny, Cond.instanceMethod yX3_decidesAny, Cond.selects RX3 yX3_decidesAny yX3_decidesAny, Cond.code yX3_decidesAny cX3_decidesAny 5 (some .boolean), Cond.static yX6_firstAddress, Cond.initialized RX6, Cond.code yX6_firstAddress cX6_firstAddress 1 (some .int), Cond.methodLink RX6 251 yX6_bitsOf, Cond.static yX6_bitsOf, Cond.code yX6_bitsOf cX6_bitsOf 1 (some .int), Cond.methodLink RX6 248 yJ6_numberOfLeadingZeros_0f7a4, Cond.static yJ6_numberOfLeadingZeros_0f7a4, Cond.initialized RJ6, Cond.code yJ6_numberOfLeadingZeros_0f7a4 cJ6_numberOfLeadingZeros_0f7a4 2 (some .int)]
def wsX3_redundancyOf_r2 : List Cond := [Cond.constant RJ6 264 (65536), Cond.static yX6_howManyAddresses, Cond.code yX6_howManyAddresses cX6_howManyAddresses 1 (some .int), Cond.methodLink RX3 46 yX3_deciderOf, Cond.instanceMethod yX3_deciderOf, Cond.selects RX3 yX3_deciderOf yX3_deciderOf, Cond.code yX3_deciderOf cX3_deciderOf 4 (some .int)]
def wsX3_redundancyOf : List Cond := .code yX3_redundancyOf cX3_redundancyOf 3 (some .int) :: ((wsX3_redundancyOf_r1 ++ wsX3_redundancyOf_r2) ++ wsX30)
def wsX3_countRedundant_r1 : List Cond := [Cond.methodLink RX3 58 yX3_redundancyOf, Cond.instanceMethod yX3_redundancyOf, Cond.selects RX3 yX3_redundancyOf yX3_redundancyOf, Cond.initialized RX3, Cond.code yX3_redundancyOf cX3_redundancyOf 3 (some .int), Cond.methodLink RX3 26 yX3_hopAt, Cond.instanceMethod yX3_hopAt, Cond.selects RX3 yX3_hopAt yX3_hopAt, Cond.code yX3_hopAt cX3_hopAt 3 (some .int), Cond.fieldLink RX3 9 "LeastRoutes$Table" "places" "[J", Cond.methodLink RX3 52 yX3_hopFromAbove, Cond.instanceMethod yX3_hopFromAbove, Cond.selects RX3 yX3_hopFromAbove yX3_hopFromAbove, Cond.code yX3_hopFromAbove cX3_hopFromAbove 4 (some .int), Cond.methodLink RX3 55 yX3_decidesAny, Cond.instanceMethod yX3_decidesAny, Cond.selects RX3 yX3_decidesAny yX3_decidesAny, Cond.code yX3_decidesAny cX3_decidesAny 5 (some .boolean), Cond.static yX6_firstAddress, Cond.initialized RX6, Cond.code yX6_firstAddress cX6_firstAddress 1 (some .int), Cond.methodLink RX6 251 yX6_bitsOf, Cond.static yX6_bitsOf, Cond.code yX6_bitsOf cX6_bitsOf 1 (some .int)]
def wsX3_countRedundant_r2 : List Cond := [Cond.methodLink RX6 248 yJ6_numberOfLeadingZeros_0f7a4, Cond.static yJ6_numberOfLeadingZeros_0f7a4, Cond.initialized RJ6, Cond.code yJ6_numberOfLeadingZeros_0f7a4 cJ6_numberOfLeadingZeros_0f7a4 2 (some .int), Cond.constant RJ6 264 (65536), Cond.static yX6_howManyAddresses, Cond.code yX6_howManyAddresses cX6_howManyAddresses 1 (some .int), Cond.methodLink RX3 46 yX3_deciderOf, Cond.instanceMethod yX3_deciderOf, Cond.selects RX3 yX3_deciderOf yX3_deciderOf, Cond.code yX3_deciderOf cX3_deciderOf 4 (some .int)]
def wsX3_countRedundant : List Cond := .code yX3_countRedundant cX3_countRedundant 3 (some .int) :: ((wsX3_countRedundant_r1 ++ wsX3_countRedundant_r2) ++ wsX30)
def wsX4_init : List Cond := .code yX4_init cX4_init 1 none :: ([.methodLink RX4 3 objectInit, .instanceMethod objectInit, .code objectInit ⟨#[0xb1]⟩ 1 none, .arrayClass .int, .fieldLink RX4 9 "LeastRoutes$Tape" "letters" "[I", .classLink RX4 15 RX3, .instantiable RX3 2, .initialized RX3, .fieldLink RX4 18 "LeastRoutes$Tape" "told" "LLeastRoutes$Table;", .fieldLink RX4 22 "LeastRoutes$Tape" "size" "I", .fieldLink RX4 26 "LeastRoutes$Tape" "place" "I", .fieldLink RX4 29 "LeastRoutes$Tape" "number" "I", .instanceMethod yX3_init, .code yX3_init cX3_init 1 none, .methodLink RX3 3 objectInit, .arrayClass .long, .fieldLink RX3 9 "LeastRoutes$Table" "places" "[J", .fieldLink RX3 15 "LeastRoutes$Table" "size" "I"] ++ wsX40 ++ wsX30)
def wsX4_addLetter : List Cond := .code yX4_addLetter cX4_addLetter 2 (some .int) :: ([.fieldLink RX4 22 "LeastRoutes$Tape" "size" "I", .fieldLink RX4 9 "LeastRoutes$Tape" "letters" "[I"] ++ wsX40)
def wsX4_makeEmpty : List Cond := .code yX4_makeEmpty cX4_makeEmpty 1 none :: ([.fieldLink RX4 22 "LeastRoutes$Tape" "size" "I"] ++ wsX40)
def wsX4_toldTable : List Cond := .code yX4_toldTable cX4_toldTable 1 (some (.object "LeastRoutes$Table")) :: ([.fieldLink RX4 18 "LeastRoutes$Tape" "told" "LLeastRoutes$Table;"] ++ wsX40)
def wsX4_letterHere : List Cond := .code yX4_letterHere cX4_letterHere 1 (some .int) :: ([.fieldLink RX4 26 "LeastRoutes$Tape" "place" "I", .fieldLink RX4 22 "LeastRoutes$Tape" "size" "I", .fieldLink RX4 9 "LeastRoutes$Tape" "letters" "[I"] ++ wsX40)
def wsX4_parseFigures : List Cond := .code yX4_parseFigures cX4_parseFigures 3 (some .int) :: ([.fieldLink RX4 29 "LeastRoutes$Tape" "number" "I", .fieldLink RX4 26 "LeastRoutes$Tape" "place" "I", .methodLink RX4 39 yX4_letterHere, .instanceMethod yX4_letterHere, .selects RX4 yX4_letterHere yX4_letterHere, .initialized RX4, .code yX4_letterHere cX4_letterHere 1 (some .int), .fieldLink RX4 22 "LeastRoutes$Tape" "size" "I", .fieldLink RX4 9 "LeastRoutes$Tape" "letters" "[I"] ++ wsX40)
def wsX4_parseEntry_r1 : List Cond := [Cond.fieldLink RX4 26 "LeastRoutes$Tape" "place" "I", Cond.fieldLink RX4 18 "LeastRoutes$Tape" "told" "LLeastRoutes$Table;", Cond.fieldLink RX4 29 "LeastRoutes$Tape" "number" "I", Cond.methodLink RX4 39 yX4_letterHere, Cond.instanceMethod yX4_letterHere, Cond.selects RX4 yX4_letterHere yX4_letterHere, Cond.initialized RX4, Cond.code yX4_letterHere cX4_letterHere 1 (some .int), Cond.fieldLink RX4 22 "LeastRoutes$Tape" "size" "I", Cond.fieldLink RX4 9 "LeastRoutes$Tape" "letters" "[I", Cond.methodLink RX4 42 yX4_parseFigures, Cond.instanceMethod yX4_parseFigures, Cond.selects RX4 yX4_parseFigures yX4_parseFigures, Cond.code yX4_parseFigures cX4_parseFigures 3 (some .int), Cond.methodLink RX4 45 yX3_hopAt, Cond.instanceMethod yX3_hopAt, Cond.selects RX3 yX3_hopAt yX3_hopAt, Cond.initialized RX3, Cond.code yX3_hopAt cX3_hopAt 3 (some .int), Cond.fieldLink RX3 9 "LeastRoutes$Table" "places" "[J", Cond.static yX6_isHop, Cond.initialized RX6, Cond.code yX6_isHop cX6_isHop 1 (some .boolean), Cond.methodLink RX4 53 yX3_put]
def wsX4_parseEntry_r2 : List Cond := [Cond.instanceMethod yX3_put, Cond.selects RX3 yX3_put yX3_put, Cond.code yX3_put cX3_put 3 none, Cond.fieldLink RX3 15 "LeastRoutes$Table" "size" "I", Cond.static yX6_isPrefix, Cond.code yX6_isPrefix cX6_isPrefix 1 (some .boolean), Cond.methodLink RX3 26 yX3_hopAt, Cond.methodLink RX3 30 yX3_setPlace, Cond.instanceMethod yX3_setPlace, Cond.selects RX3 yX3_setPlace yX3_setPlace, Cond.code yX3_setPlace cX3_setPlace 4 none, Cond.constantLong RX3 67 (15), Cond.constantLong RX3 69 (-1)]
def wsX4_parseEntry : List Cond := .code yX4_parseEntry cX4_parseEntry 3 (some .int) :: ((wsX4_parseEntry_r1 ++ wsX4_parseEntry_r2) ++ wsX40 ++ wsX30)
def wsX4_parse_r1 : List Cond := [Cond.fieldLink RX4 18 "LeastRoutes$Tape" "told" "LLeastRoutes$Table;", Cond.fieldLink RX4 26 "LeastRoutes$Tape" "place" "I", Cond.methodLink RX4 32 yX3_makeEmpty, Cond.instanceMethod yX3_makeEmpty, Cond.selects RX3 yX3_makeEmpty yX3_makeEmpty, Cond.initialized RX3, Cond.code yX3_makeEmpty cX3_makeEmpty 1 none, Cond.fieldLink RX3 9 "LeastRoutes$Table" "places" "[J", Cond.fieldLink RX3 15 "LeastRoutes$Table" "size" "I", Cond.methodLink RX3 34 yJ7_fill_d0a16, Cond.static yJ7_fill_d0a16, Cond.initialized RJ7, Cond.code yJ7_fill_d0a16 cJ7_fill_d0a16 5 none, Cond.methodLink RX4 35 yX4_parseEntry, Cond.instanceMethod yX4_parseEntry, Cond.selects RX4 yX4_parseEntry yX4_parseEntry, Cond.initialized RX4, Cond.code yX4_parseEntry cX4_parseEntry 3 (some .int), Cond.fieldLink RX4 29 "LeastRoutes$Tape" "number" "I", Cond.methodLink RX4 39 yX4_letterHere, Cond.instanceMethod yX4_letterHere, Cond.selects RX4 yX4_letterHere yX4_letterHere, Cond.code yX4_letterHere cX4_letterHere 1 (some .int), Cond.fieldLink RX4 22 "LeastRoutes$Tape" "size" "I"]
def wsX4_parse_r2 : List Cond := [Cond.fieldLink RX4 9 "LeastRoutes$Tape" "letters" "[I", Cond.methodLink RX4 42 yX4_parseFigures, Cond.instanceMethod yX4_parseFigures, Cond.selects RX4 yX4_parseFigures yX4_parseFigures, Cond.code yX4_parseFigures cX4_parseFigures 3 (some .int), Cond.methodLink RX4 45 yX3_hopAt, Cond.instanceMethod yX3_hopAt, Cond.selects RX3 yX3_hopAt yX3_hopAt, Cond.code yX3_hopAt cX3_hopAt 3 (some .int), Cond.static yX6_isHop, Cond.initialized RX6, Cond.code yX6_isHop cX6_isHop 1 (some .boolean), Cond.methodLink RX4 53 yX3_put, Cond.instanceMethod yX3_put, Cond.selects RX3 yX3_put yX3_put, Cond.code yX3_put cX3_put 3 none, Cond.static yX6_isPrefix, Cond.code yX6_isPrefix cX6_isPrefix 1 (some .boolean), Cond.methodLink RX3 26 yX3_hopAt, Cond.methodLink RX3 30 yX3_setPlace, Cond.instanceMethod yX3_setPlace, Cond.selects RX3 yX3_setPlace yX3_setPlace, Cond.code yX3_setPlace cX3_setPlace 4 none, Cond.constantLong RX3 67 (15)]
def wsX4_parse_r3 : List Cond := [Cond.constantLong RX3 69 (-1)]
def wsX4_parse : List Cond := .code yX4_parse cX4_parse 4 (some .int) :: ((wsX4_parse_r1 ++ (wsX4_parse_r2 ++ wsX4_parse_r3)) ++ wsX40 ++ wsX30)
def wsX5_init : List Cond := .code yX5_init cX5_init 1 none :: ([.methodLink RX5 3 objectInit, .instanceMethod objectInit, .code objectInit ⟨#[0xb1]⟩ 1 none, .arrayClass .int, .fieldLink RX5 9 "LeastRoutes$View" "sent" "[I", .fieldLink RX5 15 "LeastRoutes$View" "sentByInstalled" "[I", .fieldLink RX5 18 "LeastRoutes$View" "best" "[I", .fieldLink RX5 21 "LeastRoutes$View" "ease" "[I", .fieldLink RX5 24 "LeastRoutes$View" "fromAbove" "[I", .classLink RX5 27 RX3, .instantiable RX3 2, .initialized RX3, .fieldLink RX5 30 "LeastRoutes$View" "inUse" "LLeastRoutes$Table;", .fieldLink RX5 34 "LeastRoutes$View" "leastOne" "LLeastRoutes$Table;", .instanceMethod yX3_init, .code yX3_init cX3_init 1 none, .methodLink RX3 3 objectInit, .arrayClass .long, .fieldLink RX3 9 "LeastRoutes$Table" "places" "[J", .fieldLink RX3 15 "LeastRoutes$Table" "size" "I"] ++ wsX50 ++ wsX30)
def wsX5_spread : List Cond := .code yX5_spread cX5_spread 4 none :: ([.methodLink RX5 87 Lib.Math.max.name, .static Lib.Math.max.name, .initialized "java/lang/Math", .code Lib.Math.max.name Lib.Math.max.code 2 (some .int), .methodLink RX5 66 yX3_hopAt, .instanceMethod yX3_hopAt, .selects RX3 yX3_hopAt yX3_hopAt, .initialized RX3, .code yX3_hopAt cX3_hopAt 3 (some .int), .fieldLink RX3 9 "LeastRoutes$Table" "places" "[J"] ++ wsX30)
def wsX5_findBest : List Cond := .code yX5_findBest cX5_findBest 3 none :: ([.fieldLink RX5 18 "LeastRoutes$View" "best" "[I", .fieldLink RX5 9 "LeastRoutes$View" "sent" "[I", .fieldLink RX5 21 "LeastRoutes$View" "ease" "[I"] ++ wsX50)
def wsX5_hasBit : List Cond := .code yX5_hasBit cX5_hasBit 2 (some .boolean) :: ([])
def wsJ6_numberOfTrailingZeros_0f7a4 : List Cond := .code yJ6_numberOfTrailingZeros_0f7a4 cJ6_numberOfTrailingZeros_0f7a4 2 (some .int) :: ([.constant RJ6 264 (65536)])
def wsX6_lowestHop : List Cond := .code yX6_lowestHop cX6_lowestHop 1 (some .int) :: ([.methodLink RX6 240 yJ6_numberOfTrailingZeros_0f7a4, .static yJ6_numberOfTrailingZeros_0f7a4, .initialized RJ6, .code yJ6_numberOfTrailingZeros_0f7a4 cJ6_numberOfTrailingZeros_0f7a4 2 (some .int), .constant RJ6 264 (65536)])
def wsX5_findLeast_r1 : List Cond := [Cond.fieldLink RX5 34 "LeastRoutes$View" "leastOne" "LLeastRoutes$Table;", Cond.fieldLink RX5 24 "LeastRoutes$View" "fromAbove" "[I", Cond.fieldLink RX5 18 "LeastRoutes$View" "best" "[I", Cond.methodLink RX5 93 yX3_makeEmpty, Cond.instanceMethod yX3_makeEmpty, Cond.selects RX3 yX3_makeEmpty yX3_makeEmpty, Cond.initialized RX3, Cond.code yX3_makeEmpty cX3_makeEmpty 1 none, Cond.fieldLink RX3 9 "LeastRoutes$Table" "places" "[J", Cond.fieldLink RX3 15 "LeastRoutes$Table" "size" "I", Cond.methodLink RX3 34 yJ7_fill_d0a16, Cond.static yJ7_fill_d0a16, Cond.initialized RJ7, Cond.code yJ7_fill_d0a16 cJ7_fill_d0a16 5 none, Cond.methodLink RX5 62 yX5_hasBit, Cond.static yX5_hasBit, Cond.initialized RX5, Cond.code yX5_hasBit cX5_hasBit 2 (some .boolean), Cond.static yX6_lowestHop, Cond.initialized RX6, Cond.code yX6_lowestHop cX6_lowestHop 1 (some .int), Cond.methodLink RX6 240 yJ6_numberOfTrailingZeros_0f7a4, Cond.static yJ6_numberOfTrailingZeros_0f7a4, Cond.initialized RJ6]
def wsX5_findLeast_r2 : List Cond := [Cond.code yJ6_numberOfTrailingZeros_0f7a4 cJ6_numberOfTrailingZeros_0f7a4 2 (some .int), Cond.constant RJ6 264 (65536), Cond.methodLink RX5 99 yX3_put, Cond.instanceMethod yX3_put, Cond.selects RX3 yX3_put yX3_put, Cond.code yX3_put cX3_put 3 none, Cond.static yX6_isPrefix, Cond.code yX6_isPrefix cX6_isPrefix 1 (some .boolean), Cond.static yX6_isHop, Cond.code yX6_isHop cX6_isHop 1 (some .boolean), Cond.methodLink RX3 26 yX3_hopAt, Cond.instanceMethod yX3_hopAt, Cond.selects RX3 yX3_hopAt yX3_hopAt, Cond.code yX3_hopAt cX3_hopAt 3 (some .int), Cond.methodLink RX3 30 yX3_setPlace, Cond.instanceMethod yX3_setPlace, Cond.selects RX3 yX3_setPlace yX3_setPlace, Cond.code yX3_setPlace cX3_setPlace 4 none, Cond.constantLong RX3 67 (15), Cond.constantLong RX3 69 (-1)]
def wsX5_findLeast : List Cond := .code yX5_findLeast cX5_findLeast 3 none :: ((wsX5_findLeast_r1 ++ wsX5_findLeast_r2) ++ wsX50 ++ wsX30)
def wsX5_make_r1 : List Cond := [Cond.fieldLink RX5 30 "LeastRoutes$View" "inUse" "LLeastRoutes$Table;", Cond.fieldLink RX5 9 "LeastRoutes$View" "sent" "[I", Cond.fieldLink RX5 15 "LeastRoutes$View" "sentByInstalled" "[I", Cond.methodLink RX5 37 yX3_takeFrom, Cond.instanceMethod yX3_takeFrom, Cond.selects RX3 yX3_takeFrom yX3_takeFrom, Cond.initialized RX3, Cond.code yX3_takeFrom cX3_takeFrom 2 none, Cond.fieldLink RX3 9 "LeastRoutes$Table" "places" "[J", Cond.methodLink RX3 40 arraycopyName, Cond.native arraycopyName, Cond.static arraycopyName, Cond.initialized "java/lang/System", Cond.fieldLink RX3 15 "LeastRoutes$Table" "size" "I", Cond.methodLink RX5 41 yX5_spread, Cond.static yX5_spread, Cond.initialized RX5, Cond.code yX5_spread cX5_spread 4 none, Cond.methodLink RX5 87 Lib.Math.max.name, Cond.static Lib.Math.max.name, Cond.initialized "java/lang/Math", Cond.code Lib.Math.max.name Lib.Math.max.code 2 (some .int), Cond.methodLink RX5 66 yX3_hopAt, Cond.instanceMethod yX3_hopAt]
def wsX5_make_r2 : List Cond := [Cond.selects RX3 yX3_hopAt yX3_hopAt, Cond.code yX3_hopAt cX3_hopAt 3 (some .int), Cond.methodLink RX5 45 yX5_findBest, Cond.instanceMethod yX5_findBest, Cond.selects RX5 yX5_findBest yX5_findBest, Cond.code yX5_findBest cX5_findBest 3 none, Cond.fieldLink RX5 18 "LeastRoutes$View" "best" "[I", Cond.fieldLink RX5 21 "LeastRoutes$View" "ease" "[I", Cond.methodLink RX5 48 yX5_findLeast, Cond.instanceMethod yX5_findLeast, Cond.selects RX5 yX5_findLeast yX5_findLeast, Cond.code yX5_findLeast cX5_findLeast 3 none, Cond.fieldLink RX5 34 "LeastRoutes$View" "leastOne" "LLeastRoutes$Table;", Cond.fieldLink RX5 24 "LeastRoutes$View" "fromAbove" "[I", Cond.methodLink RX5 93 yX3_makeEmpty, Cond.instanceMethod yX3_makeEmpty, Cond.selects RX3 yX3_makeEmpty yX3_makeEmpty, Cond.code yX3_makeEmpty cX3_makeEmpty 1 none, Cond.methodLink RX3 34 yJ7_fill_d0a16, Cond.static yJ7_fill_d0a16, Cond.initialized RJ7, Cond.code yJ7_fill_d0a16 cJ7_fill_d0a16 5 none, Cond.methodLink RX5 62 yX5_hasBit, Cond.static yX5_hasBit]
def wsX5_make_r3 : List Cond := [Cond.code yX5_hasBit cX5_hasBit 2 (some .boolean), Cond.static yX6_lowestHop, Cond.initialized RX6, Cond.code yX6_lowestHop cX6_lowestHop 1 (some .int), Cond.methodLink RX6 240 yJ6_numberOfTrailingZeros_0f7a4, Cond.static yJ6_numberOfTrailingZeros_0f7a4, Cond.initialized RJ6, Cond.code yJ6_numberOfTrailingZeros_0f7a4 cJ6_numberOfTrailingZeros_0f7a4 2 (some .int), Cond.constant RJ6 264 (65536), Cond.methodLink RX5 99 yX3_put, Cond.instanceMethod yX3_put, Cond.selects RX3 yX3_put yX3_put, Cond.code yX3_put cX3_put 3 none, Cond.static yX6_isPrefix, Cond.code yX6_isPrefix cX6_isPrefix 1 (some .boolean), Cond.static yX6_isHop, Cond.code yX6_isHop cX6_isHop 1 (some .boolean), Cond.methodLink RX3 26 yX3_hopAt, Cond.methodLink RX3 30 yX3_setPlace, Cond.instanceMethod yX3_setPlace, Cond.selects RX3 yX3_setPlace yX3_setPlace, Cond.code yX3_setPlace cX3_setPlace 4 none, Cond.constantLong RX3 67 (15), Cond.constantLong RX3 69 (-1)]
def wsX5_make : List Cond := .code yX5_make cX5_make 3 none :: ((wsX5_make_r1 ++ (wsX5_make_r2 ++ wsX5_make_r3)) ++ wsX50 ++ wsX30)
def wsX5_leastTable : List Cond := .code yX5_leastTable cX5_leastTable 1 (some (.object "LeastRoutes$Table")) :: ([.fieldLink RX5 34 "LeastRoutes$View" "leastOne" "LLeastRoutes$Table;"] ++ wsX50)
def wsX5_hopsBeneath : List Cond := .code yX5_hopsBeneath cX5_hopsBeneath 2 (some .int) :: ([.fieldLink RX5 9 "LeastRoutes$View" "sent" "[I", .static yX6_isPrefix, .initialized RX6, .code yX6_isPrefix cX6_isPrefix 1 (some .boolean)] ++ wsX50)
def wsX5_installedHopsBeneath : List Cond := .code yX5_installedHopsBeneath cX5_installedHopsBeneath 2 (some .int) :: ([.fieldLink RX5 15 "LeastRoutes$View" "sentByInstalled" "[I", .static yX6_isPrefix, .initialized RX6, .code yX6_isPrefix cX6_isPrefix 1 (some .boolean)] ++ wsX50)
def wsX5_bestHops : List Cond := .code yX5_bestHops cX5_bestHops 2 (some .int) :: ([.fieldLink RX5 18 "LeastRoutes$View" "best" "[I", .static yX6_isPrefix, .initialized RX6, .code yX6_isPrefix cX6_isPrefix 1 (some .boolean)] ++ wsX50)
def wsX5_easeOf : List Cond := .code yX5_easeOf cX5_easeOf 2 (some .int) :: ([.fieldLink RX5 21 "LeastRoutes$View" "ease" "[I", .static yX6_isPrefix, .initialized RX6, .code yX6_isPrefix cX6_isPrefix 1 (some .boolean)] ++ wsX50)
def wsX5_costBy : List Cond := .code yX5_costBy cX5_costBy 3 (some .int) :: ([.methodLink RX5 55 yX5_easeOf, .instanceMethod yX5_easeOf, .selects RX5 yX5_easeOf yX5_easeOf, .initialized RX5, .code yX5_easeOf cX5_easeOf 2 (some .int), .fieldLink RX5 21 "LeastRoutes$View" "ease" "[I", .static yX6_isPrefix, .initialized RX6, .code yX6_isPrefix cX6_isPrefix 1 (some .boolean), .methodLink RX5 59 yX5_bestHops, .instanceMethod yX5_bestHops, .selects RX5 yX5_bestHops yX5_bestHops, .code yX5_bestHops cX5_bestHops 2 (some .int), .fieldLink RX5 18 "LeastRoutes$View" "best" "[I", .methodLink RX5 62 yX5_hasBit, .static yX5_hasBit, .code yX5_hasBit cX5_hasBit 2 (some .boolean)] ++ wsX50)
def wsX5_kindOfChange : List Cond := .code yX5_kindOfChange cX5_kindOfChange 4 (some .int) :: ([.fieldLink RX5 30 "LeastRoutes$View" "inUse" "LLeastRoutes$Table;", .fieldLink RX5 34 "LeastRoutes$View" "leastOne" "LLeastRoutes$Table;", .methodLink RX5 66 yX3_hopAt, .instanceMethod yX3_hopAt, .selects RX3 yX3_hopAt yX3_hopAt, .initialized RX3, .code yX3_hopAt cX3_hopAt 3 (some .int), .fieldLink RX3 9 "LeastRoutes$Table" "places" "[J"] ++ wsX50 ++ wsX30)
def wsX5_countChanges : List Cond := .code yX5_countChanges cX5_countChanges 3 (some .int) :: ([.methodLink RX5 69 yX5_kindOfChange, .instanceMethod yX5_kindOfChange, .selects RX5 yX5_kindOfChange yX5_kindOfChange, .initialized RX5, .code yX5_kindOfChange cX5_kindOfChange 4 (some .int), .fieldLink RX5 30 "LeastRoutes$View" "inUse" "LLeastRoutes$Table;", .fieldLink RX5 34 "LeastRoutes$View" "leastOne" "LLeastRoutes$Table;", .methodLink RX5 66 yX3_hopAt, .instanceMethod yX3_hopAt, .selects RX3 yX3_hopAt yX3_hopAt, .initialized RX3, .code yX3_hopAt cX3_hopAt 3 (some .int), .fieldLink RX3 9 "LeastRoutes$Table" "places" "[J"] ++ wsX50 ++ wsX30)
def wsX5_changeNumber : List Cond := .code yX5_changeNumber cX5_changeNumber 4 (some .int) :: ([.methodLink RX5 69 yX5_kindOfChange, .instanceMethod yX5_kindOfChange, .selects RX5 yX5_kindOfChange yX5_kindOfChange, .initialized RX5, .code yX5_kindOfChange cX5_kindOfChange 4 (some .int), .fieldLink RX5 30 "LeastRoutes$View" "inUse" "LLeastRoutes$Table;", .fieldLink RX5 34 "LeastRoutes$View" "leastOne" "LLeastRoutes$Table;", .methodLink RX5 66 yX3_hopAt, .instanceMethod yX3_hopAt, .selects RX3 yX3_hopAt yX3_hopAt, .initialized RX3, .code yX3_hopAt cX3_hopAt 3 (some .int), .fieldLink RX3 9 "LeastRoutes$Table" "places" "[J"] ++ wsX50 ++ wsX30)
def wsJ6_bitCount_0f7a4 : List Cond := .code yJ6_bitCount_0f7a4 cJ6_bitCount_0f7a4 1 (some .int) :: ([.constant RJ6 265 (1431655765), .constant RJ6 266 (858993459), .constant RJ6 267 (252645135)])
def wsX6_isOneHop : List Cond := .code yX6_isOneHop cX6_isOneHop 1 (some .boolean) :: ([.methodLink RX6 245 yJ6_bitCount_0f7a4, .static yJ6_bitCount_0f7a4, .initialized RJ6, .code yJ6_bitCount_0f7a4 cJ6_bitCount_0f7a4 1 (some .int), .constant RJ6 265 (1431655765), .constant RJ6 266 (858993459), .constant RJ6 267 (252645135)])
def wsX5_proofFrom_r1 : List Cond := [Cond.methodLink RX5 75 yX5_hopsBeneath, Cond.instanceMethod yX5_hopsBeneath, Cond.selects RX5 yX5_hopsBeneath yX5_hopsBeneath, Cond.initialized RX5, Cond.code yX5_hopsBeneath cX5_hopsBeneath 2 (some .int), Cond.fieldLink RX5 9 "LeastRoutes$View" "sent" "[I", Cond.static yX6_isPrefix, Cond.initialized RX6, Cond.code yX6_isPrefix cX6_isPrefix 1 (some .boolean), Cond.static yX6_isOneHop, Cond.code yX6_isOneHop cX6_isOneHop 1 (some .boolean), Cond.methodLink RX6 245 yJ6_bitCount_0f7a4, Cond.static yJ6_bitCount_0f7a4, Cond.initialized RJ6, Cond.code yJ6_bitCount_0f7a4 cJ6_bitCount_0f7a4 1 (some .int), Cond.constant RJ6 265 (1431655765), Cond.constant RJ6 266 (858993459), Cond.constant RJ6 267 (252645135), Cond.methodLink RX5 81 yX5_installedHopsBeneath, Cond.instanceMethod yX5_installedHopsBeneath, Cond.selects RX5 yX5_installedHopsBeneath yX5_installedHopsBeneath, Cond.code yX5_installedHopsBeneath cX5_installedHopsBeneath 2 (some .int), Cond.fieldLink RX5 15 "LeastRoutes$View" "sentByInstalled" "[I", Cond.static yX6_firstAddress]
def wsX5_proofFrom_r2 : List Cond := [Cond.code yX6_firstAddress cX6_firstAddress 1 (some .int), Cond.methodLink RX6 251 yX6_bitsOf, Cond.static yX6_bitsOf, Cond.code yX6_bitsOf cX6_bitsOf 1 (some .int), Cond.methodLink RX6 248 yJ6_numberOfLeadingZeros_0f7a4, Cond.static yJ6_numberOfLeadingZeros_0f7a4, Cond.code yJ6_numberOfLeadingZeros_0f7a4 cJ6_numberOfLeadingZeros_0f7a4 2 (some .int), Cond.constant RJ6 264 (65536)]
def wsX5_proofFrom : List Cond := .code yX5_proofFrom cX5_proofFrom 4 (some .int) :: ((wsX5_proofFrom_r1 ++ wsX5_proofFrom_r2) ++ wsX50)
def wsX5_countProof_r1 : List Cond := [Cond.methodLink RX5 72 yX5_proofFrom, Cond.instanceMethod yX5_proofFrom, Cond.selects RX5 yX5_proofFrom yX5_proofFrom, Cond.initialized RX5, Cond.code yX5_proofFrom cX5_proofFrom 4 (some .int), Cond.methodLink RX5 75 yX5_hopsBeneath, Cond.instanceMethod yX5_hopsBeneath, Cond.selects RX5 yX5_hopsBeneath yX5_hopsBeneath, Cond.code yX5_hopsBeneath cX5_hopsBeneath 2 (some .int), Cond.fieldLink RX5 9 "LeastRoutes$View" "sent" "[I", Cond.static yX6_isPrefix, Cond.initialized RX6, Cond.code yX6_isPrefix cX6_isPrefix 1 (some .boolean), Cond.static yX6_isOneHop, Cond.code yX6_isOneHop cX6_isOneHop 1 (some .boolean), Cond.methodLink RX6 245 yJ6_bitCount_0f7a4, Cond.static yJ6_bitCount_0f7a4, Cond.initialized RJ6, Cond.code yJ6_bitCount_0f7a4 cJ6_bitCount_0f7a4 1 (some .int), Cond.constant RJ6 265 (1431655765), Cond.constant RJ6 266 (858993459), Cond.constant RJ6 267 (252645135), Cond.methodLink RX5 81 yX5_installedHopsBeneath, Cond.instanceMethod yX5_installedHopsBeneath]
def wsX5_countProof_r2 : List Cond := [Cond.selects RX5 yX5_installedHopsBeneath yX5_installedHopsBeneath, Cond.code yX5_installedHopsBeneath cX5_installedHopsBeneath 2 (some .int), Cond.fieldLink RX5 15 "LeastRoutes$View" "sentByInstalled" "[I", Cond.static yX6_firstAddress, Cond.code yX6_firstAddress cX6_firstAddress 1 (some .int), Cond.methodLink RX6 251 yX6_bitsOf, Cond.static yX6_bitsOf, Cond.code yX6_bitsOf cX6_bitsOf 1 (some .int), Cond.methodLink RX6 248 yJ6_numberOfLeadingZeros_0f7a4, Cond.static yJ6_numberOfLeadingZeros_0f7a4, Cond.code yJ6_numberOfLeadingZeros_0f7a4 cJ6_numberOfLeadingZeros_0f7a4 2 (some .int), Cond.constant RJ6 264 (65536)]
def wsX5_countProof : List Cond := .code yX5_countProof cX5_countProof 3 (some .int) :: ((wsX5_countProof_r1 ++ wsX5_countProof_r2) ++ wsX50)
def wsX5_proofNumber_r1 : List Cond := [Cond.methodLink RX5 72 yX5_proofFrom, Cond.instanceMethod yX5_proofFrom, Cond.selects RX5 yX5_proofFrom yX5_proofFrom, Cond.initialized RX5, Cond.code yX5_proofFrom cX5_proofFrom 4 (some .int), Cond.methodLink RX5 75 yX5_hopsBeneath, Cond.instanceMethod yX5_hopsBeneath, Cond.selects RX5 yX5_hopsBeneath yX5_hopsBeneath, Cond.code yX5_hopsBeneath cX5_hopsBeneath 2 (some .int), Cond.fieldLink RX5 9 "LeastRoutes$View" "sent" "[I", Cond.static yX6_isPrefix, Cond.initialized RX6, Cond.code yX6_isPrefix cX6_isPrefix 1 (some .boolean), Cond.static yX6_isOneHop, Cond.code yX6_isOneHop cX6_isOneHop 1 (some .boolean), Cond.methodLink RX6 245 yJ6_bitCount_0f7a4, Cond.static yJ6_bitCount_0f7a4, Cond.initialized RJ6, Cond.code yJ6_bitCount_0f7a4 cJ6_bitCount_0f7a4 1 (some .int), Cond.constant RJ6 265 (1431655765), Cond.constant RJ6 266 (858993459), Cond.constant RJ6 267 (252645135), Cond.methodLink RX5 81 yX5_installedHopsBeneath, Cond.instanceMethod yX5_installedHopsBeneath]
def wsX5_proofNumber_r2 : List Cond := [Cond.selects RX5 yX5_installedHopsBeneath yX5_installedHopsBeneath, Cond.code yX5_installedHopsBeneath cX5_installedHopsBeneath 2 (some .int), Cond.fieldLink RX5 15 "LeastRoutes$View" "sentByInstalled" "[I", Cond.static yX6_firstAddress, Cond.code yX6_firstAddress cX6_firstAddress 1 (some .int), Cond.methodLink RX6 251 yX6_bitsOf, Cond.static yX6_bitsOf, Cond.code yX6_bitsOf cX6_bitsOf 1 (some .int), Cond.methodLink RX6 248 yJ6_numberOfLeadingZeros_0f7a4, Cond.static yJ6_numberOfLeadingZeros_0f7a4, Cond.code yJ6_numberOfLeadingZeros_0f7a4 cJ6_numberOfLeadingZeros_0f7a4 2 (some .int), Cond.constant RJ6 264 (65536)]
def wsX5_proofNumber : List Cond := .code yX5_proofNumber cX5_proofNumber 5 (some .int) :: ((wsX5_proofNumber_r1 ++ wsX5_proofNumber_r2) ++ wsX50)
def wsX5_firstSentElsewhere : List Cond := .code yX5_firstSentElsewhere cX5_firstSentElsewhere 2 (some .int) :: ([.fieldLink RX5 9 "LeastRoutes$View" "sent" "[I", .fieldLink RX5 15 "LeastRoutes$View" "sentByInstalled" "[I"] ++ wsX50)
def wsX6_init_r1 : List Cond := [Cond.methodLink RX6 1 objectInit, Cond.instanceMethod objectInit, Cond.code objectInit ⟨#[0xb1]⟩ 1 none, Cond.classLink RX6 7 RX0, Cond.instantiable RX0 3, Cond.initialized RX0, Cond.fieldLink RX6 10 "LeastRoutes" "history" "LLeastRoutes$History;", Cond.fieldLink RX6 16 "LeastRoutes" "kept" "LLeastRoutes$History;", Cond.classLink RX6 19 RX5, Cond.instantiable RX5 7, Cond.initialized RX5, Cond.fieldLink RX6 22 "LeastRoutes" "view" "LLeastRoutes$View;", Cond.classLink RX6 26 RX4, Cond.instantiable RX4 5, Cond.initialized RX4, Cond.fieldLink RX6 29 "LeastRoutes" "tape" "LLeastRoutes$Tape;", Cond.classLink RX6 33 RX2, Cond.fieldLink RX6 35 "LeastRoutes" "sheets" "[LLeastRoutes$Sheet;", Cond.fieldLink RX6 39 "LeastRoutes" "hasImage" "Z", Cond.fieldLink RX6 43 "LeastRoutes" "viewIsOld" "Z", Cond.instantiable RX2 3, Cond.initialized RX2, Cond.methodLink RX6 9 yX0_init, Cond.instanceMethod yX0_init]
def wsX6_init_r2 : List Cond := [Cond.code yX0_init cX0_init 2 none, Cond.methodLink RX0 3 objectInit, Cond.classLink RX0 9 RX1, Cond.instantiable RX1 3, Cond.initialized RX1, Cond.fieldLink RX0 12 "LeastRoutes$History" "now" "LLeastRoutes$Moment;", Cond.fieldLink RX0 18 "LeastRoutes$History" "known" "[LLeastRoutes$Moment;", Cond.fieldLink RX0 22 "LeastRoutes$History" "size" "I", Cond.instanceMethod yX1_init, Cond.code yX1_init cX1_init 1 none, Cond.methodLink RX1 1 objectInit, Cond.classLink RX1 7 RX3, Cond.instantiable RX3 2, Cond.initialized RX3, Cond.fieldLink RX1 10 "LeastRoutes$Moment" "told" "LLeastRoutes$Table;", Cond.fieldLink RX1 16 "LeastRoutes$Moment" "inUse" "LLeastRoutes$Table;", Cond.fieldLink RX1 19 "LeastRoutes$Moment" "draw" "I", Cond.instanceMethod yX3_init, Cond.code yX3_init cX3_init 1 none, Cond.methodLink RX3 3 objectInit, Cond.arrayClass .long, Cond.fieldLink RX3 9 "LeastRoutes$Table" "places" "[J", Cond.fieldLink RX3 15 "LeastRoutes$Table" "size" "I", Cond.instanceMethod yX5_init]
def wsX6_init_r3 : List Cond := [Cond.code yX5_init cX5_init 1 none, Cond.methodLink RX5 3 objectInit, Cond.arrayClass .int, Cond.fieldLink RX5 9 "LeastRoutes$View" "sent" "[I", Cond.fieldLink RX5 15 "LeastRoutes$View" "sentByInstalled" "[I", Cond.fieldLink RX5 18 "LeastRoutes$View" "best" "[I", Cond.fieldLink RX5 21 "LeastRoutes$View" "ease" "[I", Cond.fieldLink RX5 24 "LeastRoutes$View" "fromAbove" "[I", Cond.classLink RX5 27 RX3, Cond.fieldLink RX5 30 "LeastRoutes$View" "inUse" "LLeastRoutes$Table;", Cond.fieldLink RX5 34 "LeastRoutes$View" "leastOne" "LLeastRoutes$Table;", Cond.instanceMethod yX4_init, Cond.code yX4_init cX4_init 1 none, Cond.methodLink RX4 3 objectInit, Cond.fieldLink RX4 9 "LeastRoutes$Tape" "letters" "[I", Cond.classLink RX4 15 RX3, Cond.fieldLink RX4 18 "LeastRoutes$Tape" "told" "LLeastRoutes$Table;", Cond.fieldLink RX4 22 "LeastRoutes$Tape" "size" "I", Cond.fieldLink RX4 26 "LeastRoutes$Tape" "place" "I", Cond.fieldLink RX4 29 "LeastRoutes$Tape" "number" "I", Cond.instanceMethod yX2_init, Cond.code yX2_init cX2_init 1 none, Cond.methodLink RX2 3 objectInit, Cond.fieldLink RX2 9 "LeastRoutes$Sheet" "items" "[J"]
def wsX6_init_r4 : List Cond := [Cond.fieldLink RX2 15 "LeastRoutes$Sheet" "ownLane" "I", Cond.fieldLink RX2 19 "LeastRoutes$Sheet" "size" "I"]
def wsX6_init : List Cond := .code yX6_init cX6_init 2 none :: ((wsX6_init_r1 ++ (wsX6_init_r2 ++ (wsX6_init_r3 ++ wsX6_init_r4))) ++ wsX00 ++ wsX60 ++ wsX50 ++ wsX40 ++ wsX20 ++ wsX10 ++ wsX30)
def wsX6_isAddress : List Cond := .code yX6_isAddress cX6_isAddress 1 (some .boolean) :: ([])
def wsX6_table : List Cond := .code yX6_table cX6_table 1 (some (.object "LeastRoutes$Table")) :: ([.fieldLink RX6 10 "LeastRoutes" "history" "LLeastRoutes$History;", .methodLink RX6 181 yX0_present, .instanceMethod yX0_present, .selects RX0 yX0_present yX0_present, .initialized RX0, .code yX0_present cX0_present 1 (some (.object "LeastRoutes$Moment")), .fieldLink RX0 12 "LeastRoutes$History" "now" "LLeastRoutes$Moment;", .methodLink RX6 254 yX1_tableNow, .instanceMethod yX1_tableNow, .selects RX1 yX1_tableNow yX1_tableNow, .initialized RX1, .code yX1_tableNow cX1_tableNow 1 (some (.object "LeastRoutes$Table")), .fieldLink RX1 10 "LeastRoutes$Moment" "told" "LLeastRoutes$Table;"] ++ wsX60 ++ wsX00 ++ wsX10)
def wsX6_installed : List Cond := .code yX6_installed cX6_installed 1 (some (.object "LeastRoutes$Table")) :: ([.fieldLink RX6 10 "LeastRoutes" "history" "LLeastRoutes$History;", .methodLink RX6 181 yX0_present, .instanceMethod yX0_present, .selects RX0 yX0_present yX0_present, .initialized RX0, .code yX0_present cX0_present 1 (some (.object "LeastRoutes$Moment")), .fieldLink RX0 12 "LeastRoutes$History" "now" "LLeastRoutes$Moment;", .methodLink RX6 257 yX1_installedNow, .instanceMethod yX1_installedNow, .selects RX1 yX1_installedNow yX1_installedNow, .initialized RX1, .code yX1_installedNow cX1_installedNow 1 (some (.object "LeastRoutes$Table")), .fieldLink RX1 16 "LeastRoutes$Moment" "inUse" "LLeastRoutes$Table;"] ++ wsX60 ++ wsX00 ++ wsX10)
def wsX6_freshView_r1 : List Cond := [Cond.fieldLink RX6 43 "LeastRoutes" "viewIsOld" "Z", Cond.fieldLink RX6 22 "LeastRoutes" "view" "LLeastRoutes$View;", Cond.methodLink RX6 51 yX6_table, Cond.instanceMethod yX6_table, Cond.selects RX6 yX6_table yX6_table, Cond.initialized RX6, Cond.code yX6_table cX6_table 1 (some (.object "LeastRoutes$Table")), Cond.fieldLink RX6 10 "LeastRoutes" "history" "LLeastRoutes$History;", Cond.methodLink RX6 181 yX0_present, Cond.instanceMethod yX0_present, Cond.selects RX0 yX0_present yX0_present, Cond.initialized RX0, Cond.code yX0_present cX0_present 1 (some (.object "LeastRoutes$Moment")), Cond.fieldLink RX0 12 "LeastRoutes$History" "now" "LLeastRoutes$Moment;", Cond.methodLink RX6 254 yX1_tableNow, Cond.instanceMethod yX1_tableNow, Cond.selects RX1 yX1_tableNow yX1_tableNow, Cond.initialized RX1, Cond.code yX1_tableNow cX1_tableNow 1 (some (.object "LeastRoutes$Table")), Cond.fieldLink RX1 10 "LeastRoutes$Moment" "told" "LLeastRoutes$Table;", Cond.methodLink RX6 64 yX6_installed, Cond.instanceMethod yX6_installed, Cond.selects RX6 yX6_installed yX6_installed, Cond.code yX6_installed cX6_installed 1 (some (.object "LeastRoutes$Table"))]
def wsX6_freshView_r2 : List Cond := [Cond.methodLink RX6 257 yX1_installedNow, Cond.instanceMethod yX1_installedNow, Cond.selects RX1 yX1_installedNow yX1_installedNow, Cond.code yX1_installedNow cX1_installedNow 1 (some (.object "LeastRoutes$Table")), Cond.fieldLink RX1 16 "LeastRoutes$Moment" "inUse" "LLeastRoutes$Table;", Cond.methodLink RX6 260 yX5_make, Cond.instanceMethod yX5_make, Cond.selects RX5 yX5_make yX5_make, Cond.initialized RX5, Cond.code yX5_make cX5_make 3 none, Cond.fieldLink RX5 30 "LeastRoutes$View" "inUse" "LLeastRoutes$Table;", Cond.fieldLink RX5 9 "LeastRoutes$View" "sent" "[I", Cond.fieldLink RX5 15 "LeastRoutes$View" "sentByInstalled" "[I", Cond.methodLink RX5 37 yX3_takeFrom, Cond.instanceMethod yX3_takeFrom, Cond.selects RX3 yX3_takeFrom yX3_takeFrom, Cond.initialized RX3, Cond.code yX3_takeFrom cX3_takeFrom 2 none, Cond.fieldLink RX3 9 "LeastRoutes$Table" "places" "[J", Cond.methodLink RX3 40 arraycopyName, Cond.native arraycopyName, Cond.static arraycopyName, Cond.initialized "java/lang/System", Cond.fieldLink RX3 15 "LeastRoutes$Table" "size" "I"]
def wsX6_freshView_r3 : List Cond := [Cond.methodLink RX5 41 yX5_spread, Cond.static yX5_spread, Cond.code yX5_spread cX5_spread 4 none, Cond.methodLink RX5 87 Lib.Math.max.name, Cond.static Lib.Math.max.name, Cond.initialized "java/lang/Math", Cond.code Lib.Math.max.name Lib.Math.max.code 2 (some .int), Cond.methodLink RX5 66 yX3_hopAt, Cond.instanceMethod yX3_hopAt, Cond.selects RX3 yX3_hopAt yX3_hopAt, Cond.code yX3_hopAt cX3_hopAt 3 (some .int), Cond.methodLink RX5 45 yX5_findBest, Cond.instanceMethod yX5_findBest, Cond.selects RX5 yX5_findBest yX5_findBest, Cond.code yX5_findBest cX5_findBest 3 none, Cond.fieldLink RX5 18 "LeastRoutes$View" "best" "[I", Cond.fieldLink RX5 21 "LeastRoutes$View" "ease" "[I", Cond.methodLink RX5 48 yX5_findLeast, Cond.instanceMethod yX5_findLeast, Cond.selects RX5 yX5_findLeast yX5_findLeast, Cond.code yX5_findLeast cX5_findLeast 3 none, Cond.fieldLink RX5 34 "LeastRoutes$View" "leastOne" "LLeastRoutes$Table;", Cond.fieldLink RX5 24 "LeastRoutes$View" "fromAbove" "[I", Cond.methodLink RX5 93 yX3_makeEmpty]
def wsX6_freshView_r4 : List Cond := [Cond.instanceMethod yX3_makeEmpty, Cond.selects RX3 yX3_makeEmpty yX3_makeEmpty, Cond.code yX3_makeEmpty cX3_makeEmpty 1 none, Cond.methodLink RX3 34 yJ7_fill_d0a16, Cond.static yJ7_fill_d0a16, Cond.initialized RJ7, Cond.code yJ7_fill_d0a16 cJ7_fill_d0a16 5 none, Cond.methodLink RX5 62 yX5_hasBit, Cond.static yX5_hasBit, Cond.code yX5_hasBit cX5_hasBit 2 (some .boolean), Cond.static yX6_lowestHop, Cond.code yX6_lowestHop cX6_lowestHop 1 (some .int), Cond.methodLink RX6 240 yJ6_numberOfTrailingZeros_0f7a4, Cond.static yJ6_numberOfTrailingZeros_0f7a4, Cond.initialized RJ6, Cond.code yJ6_numberOfTrailingZeros_0f7a4 cJ6_numberOfTrailingZeros_0f7a4 2 (some .int), Cond.constant RJ6 264 (65536), Cond.methodLink RX5 99 yX3_put, Cond.instanceMethod yX3_put, Cond.selects RX3 yX3_put yX3_put, Cond.code yX3_put cX3_put 3 none, Cond.static yX6_isPrefix, Cond.code yX6_isPrefix cX6_isPrefix 1 (some .boolean), Cond.static yX6_isHop]
def wsX6_freshView_r5 : List Cond := [Cond.code yX6_isHop cX6_isHop 1 (some .boolean), Cond.methodLink RX3 26 yX3_hopAt, Cond.methodLink RX3 30 yX3_setPlace, Cond.instanceMethod yX3_setPlace, Cond.selects RX3 yX3_setPlace yX3_setPlace, Cond.code yX3_setPlace cX3_setPlace 4 none, Cond.constantLong RX3 67 (15), Cond.constantLong RX3 69 (-1)]
def wsX6_freshView : List Cond := .code yX6_freshView cX6_freshView 1 (some (.object "LeastRoutes$View")) :: ((wsX6_freshView_r1 ++ (wsX6_freshView_r2 ++ (wsX6_freshView_r3 ++ (wsX6_freshView_r4 ++ wsX6_freshView_r5)))) ++ wsX60 ++ wsX00 ++ wsX10 ++ wsX50 ++ wsX30)
def wsX6_look_r1 : List Cond := [Cond.methodLink RX6 47 yX6_isAddress, Cond.static yX6_isAddress, Cond.initialized RX6, Cond.code yX6_isAddress cX6_isAddress 1 (some .boolean), Cond.methodLink RX6 51 yX6_table, Cond.instanceMethod yX6_table, Cond.selects RX6 yX6_table yX6_table, Cond.code yX6_table cX6_table 1 (some (.object "LeastRoutes$Table")), Cond.fieldLink RX6 10 "LeastRoutes" "history" "LLeastRoutes$History;", Cond.methodLink RX6 181 yX0_present, Cond.instanceMethod yX0_present, Cond.selects RX0 yX0_present yX0_present, Cond.initialized RX0, Cond.code yX0_present cX0_present 1 (some (.object "LeastRoutes$Moment")), Cond.fieldLink RX0 12 "LeastRoutes$History" "now" "LLeastRoutes$Moment;", Cond.methodLink RX6 254 yX1_tableNow, Cond.instanceMethod yX1_tableNow, Cond.selects RX1 yX1_tableNow yX1_tableNow, Cond.initialized RX1, Cond.code yX1_tableNow cX1_tableNow 1 (some (.object "LeastRoutes$Table")), Cond.fieldLink RX1 10 "LeastRoutes$Moment" "told" "LLeastRoutes$Table;", Cond.methodLink RX6 55 yX3_hopOfAddress, Cond.instanceMethod yX3_hopOfAddress, Cond.selects RX3 yX3_hopOfAddress yX3_hopOfAddress]
def wsX6_look_r2 : List Cond := [Cond.initialized RX3, Cond.code yX3_hopOfAddress cX3_hopOfAddress 3 (some .int), Cond.methodLink RX3 46 yX3_deciderOf, Cond.instanceMethod yX3_deciderOf, Cond.selects RX3 yX3_deciderOf yX3_deciderOf, Cond.code yX3_deciderOf cX3_deciderOf 4 (some .int), Cond.methodLink RX3 26 yX3_hopAt, Cond.instanceMethod yX3_hopAt, Cond.selects RX3 yX3_hopAt yX3_hopAt, Cond.code yX3_hopAt cX3_hopAt 3 (some .int), Cond.fieldLink RX3 9 "LeastRoutes$Table" "places" "[J", Cond.methodLink RX6 61 yX3_deciderOf, Cond.methodLink RX6 64 yX6_installed, Cond.instanceMethod yX6_installed, Cond.selects RX6 yX6_installed yX6_installed, Cond.code yX6_installed cX6_installed 1 (some (.object "LeastRoutes$Table")), Cond.methodLink RX6 257 yX1_installedNow, Cond.instanceMethod yX1_installedNow, Cond.selects RX1 yX1_installedNow yX1_installedNow, Cond.code yX1_installedNow cX1_installedNow 1 (some (.object "LeastRoutes$Table")), Cond.fieldLink RX1 16 "LeastRoutes$Moment" "inUse" "LLeastRoutes$Table;", Cond.methodLink RX6 67 yX6_freshView, Cond.instanceMethod yX6_freshView, Cond.selects RX6 yX6_freshView yX6_freshView]
def wsX6_look_r3 : List Cond := [Cond.code yX6_freshView cX6_freshView 1 (some (.object "LeastRoutes$View")), Cond.fieldLink RX6 43 "LeastRoutes" "viewIsOld" "Z", Cond.fieldLink RX6 22 "LeastRoutes" "view" "LLeastRoutes$View;", Cond.methodLink RX6 260 yX5_make, Cond.instanceMethod yX5_make, Cond.selects RX5 yX5_make yX5_make, Cond.initialized RX5, Cond.code yX5_make cX5_make 3 none, Cond.fieldLink RX5 30 "LeastRoutes$View" "inUse" "LLeastRoutes$Table;", Cond.fieldLink RX5 9 "LeastRoutes$View" "sent" "[I", Cond.fieldLink RX5 15 "LeastRoutes$View" "sentByInstalled" "[I", Cond.methodLink RX5 37 yX3_takeFrom, Cond.instanceMethod yX3_takeFrom, Cond.selects RX3 yX3_takeFrom yX3_takeFrom, Cond.code yX3_takeFrom cX3_takeFrom 2 none, Cond.methodLink RX3 40 arraycopyName, Cond.native arraycopyName, Cond.static arraycopyName, Cond.initialized "java/lang/System", Cond.fieldLink RX3 15 "LeastRoutes$Table" "size" "I", Cond.methodLink RX5 41 yX5_spread, Cond.static yX5_spread, Cond.code yX5_spread cX5_spread 4 none, Cond.methodLink RX5 87 Lib.Math.max.name]
def wsX6_look_r4 : List Cond := [Cond.static Lib.Math.max.name, Cond.initialized "java/lang/Math", Cond.code Lib.Math.max.name Lib.Math.max.code 2 (some .int), Cond.methodLink RX5 66 yX3_hopAt, Cond.methodLink RX5 45 yX5_findBest, Cond.instanceMethod yX5_findBest, Cond.selects RX5 yX5_findBest yX5_findBest, Cond.code yX5_findBest cX5_findBest 3 none, Cond.fieldLink RX5 18 "LeastRoutes$View" "best" "[I", Cond.fieldLink RX5 21 "LeastRoutes$View" "ease" "[I", Cond.methodLink RX5 48 yX5_findLeast, Cond.instanceMethod yX5_findLeast, Cond.selects RX5 yX5_findLeast yX5_findLeast, Cond.code yX5_findLeast cX5_findLeast 3 none, Cond.fieldLink RX5 34 "LeastRoutes$View" "leastOne" "LLeastRoutes$Table;", Cond.fieldLink RX5 24 "LeastRoutes$View" "fromAbove" "[I", Cond.methodLink RX5 93 yX3_makeEmpty, Cond.instanceMethod yX3_makeEmpty, Cond.selects RX3 yX3_makeEmpty yX3_makeEmpty, Cond.code yX3_makeEmpty cX3_makeEmpty 1 none, Cond.methodLink RX3 34 yJ7_fill_d0a16, Cond.static yJ7_fill_d0a16, Cond.initialized RJ7, Cond.code yJ7_fill_d0a16 cJ7_fill_d0a16 5 none]
def wsX6_look_r5 : List Cond := [Cond.methodLink RX5 62 yX5_hasBit, Cond.static yX5_hasBit, Cond.code yX5_hasBit cX5_hasBit 2 (some .boolean), Cond.static yX6_lowestHop, Cond.code yX6_lowestHop cX6_lowestHop 1 (some .int), Cond.methodLink RX6 240 yJ6_numberOfTrailingZeros_0f7a4, Cond.static yJ6_numberOfTrailingZeros_0f7a4, Cond.initialized RJ6, Cond.code yJ6_numberOfTrailingZeros_0f7a4 cJ6_numberOfTrailingZeros_0f7a4 2 (some .int), Cond.constant RJ6 264 (65536), Cond.methodLink RX5 99 yX3_put, Cond.instanceMethod yX3_put, Cond.selects RX3 yX3_put yX3_put, Cond.code yX3_put cX3_put 3 none, Cond.static yX6_isPrefix, Cond.code yX6_isPrefix cX6_isPrefix 1 (some .boolean), Cond.static yX6_isHop, Cond.code yX6_isHop cX6_isHop 1 (some .boolean), Cond.methodLink RX3 30 yX3_setPlace, Cond.instanceMethod yX3_setPlace, Cond.selects RX3 yX3_setPlace yX3_setPlace, Cond.code yX3_setPlace cX3_setPlace 4 none, Cond.constantLong RX3 67 (15), Cond.constantLong RX3 69 (-1)]
def wsX6_look_r6 : List Cond := [Cond.methodLink RX6 71 yX5_leastTable, Cond.instanceMethod yX5_leastTable, Cond.selects RX5 yX5_leastTable yX5_leastTable, Cond.code yX5_leastTable cX5_leastTable 1 (some (.object "LeastRoutes$Table"))]
def wsX6_look : List Cond := .code yX6_look cX6_look 3 (some .int) :: ((wsX6_look_r1 ++ (wsX6_look_r2 ++ (wsX6_look_r3 ++ (wsX6_look_r4 ++ (wsX6_look_r5 ++ wsX6_look_r6))))) ++ wsX60 ++ wsX00 ++ wsX10 ++ wsX30 ++ wsX50)
def wsX6_prefix_r1 : List Cond := [Cond.methodLink RX6 74 yX6_isPrefix, Cond.static yX6_isPrefix, Cond.initialized RX6, Cond.code yX6_isPrefix cX6_isPrefix 1 (some .boolean), Cond.methodLink RX6 51 yX6_table, Cond.instanceMethod yX6_table, Cond.selects RX6 yX6_table yX6_table, Cond.code yX6_table cX6_table 1 (some (.object "LeastRoutes$Table")), Cond.fieldLink RX6 10 "LeastRoutes" "history" "LLeastRoutes$History;", Cond.methodLink RX6 181 yX0_present, Cond.instanceMethod yX0_present, Cond.selects RX0 yX0_present yX0_present, Cond.initialized RX0, Cond.code yX0_present cX0_present 1 (some (.object "LeastRoutes$Moment")), Cond.fieldLink RX0 12 "LeastRoutes$History" "now" "LLeastRoutes$Moment;", Cond.methodLink RX6 254 yX1_tableNow, Cond.instanceMethod yX1_tableNow, Cond.selects RX1 yX1_tableNow yX1_tableNow, Cond.initialized RX1, Cond.code yX1_tableNow cX1_tableNow 1 (some (.object "LeastRoutes$Table")), Cond.fieldLink RX1 10 "LeastRoutes$Moment" "told" "LLeastRoutes$Table;", Cond.methodLink RX6 77 yX3_hopAt, Cond.instanceMethod yX3_hopAt, Cond.selects RX3 yX3_hopAt yX3_hopAt]
def wsX6_prefix_r2 : List Cond := [Cond.initialized RX3, Cond.code yX3_hopAt cX3_hopAt 3 (some .int), Cond.fieldLink RX3 9 "LeastRoutes$Table" "places" "[J", Cond.methodLink RX6 64 yX6_installed, Cond.instanceMethod yX6_installed, Cond.selects RX6 yX6_installed yX6_installed, Cond.code yX6_installed cX6_installed 1 (some (.object "LeastRoutes$Table")), Cond.methodLink RX6 257 yX1_installedNow, Cond.instanceMethod yX1_installedNow, Cond.selects RX1 yX1_installedNow yX1_installedNow, Cond.code yX1_installedNow cX1_installedNow 1 (some (.object "LeastRoutes$Table")), Cond.fieldLink RX1 16 "LeastRoutes$Moment" "inUse" "LLeastRoutes$Table;", Cond.methodLink RX6 67 yX6_freshView, Cond.instanceMethod yX6_freshView, Cond.selects RX6 yX6_freshView yX6_freshView, Cond.code yX6_freshView cX6_freshView 1 (some (.object "LeastRoutes$View")), Cond.fieldLink RX6 43 "LeastRoutes" "viewIsOld" "Z", Cond.fieldLink RX6 22 "LeastRoutes" "view" "LLeastRoutes$View;", Cond.methodLink RX6 260 yX5_make, Cond.instanceMethod yX5_make, Cond.selects RX5 yX5_make yX5_make, Cond.initialized RX5, Cond.code yX5_make cX5_make 3 none, Cond.fieldLink RX5 30 "LeastRoutes$View" "inUse" "LLeastRoutes$Table;"]
def wsX6_prefix_r3 : List Cond := [Cond.fieldLink RX5 9 "LeastRoutes$View" "sent" "[I", Cond.fieldLink RX5 15 "LeastRoutes$View" "sentByInstalled" "[I", Cond.methodLink RX5 37 yX3_takeFrom, Cond.instanceMethod yX3_takeFrom, Cond.selects RX3 yX3_takeFrom yX3_takeFrom, Cond.code yX3_takeFrom cX3_takeFrom 2 none, Cond.methodLink RX3 40 arraycopyName, Cond.native arraycopyName, Cond.static arraycopyName, Cond.initialized "java/lang/System", Cond.fieldLink RX3 15 "LeastRoutes$Table" "size" "I", Cond.methodLink RX5 41 yX5_spread, Cond.static yX5_spread, Cond.code yX5_spread cX5_spread 4 none, Cond.methodLink RX5 87 Lib.Math.max.name, Cond.static Lib.Math.max.name, Cond.initialized "java/lang/Math", Cond.code Lib.Math.max.name Lib.Math.max.code 2 (some .int), Cond.methodLink RX5 66 yX3_hopAt, Cond.methodLink RX5 45 yX5_findBest, Cond.instanceMethod yX5_findBest, Cond.selects RX5 yX5_findBest yX5_findBest, Cond.code yX5_findBest cX5_findBest 3 none, Cond.fieldLink RX5 18 "LeastRoutes$View" "best" "[I"]
def wsX6_prefix_r4 : List Cond := [Cond.fieldLink RX5 21 "LeastRoutes$View" "ease" "[I", Cond.methodLink RX5 48 yX5_findLeast, Cond.instanceMethod yX5_findLeast, Cond.selects RX5 yX5_findLeast yX5_findLeast, Cond.code yX5_findLeast cX5_findLeast 3 none, Cond.fieldLink RX5 34 "LeastRoutes$View" "leastOne" "LLeastRoutes$Table;", Cond.fieldLink RX5 24 "LeastRoutes$View" "fromAbove" "[I", Cond.methodLink RX5 93 yX3_makeEmpty, Cond.instanceMethod yX3_makeEmpty, Cond.selects RX3 yX3_makeEmpty yX3_makeEmpty, Cond.code yX3_makeEmpty cX3_makeEmpty 1 none, Cond.methodLink RX3 34 yJ7_fill_d0a16, Cond.static yJ7_fill_d0a16, Cond.initialized RJ7, Cond.code yJ7_fill_d0a16 cJ7_fill_d0a16 5 none, Cond.methodLink RX5 62 yX5_hasBit, Cond.static yX5_hasBit, Cond.code yX5_hasBit cX5_hasBit 2 (some .boolean), Cond.static yX6_lowestHop, Cond.code yX6_lowestHop cX6_lowestHop 1 (some .int), Cond.methodLink RX6 240 yJ6_numberOfTrailingZeros_0f7a4, Cond.static yJ6_numberOfTrailingZeros_0f7a4, Cond.initialized RJ6, Cond.code yJ6_numberOfTrailingZeros_0f7a4 cJ6_numberOfTrailingZeros_0f7a4 2 (some .int)]
def wsX6_prefix_r5 : List Cond := [Cond.constant RJ6 264 (65536), Cond.methodLink RX5 99 yX3_put, Cond.instanceMethod yX3_put, Cond.selects RX3 yX3_put yX3_put, Cond.code yX3_put cX3_put 3 none, Cond.static yX6_isHop, Cond.code yX6_isHop cX6_isHop 1 (some .boolean), Cond.methodLink RX3 26 yX3_hopAt, Cond.methodLink RX3 30 yX3_setPlace, Cond.instanceMethod yX3_setPlace, Cond.selects RX3 yX3_setPlace yX3_setPlace, Cond.code yX3_setPlace cX3_setPlace 4 none, Cond.constantLong RX3 67 (15), Cond.constantLong RX3 69 (-1), Cond.methodLink RX6 71 yX5_leastTable, Cond.instanceMethod yX5_leastTable, Cond.selects RX5 yX5_leastTable yX5_leastTable, Cond.code yX5_leastTable cX5_leastTable 1 (some (.object "LeastRoutes$Table")), Cond.methodLink RX6 80 yX5_bestHops, Cond.instanceMethod yX5_bestHops, Cond.selects RX5 yX5_bestHops yX5_bestHops, Cond.code yX5_bestHops cX5_bestHops 2 (some .int), Cond.methodLink RX6 83 yX5_easeOf, Cond.instanceMethod yX5_easeOf]
def wsX6_prefix_r6 : List Cond := [Cond.selects RX5 yX5_easeOf yX5_easeOf, Cond.code yX5_easeOf cX5_easeOf 2 (some .int), Cond.methodLink RX6 86 yX5_hopsBeneath, Cond.instanceMethod yX5_hopsBeneath, Cond.selects RX5 yX5_hopsBeneath yX5_hopsBeneath, Cond.code yX5_hopsBeneath cX5_hopsBeneath 2 (some .int), Cond.methodLink RX6 89 yX3_redundancyOf, Cond.instanceMethod yX3_redundancyOf, Cond.selects RX3 yX3_redundancyOf yX3_redundancyOf, Cond.code yX3_redundancyOf cX3_redundancyOf 3 (some .int), Cond.methodLink RX3 52 yX3_hopFromAbove, Cond.instanceMethod yX3_hopFromAbove, Cond.selects RX3 yX3_hopFromAbove yX3_hopFromAbove, Cond.code yX3_hopFromAbove cX3_hopFromAbove 4 (some .int), Cond.methodLink RX3 55 yX3_decidesAny, Cond.instanceMethod yX3_decidesAny, Cond.selects RX3 yX3_decidesAny yX3_decidesAny, Cond.code yX3_decidesAny cX3_decidesAny 5 (some .boolean), Cond.static yX6_firstAddress, Cond.code yX6_firstAddress cX6_firstAddress 1 (some .int), Cond.methodLink RX6 251 yX6_bitsOf, Cond.static yX6_bitsOf, Cond.code yX6_bitsOf cX6_bitsOf 1 (some .int), Cond.methodLink RX6 248 yJ6_numberOfLeadingZeros_0f7a4]
def wsX6_prefix_r7 : List Cond := [Cond.static yJ6_numberOfLeadingZeros_0f7a4, Cond.code yJ6_numberOfLeadingZeros_0f7a4 cJ6_numberOfLeadingZeros_0f7a4 2 (some .int), Cond.static yX6_howManyAddresses, Cond.code yX6_howManyAddresses cX6_howManyAddresses 1 (some .int), Cond.methodLink RX3 46 yX3_deciderOf, Cond.instanceMethod yX3_deciderOf, Cond.selects RX3 yX3_deciderOf yX3_deciderOf, Cond.code yX3_deciderOf cX3_deciderOf 4 (some .int)]
def wsX6_prefix : List Cond := .code yX6_prefix cX6_prefix 3 (some .int) :: ((wsX6_prefix_r1 ++ (wsX6_prefix_r2 ++ (wsX6_prefix_r3 ++ (wsX6_prefix_r4 ++ (wsX6_prefix_r5 ++ (wsX6_prefix_r6 ++ wsX6_prefix_r7)))))) ++ wsX60 ++ wsX00 ++ wsX10 ++ wsX30 ++ wsX50)
def wsX6_cost_r1 : List Cond := [Cond.methodLink RX6 74 yX6_isPrefix, Cond.static yX6_isPrefix, Cond.initialized RX6, Cond.code yX6_isPrefix cX6_isPrefix 1 (some .boolean), Cond.methodLink RX6 92 yX6_isHop, Cond.static yX6_isHop, Cond.code yX6_isHop cX6_isHop 1 (some .boolean), Cond.methodLink RX6 67 yX6_freshView, Cond.instanceMethod yX6_freshView, Cond.selects RX6 yX6_freshView yX6_freshView, Cond.code yX6_freshView cX6_freshView 1 (some (.object "LeastRoutes$View")), Cond.fieldLink RX6 43 "LeastRoutes" "viewIsOld" "Z", Cond.fieldLink RX6 22 "LeastRoutes" "view" "LLeastRoutes$View;", Cond.methodLink RX6 51 yX6_table, Cond.instanceMethod yX6_table, Cond.selects RX6 yX6_table yX6_table, Cond.code yX6_table cX6_table 1 (some (.object "LeastRoutes$Table")), Cond.fieldLink RX6 10 "LeastRoutes" "history" "LLeastRoutes$History;", Cond.methodLink RX6 181 yX0_present, Cond.instanceMethod yX0_present, Cond.selects RX0 yX0_present yX0_present, Cond.initialized RX0, Cond.code yX0_present cX0_present 1 (some (.object "LeastRoutes$Moment")), Cond.fieldLink RX0 12 "LeastRoutes$History" "now" "LLeastRoutes$Moment;"]
def wsX6_cost_r2 : List Cond := [Cond.methodLink RX6 254 yX1_tableNow, Cond.instanceMethod yX1_tableNow, Cond.selects RX1 yX1_tableNow yX1_tableNow, Cond.initialized RX1, Cond.code yX1_tableNow cX1_tableNow 1 (some (.object "LeastRoutes$Table")), Cond.fieldLink RX1 10 "LeastRoutes$Moment" "told" "LLeastRoutes$Table;", Cond.methodLink RX6 64 yX6_installed, Cond.instanceMethod yX6_installed, Cond.selects RX6 yX6_installed yX6_installed, Cond.code yX6_installed cX6_installed 1 (some (.object "LeastRoutes$Table")), Cond.methodLink RX6 257 yX1_installedNow, Cond.instanceMethod yX1_installedNow, Cond.selects RX1 yX1_installedNow yX1_installedNow, Cond.code yX1_installedNow cX1_installedNow 1 (some (.object "LeastRoutes$Table")), Cond.fieldLink RX1 16 "LeastRoutes$Moment" "inUse" "LLeastRoutes$Table;", Cond.methodLink RX6 260 yX5_make, Cond.instanceMethod yX5_make, Cond.selects RX5 yX5_make yX5_make, Cond.initialized RX5, Cond.code yX5_make cX5_make 3 none, Cond.fieldLink RX5 30 "LeastRoutes$View" "inUse" "LLeastRoutes$Table;", Cond.fieldLink RX5 9 "LeastRoutes$View" "sent" "[I", Cond.fieldLink RX5 15 "LeastRoutes$View" "sentByInstalled" "[I", Cond.methodLink RX5 37 yX3_takeFrom]
def wsX6_cost_r3 : List Cond := [Cond.instanceMethod yX3_takeFrom, Cond.selects RX3 yX3_takeFrom yX3_takeFrom, Cond.initialized RX3, Cond.code yX3_takeFrom cX3_takeFrom 2 none, Cond.fieldLink RX3 9 "LeastRoutes$Table" "places" "[J", Cond.methodLink RX3 40 arraycopyName, Cond.native arraycopyName, Cond.static arraycopyName, Cond.initialized "java/lang/System", Cond.fieldLink RX3 15 "LeastRoutes$Table" "size" "I", Cond.methodLink RX5 41 yX5_spread, Cond.static yX5_spread, Cond.code yX5_spread cX5_spread 4 none, Cond.methodLink RX5 87 Lib.Math.max.name, Cond.static Lib.Math.max.name, Cond.initialized "java/lang/Math", Cond.code Lib.Math.max.name Lib.Math.max.code 2 (some .int), Cond.methodLink RX5 66 yX3_hopAt, Cond.instanceMethod yX3_hopAt, Cond.selects RX3 yX3_hopAt yX3_hopAt, Cond.code yX3_hopAt cX3_hopAt 3 (some .int), Cond.methodLink RX5 45 yX5_findBest, Cond.instanceMethod yX5_findBest, Cond.selects RX5 yX5_findBest yX5_findBest]
def wsX6_cost_r4 : List Cond := [Cond.code yX5_findBest cX5_findBest 3 none, Cond.fieldLink RX5 18 "LeastRoutes$View" "best" "[I", Cond.fieldLink RX5 21 "LeastRoutes$View" "ease" "[I", Cond.methodLink RX5 48 yX5_findLeast, Cond.instanceMethod yX5_findLeast, Cond.selects RX5 yX5_findLeast yX5_findLeast, Cond.code yX5_findLeast cX5_findLeast 3 none, Cond.fieldLink RX5 34 "LeastRoutes$View" "leastOne" "LLeastRoutes$Table;", Cond.fieldLink RX5 24 "LeastRoutes$View" "fromAbove" "[I", Cond.methodLink RX5 93 yX3_makeEmpty, Cond.instanceMethod yX3_makeEmpty, Cond.selects RX3 yX3_makeEmpty yX3_makeEmpty, Cond.code yX3_makeEmpty cX3_makeEmpty 1 none, Cond.methodLink RX3 34 yJ7_fill_d0a16, Cond.static yJ7_fill_d0a16, Cond.initialized RJ7, Cond.code yJ7_fill_d0a16 cJ7_fill_d0a16 5 none, Cond.methodLink RX5 62 yX5_hasBit, Cond.static yX5_hasBit, Cond.code yX5_hasBit cX5_hasBit 2 (some .boolean), Cond.static yX6_lowestHop, Cond.code yX6_lowestHop cX6_lowestHop 1 (some .int), Cond.methodLink RX6 240 yJ6_numberOfTrailingZeros_0f7a4, Cond.static yJ6_numberOfTrailingZeros_0f7a4]
def wsX6_cost_r5 : List Cond := [Cond.initialized RJ6, Cond.code yJ6_numberOfTrailingZeros_0f7a4 cJ6_numberOfTrailingZeros_0f7a4 2 (some .int), Cond.constant RJ6 264 (65536), Cond.methodLink RX5 99 yX3_put, Cond.instanceMethod yX3_put, Cond.selects RX3 yX3_put yX3_put, Cond.code yX3_put cX3_put 3 none, Cond.methodLink RX3 26 yX3_hopAt, Cond.methodLink RX3 30 yX3_setPlace, Cond.instanceMethod yX3_setPlace, Cond.selects RX3 yX3_setPlace yX3_setPlace, Cond.code yX3_setPlace cX3_setPlace 4 none, Cond.constantLong RX3 67 (15), Cond.constantLong RX3 69 (-1), Cond.methodLink RX6 95 yX5_costBy, Cond.instanceMethod yX5_costBy, Cond.selects RX5 yX5_costBy yX5_costBy, Cond.code yX5_costBy cX5_costBy 3 (some .int), Cond.methodLink RX5 55 yX5_easeOf, Cond.instanceMethod yX5_easeOf, Cond.selects RX5 yX5_easeOf yX5_easeOf, Cond.code yX5_easeOf cX5_easeOf 2 (some .int), Cond.methodLink RX5 59 yX5_bestHops, Cond.instanceMethod yX5_bestHops]
def wsX6_cost_r6 : List Cond := [Cond.selects RX5 yX5_bestHops yX5_bestHops, Cond.code yX5_bestHops cX5_bestHops 2 (some .int)]
def wsX6_cost : List Cond := .code yX6_cost cX6_cost 3 (some .int) :: ((wsX6_cost_r1 ++ (wsX6_cost_r2 ++ (wsX6_cost_r3 ++ (wsX6_cost_r4 ++ (wsX6_cost_r5 ++ wsX6_cost_r6))))) ++ wsX60 ++ wsX00 ++ wsX10 ++ wsX50 ++ wsX30)
def wsX6_least_r1 : List Cond := [Cond.methodLink RX6 67 yX6_freshView, Cond.instanceMethod yX6_freshView, Cond.selects RX6 yX6_freshView yX6_freshView, Cond.initialized RX6, Cond.code yX6_freshView cX6_freshView 1 (some (.object "LeastRoutes$View")), Cond.fieldLink RX6 43 "LeastRoutes" "viewIsOld" "Z", Cond.fieldLink RX6 22 "LeastRoutes" "view" "LLeastRoutes$View;", Cond.methodLink RX6 51 yX6_table, Cond.instanceMethod yX6_table, Cond.selects RX6 yX6_table yX6_table, Cond.code yX6_table cX6_table 1 (some (.object "LeastRoutes$Table")), Cond.fieldLink RX6 10 "LeastRoutes" "history" "LLeastRoutes$History;", Cond.methodLink RX6 181 yX0_present, Cond.instanceMethod yX0_present, Cond.selects RX0 yX0_present yX0_present, Cond.initialized RX0, Cond.code yX0_present cX0_present 1 (some (.object "LeastRoutes$Moment")), Cond.fieldLink RX0 12 "LeastRoutes$History" "now" "LLeastRoutes$Moment;", Cond.methodLink RX6 254 yX1_tableNow, Cond.instanceMethod yX1_tableNow, Cond.selects RX1 yX1_tableNow yX1_tableNow, Cond.initialized RX1, Cond.code yX1_tableNow cX1_tableNow 1 (some (.object "LeastRoutes$Table")), Cond.fieldLink RX1 10 "LeastRoutes$Moment" "told" "LLeastRoutes$Table;"]
def wsX6_least_r2 : List Cond := [Cond.methodLink RX6 64 yX6_installed, Cond.instanceMethod yX6_installed, Cond.selects RX6 yX6_installed yX6_installed, Cond.code yX6_installed cX6_installed 1 (some (.object "LeastRoutes$Table")), Cond.methodLink RX6 257 yX1_installedNow, Cond.instanceMethod yX1_installedNow, Cond.selects RX1 yX1_installedNow yX1_installedNow, Cond.code yX1_installedNow cX1_installedNow 1 (some (.object "LeastRoutes$Table")), Cond.fieldLink RX1 16 "LeastRoutes$Moment" "inUse" "LLeastRoutes$Table;", Cond.methodLink RX6 260 yX5_make, Cond.instanceMethod yX5_make, Cond.selects RX5 yX5_make yX5_make, Cond.initialized RX5, Cond.code yX5_make cX5_make 3 none, Cond.fieldLink RX5 30 "LeastRoutes$View" "inUse" "LLeastRoutes$Table;", Cond.fieldLink RX5 9 "LeastRoutes$View" "sent" "[I", Cond.fieldLink RX5 15 "LeastRoutes$View" "sentByInstalled" "[I", Cond.methodLink RX5 37 yX3_takeFrom, Cond.instanceMethod yX3_takeFrom, Cond.selects RX3 yX3_takeFrom yX3_takeFrom, Cond.initialized RX3, Cond.code yX3_takeFrom cX3_takeFrom 2 none, Cond.fieldLink RX3 9 "LeastRoutes$Table" "places" "[J", Cond.methodLink RX3 40 arraycopyName]
def wsX6_least_r3 : List Cond := [Cond.native arraycopyName, Cond.static arraycopyName, Cond.initialized "java/lang/System", Cond.fieldLink RX3 15 "LeastRoutes$Table" "size" "I", Cond.methodLink RX5 41 yX5_spread, Cond.static yX5_spread, Cond.code yX5_spread cX5_spread 4 none, Cond.methodLink RX5 87 Lib.Math.max.name, Cond.static Lib.Math.max.name, Cond.initialized "java/lang/Math", Cond.code Lib.Math.max.name Lib.Math.max.code 2 (some .int), Cond.methodLink RX5 66 yX3_hopAt, Cond.instanceMethod yX3_hopAt, Cond.selects RX3 yX3_hopAt yX3_hopAt, Cond.code yX3_hopAt cX3_hopAt 3 (some .int), Cond.methodLink RX5 45 yX5_findBest, Cond.instanceMethod yX5_findBest, Cond.selects RX5 yX5_findBest yX5_findBest, Cond.code yX5_findBest cX5_findBest 3 none, Cond.fieldLink RX5 18 "LeastRoutes$View" "best" "[I", Cond.fieldLink RX5 21 "LeastRoutes$View" "ease" "[I", Cond.methodLink RX5 48 yX5_findLeast, Cond.instanceMethod yX5_findLeast, Cond.selects RX5 yX5_findLeast yX5_findLeast]
def wsX6_least_r4 : List Cond := [Cond.code yX5_findLeast cX5_findLeast 3 none, Cond.fieldLink RX5 34 "LeastRoutes$View" "leastOne" "LLeastRoutes$Table;", Cond.fieldLink RX5 24 "LeastRoutes$View" "fromAbove" "[I", Cond.methodLink RX5 93 yX3_makeEmpty, Cond.instanceMethod yX3_makeEmpty, Cond.selects RX3 yX3_makeEmpty yX3_makeEmpty, Cond.code yX3_makeEmpty cX3_makeEmpty 1 none, Cond.methodLink RX3 34 yJ7_fill_d0a16, Cond.static yJ7_fill_d0a16, Cond.initialized RJ7, Cond.code yJ7_fill_d0a16 cJ7_fill_d0a16 5 none, Cond.methodLink RX5 62 yX5_hasBit, Cond.static yX5_hasBit, Cond.code yX5_hasBit cX5_hasBit 2 (some .boolean), Cond.static yX6_lowestHop, Cond.code yX6_lowestHop cX6_lowestHop 1 (some .int), Cond.methodLink RX6 240 yJ6_numberOfTrailingZeros_0f7a4, Cond.static yJ6_numberOfTrailingZeros_0f7a4, Cond.initialized RJ6, Cond.code yJ6_numberOfTrailingZeros_0f7a4 cJ6_numberOfTrailingZeros_0f7a4 2 (some .int), Cond.constant RJ6 264 (65536), Cond.methodLink RX5 99 yX3_put, Cond.instanceMethod yX3_put, Cond.selects RX3 yX3_put yX3_put]
def wsX6_least_r5 : List Cond := [Cond.code yX3_put cX3_put 3 none, Cond.static yX6_isPrefix, Cond.code yX6_isPrefix cX6_isPrefix 1 (some .boolean), Cond.static yX6_isHop, Cond.code yX6_isHop cX6_isHop 1 (some .boolean), Cond.methodLink RX3 26 yX3_hopAt, Cond.methodLink RX3 30 yX3_setPlace, Cond.instanceMethod yX3_setPlace, Cond.selects RX3 yX3_setPlace yX3_setPlace, Cond.code yX3_setPlace cX3_setPlace 4 none, Cond.constantLong RX3 67 (15), Cond.constantLong RX3 69 (-1), Cond.methodLink RX6 71 yX5_leastTable, Cond.instanceMethod yX5_leastTable, Cond.selects RX5 yX5_leastTable yX5_leastTable, Cond.code yX5_leastTable cX5_leastTable 1 (some (.object "LeastRoutes$Table")), Cond.methodLink RX6 99 yX3_numberOf, Cond.instanceMethod yX3_numberOf, Cond.selects RX3 yX3_numberOf yX3_numberOf, Cond.code yX3_numberOf cX3_numberOf 4 (some .int), Cond.methodLink RX6 77 yX3_hopAt]
def wsX6_least : List Cond := .code yX6_least cX6_least 5 (some .int) :: ((wsX6_least_r1 ++ (wsX6_least_r2 ++ (wsX6_least_r3 ++ (wsX6_least_r4 ++ wsX6_least_r5)))) ++ wsX60 ++ wsX00 ++ wsX10 ++ wsX50 ++ wsX30)
def wsX6_count_r1 : List Cond := [Cond.fieldLink RX6 10 "LeastRoutes" "history" "LLeastRoutes$History;", Cond.methodLink RX6 51 yX6_table, Cond.instanceMethod yX6_table, Cond.selects RX6 yX6_table yX6_table, Cond.initialized RX6, Cond.code yX6_table cX6_table 1 (some (.object "LeastRoutes$Table")), Cond.methodLink RX6 181 yX0_present, Cond.instanceMethod yX0_present, Cond.selects RX0 yX0_present yX0_present, Cond.initialized RX0, Cond.code yX0_present cX0_present 1 (some (.object "LeastRoutes$Moment")), Cond.fieldLink RX0 12 "LeastRoutes$History" "now" "LLeastRoutes$Moment;", Cond.methodLink RX6 254 yX1_tableNow, Cond.instanceMethod yX1_tableNow, Cond.selects RX1 yX1_tableNow yX1_tableNow, Cond.initialized RX1, Cond.code yX1_tableNow cX1_tableNow 1 (some (.object "LeastRoutes$Table")), Cond.fieldLink RX1 10 "LeastRoutes$Moment" "told" "LLeastRoutes$Table;", Cond.methodLink RX6 102 yX3_howMany, Cond.instanceMethod yX3_howMany, Cond.selects RX3 yX3_howMany yX3_howMany, Cond.initialized RX3, Cond.code yX3_howMany cX3_howMany 1 (some .int), Cond.fieldLink RX3 15 "LeastRoutes$Table" "size" "I"]
def wsX6_count_r2 : List Cond := [Cond.methodLink RX6 67 yX6_freshView, Cond.instanceMethod yX6_freshView, Cond.selects RX6 yX6_freshView yX6_freshView, Cond.code yX6_freshView cX6_freshView 1 (some (.object "LeastRoutes$View")), Cond.fieldLink RX6 43 "LeastRoutes" "viewIsOld" "Z", Cond.fieldLink RX6 22 "LeastRoutes" "view" "LLeastRoutes$View;", Cond.methodLink RX6 64 yX6_installed, Cond.instanceMethod yX6_installed, Cond.selects RX6 yX6_installed yX6_installed, Cond.code yX6_installed cX6_installed 1 (some (.object "LeastRoutes$Table")), Cond.methodLink RX6 257 yX1_installedNow, Cond.instanceMethod yX1_installedNow, Cond.selects RX1 yX1_installedNow yX1_installedNow, Cond.code yX1_installedNow cX1_installedNow 1 (some (.object "LeastRoutes$Table")), Cond.fieldLink RX1 16 "LeastRoutes$Moment" "inUse" "LLeastRoutes$Table;", Cond.methodLink RX6 260 yX5_make, Cond.instanceMethod yX5_make, Cond.selects RX5 yX5_make yX5_make, Cond.initialized RX5, Cond.code yX5_make cX5_make 3 none, Cond.fieldLink RX5 30 "LeastRoutes$View" "inUse" "LLeastRoutes$Table;", Cond.fieldLink RX5 9 "LeastRoutes$View" "sent" "[I", Cond.fieldLink RX5 15 "LeastRoutes$View" "sentByInstalled" "[I", Cond.methodLink RX5 37 yX3_takeFrom]
def wsX6_count_r3 : List Cond := [Cond.instanceMethod yX3_takeFrom, Cond.selects RX3 yX3_takeFrom yX3_takeFrom, Cond.code yX3_takeFrom cX3_takeFrom 2 none, Cond.fieldLink RX3 9 "LeastRoutes$Table" "places" "[J", Cond.methodLink RX3 40 arraycopyName, Cond.native arraycopyName, Cond.static arraycopyName, Cond.initialized "java/lang/System", Cond.methodLink RX5 41 yX5_spread, Cond.static yX5_spread, Cond.code yX5_spread cX5_spread 4 none, Cond.methodLink RX5 87 Lib.Math.max.name, Cond.static Lib.Math.max.name, Cond.initialized "java/lang/Math", Cond.code Lib.Math.max.name Lib.Math.max.code 2 (some .int), Cond.methodLink RX5 66 yX3_hopAt, Cond.instanceMethod yX3_hopAt, Cond.selects RX3 yX3_hopAt yX3_hopAt, Cond.code yX3_hopAt cX3_hopAt 3 (some .int), Cond.methodLink RX5 45 yX5_findBest, Cond.instanceMethod yX5_findBest, Cond.selects RX5 yX5_findBest yX5_findBest, Cond.code yX5_findBest cX5_findBest 3 none, Cond.fieldLink RX5 18 "LeastRoutes$View" "best" "[I"]
def wsX6_count_r4 : List Cond := [Cond.fieldLink RX5 21 "LeastRoutes$View" "ease" "[I", Cond.methodLink RX5 48 yX5_findLeast, Cond.instanceMethod yX5_findLeast, Cond.selects RX5 yX5_findLeast yX5_findLeast, Cond.code yX5_findLeast cX5_findLeast 3 none, Cond.fieldLink RX5 34 "LeastRoutes$View" "leastOne" "LLeastRoutes$Table;", Cond.fieldLink RX5 24 "LeastRoutes$View" "fromAbove" "[I", Cond.methodLink RX5 93 yX3_makeEmpty, Cond.instanceMethod yX3_makeEmpty, Cond.selects RX3 yX3_makeEmpty yX3_makeEmpty, Cond.code yX3_makeEmpty cX3_makeEmpty 1 none, Cond.methodLink RX3 34 yJ7_fill_d0a16, Cond.static yJ7_fill_d0a16, Cond.initialized RJ7, Cond.code yJ7_fill_d0a16 cJ7_fill_d0a16 5 none, Cond.methodLink RX5 62 yX5_hasBit, Cond.static yX5_hasBit, Cond.code yX5_hasBit cX5_hasBit 2 (some .boolean), Cond.static yX6_lowestHop, Cond.code yX6_lowestHop cX6_lowestHop 1 (some .int), Cond.methodLink RX6 240 yJ6_numberOfTrailingZeros_0f7a4, Cond.static yJ6_numberOfTrailingZeros_0f7a4, Cond.initialized RJ6, Cond.code yJ6_numberOfTrailingZeros_0f7a4 cJ6_numberOfTrailingZeros_0f7a4 2 (some .int)]
def wsX6_count_r5 : List Cond := [Cond.constant RJ6 264 (65536), Cond.methodLink RX5 99 yX3_put, Cond.instanceMethod yX3_put, Cond.selects RX3 yX3_put yX3_put, Cond.code yX3_put cX3_put 3 none, Cond.static yX6_isPrefix, Cond.code yX6_isPrefix cX6_isPrefix 1 (some .boolean), Cond.static yX6_isHop, Cond.code yX6_isHop cX6_isHop 1 (some .boolean), Cond.methodLink RX3 26 yX3_hopAt, Cond.methodLink RX3 30 yX3_setPlace, Cond.instanceMethod yX3_setPlace, Cond.selects RX3 yX3_setPlace yX3_setPlace, Cond.code yX3_setPlace cX3_setPlace 4 none, Cond.constantLong RX3 67 (15), Cond.constantLong RX3 69 (-1), Cond.methodLink RX6 71 yX5_leastTable, Cond.instanceMethod yX5_leastTable, Cond.selects RX5 yX5_leastTable yX5_leastTable, Cond.code yX5_leastTable cX5_leastTable 1 (some (.object "LeastRoutes$Table")), Cond.methodLink RX6 106 yX5_countChanges, Cond.instanceMethod yX5_countChanges, Cond.selects RX5 yX5_countChanges yX5_countChanges, Cond.code yX5_countChanges cX5_countChanges 3 (some .int)]
def wsX6_count_r6 : List Cond := [Cond.methodLink RX5 69 yX5_kindOfChange, Cond.instanceMethod yX5_kindOfChange, Cond.selects RX5 yX5_kindOfChange yX5_kindOfChange, Cond.code yX5_kindOfChange cX5_kindOfChange 4 (some .int), Cond.methodLink RX6 109 yX5_countProof, Cond.instanceMethod yX5_countProof, Cond.selects RX5 yX5_countProof yX5_countProof, Cond.code yX5_countProof cX5_countProof 3 (some .int), Cond.methodLink RX5 72 yX5_proofFrom, Cond.instanceMethod yX5_proofFrom, Cond.selects RX5 yX5_proofFrom yX5_proofFrom, Cond.code yX5_proofFrom cX5_proofFrom 4 (some .int), Cond.methodLink RX5 75 yX5_hopsBeneath, Cond.instanceMethod yX5_hopsBeneath, Cond.selects RX5 yX5_hopsBeneath yX5_hopsBeneath, Cond.code yX5_hopsBeneath cX5_hopsBeneath 2 (some .int), Cond.static yX6_isOneHop, Cond.code yX6_isOneHop cX6_isOneHop 1 (some .boolean), Cond.methodLink RX6 245 yJ6_bitCount_0f7a4, Cond.static yJ6_bitCount_0f7a4, Cond.code yJ6_bitCount_0f7a4 cJ6_bitCount_0f7a4 1 (some .int), Cond.constant RJ6 265 (1431655765), Cond.constant RJ6 266 (858993459), Cond.constant RJ6 267 (252645135)]
def wsX6_count_r7 : List Cond := [Cond.methodLink RX5 81 yX5_installedHopsBeneath, Cond.instanceMethod yX5_installedHopsBeneath, Cond.selects RX5 yX5_installedHopsBeneath yX5_installedHopsBeneath, Cond.code yX5_installedHopsBeneath cX5_installedHopsBeneath 2 (some .int), Cond.static yX6_firstAddress, Cond.code yX6_firstAddress cX6_firstAddress 1 (some .int), Cond.methodLink RX6 251 yX6_bitsOf, Cond.static yX6_bitsOf, Cond.code yX6_bitsOf cX6_bitsOf 1 (some .int), Cond.methodLink RX6 248 yJ6_numberOfLeadingZeros_0f7a4, Cond.static yJ6_numberOfLeadingZeros_0f7a4, Cond.code yJ6_numberOfLeadingZeros_0f7a4 cJ6_numberOfLeadingZeros_0f7a4 2 (some .int), Cond.methodLink RX6 112 yX3_countRedundant, Cond.instanceMethod yX3_countRedundant, Cond.selects RX3 yX3_countRedundant yX3_countRedundant, Cond.code yX3_countRedundant cX3_countRedundant 3 (some .int), Cond.methodLink RX3 58 yX3_redundancyOf, Cond.instanceMethod yX3_redundancyOf, Cond.selects RX3 yX3_redundancyOf yX3_redundancyOf, Cond.code yX3_redundancyOf cX3_redundancyOf 3 (some .int), Cond.methodLink RX3 52 yX3_hopFromAbove, Cond.instanceMethod yX3_hopFromAbove, Cond.selects RX3 yX3_hopFromAbove yX3_hopFromAbove, Cond.code yX3_hopFromAbove cX3_hopFromAbove 4 (some .int)]
def wsX6_count_r8 : List Cond := [Cond.methodLink RX3 55 yX3_decidesAny, Cond.instanceMethod yX3_decidesAny, Cond.selects RX3 yX3_decidesAny yX3_decidesAny, Cond.code yX3_decidesAny cX3_decidesAny 5 (some .boolean), Cond.static yX6_howManyAddresses, Cond.code yX6_howManyAddresses cX6_howManyAddresses 1 (some .int), Cond.methodLink RX3 46 yX3_deciderOf, Cond.instanceMethod yX3_deciderOf, Cond.selects RX3 yX3_deciderOf yX3_deciderOf, Cond.code yX3_deciderOf cX3_deciderOf 4 (some .int), Cond.methodLink RX6 115 yX5_firstSentElsewhere, Cond.instanceMethod yX5_firstSentElsewhere, Cond.selects RX5 yX5_firstSentElsewhere yX5_firstSentElsewhere, Cond.code yX5_firstSentElsewhere cX5_firstSentElsewhere 2 (some .int), Cond.methodLink RX6 118 yX0_howManyKnown, Cond.instanceMethod yX0_howManyKnown, Cond.selects RX0 yX0_howManyKnown yX0_howManyKnown, Cond.code yX0_howManyKnown cX0_howManyKnown 1 (some .int), Cond.fieldLink RX0 22 "LeastRoutes$History" "size" "I"]
def wsX6_count : List Cond := .code yX6_count cX6_count 2 (some .int) :: ((wsX6_count_r1 ++ (wsX6_count_r2 ++ (wsX6_count_r3 ++ (wsX6_count_r4 ++ (wsX6_count_r5 ++ (wsX6_count_r6 ++ (wsX6_count_r7 ++ wsX6_count_r8))))))) ++ wsX60 ++ wsX00 ++ wsX10 ++ wsX30 ++ wsX50)
def wsX6_change_r1 : List Cond := [Cond.methodLink RX6 67 yX6_freshView, Cond.instanceMethod yX6_freshView, Cond.selects RX6 yX6_freshView yX6_freshView, Cond.initialized RX6, Cond.code yX6_freshView cX6_freshView 1 (some (.object "LeastRoutes$View")), Cond.fieldLink RX6 43 "LeastRoutes" "viewIsOld" "Z", Cond.fieldLink RX6 22 "LeastRoutes" "view" "LLeastRoutes$View;", Cond.methodLink RX6 51 yX6_table, Cond.instanceMethod yX6_table, Cond.selects RX6 yX6_table yX6_table, Cond.code yX6_table cX6_table 1 (some (.object "LeastRoutes$Table")), Cond.fieldLink RX6 10 "LeastRoutes" "history" "LLeastRoutes$History;", Cond.methodLink RX6 181 yX0_present, Cond.instanceMethod yX0_present, Cond.selects RX0 yX0_present yX0_present, Cond.initialized RX0, Cond.code yX0_present cX0_present 1 (some (.object "LeastRoutes$Moment")), Cond.fieldLink RX0 12 "LeastRoutes$History" "now" "LLeastRoutes$Moment;", Cond.methodLink RX6 254 yX1_tableNow, Cond.instanceMethod yX1_tableNow, Cond.selects RX1 yX1_tableNow yX1_tableNow, Cond.initialized RX1, Cond.code yX1_tableNow cX1_tableNow 1 (some (.object "LeastRoutes$Table")), Cond.fieldLink RX1 10 "LeastRoutes$Moment" "told" "LLeastRoutes$Table;"]
def wsX6_change_r2 : List Cond := [Cond.methodLink RX6 64 yX6_installed, Cond.instanceMethod yX6_installed, Cond.selects RX6 yX6_installed yX6_installed, Cond.code yX6_installed cX6_installed 1 (some (.object "LeastRoutes$Table")), Cond.methodLink RX6 257 yX1_installedNow, Cond.instanceMethod yX1_installedNow, Cond.selects RX1 yX1_installedNow yX1_installedNow, Cond.code yX1_installedNow cX1_installedNow 1 (some (.object "LeastRoutes$Table")), Cond.fieldLink RX1 16 "LeastRoutes$Moment" "inUse" "LLeastRoutes$Table;", Cond.methodLink RX6 260 yX5_make, Cond.instanceMethod yX5_make, Cond.selects RX5 yX5_make yX5_make, Cond.initialized RX5, Cond.code yX5_make cX5_make 3 none, Cond.fieldLink RX5 30 "LeastRoutes$View" "inUse" "LLeastRoutes$Table;", Cond.fieldLink RX5 9 "LeastRoutes$View" "sent" "[I", Cond.fieldLink RX5 15 "LeastRoutes$View" "sentByInstalled" "[I", Cond.methodLink RX5 37 yX3_takeFrom, Cond.instanceMethod yX3_takeFrom, Cond.selects RX3 yX3_takeFrom yX3_takeFrom, Cond.initialized RX3, Cond.code yX3_takeFrom cX3_takeFrom 2 none, Cond.fieldLink RX3 9 "LeastRoutes$Table" "places" "[J", Cond.methodLink RX3 40 arraycopyName]
def wsX6_change_r3 : List Cond := [Cond.native arraycopyName, Cond.static arraycopyName, Cond.initialized "java/lang/System", Cond.fieldLink RX3 15 "LeastRoutes$Table" "size" "I", Cond.methodLink RX5 41 yX5_spread, Cond.static yX5_spread, Cond.code yX5_spread cX5_spread 4 none, Cond.methodLink RX5 87 Lib.Math.max.name, Cond.static Lib.Math.max.name, Cond.initialized "java/lang/Math", Cond.code Lib.Math.max.name Lib.Math.max.code 2 (some .int), Cond.methodLink RX5 66 yX3_hopAt, Cond.instanceMethod yX3_hopAt, Cond.selects RX3 yX3_hopAt yX3_hopAt, Cond.code yX3_hopAt cX3_hopAt 3 (some .int), Cond.methodLink RX5 45 yX5_findBest, Cond.instanceMethod yX5_findBest, Cond.selects RX5 yX5_findBest yX5_findBest, Cond.code yX5_findBest cX5_findBest 3 none, Cond.fieldLink RX5 18 "LeastRoutes$View" "best" "[I", Cond.fieldLink RX5 21 "LeastRoutes$View" "ease" "[I", Cond.methodLink RX5 48 yX5_findLeast, Cond.instanceMethod yX5_findLeast, Cond.selects RX5 yX5_findLeast yX5_findLeast]
def wsX6_change_r4 : List Cond := [Cond.code yX5_findLeast cX5_findLeast 3 none, Cond.fieldLink RX5 34 "LeastRoutes$View" "leastOne" "LLeastRoutes$Table;", Cond.fieldLink RX5 24 "LeastRoutes$View" "fromAbove" "[I", Cond.methodLink RX5 93 yX3_makeEmpty, Cond.instanceMethod yX3_makeEmpty, Cond.selects RX3 yX3_makeEmpty yX3_makeEmpty, Cond.code yX3_makeEmpty cX3_makeEmpty 1 none, Cond.methodLink RX3 34 yJ7_fill_d0a16, Cond.static yJ7_fill_d0a16, Cond.initialized RJ7, Cond.code yJ7_fill_d0a16 cJ7_fill_d0a16 5 none, Cond.methodLink RX5 62 yX5_hasBit, Cond.static yX5_hasBit, Cond.code yX5_hasBit cX5_hasBit 2 (some .boolean), Cond.static yX6_lowestHop, Cond.code yX6_lowestHop cX6_lowestHop 1 (some .int), Cond.methodLink RX6 240 yJ6_numberOfTrailingZeros_0f7a4, Cond.static yJ6_numberOfTrailingZeros_0f7a4, Cond.initialized RJ6, Cond.code yJ6_numberOfTrailingZeros_0f7a4 cJ6_numberOfTrailingZeros_0f7a4 2 (some .int), Cond.constant RJ6 264 (65536), Cond.methodLink RX5 99 yX3_put, Cond.instanceMethod yX3_put, Cond.selects RX3 yX3_put yX3_put]
def wsX6_change_r5 : List Cond := [Cond.code yX3_put cX3_put 3 none, Cond.static yX6_isPrefix, Cond.code yX6_isPrefix cX6_isPrefix 1 (some .boolean), Cond.static yX6_isHop, Cond.code yX6_isHop cX6_isHop 1 (some .boolean), Cond.methodLink RX3 26 yX3_hopAt, Cond.methodLink RX3 30 yX3_setPlace, Cond.instanceMethod yX3_setPlace, Cond.selects RX3 yX3_setPlace yX3_setPlace, Cond.code yX3_setPlace cX3_setPlace 4 none, Cond.constantLong RX3 67 (15), Cond.constantLong RX3 69 (-1), Cond.methodLink RX6 121 yX5_changeNumber, Cond.instanceMethod yX5_changeNumber, Cond.selects RX5 yX5_changeNumber yX5_changeNumber, Cond.code yX5_changeNumber cX5_changeNumber 4 (some .int), Cond.methodLink RX5 69 yX5_kindOfChange, Cond.instanceMethod yX5_kindOfChange, Cond.selects RX5 yX5_kindOfChange yX5_kindOfChange, Cond.code yX5_kindOfChange cX5_kindOfChange 4 (some .int), Cond.methodLink RX6 77 yX3_hopAt, Cond.methodLink RX6 71 yX5_leastTable, Cond.instanceMethod yX5_leastTable, Cond.selects RX5 yX5_leastTable yX5_leastTable]
def wsX6_change_r6 : List Cond := [Cond.code yX5_leastTable cX5_leastTable 1 (some (.object "LeastRoutes$Table")), Cond.methodLink RX6 124 yX5_kindOfChange]
def wsX6_change : List Cond := .code yX6_change cX6_change 5 (some .int) :: ((wsX6_change_r1 ++ (wsX6_change_r2 ++ (wsX6_change_r3 ++ (wsX6_change_r4 ++ (wsX6_change_r5 ++ wsX6_change_r6))))) ++ wsX60 ++ wsX00 ++ wsX10 ++ wsX50 ++ wsX30)
def wsX6_proof_r1 : List Cond := [Cond.methodLink RX6 67 yX6_freshView, Cond.instanceMethod yX6_freshView, Cond.selects RX6 yX6_freshView yX6_freshView, Cond.initialized RX6, Cond.code yX6_freshView cX6_freshView 1 (some (.object "LeastRoutes$View")), Cond.fieldLink RX6 43 "LeastRoutes" "viewIsOld" "Z", Cond.fieldLink RX6 22 "LeastRoutes" "view" "LLeastRoutes$View;", Cond.methodLink RX6 51 yX6_table, Cond.instanceMethod yX6_table, Cond.selects RX6 yX6_table yX6_table, Cond.code yX6_table cX6_table 1 (some (.object "LeastRoutes$Table")), Cond.fieldLink RX6 10 "LeastRoutes" "history" "LLeastRoutes$History;", Cond.methodLink RX6 181 yX0_present, Cond.instanceMethod yX0_present, Cond.selects RX0 yX0_present yX0_present, Cond.initialized RX0, Cond.code yX0_present cX0_present 1 (some (.object "LeastRoutes$Moment")), Cond.fieldLink RX0 12 "LeastRoutes$History" "now" "LLeastRoutes$Moment;", Cond.methodLink RX6 254 yX1_tableNow, Cond.instanceMethod yX1_tableNow, Cond.selects RX1 yX1_tableNow yX1_tableNow, Cond.initialized RX1, Cond.code yX1_tableNow cX1_tableNow 1 (some (.object "LeastRoutes$Table")), Cond.fieldLink RX1 10 "LeastRoutes$Moment" "told" "LLeastRoutes$Table;"]
def wsX6_proof_r2 : List Cond := [Cond.methodLink RX6 64 yX6_installed, Cond.instanceMethod yX6_installed, Cond.selects RX6 yX6_installed yX6_installed, Cond.code yX6_installed cX6_installed 1 (some (.object "LeastRoutes$Table")), Cond.methodLink RX6 257 yX1_installedNow, Cond.instanceMethod yX1_installedNow, Cond.selects RX1 yX1_installedNow yX1_installedNow, Cond.code yX1_installedNow cX1_installedNow 1 (some (.object "LeastRoutes$Table")), Cond.fieldLink RX1 16 "LeastRoutes$Moment" "inUse" "LLeastRoutes$Table;", Cond.methodLink RX6 260 yX5_make, Cond.instanceMethod yX5_make, Cond.selects RX5 yX5_make yX5_make, Cond.initialized RX5, Cond.code yX5_make cX5_make 3 none, Cond.fieldLink RX5 30 "LeastRoutes$View" "inUse" "LLeastRoutes$Table;", Cond.fieldLink RX5 9 "LeastRoutes$View" "sent" "[I", Cond.fieldLink RX5 15 "LeastRoutes$View" "sentByInstalled" "[I", Cond.methodLink RX5 37 yX3_takeFrom, Cond.instanceMethod yX3_takeFrom, Cond.selects RX3 yX3_takeFrom yX3_takeFrom, Cond.initialized RX3, Cond.code yX3_takeFrom cX3_takeFrom 2 none, Cond.fieldLink RX3 9 "LeastRoutes$Table" "places" "[J", Cond.methodLink RX3 40 arraycopyName]
def wsX6_proof_r3 : List Cond := [Cond.native arraycopyName, Cond.static arraycopyName, Cond.initialized "java/lang/System", Cond.fieldLink RX3 15 "LeastRoutes$Table" "size" "I", Cond.methodLink RX5 41 yX5_spread, Cond.static yX5_spread, Cond.code yX5_spread cX5_spread 4 none, Cond.methodLink RX5 87 Lib.Math.max.name, Cond.static Lib.Math.max.name, Cond.initialized "java/lang/Math", Cond.code Lib.Math.max.name Lib.Math.max.code 2 (some .int), Cond.methodLink RX5 66 yX3_hopAt, Cond.instanceMethod yX3_hopAt, Cond.selects RX3 yX3_hopAt yX3_hopAt, Cond.code yX3_hopAt cX3_hopAt 3 (some .int), Cond.methodLink RX5 45 yX5_findBest, Cond.instanceMethod yX5_findBest, Cond.selects RX5 yX5_findBest yX5_findBest, Cond.code yX5_findBest cX5_findBest 3 none, Cond.fieldLink RX5 18 "LeastRoutes$View" "best" "[I", Cond.fieldLink RX5 21 "LeastRoutes$View" "ease" "[I", Cond.methodLink RX5 48 yX5_findLeast, Cond.instanceMethod yX5_findLeast, Cond.selects RX5 yX5_findLeast yX5_findLeast]
def wsX6_proof_r4 : List Cond := [Cond.code yX5_findLeast cX5_findLeast 3 none, Cond.fieldLink RX5 34 "LeastRoutes$View" "leastOne" "LLeastRoutes$Table;", Cond.fieldLink RX5 24 "LeastRoutes$View" "fromAbove" "[I", Cond.methodLink RX5 93 yX3_makeEmpty, Cond.instanceMethod yX3_makeEmpty, Cond.selects RX3 yX3_makeEmpty yX3_makeEmpty, Cond.code yX3_makeEmpty cX3_makeEmpty 1 none, Cond.methodLink RX3 34 yJ7_fill_d0a16, Cond.static yJ7_fill_d0a16, Cond.initialized RJ7, Cond.code yJ7_fill_d0a16 cJ7_fill_d0a16 5 none, Cond.methodLink RX5 62 yX5_hasBit, Cond.static yX5_hasBit, Cond.code yX5_hasBit cX5_hasBit 2 (some .boolean), Cond.static yX6_lowestHop, Cond.code yX6_lowestHop cX6_lowestHop 1 (some .int), Cond.methodLink RX6 240 yJ6_numberOfTrailingZeros_0f7a4, Cond.static yJ6_numberOfTrailingZeros_0f7a4, Cond.initialized RJ6, Cond.code yJ6_numberOfTrailingZeros_0f7a4 cJ6_numberOfTrailingZeros_0f7a4 2 (some .int), Cond.constant RJ6 264 (65536), Cond.methodLink RX5 99 yX3_put, Cond.instanceMethod yX3_put, Cond.selects RX3 yX3_put yX3_put]
def wsX6_proof_r5 : List Cond := [Cond.code yX3_put cX3_put 3 none, Cond.static yX6_isPrefix, Cond.code yX6_isPrefix cX6_isPrefix 1 (some .boolean), Cond.static yX6_isHop, Cond.code yX6_isHop cX6_isHop 1 (some .boolean), Cond.methodLink RX3 26 yX3_hopAt, Cond.methodLink RX3 30 yX3_setPlace, Cond.instanceMethod yX3_setPlace, Cond.selects RX3 yX3_setPlace yX3_setPlace, Cond.code yX3_setPlace cX3_setPlace 4 none, Cond.constantLong RX3 67 (15), Cond.constantLong RX3 69 (-1), Cond.methodLink RX6 127 yX5_proofNumber, Cond.instanceMethod yX5_proofNumber, Cond.selects RX5 yX5_proofNumber yX5_proofNumber, Cond.code yX5_proofNumber cX5_proofNumber 5 (some .int), Cond.methodLink RX5 72 yX5_proofFrom, Cond.instanceMethod yX5_proofFrom, Cond.selects RX5 yX5_proofFrom yX5_proofFrom, Cond.code yX5_proofFrom cX5_proofFrom 4 (some .int), Cond.methodLink RX5 75 yX5_hopsBeneath, Cond.instanceMethod yX5_hopsBeneath, Cond.selects RX5 yX5_hopsBeneath yX5_hopsBeneath, Cond.code yX5_hopsBeneath cX5_hopsBeneath 2 (some .int)]
def wsX6_proof_r6 : List Cond := [Cond.static yX6_isOneHop, Cond.code yX6_isOneHop cX6_isOneHop 1 (some .boolean), Cond.methodLink RX6 245 yJ6_bitCount_0f7a4, Cond.static yJ6_bitCount_0f7a4, Cond.code yJ6_bitCount_0f7a4 cJ6_bitCount_0f7a4 1 (some .int), Cond.constant RJ6 265 (1431655765), Cond.constant RJ6 266 (858993459), Cond.constant RJ6 267 (252645135), Cond.methodLink RX5 81 yX5_installedHopsBeneath, Cond.instanceMethod yX5_installedHopsBeneath, Cond.selects RX5 yX5_installedHopsBeneath yX5_installedHopsBeneath, Cond.code yX5_installedHopsBeneath cX5_installedHopsBeneath 2 (some .int), Cond.static yX6_firstAddress, Cond.code yX6_firstAddress cX6_firstAddress 1 (some .int), Cond.methodLink RX6 251 yX6_bitsOf, Cond.static yX6_bitsOf, Cond.code yX6_bitsOf cX6_bitsOf 1 (some .int), Cond.methodLink RX6 248 yJ6_numberOfLeadingZeros_0f7a4, Cond.static yJ6_numberOfLeadingZeros_0f7a4, Cond.code yJ6_numberOfLeadingZeros_0f7a4 cJ6_numberOfLeadingZeros_0f7a4 2 (some .int), Cond.methodLink RX6 86 yX5_hopsBeneath, Cond.methodLink RX6 130 yX6_lowestHop, Cond.methodLink RX6 133 yX5_installedHopsBeneath]
def wsX6_proof : List Cond := .code yX6_proof cX6_proof 5 (some .int) :: ((wsX6_proof_r1 ++ (wsX6_proof_r2 ++ (wsX6_proof_r3 ++ (wsX6_proof_r4 ++ (wsX6_proof_r5 ++ wsX6_proof_r6))))) ++ wsX60 ++ wsX00 ++ wsX10 ++ wsX50 ++ wsX30)
def wsX6_greatestDivisor : List Cond := .code yX6_greatestDivisor cX6_greatestDivisor 11 (some .long) :: ([])
def wsX6_lost_r1 : List Cond := [Cond.constantLong RX6 136 (10), Cond.methodLink RX6 47 yX6_isAddress, Cond.static yX6_isAddress, Cond.initialized RX6, Cond.code yX6_isAddress cX6_isAddress 1 (some .boolean), Cond.methodLink RX6 51 yX6_table, Cond.instanceMethod yX6_table, Cond.selects RX6 yX6_table yX6_table, Cond.code yX6_table cX6_table 1 (some (.object "LeastRoutes$Table")), Cond.fieldLink RX6 10 "LeastRoutes" "history" "LLeastRoutes$History;", Cond.methodLink RX6 181 yX0_present, Cond.instanceMethod yX0_present, Cond.selects RX0 yX0_present yX0_present, Cond.initialized RX0, Cond.code yX0_present cX0_present 1 (some (.object "LeastRoutes$Moment")), Cond.fieldLink RX0 12 "LeastRoutes$History" "now" "LLeastRoutes$Moment;", Cond.methodLink RX6 254 yX1_tableNow, Cond.instanceMethod yX1_tableNow, Cond.selects RX1 yX1_tableNow yX1_tableNow, Cond.initialized RX1, Cond.code yX1_tableNow cX1_tableNow 1 (some (.object "LeastRoutes$Table")), Cond.fieldLink RX1 10 "LeastRoutes$Moment" "told" "LLeastRoutes$Table;", Cond.methodLink RX6 55 yX3_hopOfAddress, Cond.instanceMethod yX3_hopOfAddress]
def wsX6_lost_r2 : List Cond := [Cond.selects RX3 yX3_hopOfAddress yX3_hopOfAddress, Cond.initialized RX3, Cond.code yX3_hopOfAddress cX3_hopOfAddress 3 (some .int), Cond.methodLink RX3 46 yX3_deciderOf, Cond.instanceMethod yX3_deciderOf, Cond.selects RX3 yX3_deciderOf yX3_deciderOf, Cond.code yX3_deciderOf cX3_deciderOf 4 (some .int), Cond.methodLink RX3 26 yX3_hopAt, Cond.instanceMethod yX3_hopAt, Cond.selects RX3 yX3_hopAt yX3_hopAt, Cond.code yX3_hopAt cX3_hopAt 3 (some .int), Cond.fieldLink RX3 9 "LeastRoutes$Table" "places" "[J", Cond.methodLink RX6 77 yX3_hopAt, Cond.methodLink RX6 138 yX6_greatestDivisor, Cond.static yX6_greatestDivisor, Cond.code yX6_greatestDivisor cX6_greatestDivisor 11 (some .long)]
def wsX6_lost : List Cond := .code yX6_lost cX6_lost 11 (some .int) :: ((wsX6_lost_r1 ++ wsX6_lost_r2) ++ wsX60 ++ wsX00 ++ wsX10 ++ wsX30)
def wsX6_beginStep_r1 : List Cond := [Cond.fieldLink RX6 10 "LeastRoutes" "history" "LLeastRoutes$History;", Cond.fieldLink RX6 43 "LeastRoutes" "viewIsOld" "Z", Cond.methodLink RX6 264 yX0_remember, Cond.instanceMethod yX0_remember, Cond.selects RX0 yX0_remember yX0_remember, Cond.initialized RX0, Cond.code yX0_remember cX0_remember 1 none, Cond.fieldLink RX0 22 "LeastRoutes$History" "size" "I", Cond.fieldLink RX0 18 "LeastRoutes$History" "known" "[LLeastRoutes$Moment;", Cond.fieldLink RX0 12 "LeastRoutes$History" "now" "LLeastRoutes$Moment;", Cond.methodLink RX0 26 yX0_loseOldest, Cond.instanceMethod yX0_loseOldest, Cond.selects RX0 yX0_loseOldest yX0_loseOldest, Cond.code yX0_loseOldest cX0_loseOldest 3 none, Cond.methodLink RX0 29 yX1_takeFrom, Cond.instanceMethod yX1_takeFrom, Cond.selects RX1 yX1_takeFrom yX1_takeFrom, Cond.initialized RX1, Cond.code yX1_takeFrom cX1_takeFrom 2 none, Cond.fieldLink RX1 10 "LeastRoutes$Moment" "told" "LLeastRoutes$Table;", Cond.fieldLink RX1 16 "LeastRoutes$Moment" "inUse" "LLeastRoutes$Table;", Cond.fieldLink RX1 19 "LeastRoutes$Moment" "draw" "I", Cond.methodLink RX1 25 yX3_takeFrom, Cond.instanceMethod yX3_takeFrom]
def wsX6_beginStep_r2 : List Cond := [Cond.selects RX3 yX3_takeFrom yX3_takeFrom, Cond.initialized RX3, Cond.code yX3_takeFrom cX3_takeFrom 2 none, Cond.fieldLink RX3 9 "LeastRoutes$Table" "places" "[J", Cond.methodLink RX3 40 arraycopyName, Cond.native arraycopyName, Cond.static arraycopyName, Cond.initialized "java/lang/System", Cond.fieldLink RX3 15 "LeastRoutes$Table" "size" "I"]
def wsX6_beginStep : List Cond := .code yX6_beginStep cX6_beginStep 1 none :: ((wsX6_beginStep_r1 ++ wsX6_beginStep_r2) ++ wsX60 ++ wsX00 ++ wsX10 ++ wsX30)
def wsX6_tell_r1 : List Cond := [Cond.methodLink RX6 74 yX6_isPrefix, Cond.static yX6_isPrefix, Cond.initialized RX6, Cond.code yX6_isPrefix cX6_isPrefix 1 (some .boolean), Cond.methodLink RX6 92 yX6_isHop, Cond.static yX6_isHop, Cond.code yX6_isHop cX6_isHop 1 (some .boolean), Cond.methodLink RX6 51 yX6_table, Cond.instanceMethod yX6_table, Cond.selects RX6 yX6_table yX6_table, Cond.code yX6_table cX6_table 1 (some (.object "LeastRoutes$Table")), Cond.fieldLink RX6 10 "LeastRoutes" "history" "LLeastRoutes$History;", Cond.methodLink RX6 181 yX0_present, Cond.instanceMethod yX0_present, Cond.selects RX0 yX0_present yX0_present, Cond.initialized RX0, Cond.code yX0_present cX0_present 1 (some (.object "LeastRoutes$Moment")), Cond.fieldLink RX0 12 "LeastRoutes$History" "now" "LLeastRoutes$Moment;", Cond.methodLink RX6 254 yX1_tableNow, Cond.instanceMethod yX1_tableNow, Cond.selects RX1 yX1_tableNow yX1_tableNow, Cond.initialized RX1, Cond.code yX1_tableNow cX1_tableNow 1 (some (.object "LeastRoutes$Table")), Cond.fieldLink RX1 10 "LeastRoutes$Moment" "told" "LLeastRoutes$Table;"]
def wsX6_tell_r2 : List Cond := [Cond.methodLink RX6 77 yX3_hopAt, Cond.instanceMethod yX3_hopAt, Cond.selects RX3 yX3_hopAt yX3_hopAt, Cond.initialized RX3, Cond.code yX3_hopAt cX3_hopAt 3 (some .int), Cond.fieldLink RX3 9 "LeastRoutes$Table" "places" "[J", Cond.methodLink RX6 102 yX3_howMany, Cond.instanceMethod yX3_howMany, Cond.selects RX3 yX3_howMany yX3_howMany, Cond.code yX3_howMany cX3_howMany 1 (some .int), Cond.fieldLink RX3 15 "LeastRoutes$Table" "size" "I", Cond.methodLink RX6 142 yX6_beginStep, Cond.instanceMethod yX6_beginStep, Cond.selects RX6 yX6_beginStep yX6_beginStep, Cond.code yX6_beginStep cX6_beginStep 1 none, Cond.fieldLink RX6 43 "LeastRoutes" "viewIsOld" "Z", Cond.methodLink RX6 264 yX0_remember, Cond.instanceMethod yX0_remember, Cond.selects RX0 yX0_remember yX0_remember, Cond.code yX0_remember cX0_remember 1 none, Cond.fieldLink RX0 22 "LeastRoutes$History" "size" "I", Cond.fieldLink RX0 18 "LeastRoutes$History" "known" "[LLeastRoutes$Moment;", Cond.methodLink RX0 26 yX0_loseOldest, Cond.instanceMethod yX0_loseOldest]
def wsX6_tell_r3 : List Cond := [Cond.selects RX0 yX0_loseOldest yX0_loseOldest, Cond.code yX0_loseOldest cX0_loseOldest 3 none, Cond.methodLink RX0 29 yX1_takeFrom, Cond.instanceMethod yX1_takeFrom, Cond.selects RX1 yX1_takeFrom yX1_takeFrom, Cond.code yX1_takeFrom cX1_takeFrom 2 none, Cond.fieldLink RX1 16 "LeastRoutes$Moment" "inUse" "LLeastRoutes$Table;", Cond.fieldLink RX1 19 "LeastRoutes$Moment" "draw" "I", Cond.methodLink RX1 25 yX3_takeFrom, Cond.instanceMethod yX3_takeFrom, Cond.selects RX3 yX3_takeFrom yX3_takeFrom, Cond.code yX3_takeFrom cX3_takeFrom 2 none, Cond.methodLink RX3 40 arraycopyName, Cond.native arraycopyName, Cond.static arraycopyName, Cond.initialized "java/lang/System", Cond.methodLink RX6 145 yX3_put, Cond.instanceMethod yX3_put, Cond.selects RX3 yX3_put yX3_put, Cond.code yX3_put cX3_put 3 none, Cond.methodLink RX3 26 yX3_hopAt, Cond.methodLink RX3 30 yX3_setPlace, Cond.instanceMethod yX3_setPlace, Cond.selects RX3 yX3_setPlace yX3_setPlace]
def wsX6_tell_r4 : List Cond := [Cond.code yX3_setPlace cX3_setPlace 4 none, Cond.constantLong RX3 67 (15), Cond.constantLong RX3 69 (-1)]
def wsX6_tell : List Cond := .code yX6_tell cX6_tell 4 (some .int) :: ((wsX6_tell_r1 ++ (wsX6_tell_r2 ++ (wsX6_tell_r3 ++ wsX6_tell_r4))) ++ wsX60 ++ wsX00 ++ wsX10 ++ wsX30)
def wsX6_out_r1 : List Cond := [Cond.methodLink RX6 74 yX6_isPrefix, Cond.static yX6_isPrefix, Cond.initialized RX6, Cond.code yX6_isPrefix cX6_isPrefix 1 (some .boolean), Cond.methodLink RX6 51 yX6_table, Cond.instanceMethod yX6_table, Cond.selects RX6 yX6_table yX6_table, Cond.code yX6_table cX6_table 1 (some (.object "LeastRoutes$Table")), Cond.fieldLink RX6 10 "LeastRoutes" "history" "LLeastRoutes$History;", Cond.methodLink RX6 181 yX0_present, Cond.instanceMethod yX0_present, Cond.selects RX0 yX0_present yX0_present, Cond.initialized RX0, Cond.code yX0_present cX0_present 1 (some (.object "LeastRoutes$Moment")), Cond.fieldLink RX0 12 "LeastRoutes$History" "now" "LLeastRoutes$Moment;", Cond.methodLink RX6 254 yX1_tableNow, Cond.instanceMethod yX1_tableNow, Cond.selects RX1 yX1_tableNow yX1_tableNow, Cond.initialized RX1, Cond.code yX1_tableNow cX1_tableNow 1 (some (.object "LeastRoutes$Table")), Cond.fieldLink RX1 10 "LeastRoutes$Moment" "told" "LLeastRoutes$Table;", Cond.methodLink RX6 77 yX3_hopAt, Cond.instanceMethod yX3_hopAt, Cond.selects RX3 yX3_hopAt yX3_hopAt]
def wsX6_out_r2 : List Cond := [Cond.initialized RX3, Cond.code yX3_hopAt cX3_hopAt 3 (some .int), Cond.fieldLink RX3 9 "LeastRoutes$Table" "places" "[J", Cond.methodLink RX6 142 yX6_beginStep, Cond.instanceMethod yX6_beginStep, Cond.selects RX6 yX6_beginStep yX6_beginStep, Cond.code yX6_beginStep cX6_beginStep 1 none, Cond.fieldLink RX6 43 "LeastRoutes" "viewIsOld" "Z", Cond.methodLink RX6 264 yX0_remember, Cond.instanceMethod yX0_remember, Cond.selects RX0 yX0_remember yX0_remember, Cond.code yX0_remember cX0_remember 1 none, Cond.fieldLink RX0 22 "LeastRoutes$History" "size" "I", Cond.fieldLink RX0 18 "LeastRoutes$History" "known" "[LLeastRoutes$Moment;", Cond.methodLink RX0 26 yX0_loseOldest, Cond.instanceMethod yX0_loseOldest, Cond.selects RX0 yX0_loseOldest yX0_loseOldest, Cond.code yX0_loseOldest cX0_loseOldest 3 none, Cond.methodLink RX0 29 yX1_takeFrom, Cond.instanceMethod yX1_takeFrom, Cond.selects RX1 yX1_takeFrom yX1_takeFrom, Cond.code yX1_takeFrom cX1_takeFrom 2 none, Cond.fieldLink RX1 16 "LeastRoutes$Moment" "inUse" "LLeastRoutes$Table;", Cond.fieldLink RX1 19 "LeastRoutes$Moment" "draw" "I"]
def wsX6_out_r3 : List Cond := [Cond.methodLink RX1 25 yX3_takeFrom, Cond.instanceMethod yX3_takeFrom, Cond.selects RX3 yX3_takeFrom yX3_takeFrom, Cond.code yX3_takeFrom cX3_takeFrom 2 none, Cond.methodLink RX3 40 arraycopyName, Cond.native arraycopyName, Cond.static arraycopyName, Cond.initialized "java/lang/System", Cond.fieldLink RX3 15 "LeastRoutes$Table" "size" "I", Cond.methodLink RX6 149 yX3_takeOut, Cond.instanceMethod yX3_takeOut, Cond.selects RX3 yX3_takeOut yX3_takeOut, Cond.code yX3_takeOut cX3_takeOut 2 none, Cond.methodLink RX3 26 yX3_hopAt, Cond.methodLink RX3 30 yX3_setPlace, Cond.instanceMethod yX3_setPlace, Cond.selects RX3 yX3_setPlace yX3_setPlace, Cond.code yX3_setPlace cX3_setPlace 4 none, Cond.constantLong RX3 67 (15), Cond.constantLong RX3 69 (-1)]
def wsX6_out : List Cond := .code yX6_out cX6_out 3 (some .int) :: ((wsX6_out_r1 ++ (wsX6_out_r2 ++ wsX6_out_r3)) ++ wsX60 ++ wsX00 ++ wsX10 ++ wsX30)
def wsX6_rename_r1 : List Cond := [Cond.methodLink RX6 92 yX6_isHop, Cond.static yX6_isHop, Cond.initialized RX6, Cond.code yX6_isHop cX6_isHop 1 (some .boolean), Cond.methodLink RX6 51 yX6_table, Cond.instanceMethod yX6_table, Cond.selects RX6 yX6_table yX6_table, Cond.code yX6_table cX6_table 1 (some (.object "LeastRoutes$Table")), Cond.fieldLink RX6 10 "LeastRoutes" "history" "LLeastRoutes$History;", Cond.methodLink RX6 181 yX0_present, Cond.instanceMethod yX0_present, Cond.selects RX0 yX0_present yX0_present, Cond.initialized RX0, Cond.code yX0_present cX0_present 1 (some (.object "LeastRoutes$Moment")), Cond.fieldLink RX0 12 "LeastRoutes$History" "now" "LLeastRoutes$Moment;", Cond.methodLink RX6 254 yX1_tableNow, Cond.instanceMethod yX1_tableNow, Cond.selects RX1 yX1_tableNow yX1_tableNow, Cond.initialized RX1, Cond.code yX1_tableNow cX1_tableNow 1 (some (.object "LeastRoutes$Table")), Cond.fieldLink RX1 10 "LeastRoutes$Moment" "told" "LLeastRoutes$Table;", Cond.methodLink RX6 153 yX3_hasHop, Cond.instanceMethod yX3_hasHop, Cond.selects RX3 yX3_hasHop yX3_hasHop]
def wsX6_rename_r2 : List Cond := [Cond.initialized RX3, Cond.code yX3_hasHop cX3_hasHop 3 (some .boolean), Cond.methodLink RX3 26 yX3_hopAt, Cond.instanceMethod yX3_hopAt, Cond.selects RX3 yX3_hopAt yX3_hopAt, Cond.code yX3_hopAt cX3_hopAt 3 (some .int), Cond.fieldLink RX3 9 "LeastRoutes$Table" "places" "[J", Cond.methodLink RX6 142 yX6_beginStep, Cond.instanceMethod yX6_beginStep, Cond.selects RX6 yX6_beginStep yX6_beginStep, Cond.code yX6_beginStep cX6_beginStep 1 none, Cond.fieldLink RX6 43 "LeastRoutes" "viewIsOld" "Z", Cond.methodLink RX6 264 yX0_remember, Cond.instanceMethod yX0_remember, Cond.selects RX0 yX0_remember yX0_remember, Cond.code yX0_remember cX0_remember 1 none, Cond.fieldLink RX0 22 "LeastRoutes$History" "size" "I", Cond.fieldLink RX0 18 "LeastRoutes$History" "known" "[LLeastRoutes$Moment;", Cond.methodLink RX0 26 yX0_loseOldest, Cond.instanceMethod yX0_loseOldest, Cond.selects RX0 yX0_loseOldest yX0_loseOldest, Cond.code yX0_loseOldest cX0_loseOldest 3 none, Cond.methodLink RX0 29 yX1_takeFrom, Cond.instanceMethod yX1_takeFrom]
def wsX6_rename_r3 : List Cond := [Cond.selects RX1 yX1_takeFrom yX1_takeFrom, Cond.code yX1_takeFrom cX1_takeFrom 2 none, Cond.fieldLink RX1 16 "LeastRoutes$Moment" "inUse" "LLeastRoutes$Table;", Cond.fieldLink RX1 19 "LeastRoutes$Moment" "draw" "I", Cond.methodLink RX1 25 yX3_takeFrom, Cond.instanceMethod yX3_takeFrom, Cond.selects RX3 yX3_takeFrom yX3_takeFrom, Cond.code yX3_takeFrom cX3_takeFrom 2 none, Cond.methodLink RX3 40 arraycopyName, Cond.native arraycopyName, Cond.static arraycopyName, Cond.initialized "java/lang/System", Cond.fieldLink RX3 15 "LeastRoutes$Table" "size" "I", Cond.methodLink RX6 156 yX3_replaceHop, Cond.instanceMethod yX3_replaceHop, Cond.selects RX3 yX3_replaceHop yX3_replaceHop, Cond.code yX3_replaceHop cX3_replaceHop 5 (some .int), Cond.methodLink RX3 49 yX3_put, Cond.instanceMethod yX3_put, Cond.selects RX3 yX3_put yX3_put, Cond.code yX3_put cX3_put 3 none, Cond.static yX6_isPrefix, Cond.code yX6_isPrefix cX6_isPrefix 1 (some .boolean), Cond.methodLink RX3 30 yX3_setPlace]
def wsX6_rename_r4 : List Cond := [Cond.instanceMethod yX3_setPlace, Cond.selects RX3 yX3_setPlace yX3_setPlace, Cond.code yX3_setPlace cX3_setPlace 4 none, Cond.constantLong RX3 67 (15), Cond.constantLong RX3 69 (-1)]
def wsX6_rename : List Cond := .code yX6_rename cX6_rename 3 (some .int) :: ((wsX6_rename_r1 ++ (wsX6_rename_r2 ++ (wsX6_rename_r3 ++ wsX6_rename_r4))) ++ wsX60 ++ wsX00 ++ wsX10 ++ wsX30)
def wsX6_install_r1 : List Cond := [Cond.methodLink RX6 67 yX6_freshView, Cond.instanceMethod yX6_freshView, Cond.selects RX6 yX6_freshView yX6_freshView, Cond.initialized RX6, Cond.code yX6_freshView cX6_freshView 1 (some (.object "LeastRoutes$View")), Cond.fieldLink RX6 43 "LeastRoutes" "viewIsOld" "Z", Cond.fieldLink RX6 22 "LeastRoutes" "view" "LLeastRoutes$View;", Cond.methodLink RX6 51 yX6_table, Cond.instanceMethod yX6_table, Cond.selects RX6 yX6_table yX6_table, Cond.code yX6_table cX6_table 1 (some (.object "LeastRoutes$Table")), Cond.fieldLink RX6 10 "LeastRoutes" "history" "LLeastRoutes$History;", Cond.methodLink RX6 181 yX0_present, Cond.instanceMethod yX0_present, Cond.selects RX0 yX0_present yX0_present, Cond.initialized RX0, Cond.code yX0_present cX0_present 1 (some (.object "LeastRoutes$Moment")), Cond.fieldLink RX0 12 "LeastRoutes$History" "now" "LLeastRoutes$Moment;", Cond.methodLink RX6 254 yX1_tableNow, Cond.instanceMethod yX1_tableNow, Cond.selects RX1 yX1_tableNow yX1_tableNow, Cond.initialized RX1, Cond.code yX1_tableNow cX1_tableNow 1 (some (.object "LeastRoutes$Table")), Cond.fieldLink RX1 10 "LeastRoutes$Moment" "told" "LLeastRoutes$Table;"]
def wsX6_install_r2 : List Cond := [Cond.methodLink RX6 64 yX6_installed, Cond.instanceMethod yX6_installed, Cond.selects RX6 yX6_installed yX6_installed, Cond.code yX6_installed cX6_installed 1 (some (.object "LeastRoutes$Table")), Cond.methodLink RX6 257 yX1_installedNow, Cond.instanceMethod yX1_installedNow, Cond.selects RX1 yX1_installedNow yX1_installedNow, Cond.code yX1_installedNow cX1_installedNow 1 (some (.object "LeastRoutes$Table")), Cond.fieldLink RX1 16 "LeastRoutes$Moment" "inUse" "LLeastRoutes$Table;", Cond.methodLink RX6 260 yX5_make, Cond.instanceMethod yX5_make, Cond.selects RX5 yX5_make yX5_make, Cond.initialized RX5, Cond.code yX5_make cX5_make 3 none, Cond.fieldLink RX5 30 "LeastRoutes$View" "inUse" "LLeastRoutes$Table;", Cond.fieldLink RX5 9 "LeastRoutes$View" "sent" "[I", Cond.fieldLink RX5 15 "LeastRoutes$View" "sentByInstalled" "[I", Cond.methodLink RX5 37 yX3_takeFrom, Cond.instanceMethod yX3_takeFrom, Cond.selects RX3 yX3_takeFrom yX3_takeFrom, Cond.initialized RX3, Cond.code yX3_takeFrom cX3_takeFrom 2 none, Cond.fieldLink RX3 9 "LeastRoutes$Table" "places" "[J", Cond.methodLink RX3 40 arraycopyName]
def wsX6_install_r3 : List Cond := [Cond.native arraycopyName, Cond.static arraycopyName, Cond.initialized "java/lang/System", Cond.fieldLink RX3 15 "LeastRoutes$Table" "size" "I", Cond.methodLink RX5 41 yX5_spread, Cond.static yX5_spread, Cond.code yX5_spread cX5_spread 4 none, Cond.methodLink RX5 87 Lib.Math.max.name, Cond.static Lib.Math.max.name, Cond.initialized "java/lang/Math", Cond.code Lib.Math.max.name Lib.Math.max.code 2 (some .int), Cond.methodLink RX5 66 yX3_hopAt, Cond.instanceMethod yX3_hopAt, Cond.selects RX3 yX3_hopAt yX3_hopAt, Cond.code yX3_hopAt cX3_hopAt 3 (some .int), Cond.methodLink RX5 45 yX5_findBest, Cond.instanceMethod yX5_findBest, Cond.selects RX5 yX5_findBest yX5_findBest, Cond.code yX5_findBest cX5_findBest 3 none, Cond.fieldLink RX5 18 "LeastRoutes$View" "best" "[I", Cond.fieldLink RX5 21 "LeastRoutes$View" "ease" "[I", Cond.methodLink RX5 48 yX5_findLeast, Cond.instanceMethod yX5_findLeast, Cond.selects RX5 yX5_findLeast yX5_findLeast]
def wsX6_install_r4 : List Cond := [Cond.code yX5_findLeast cX5_findLeast 3 none, Cond.fieldLink RX5 34 "LeastRoutes$View" "leastOne" "LLeastRoutes$Table;", Cond.fieldLink RX5 24 "LeastRoutes$View" "fromAbove" "[I", Cond.methodLink RX5 93 yX3_makeEmpty, Cond.instanceMethod yX3_makeEmpty, Cond.selects RX3 yX3_makeEmpty yX3_makeEmpty, Cond.code yX3_makeEmpty cX3_makeEmpty 1 none, Cond.methodLink RX3 34 yJ7_fill_d0a16, Cond.static yJ7_fill_d0a16, Cond.initialized RJ7, Cond.code yJ7_fill_d0a16 cJ7_fill_d0a16 5 none, Cond.methodLink RX5 62 yX5_hasBit, Cond.static yX5_hasBit, Cond.code yX5_hasBit cX5_hasBit 2 (some .boolean), Cond.static yX6_lowestHop, Cond.code yX6_lowestHop cX6_lowestHop 1 (some .int), Cond.methodLink RX6 240 yJ6_numberOfTrailingZeros_0f7a4, Cond.static yJ6_numberOfTrailingZeros_0f7a4, Cond.initialized RJ6, Cond.code yJ6_numberOfTrailingZeros_0f7a4 cJ6_numberOfTrailingZeros_0f7a4 2 (some .int), Cond.constant RJ6 264 (65536), Cond.methodLink RX5 99 yX3_put, Cond.instanceMethod yX3_put, Cond.selects RX3 yX3_put yX3_put]
def wsX6_install_r5 : List Cond := [Cond.code yX3_put cX3_put 3 none, Cond.static yX6_isPrefix, Cond.code yX6_isPrefix cX6_isPrefix 1 (some .boolean), Cond.static yX6_isHop, Cond.code yX6_isHop cX6_isHop 1 (some .boolean), Cond.methodLink RX3 26 yX3_hopAt, Cond.methodLink RX3 30 yX3_setPlace, Cond.instanceMethod yX3_setPlace, Cond.selects RX3 yX3_setPlace yX3_setPlace, Cond.code yX3_setPlace cX3_setPlace 4 none, Cond.constantLong RX3 67 (15), Cond.constantLong RX3 69 (-1), Cond.methodLink RX6 106 yX5_countChanges, Cond.instanceMethod yX5_countChanges, Cond.selects RX5 yX5_countChanges yX5_countChanges, Cond.code yX5_countChanges cX5_countChanges 3 (some .int), Cond.methodLink RX5 69 yX5_kindOfChange, Cond.instanceMethod yX5_kindOfChange, Cond.selects RX5 yX5_kindOfChange yX5_kindOfChange, Cond.code yX5_kindOfChange cX5_kindOfChange 4 (some .int), Cond.methodLink RX6 142 yX6_beginStep, Cond.instanceMethod yX6_beginStep, Cond.selects RX6 yX6_beginStep yX6_beginStep, Cond.code yX6_beginStep cX6_beginStep 1 none]
def wsX6_install_r6 : List Cond := [Cond.methodLink RX6 264 yX0_remember, Cond.instanceMethod yX0_remember, Cond.selects RX0 yX0_remember yX0_remember, Cond.code yX0_remember cX0_remember 1 none, Cond.fieldLink RX0 22 "LeastRoutes$History" "size" "I", Cond.fieldLink RX0 18 "LeastRoutes$History" "known" "[LLeastRoutes$Moment;", Cond.methodLink RX0 26 yX0_loseOldest, Cond.instanceMethod yX0_loseOldest, Cond.selects RX0 yX0_loseOldest yX0_loseOldest, Cond.code yX0_loseOldest cX0_loseOldest 3 none, Cond.methodLink RX0 29 yX1_takeFrom, Cond.instanceMethod yX1_takeFrom, Cond.selects RX1 yX1_takeFrom yX1_takeFrom, Cond.code yX1_takeFrom cX1_takeFrom 2 none, Cond.fieldLink RX1 19 "LeastRoutes$Moment" "draw" "I", Cond.methodLink RX1 25 yX3_takeFrom, Cond.methodLink RX6 71 yX5_leastTable, Cond.instanceMethod yX5_leastTable, Cond.selects RX5 yX5_leastTable yX5_leastTable, Cond.code yX5_leastTable cX5_leastTable 1 (some (.object "LeastRoutes$Table")), Cond.methodLink RX6 159 yX3_takeFrom]
def wsX6_install : List Cond := .code yX6_install cX6_install 3 (some .int) :: ((wsX6_install_r1 ++ (wsX6_install_r2 ++ (wsX6_install_r3 ++ (wsX6_install_r4 ++ (wsX6_install_r5 ++ wsX6_install_r6))))) ++ wsX60 ++ wsX00 ++ wsX10 ++ wsX50 ++ wsX30)
def wsX6_type : List Cond := .code yX6_type cX6_type 2 (some .int) :: ([.fieldLink RX6 29 "LeastRoutes" "tape" "LLeastRoutes$Tape;", .methodLink RX6 163 yX4_addLetter, .instanceMethod yX4_addLetter, .selects RX4 yX4_addLetter yX4_addLetter, .initialized RX4, .code yX4_addLetter cX4_addLetter 2 (some .int), .fieldLink RX4 22 "LeastRoutes$Tape" "size" "I", .fieldLink RX4 9 "LeastRoutes$Tape" "letters" "[I"] ++ wsX60 ++ wsX40)
def wsX6_read_r1 : List Cond := [Cond.fieldLink RX6 29 "LeastRoutes" "tape" "LLeastRoutes$Tape;", Cond.methodLink RX6 166 yX4_parse, Cond.instanceMethod yX4_parse, Cond.selects RX4 yX4_parse yX4_parse, Cond.initialized RX4, Cond.code yX4_parse cX4_parse 4 (some .int), Cond.fieldLink RX4 18 "LeastRoutes$Tape" "told" "LLeastRoutes$Table;", Cond.fieldLink RX4 26 "LeastRoutes$Tape" "place" "I", Cond.methodLink RX4 32 yX3_makeEmpty, Cond.instanceMethod yX3_makeEmpty, Cond.selects RX3 yX3_makeEmpty yX3_makeEmpty, Cond.initialized RX3, Cond.code yX3_makeEmpty cX3_makeEmpty 1 none, Cond.fieldLink RX3 9 "LeastRoutes$Table" "places" "[J", Cond.fieldLink RX3 15 "LeastRoutes$Table" "size" "I", Cond.methodLink RX3 34 yJ7_fill_d0a16, Cond.static yJ7_fill_d0a16, Cond.initialized RJ7, Cond.code yJ7_fill_d0a16 cJ7_fill_d0a16 5 none, Cond.methodLink RX4 35 yX4_parseEntry, Cond.instanceMethod yX4_parseEntry, Cond.selects RX4 yX4_parseEntry yX4_parseEntry, Cond.code yX4_parseEntry cX4_parseEntry 3 (some .int), Cond.fieldLink RX4 29 "LeastRoutes$Tape" "number" "I"]
def wsX6_read_r2 : List Cond := [Cond.methodLink RX4 39 yX4_letterHere, Cond.instanceMethod yX4_letterHere, Cond.selects RX4 yX4_letterHere yX4_letterHere, Cond.code yX4_letterHere cX4_letterHere 1 (some .int), Cond.fieldLink RX4 22 "LeastRoutes$Tape" "size" "I", Cond.fieldLink RX4 9 "LeastRoutes$Tape" "letters" "[I", Cond.methodLink RX4 42 yX4_parseFigures, Cond.instanceMethod yX4_parseFigures, Cond.selects RX4 yX4_parseFigures yX4_parseFigures, Cond.code yX4_parseFigures cX4_parseFigures 3 (some .int), Cond.methodLink RX4 45 yX3_hopAt, Cond.instanceMethod yX3_hopAt, Cond.selects RX3 yX3_hopAt yX3_hopAt, Cond.code yX3_hopAt cX3_hopAt 3 (some .int), Cond.static yX6_isHop, Cond.initialized RX6, Cond.code yX6_isHop cX6_isHop 1 (some .boolean), Cond.methodLink RX4 53 yX3_put, Cond.instanceMethod yX3_put, Cond.selects RX3 yX3_put yX3_put, Cond.code yX3_put cX3_put 3 none, Cond.static yX6_isPrefix, Cond.code yX6_isPrefix cX6_isPrefix 1 (some .boolean), Cond.methodLink RX3 26 yX3_hopAt]
def wsX6_read_r3 : List Cond := [Cond.methodLink RX3 30 yX3_setPlace, Cond.instanceMethod yX3_setPlace, Cond.selects RX3 yX3_setPlace yX3_setPlace, Cond.code yX3_setPlace cX3_setPlace 4 none, Cond.constantLong RX3 67 (15), Cond.constantLong RX3 69 (-1), Cond.methodLink RX6 169 yX4_makeEmpty, Cond.instanceMethod yX4_makeEmpty, Cond.selects RX4 yX4_makeEmpty yX4_makeEmpty, Cond.code yX4_makeEmpty cX4_makeEmpty 1 none, Cond.methodLink RX6 142 yX6_beginStep, Cond.instanceMethod yX6_beginStep, Cond.selects RX6 yX6_beginStep yX6_beginStep, Cond.code yX6_beginStep cX6_beginStep 1 none, Cond.fieldLink RX6 10 "LeastRoutes" "history" "LLeastRoutes$History;", Cond.fieldLink RX6 43 "LeastRoutes" "viewIsOld" "Z", Cond.methodLink RX6 264 yX0_remember, Cond.instanceMethod yX0_remember, Cond.selects RX0 yX0_remember yX0_remember, Cond.initialized RX0, Cond.code yX0_remember cX0_remember 1 none, Cond.fieldLink RX0 22 "LeastRoutes$History" "size" "I", Cond.fieldLink RX0 18 "LeastRoutes$History" "known" "[LLeastRoutes$Moment;", Cond.fieldLink RX0 12 "LeastRoutes$History" "now" "LLeastRoutes$Moment;"]
def wsX6_read_r4 : List Cond := [Cond.methodLink RX0 26 yX0_loseOldest, Cond.instanceMethod yX0_loseOldest, Cond.selects RX0 yX0_loseOldest yX0_loseOldest, Cond.code yX0_loseOldest cX0_loseOldest 3 none, Cond.methodLink RX0 29 yX1_takeFrom, Cond.instanceMethod yX1_takeFrom, Cond.selects RX1 yX1_takeFrom yX1_takeFrom, Cond.initialized RX1, Cond.code yX1_takeFrom cX1_takeFrom 2 none, Cond.fieldLink RX1 10 "LeastRoutes$Moment" "told" "LLeastRoutes$Table;", Cond.fieldLink RX1 16 "LeastRoutes$Moment" "inUse" "LLeastRoutes$Table;", Cond.fieldLink RX1 19 "LeastRoutes$Moment" "draw" "I", Cond.methodLink RX1 25 yX3_takeFrom, Cond.instanceMethod yX3_takeFrom, Cond.selects RX3 yX3_takeFrom yX3_takeFrom, Cond.code yX3_takeFrom cX3_takeFrom 2 none, Cond.methodLink RX3 40 arraycopyName, Cond.native arraycopyName, Cond.static arraycopyName, Cond.initialized "java/lang/System", Cond.methodLink RX6 51 yX6_table, Cond.instanceMethod yX6_table, Cond.selects RX6 yX6_table yX6_table, Cond.code yX6_table cX6_table 1 (some (.object "LeastRoutes$Table"))]
def wsX6_read_r5 : List Cond := [Cond.methodLink RX6 181 yX0_present, Cond.instanceMethod yX0_present, Cond.selects RX0 yX0_present yX0_present, Cond.code yX0_present cX0_present 1 (some (.object "LeastRoutes$Moment")), Cond.methodLink RX6 254 yX1_tableNow, Cond.instanceMethod yX1_tableNow, Cond.selects RX1 yX1_tableNow yX1_tableNow, Cond.code yX1_tableNow cX1_tableNow 1 (some (.object "LeastRoutes$Table")), Cond.methodLink RX6 172 yX4_toldTable, Cond.instanceMethod yX4_toldTable, Cond.selects RX4 yX4_toldTable yX4_toldTable, Cond.code yX4_toldTable cX4_toldTable 1 (some (.object "LeastRoutes$Table")), Cond.methodLink RX6 159 yX3_takeFrom, Cond.methodLink RX6 102 yX3_howMany, Cond.instanceMethod yX3_howMany, Cond.selects RX3 yX3_howMany yX3_howMany, Cond.code yX3_howMany cX3_howMany 1 (some .int)]
def wsX6_read : List Cond := .code yX6_read cX6_read 2 (some .int) :: ((wsX6_read_r1 ++ (wsX6_read_r2 ++ (wsX6_read_r3 ++ (wsX6_read_r4 ++ wsX6_read_r5)))) ++ wsX60 ++ wsX40 ++ wsX30 ++ wsX00 ++ wsX10)
def wsX6_takeTurn_r1 : List Cond := [Cond.fieldLink RX6 10 "LeastRoutes" "history" "LLeastRoutes$History;", Cond.methodLink RX6 181 yX0_present, Cond.instanceMethod yX0_present, Cond.selects RX0 yX0_present yX0_present, Cond.initialized RX0, Cond.code yX0_present cX0_present 1 (some (.object "LeastRoutes$Moment")), Cond.fieldLink RX0 12 "LeastRoutes$History" "now" "LLeastRoutes$Moment;", Cond.methodLink RX6 267 yX1_nextDraw, Cond.instanceMethod yX1_nextDraw, Cond.selects RX1 yX1_nextDraw yX1_nextDraw, Cond.initialized RX1, Cond.code yX1_nextDraw cX1_nextDraw 1 (some .int), Cond.fieldLink RX1 19 "LeastRoutes$Moment" "draw" "I", Cond.constant RX1 23 (1103515245), Cond.constant RX1 24 (2147483647), Cond.methodLink RX6 51 yX6_table, Cond.instanceMethod yX6_table, Cond.selects RX6 yX6_table yX6_table, Cond.initialized RX6, Cond.code yX6_table cX6_table 1 (some (.object "LeastRoutes$Table")), Cond.methodLink RX6 254 yX1_tableNow, Cond.instanceMethod yX1_tableNow, Cond.selects RX1 yX1_tableNow yX1_tableNow, Cond.code yX1_tableNow cX1_tableNow 1 (some (.object "LeastRoutes$Table"))]
def wsX6_takeTurn_r2 : List Cond := [Cond.fieldLink RX1 10 "LeastRoutes$Moment" "told" "LLeastRoutes$Table;", Cond.methodLink RX6 77 yX3_hopAt, Cond.instanceMethod yX3_hopAt, Cond.selects RX3 yX3_hopAt yX3_hopAt, Cond.initialized RX3, Cond.code yX3_hopAt cX3_hopAt 3 (some .int), Cond.fieldLink RX3 9 "LeastRoutes$Table" "places" "[J", Cond.methodLink RX6 149 yX3_takeOut, Cond.instanceMethod yX3_takeOut, Cond.selects RX3 yX3_takeOut yX3_takeOut, Cond.code yX3_takeOut cX3_takeOut 2 none, Cond.fieldLink RX3 15 "LeastRoutes$Table" "size" "I", Cond.methodLink RX3 26 yX3_hopAt, Cond.methodLink RX3 30 yX3_setPlace, Cond.instanceMethod yX3_setPlace, Cond.selects RX3 yX3_setPlace yX3_setPlace, Cond.code yX3_setPlace cX3_setPlace 4 none, Cond.constantLong RX3 67 (15), Cond.constantLong RX3 69 (-1), Cond.methodLink RX6 102 yX3_howMany, Cond.instanceMethod yX3_howMany, Cond.selects RX3 yX3_howMany yX3_howMany, Cond.code yX3_howMany cX3_howMany 1 (some .int), Cond.methodLink RX6 145 yX3_put]
def wsX6_takeTurn_r3 : List Cond := [Cond.instanceMethod yX3_put, Cond.selects RX3 yX3_put yX3_put, Cond.code yX3_put cX3_put 3 none, Cond.static yX6_isPrefix, Cond.code yX6_isPrefix cX6_isPrefix 1 (some .boolean), Cond.static yX6_isHop, Cond.code yX6_isHop cX6_isHop 1 (some .boolean)]
def wsX6_takeTurn : List Cond := .code yX6_takeTurn cX6_takeTurn 6 none :: ((wsX6_takeTurn_r1 ++ (wsX6_takeTurn_r2 ++ wsX6_takeTurn_r3)) ++ wsX60 ++ wsX00 ++ wsX10 ++ wsX30)
def wsX6_drift_r1 : List Cond := [Cond.methodLink RX6 142 yX6_beginStep, Cond.instanceMethod yX6_beginStep, Cond.selects RX6 yX6_beginStep yX6_beginStep, Cond.initialized RX6, Cond.code yX6_beginStep cX6_beginStep 1 none, Cond.fieldLink RX6 10 "LeastRoutes" "history" "LLeastRoutes$History;", Cond.fieldLink RX6 43 "LeastRoutes" "viewIsOld" "Z", Cond.methodLink RX6 264 yX0_remember, Cond.instanceMethod yX0_remember, Cond.selects RX0 yX0_remember yX0_remember, Cond.initialized RX0, Cond.code yX0_remember cX0_remember 1 none, Cond.fieldLink RX0 22 "LeastRoutes$History" "size" "I", Cond.fieldLink RX0 18 "LeastRoutes$History" "known" "[LLeastRoutes$Moment;", Cond.fieldLink RX0 12 "LeastRoutes$History" "now" "LLeastRoutes$Moment;", Cond.methodLink RX0 26 yX0_loseOldest, Cond.instanceMethod yX0_loseOldest, Cond.selects RX0 yX0_loseOldest yX0_loseOldest, Cond.code yX0_loseOldest cX0_loseOldest 3 none, Cond.methodLink RX0 29 yX1_takeFrom, Cond.instanceMethod yX1_takeFrom, Cond.selects RX1 yX1_takeFrom yX1_takeFrom, Cond.initialized RX1, Cond.code yX1_takeFrom cX1_takeFrom 2 none]
def wsX6_drift_r2 : List Cond := [Cond.fieldLink RX1 10 "LeastRoutes$Moment" "told" "LLeastRoutes$Table;", Cond.fieldLink RX1 16 "LeastRoutes$Moment" "inUse" "LLeastRoutes$Table;", Cond.fieldLink RX1 19 "LeastRoutes$Moment" "draw" "I", Cond.methodLink RX1 25 yX3_takeFrom, Cond.instanceMethod yX3_takeFrom, Cond.selects RX3 yX3_takeFrom yX3_takeFrom, Cond.initialized RX3, Cond.code yX3_takeFrom cX3_takeFrom 2 none, Cond.fieldLink RX3 9 "LeastRoutes$Table" "places" "[J", Cond.methodLink RX3 40 arraycopyName, Cond.native arraycopyName, Cond.static arraycopyName, Cond.initialized "java/lang/System", Cond.fieldLink RX3 15 "LeastRoutes$Table" "size" "I", Cond.methodLink RX6 175 yX6_takeTurn, Cond.instanceMethod yX6_takeTurn, Cond.selects RX6 yX6_takeTurn yX6_takeTurn, Cond.code yX6_takeTurn cX6_takeTurn 6 none, Cond.methodLink RX6 181 yX0_present, Cond.instanceMethod yX0_present, Cond.selects RX0 yX0_present yX0_present, Cond.code yX0_present cX0_present 1 (some (.object "LeastRoutes$Moment")), Cond.methodLink RX6 267 yX1_nextDraw, Cond.instanceMethod yX1_nextDraw]
def wsX6_drift_r3 : List Cond := [Cond.selects RX1 yX1_nextDraw yX1_nextDraw, Cond.code yX1_nextDraw cX1_nextDraw 1 (some .int), Cond.constant RX1 23 (1103515245), Cond.constant RX1 24 (2147483647), Cond.methodLink RX6 51 yX6_table, Cond.instanceMethod yX6_table, Cond.selects RX6 yX6_table yX6_table, Cond.code yX6_table cX6_table 1 (some (.object "LeastRoutes$Table")), Cond.methodLink RX6 254 yX1_tableNow, Cond.instanceMethod yX1_tableNow, Cond.selects RX1 yX1_tableNow yX1_tableNow, Cond.code yX1_tableNow cX1_tableNow 1 (some (.object "LeastRoutes$Table")), Cond.methodLink RX6 77 yX3_hopAt, Cond.instanceMethod yX3_hopAt, Cond.selects RX3 yX3_hopAt yX3_hopAt, Cond.code yX3_hopAt cX3_hopAt 3 (some .int), Cond.methodLink RX6 149 yX3_takeOut, Cond.instanceMethod yX3_takeOut, Cond.selects RX3 yX3_takeOut yX3_takeOut, Cond.code yX3_takeOut cX3_takeOut 2 none, Cond.methodLink RX3 26 yX3_hopAt, Cond.methodLink RX3 30 yX3_setPlace, Cond.instanceMethod yX3_setPlace, Cond.selects RX3 yX3_setPlace yX3_setPlace]
def wsX6_drift_r4 : List Cond := [Cond.code yX3_setPlace cX3_setPlace 4 none, Cond.constantLong RX3 67 (15), Cond.constantLong RX3 69 (-1), Cond.methodLink RX6 102 yX3_howMany, Cond.instanceMethod yX3_howMany, Cond.selects RX3 yX3_howMany yX3_howMany, Cond.code yX3_howMany cX3_howMany 1 (some .int), Cond.methodLink RX6 145 yX3_put, Cond.instanceMethod yX3_put, Cond.selects RX3 yX3_put yX3_put, Cond.code yX3_put cX3_put 3 none, Cond.static yX6_isPrefix, Cond.code yX6_isPrefix cX6_isPrefix 1 (some .boolean), Cond.static yX6_isHop, Cond.code yX6_isHop cX6_isHop 1 (some .boolean)]
def wsX6_drift : List Cond := .code yX6_drift cX6_drift 3 (some .int) :: ((wsX6_drift_r1 ++ (wsX6_drift_r2 ++ (wsX6_drift_r3 ++ wsX6_drift_r4))) ++ wsX60 ++ wsX00 ++ wsX10 ++ wsX30)
def wsX6_undo_r1 : List Cond := [Cond.fieldLink RX6 10 "LeastRoutes" "history" "LLeastRoutes$History;", Cond.fieldLink RX6 43 "LeastRoutes" "viewIsOld" "Z", Cond.methodLink RX6 118 yX0_howManyKnown, Cond.instanceMethod yX0_howManyKnown, Cond.selects RX0 yX0_howManyKnown yX0_howManyKnown, Cond.initialized RX0, Cond.code yX0_howManyKnown cX0_howManyKnown 1 (some .int), Cond.fieldLink RX0 22 "LeastRoutes$History" "size" "I", Cond.methodLink RX6 178 yX0_goBack, Cond.instanceMethod yX0_goBack, Cond.selects RX0 yX0_goBack yX0_goBack, Cond.code yX0_goBack cX0_goBack 1 none, Cond.fieldLink RX0 12 "LeastRoutes$History" "now" "LLeastRoutes$Moment;", Cond.fieldLink RX0 18 "LeastRoutes$History" "known" "[LLeastRoutes$Moment;", Cond.methodLink RX0 29 yX1_takeFrom, Cond.instanceMethod yX1_takeFrom, Cond.selects RX1 yX1_takeFrom yX1_takeFrom, Cond.initialized RX1, Cond.code yX1_takeFrom cX1_takeFrom 2 none, Cond.fieldLink RX1 10 "LeastRoutes$Moment" "told" "LLeastRoutes$Table;", Cond.fieldLink RX1 16 "LeastRoutes$Moment" "inUse" "LLeastRoutes$Table;", Cond.fieldLink RX1 19 "LeastRoutes$Moment" "draw" "I", Cond.methodLink RX1 25 yX3_takeFrom, Cond.instanceMethod yX3_takeFrom]
def wsX6_undo_r2 : List Cond := [Cond.selects RX3 yX3_takeFrom yX3_takeFrom, Cond.initialized RX3, Cond.code yX3_takeFrom cX3_takeFrom 2 none, Cond.fieldLink RX3 9 "LeastRoutes$Table" "places" "[J", Cond.methodLink RX3 40 arraycopyName, Cond.native arraycopyName, Cond.static arraycopyName, Cond.initialized "java/lang/System", Cond.fieldLink RX3 15 "LeastRoutes$Table" "size" "I"]
def wsX6_undo : List Cond := .code yX6_undo cX6_undo 1 (some .int) :: ((wsX6_undo_r1 ++ wsX6_undo_r2) ++ wsX60 ++ wsX00 ++ wsX10 ++ wsX30)
def wsX6_seed : List Cond := .code yX6_seed cX6_seed 3 (some .int) :: ([.fieldLink RX6 10 "LeastRoutes" "history" "LLeastRoutes$History;", .methodLink RX6 181 yX0_present, .instanceMethod yX0_present, .selects RX0 yX0_present yX0_present, .initialized RX0, .code yX0_present cX0_present 1 (some (.object "LeastRoutes$Moment")), .fieldLink RX0 12 "LeastRoutes$History" "now" "LLeastRoutes$Moment;", .methodLink RX6 185 yX1_drawNow, .instanceMethod yX1_drawNow, .selects RX1 yX1_drawNow yX1_drawNow, .initialized RX1, .code yX1_drawNow cX1_drawNow 1 (some .int), .fieldLink RX1 19 "LeastRoutes$Moment" "draw" "I", .methodLink RX6 190 yX1_setDraw, .instanceMethod yX1_setDraw, .selects RX1 yX1_setDraw yX1_setDraw, .code yX1_setDraw cX1_setDraw 2 none] ++ wsX60 ++ wsX00 ++ wsX10)
def wsX6_image_r1 : List Cond := [Cond.fieldLink RX6 16 "LeastRoutes" "kept" "LLeastRoutes$History;", Cond.fieldLink RX6 10 "LeastRoutes" "history" "LLeastRoutes$History;", Cond.fieldLink RX6 39 "LeastRoutes" "hasImage" "Z", Cond.methodLink RX6 193 yX0_takeAllFrom, Cond.instanceMethod yX0_takeAllFrom, Cond.selects RX0 yX0_takeAllFrom yX0_takeAllFrom, Cond.initialized RX0, Cond.code yX0_takeAllFrom cX0_takeAllFrom 3 none, Cond.fieldLink RX0 12 "LeastRoutes$History" "now" "LLeastRoutes$Moment;", Cond.fieldLink RX0 18 "LeastRoutes$History" "known" "[LLeastRoutes$Moment;", Cond.fieldLink RX0 22 "LeastRoutes$History" "size" "I", Cond.methodLink RX0 29 yX1_takeFrom, Cond.instanceMethod yX1_takeFrom, Cond.selects RX1 yX1_takeFrom yX1_takeFrom, Cond.initialized RX1, Cond.code yX1_takeFrom cX1_takeFrom 2 none, Cond.fieldLink RX1 10 "LeastRoutes$Moment" "told" "LLeastRoutes$Table;", Cond.fieldLink RX1 16 "LeastRoutes$Moment" "inUse" "LLeastRoutes$Table;", Cond.fieldLink RX1 19 "LeastRoutes$Moment" "draw" "I", Cond.methodLink RX1 25 yX3_takeFrom, Cond.instanceMethod yX3_takeFrom, Cond.selects RX3 yX3_takeFrom yX3_takeFrom, Cond.initialized RX3, Cond.code yX3_takeFrom cX3_takeFrom 2 none]
def wsX6_image_r2 : List Cond := [Cond.fieldLink RX3 9 "LeastRoutes$Table" "places" "[J", Cond.methodLink RX3 40 arraycopyName, Cond.native arraycopyName, Cond.static arraycopyName, Cond.initialized "java/lang/System", Cond.fieldLink RX3 15 "LeastRoutes$Table" "size" "I"]
def wsX6_image : List Cond := .code yX6_image cX6_image 1 (some .int) :: ((wsX6_image_r1 ++ wsX6_image_r2) ++ wsX60 ++ wsX00 ++ wsX10 ++ wsX30)
def wsX6_restore_r1 : List Cond := [Cond.fieldLink RX6 39 "LeastRoutes" "hasImage" "Z", Cond.fieldLink RX6 43 "LeastRoutes" "viewIsOld" "Z", Cond.fieldLink RX6 10 "LeastRoutes" "history" "LLeastRoutes$History;", Cond.fieldLink RX6 16 "LeastRoutes" "kept" "LLeastRoutes$History;", Cond.methodLink RX6 193 yX0_takeAllFrom, Cond.instanceMethod yX0_takeAllFrom, Cond.selects RX0 yX0_takeAllFrom yX0_takeAllFrom, Cond.initialized RX0, Cond.code yX0_takeAllFrom cX0_takeAllFrom 3 none, Cond.fieldLink RX0 12 "LeastRoutes$History" "now" "LLeastRoutes$Moment;", Cond.fieldLink RX0 18 "LeastRoutes$History" "known" "[LLeastRoutes$Moment;", Cond.fieldLink RX0 22 "LeastRoutes$History" "size" "I", Cond.methodLink RX0 29 yX1_takeFrom, Cond.instanceMethod yX1_takeFrom, Cond.selects RX1 yX1_takeFrom yX1_takeFrom, Cond.initialized RX1, Cond.code yX1_takeFrom cX1_takeFrom 2 none, Cond.fieldLink RX1 10 "LeastRoutes$Moment" "told" "LLeastRoutes$Table;", Cond.fieldLink RX1 16 "LeastRoutes$Moment" "inUse" "LLeastRoutes$Table;", Cond.fieldLink RX1 19 "LeastRoutes$Moment" "draw" "I", Cond.methodLink RX1 25 yX3_takeFrom, Cond.instanceMethod yX3_takeFrom, Cond.selects RX3 yX3_takeFrom yX3_takeFrom, Cond.initialized RX3]
def wsX6_restore_r2 : List Cond := [Cond.code yX3_takeFrom cX3_takeFrom 2 none, Cond.fieldLink RX3 9 "LeastRoutes$Table" "places" "[J", Cond.methodLink RX3 40 arraycopyName, Cond.native arraycopyName, Cond.static arraycopyName, Cond.initialized "java/lang/System", Cond.fieldLink RX3 15 "LeastRoutes$Table" "size" "I"]
def wsX6_restore : List Cond := .code yX6_restore cX6_restore 1 (some .int) :: ((wsX6_restore_r1 ++ wsX6_restore_r2) ++ wsX60 ++ wsX00 ++ wsX10 ++ wsX30)
def wsX6_isSheet : List Cond := .code yX6_isSheet cX6_isSheet 1 (some .boolean) :: ([])
def wsX6_isLane : List Cond := .code yX6_isLane cX6_isLane 1 (some .boolean) :: ([])
def wsX6_lengths_r1 : List Cond := [Cond.fieldLink RX6 35 "LeastRoutes" "sheets" "[LLeastRoutes$Sheet;", Cond.methodLink RX6 197 yX6_isSheet, Cond.static yX6_isSheet, Cond.initialized RX6, Cond.code yX6_isSheet cX6_isSheet 1 (some .boolean), Cond.methodLink RX6 200 yX6_isLane, Cond.static yX6_isLane, Cond.code yX6_isLane cX6_isLane 1 (some .boolean), Cond.methodLink RX6 203 yX2_refusal, Cond.instanceMethod yX2_refusal, Cond.selects RX2 yX2_refusal yX2_refusal, Cond.initialized RX2, Cond.code yX2_refusal cX2_refusal 4 (some .int), Cond.fieldLink RX2 15 "LeastRoutes$Sheet" "ownLane" "I", Cond.methodLink RX2 22 yX2_holdsNothing, Cond.instanceMethod yX2_holdsNothing, Cond.selects RX2 yX2_holdsNothing yX2_holdsNothing, Cond.code yX2_holdsNothing cX2_holdsNothing 1 (some .boolean), Cond.methodLink RX2 26 yX2_hasItems, Cond.instanceMethod yX2_hasItems, Cond.selects RX2 yX2_hasItems yX2_hasItems, Cond.code yX2_hasItems cX2_hasItems 3 (some .boolean), Cond.fieldLink RX2 19 "LeastRoutes$Sheet" "size" "I", Cond.methodLink RX6 207 yX2_holdsPairs]
def wsX6_lengths_r2 : List Cond := [Cond.instanceMethod yX2_holdsPairs, Cond.selects RX2 yX2_holdsPairs yX2_holdsPairs, Cond.code yX2_holdsPairs cX2_holdsPairs 8 (some .boolean), Cond.fieldLink RX2 9 "LeastRoutes$Sheet" "items" "[J", Cond.constantLong RX2 46 (256), Cond.constantLong RX2 48 (8), Cond.methodLink RX6 211 yX2_isToldBy, Cond.instanceMethod yX2_isToldBy, Cond.selects RX2 yX2_isToldBy yX2_isToldBy, Cond.code yX2_isToldBy cX2_isToldBy 8 (some .boolean)]
def wsX6_lengths : List Cond := .code yX6_lengths cX6_lengths 8 (some .int) :: ((wsX6_lengths_r1 ++ wsX6_lengths_r2) ++ wsX60 ++ wsX20)
def wsX6_film_r1 : List Cond := [Cond.fieldLink RX6 35 "LeastRoutes" "sheets" "[LLeastRoutes$Sheet;", Cond.methodLink RX6 197 yX6_isSheet, Cond.static yX6_isSheet, Cond.initialized RX6, Cond.code yX6_isSheet cX6_isSheet 1 (some .boolean), Cond.methodLink RX6 200 yX6_isLane, Cond.static yX6_isLane, Cond.code yX6_isLane cX6_isLane 1 (some .boolean), Cond.methodLink RX6 67 yX6_freshView, Cond.instanceMethod yX6_freshView, Cond.selects RX6 yX6_freshView yX6_freshView, Cond.code yX6_freshView cX6_freshView 1 (some (.object "LeastRoutes$View")), Cond.fieldLink RX6 43 "LeastRoutes" "viewIsOld" "Z", Cond.fieldLink RX6 22 "LeastRoutes" "view" "LLeastRoutes$View;", Cond.methodLink RX6 51 yX6_table, Cond.instanceMethod yX6_table, Cond.selects RX6 yX6_table yX6_table, Cond.code yX6_table cX6_table 1 (some (.object "LeastRoutes$Table")), Cond.fieldLink RX6 10 "LeastRoutes" "history" "LLeastRoutes$History;", Cond.methodLink RX6 181 yX0_present, Cond.instanceMethod yX0_present, Cond.selects RX0 yX0_present yX0_present, Cond.initialized RX0, Cond.code yX0_present cX0_present 1 (some (.object "LeastRoutes$Moment"))]
def wsX6_film_r2 : List Cond := [Cond.fieldLink RX0 12 "LeastRoutes$History" "now" "LLeastRoutes$Moment;", Cond.methodLink RX6 254 yX1_tableNow, Cond.instanceMethod yX1_tableNow, Cond.selects RX1 yX1_tableNow yX1_tableNow, Cond.initialized RX1, Cond.code yX1_tableNow cX1_tableNow 1 (some (.object "LeastRoutes$Table")), Cond.fieldLink RX1 10 "LeastRoutes$Moment" "told" "LLeastRoutes$Table;", Cond.methodLink RX6 64 yX6_installed, Cond.instanceMethod yX6_installed, Cond.selects RX6 yX6_installed yX6_installed, Cond.code yX6_installed cX6_installed 1 (some (.object "LeastRoutes$Table")), Cond.methodLink RX6 257 yX1_installedNow, Cond.instanceMethod yX1_installedNow, Cond.selects RX1 yX1_installedNow yX1_installedNow, Cond.code yX1_installedNow cX1_installedNow 1 (some (.object "LeastRoutes$Table")), Cond.fieldLink RX1 16 "LeastRoutes$Moment" "inUse" "LLeastRoutes$Table;", Cond.methodLink RX6 260 yX5_make, Cond.instanceMethod yX5_make, Cond.selects RX5 yX5_make yX5_make, Cond.initialized RX5, Cond.code yX5_make cX5_make 3 none, Cond.fieldLink RX5 30 "LeastRoutes$View" "inUse" "LLeastRoutes$Table;", Cond.fieldLink RX5 9 "LeastRoutes$View" "sent" "[I", Cond.fieldLink RX5 15 "LeastRoutes$View" "sentByInstalled" "[I"]
def wsX6_film_r3 : List Cond := [Cond.methodLink RX5 37 yX3_takeFrom, Cond.instanceMethod yX3_takeFrom, Cond.selects RX3 yX3_takeFrom yX3_takeFrom, Cond.initialized RX3, Cond.code yX3_takeFrom cX3_takeFrom 2 none, Cond.fieldLink RX3 9 "LeastRoutes$Table" "places" "[J", Cond.methodLink RX3 40 arraycopyName, Cond.native arraycopyName, Cond.static arraycopyName, Cond.initialized "java/lang/System", Cond.fieldLink RX3 15 "LeastRoutes$Table" "size" "I", Cond.methodLink RX5 41 yX5_spread, Cond.static yX5_spread, Cond.code yX5_spread cX5_spread 4 none, Cond.methodLink RX5 87 Lib.Math.max.name, Cond.static Lib.Math.max.name, Cond.initialized "java/lang/Math", Cond.code Lib.Math.max.name Lib.Math.max.code 2 (some .int), Cond.methodLink RX5 66 yX3_hopAt, Cond.instanceMethod yX3_hopAt, Cond.selects RX3 yX3_hopAt yX3_hopAt, Cond.code yX3_hopAt cX3_hopAt 3 (some .int), Cond.methodLink RX5 45 yX5_findBest, Cond.instanceMethod yX5_findBest]
def wsX6_film_r4 : List Cond := [Cond.selects RX5 yX5_findBest yX5_findBest, Cond.code yX5_findBest cX5_findBest 3 none, Cond.fieldLink RX5 18 "LeastRoutes$View" "best" "[I", Cond.fieldLink RX5 21 "LeastRoutes$View" "ease" "[I", Cond.methodLink RX5 48 yX5_findLeast, Cond.instanceMethod yX5_findLeast, Cond.selects RX5 yX5_findLeast yX5_findLeast, Cond.code yX5_findLeast cX5_findLeast 3 none, Cond.fieldLink RX5 34 "LeastRoutes$View" "leastOne" "LLeastRoutes$Table;", Cond.fieldLink RX5 24 "LeastRoutes$View" "fromAbove" "[I", Cond.methodLink RX5 93 yX3_makeEmpty, Cond.instanceMethod yX3_makeEmpty, Cond.selects RX3 yX3_makeEmpty yX3_makeEmpty, Cond.code yX3_makeEmpty cX3_makeEmpty 1 none, Cond.methodLink RX3 34 yJ7_fill_d0a16, Cond.static yJ7_fill_d0a16, Cond.initialized RJ7, Cond.code yJ7_fill_d0a16 cJ7_fill_d0a16 5 none, Cond.methodLink RX5 62 yX5_hasBit, Cond.static yX5_hasBit, Cond.code yX5_hasBit cX5_hasBit 2 (some .boolean), Cond.static yX6_lowestHop, Cond.code yX6_lowestHop cX6_lowestHop 1 (some .int), Cond.methodLink RX6 240 yJ6_numberOfTrailingZeros_0f7a4]
def wsX6_film_r5 : List Cond := [Cond.static yJ6_numberOfTrailingZeros_0f7a4, Cond.initialized RJ6, Cond.code yJ6_numberOfTrailingZeros_0f7a4 cJ6_numberOfTrailingZeros_0f7a4 2 (some .int), Cond.constant RJ6 264 (65536), Cond.methodLink RX5 99 yX3_put, Cond.instanceMethod yX3_put, Cond.selects RX3 yX3_put yX3_put, Cond.code yX3_put cX3_put 3 none, Cond.static yX6_isPrefix, Cond.code yX6_isPrefix cX6_isPrefix 1 (some .boolean), Cond.static yX6_isHop, Cond.code yX6_isHop cX6_isHop 1 (some .boolean), Cond.methodLink RX3 26 yX3_hopAt, Cond.methodLink RX3 30 yX3_setPlace, Cond.instanceMethod yX3_setPlace, Cond.selects RX3 yX3_setPlace yX3_setPlace, Cond.code yX3_setPlace cX3_setPlace 4 none, Cond.constantLong RX3 67 (15), Cond.constantLong RX3 69 (-1), Cond.methodLink RX6 71 yX5_leastTable, Cond.instanceMethod yX5_leastTable, Cond.selects RX5 yX5_leastTable yX5_leastTable, Cond.code yX5_leastTable cX5_leastTable 1 (some (.object "LeastRoutes$Table")), Cond.methodLink RX6 102 yX3_howMany]
def wsX6_film_r6 : List Cond := [Cond.instanceMethod yX3_howMany, Cond.selects RX3 yX3_howMany yX3_howMany, Cond.code yX3_howMany cX3_howMany 1 (some .int), Cond.methodLink RX6 203 yX2_refusal, Cond.instanceMethod yX2_refusal, Cond.selects RX2 yX2_refusal yX2_refusal, Cond.initialized RX2, Cond.code yX2_refusal cX2_refusal 4 (some .int), Cond.fieldLink RX2 15 "LeastRoutes$Sheet" "ownLane" "I", Cond.methodLink RX2 22 yX2_holdsNothing, Cond.instanceMethod yX2_holdsNothing, Cond.selects RX2 yX2_holdsNothing yX2_holdsNothing, Cond.code yX2_holdsNothing cX2_holdsNothing 1 (some .boolean), Cond.methodLink RX2 26 yX2_hasItems, Cond.instanceMethod yX2_hasItems, Cond.selects RX2 yX2_hasItems yX2_hasItems, Cond.code yX2_hasItems cX2_hasItems 3 (some .boolean), Cond.fieldLink RX2 19 "LeastRoutes$Sheet" "size" "I", Cond.methodLink RX6 99 yX3_numberOf, Cond.instanceMethod yX3_numberOf, Cond.selects RX3 yX3_numberOf yX3_numberOf, Cond.code yX3_numberOf cX3_numberOf 4 (some .int), Cond.methodLink RX6 215 yX2_setItem, Cond.instanceMethod yX2_setItem]
def wsX6_film_r7 : List Cond := [Cond.selects RX2 yX2_setItem yX2_setItem, Cond.code yX2_setItem cX2_setItem 4 none, Cond.fieldLink RX2 9 "LeastRoutes$Sheet" "items" "[J", Cond.methodLink RX2 36 yX2_lowestBits, Cond.instanceMethod yX2_lowestBits, Cond.selects RX2 yX2_lowestBits yX2_lowestBits, Cond.code yX2_lowestBits cX2_lowestBits 3 (some .long), Cond.methodLink RX6 77 yX3_hopAt]
def wsX6_film : List Cond := .code yX6_film cX6_film 10 (some .int) :: ((wsX6_film_r1 ++ (wsX6_film_r2 ++ (wsX6_film_r3 ++ (wsX6_film_r4 ++ (wsX6_film_r5 ++ (wsX6_film_r6 ++ wsX6_film_r7)))))) ++ wsX60 ++ wsX00 ++ wsX10 ++ wsX50 ++ wsX30 ++ wsX20)
def wsX6_sheet : List Cond := .code yX6_sheet cX6_sheet 4 (some .int) :: ([.fieldLink RX6 35 "LeastRoutes" "sheets" "[LLeastRoutes$Sheet;", .methodLink RX6 197 yX6_isSheet, .static yX6_isSheet, .initialized RX6, .code yX6_isSheet cX6_isSheet 1 (some .boolean), .methodLink RX6 200 yX6_isLane, .static yX6_isLane, .code yX6_isLane cX6_isLane 1 (some .boolean), .methodLink RX6 219 yX2_startRow, .instanceMethod yX2_startRow, .selects RX2 yX2_startRow yX2_startRow, .initialized RX2, .code yX2_startRow cX2_startRow 3 none, .fieldLink RX2 9 "LeastRoutes$Sheet" "items" "[J", .fieldLink RX2 15 "LeastRoutes$Sheet" "ownLane" "I", .fieldLink RX2 19 "LeastRoutes$Sheet" "size" "I", .methodLink RX2 30 yJ7_fill_d0a16, .static yJ7_fill_d0a16, .initialized RJ7, .code yJ7_fill_d0a16 cJ7_fill_d0a16 5 none] ++ wsX60 ++ wsX20)
def wsX6_drop : List Cond := .code yX6_drop cX6_drop 2 (some .int) :: ([.fieldLink RX6 35 "LeastRoutes" "sheets" "[LLeastRoutes$Sheet;", .methodLink RX6 197 yX6_isSheet, .static yX6_isSheet, .initialized RX6, .code yX6_isSheet cX6_isSheet 1 (some .boolean), .methodLink RX6 222 yX2_holdsNothing, .instanceMethod yX2_holdsNothing, .selects RX2 yX2_holdsNothing yX2_holdsNothing, .initialized RX2, .code yX2_holdsNothing cX2_holdsNothing 1 (some .boolean), .fieldLink RX2 15 "LeastRoutes$Sheet" "ownLane" "I", .methodLink RX6 226 yX2_makeNothing, .instanceMethod yX2_makeNothing, .selects RX2 yX2_makeNothing yX2_makeNothing, .code yX2_makeNothing cX2_makeNothing 2 (some .int), .fieldLink RX2 19 "LeastRoutes$Sheet" "size" "I"] ++ wsX60 ++ wsX20)
def wsX6_item_r1 : List Cond := [Cond.fieldLink RX6 35 "LeastRoutes" "sheets" "[LLeastRoutes$Sheet;", Cond.methodLink RX6 197 yX6_isSheet, Cond.static yX6_isSheet, Cond.initialized RX6, Cond.code yX6_isSheet cX6_isSheet 1 (some .boolean), Cond.methodLink RX6 200 yX6_isLane, Cond.static yX6_isLane, Cond.code yX6_isLane cX6_isLane 1 (some .boolean), Cond.methodLink RX6 203 yX2_refusal, Cond.instanceMethod yX2_refusal, Cond.selects RX2 yX2_refusal yX2_refusal, Cond.initialized RX2, Cond.code yX2_refusal cX2_refusal 4 (some .int), Cond.fieldLink RX2 15 "LeastRoutes$Sheet" "ownLane" "I", Cond.methodLink RX2 22 yX2_holdsNothing, Cond.instanceMethod yX2_holdsNothing, Cond.selects RX2 yX2_holdsNothing yX2_holdsNothing, Cond.code yX2_holdsNothing cX2_holdsNothing 1 (some .boolean), Cond.methodLink RX2 26 yX2_hasItems, Cond.instanceMethod yX2_hasItems, Cond.selects RX2 yX2_hasItems yX2_hasItems, Cond.code yX2_hasItems cX2_hasItems 3 (some .boolean), Cond.fieldLink RX2 19 "LeastRoutes$Sheet" "size" "I", Cond.methodLink RX6 215 yX2_setItem]
def wsX6_item_r2 : List Cond := [Cond.instanceMethod yX2_setItem, Cond.selects RX2 yX2_setItem yX2_setItem, Cond.code yX2_setItem cX2_setItem 4 none, Cond.fieldLink RX2 9 "LeastRoutes$Sheet" "items" "[J", Cond.methodLink RX2 36 yX2_lowestBits, Cond.instanceMethod yX2_lowestBits, Cond.selects RX2 yX2_lowestBits yX2_lowestBits, Cond.code yX2_lowestBits cX2_lowestBits 3 (some .long)]
def wsX6_item : List Cond := .code yX6_item cX6_item 7 (some .int) :: ((wsX6_item_r1 ++ wsX6_item_r2) ++ wsX60 ++ wsX20)
def wsX6_copy_r1 : List Cond := [Cond.fieldLink RX6 35 "LeastRoutes" "sheets" "[LLeastRoutes$Sheet;", Cond.methodLink RX6 197 yX6_isSheet, Cond.static yX6_isSheet, Cond.initialized RX6, Cond.code yX6_isSheet cX6_isSheet 1 (some .boolean), Cond.methodLink RX6 222 yX2_holdsNothing, Cond.instanceMethod yX2_holdsNothing, Cond.selects RX2 yX2_holdsNothing yX2_holdsNothing, Cond.initialized RX2, Cond.code yX2_holdsNothing cX2_holdsNothing 1 (some .boolean), Cond.fieldLink RX2 15 "LeastRoutes$Sheet" "ownLane" "I", Cond.methodLink RX6 229 yX2_hasLaneOf, Cond.instanceMethod yX2_hasLaneOf, Cond.selects RX2 yX2_hasLaneOf yX2_hasLaneOf, Cond.code yX2_hasLaneOf cX2_hasLaneOf 2 (some .boolean), Cond.methodLink RX6 233 yX2_hasItems, Cond.instanceMethod yX2_hasItems, Cond.selects RX2 yX2_hasItems yX2_hasItems, Cond.code yX2_hasItems cX2_hasItems 3 (some .boolean), Cond.fieldLink RX2 19 "LeastRoutes$Sheet" "size" "I", Cond.methodLink RX6 236 yX2_takeItems, Cond.instanceMethod yX2_takeItems, Cond.selects RX2 yX2_takeItems yX2_takeItems, Cond.code yX2_takeItems cX2_takeItems 5 none]
def wsX6_copy_r2 : List Cond := [Cond.fieldLink RX2 9 "LeastRoutes$Sheet" "items" "[J", Cond.methodLink RX2 40 arraycopyName, Cond.native arraycopyName, Cond.static arraycopyName, Cond.initialized "java/lang/System", Cond.methodLink RX2 26 yX2_hasItems]
def wsX6_copy : List Cond := .code yX6_copy cX6_copy 8 (some .int) :: ((wsX6_copy_r1 ++ wsX6_copy_r2) ++ wsX60 ++ wsX20)
def wsX7_init : List Cond := .code yX7_init cX7_init 2 none :: ([.methodLink RX7 1 objectInit, .instanceMethod objectInit, .code objectInit ⟨#[0xb1]⟩ 1 none, .arrayClass .int, .fieldLink RX7 7 "LeastRoutesModel" "st" "[I", .fieldLink RX7 13 "LeastRoutesModel" "past" "[I", .fieldLink RX7 16 "LeastRoutesModel" "image" "[I", .fieldLink RX7 19 "LeastRoutesModel" "imagePast" "[I", .fieldLink RX7 22 "LeastRoutesModel" "imageActs" "I", .fieldLink RX7 26 "LeastRoutesModel" "tape" "[I", .fieldLink RX7 29 "LeastRoutesModel" "laneOf" "[I", .fieldLink RX7 32 "LeastRoutesModel" "sizeOf" "[I", .arrayClass .long, .fieldLink RX7 35 "LeastRoutesModel" "items" "[J", .fieldLink RX7 39 "LeastRoutesModel" "least" "[I", .fieldLink RX7 42 "LeastRoutesModel" "costs" "[I", .fieldLink RX7 45 "LeastRoutesModel" "hops" "[I", .fieldLink RX7 48 "LeastRoutesModel" "comes" "[I", .fieldLink RX7 51 "LeastRoutesModel" "chain" "[I", .fieldLink RX7 54 "LeastRoutesModel" "told" "[I"] ++ wsX70)
def wsX7_in : List Cond := .code yX7_in cX7_in 6 (some .boolean) :: ([])
def wsX7_bring : List Cond := .code yX7_bring cX7_bring 6 none :: ([])
def wsX7_decides : List Cond := .code yX7_decides cX7_decides 5 (some .int) :: ([])
def wsX7_hopBy : List Cond := .code yX7_hopBy cX7_hopBy 5 (some .int) :: ([.methodLink RX7 57 yX7_decides, .static yX7_decides, .initialized RX7, .code yX7_decides cX7_decides 5 (some .int)])
def wsX7_lesser : List Cond := .code yX7_lesser cX7_lesser 2 (some .int) :: ([])
def wsX7_laysCosts : List Cond := .code yX7_laysCosts cX7_laysCosts 5 none :: ([.fieldLink RX7 42 "LeastRoutesModel" "costs" "[I", .fieldLink RX7 45 "LeastRoutesModel" "hops" "[I", .methodLink RX7 61 yX7_lesser, .static yX7_lesser, .initialized RX7, .code yX7_lesser cX7_lesser 2 (some .int)] ++ wsX70)
def wsX7_ease : List Cond := .code yX7_ease cX7_ease 4 (some .int) :: ([.fieldLink RX7 42 "LeastRoutesModel" "costs" "[I", .methodLink RX7 61 yX7_lesser, .static yX7_lesser, .initialized RX7, .code yX7_lesser cX7_lesser 2 (some .int)] ++ wsX70)
def wsX7_setOf : List Cond := .code yX7_setOf cX7_setOf 4 (some .int) :: ([.fieldLink RX7 42 "LeastRoutesModel" "costs" "[I", .methodLink RX7 65 yX7_ease, .instanceMethod yX7_ease, .selects RX7 yX7_ease yX7_ease, .initialized RX7, .code yX7_ease cX7_ease 4 (some .int), .methodLink RX7 61 yX7_lesser, .static yX7_lesser, .code yX7_lesser cX7_lesser 2 (some .int)] ++ wsX70)
def wsX7_laysLeast : List Cond := .code yX7_laysLeast cX7_laysLeast 4 none :: ([.fieldLink RX7 48 "LeastRoutesModel" "comes" "[I", .fieldLink RX7 39 "LeastRoutesModel" "least" "[I", .methodLink RX7 69 yX7_setOf, .instanceMethod yX7_setOf, .selects RX7 yX7_setOf yX7_setOf, .initialized RX7, .code yX7_setOf cX7_setOf 4 (some .int), .fieldLink RX7 42 "LeastRoutesModel" "costs" "[I", .methodLink RX7 65 yX7_ease, .instanceMethod yX7_ease, .selects RX7 yX7_ease yX7_ease, .code yX7_ease cX7_ease 4 (some .int), .methodLink RX7 61 yX7_lesser, .static yX7_lesser, .code yX7_lesser cX7_lesser 2 (some .int)] ++ wsX70)
def wsX7_laysHops : List Cond := .code yX7_laysHops cX7_laysHops 2 none :: ([.fieldLink RX7 45 "LeastRoutesModel" "hops" "[I", .fieldLink RX7 7 "LeastRoutesModel" "st" "[I", .methodLink RX7 72 yX7_hopBy, .static yX7_hopBy, .initialized RX7, .code yX7_hopBy cX7_hopBy 5 (some .int), .methodLink RX7 57 yX7_decides, .static yX7_decides, .code yX7_decides cX7_decides 5 (some .int)] ++ wsX70)
def wsX7_lays_r1 : List Cond := [Cond.methodLink RX7 75 yX7_laysHops, Cond.instanceMethod yX7_laysHops, Cond.selects RX7 yX7_laysHops yX7_laysHops, Cond.initialized RX7, Cond.code yX7_laysHops cX7_laysHops 2 none, Cond.fieldLink RX7 45 "LeastRoutesModel" "hops" "[I", Cond.fieldLink RX7 7 "LeastRoutesModel" "st" "[I", Cond.methodLink RX7 72 yX7_hopBy, Cond.static yX7_hopBy, Cond.code yX7_hopBy cX7_hopBy 5 (some .int), Cond.methodLink RX7 57 yX7_decides, Cond.static yX7_decides, Cond.code yX7_decides cX7_decides 5 (some .int), Cond.methodLink RX7 78 yX7_laysCosts, Cond.instanceMethod yX7_laysCosts, Cond.selects RX7 yX7_laysCosts yX7_laysCosts, Cond.code yX7_laysCosts cX7_laysCosts 5 none, Cond.fieldLink RX7 42 "LeastRoutesModel" "costs" "[I", Cond.methodLink RX7 61 yX7_lesser, Cond.static yX7_lesser, Cond.code yX7_lesser cX7_lesser 2 (some .int), Cond.methodLink RX7 81 yX7_laysLeast, Cond.instanceMethod yX7_laysLeast, Cond.selects RX7 yX7_laysLeast yX7_laysLeast]
def wsX7_lays_r2 : List Cond := [Cond.code yX7_laysLeast cX7_laysLeast 4 none, Cond.fieldLink RX7 48 "LeastRoutesModel" "comes" "[I", Cond.fieldLink RX7 39 "LeastRoutesModel" "least" "[I", Cond.methodLink RX7 69 yX7_setOf, Cond.instanceMethod yX7_setOf, Cond.selects RX7 yX7_setOf yX7_setOf, Cond.code yX7_setOf cX7_setOf 4 (some .int), Cond.methodLink RX7 65 yX7_ease, Cond.instanceMethod yX7_ease, Cond.selects RX7 yX7_ease yX7_ease, Cond.code yX7_ease cX7_ease 4 (some .int)]
def wsX7_lays : List Cond := .code yX7_lays cX7_lays 1 none :: ((wsX7_lays_r1 ++ wsX7_lays_r2) ++ wsX70)
def wsX7_has : List Cond := .code yX7_has cX7_has 3 (some .boolean) :: ([])
def wsX7_hopsIn : List Cond := .code yX7_hopsIn cX7_hopsIn 4 (some .int) :: ([.fieldLink RX7 45 "LeastRoutesModel" "hops" "[I", .methodLink RX7 84 yX7_has, .static yX7_has, .initialized RX7, .code yX7_has cX7_has 3 (some .boolean)] ++ wsX70)
def wsX7_isRedundant : List Cond := .code yX7_isRedundant cX7_isRedundant 4 (some .boolean) :: ([.fieldLink RX7 7 "LeastRoutesModel" "st" "[I", .fieldLink RX7 45 "LeastRoutesModel" "hops" "[I", .methodLink RX7 72 yX7_hopBy, .static yX7_hopBy, .initialized RX7, .code yX7_hopBy cX7_hopBy 5 (some .int), .methodLink RX7 57 yX7_decides, .static yX7_decides, .code yX7_decides cX7_decides 5 (some .int)] ++ wsX70)
def wsX7_toldOf : List Cond := .code yX7_toldOf cX7_toldOf 1 (some .int) :: ([])
def wsX7_look_r1 : List Cond := [Cond.constantLong RX7 88 (255), Cond.constantLong RX7 94 (3), Cond.fieldLink RX7 45 "LeastRoutesModel" "hops" "[I", Cond.fieldLink RX7 7 "LeastRoutesModel" "st" "[I", Cond.fieldLink RX7 39 "LeastRoutesModel" "least" "[I", Cond.methodLink RX7 90 yX7_in, Cond.static yX7_in, Cond.initialized RX7, Cond.code yX7_in cX7_in 6 (some .boolean), Cond.methodLink RX7 96 yX7_lays, Cond.instanceMethod yX7_lays, Cond.selects RX7 yX7_lays yX7_lays, Cond.code yX7_lays cX7_lays 1 none, Cond.methodLink RX7 75 yX7_laysHops, Cond.instanceMethod yX7_laysHops, Cond.selects RX7 yX7_laysHops yX7_laysHops, Cond.code yX7_laysHops cX7_laysHops 2 none, Cond.methodLink RX7 72 yX7_hopBy, Cond.static yX7_hopBy, Cond.code yX7_hopBy cX7_hopBy 5 (some .int), Cond.methodLink RX7 57 yX7_decides, Cond.static yX7_decides, Cond.code yX7_decides cX7_decides 5 (some .int), Cond.methodLink RX7 78 yX7_laysCosts]
def wsX7_look_r2 : List Cond := [Cond.instanceMethod yX7_laysCosts, Cond.selects RX7 yX7_laysCosts yX7_laysCosts, Cond.code yX7_laysCosts cX7_laysCosts 5 none, Cond.fieldLink RX7 42 "LeastRoutesModel" "costs" "[I", Cond.methodLink RX7 61 yX7_lesser, Cond.static yX7_lesser, Cond.code yX7_lesser cX7_lesser 2 (some .int), Cond.methodLink RX7 81 yX7_laysLeast, Cond.instanceMethod yX7_laysLeast, Cond.selects RX7 yX7_laysLeast yX7_laysLeast, Cond.code yX7_laysLeast cX7_laysLeast 4 none, Cond.fieldLink RX7 48 "LeastRoutesModel" "comes" "[I", Cond.methodLink RX7 69 yX7_setOf, Cond.instanceMethod yX7_setOf, Cond.selects RX7 yX7_setOf yX7_setOf, Cond.code yX7_setOf cX7_setOf 4 (some .int), Cond.methodLink RX7 65 yX7_ease, Cond.instanceMethod yX7_ease, Cond.selects RX7 yX7_ease yX7_ease, Cond.code yX7_ease cX7_ease 4 (some .int)]
def wsX7_look : List Cond := .code yX7_look cX7_look 3 (some .int) :: ((wsX7_look_r1 ++ wsX7_look_r2) ++ wsX70)
def wsX7_isPrefix : List Cond := .code yX7_isPrefix cX7_isPrefix 1 (some .boolean) :: ([.constantLong RX7 99 (511), .methodLink RX7 90 yX7_in, .static yX7_in, .initialized RX7, .code yX7_in cX7_in 6 (some .boolean)])
def wsX7_prefix_r1 : List Cond := [Cond.constantLong RX7 105 (6), Cond.fieldLink RX7 7 "LeastRoutesModel" "st" "[I", Cond.fieldLink RX7 39 "LeastRoutesModel" "least" "[I", Cond.methodLink RX7 101 yX7_isPrefix, Cond.static yX7_isPrefix, Cond.initialized RX7, Cond.code yX7_isPrefix cX7_isPrefix 1 (some .boolean), Cond.constantLong RX7 99 (511), Cond.methodLink RX7 90 yX7_in, Cond.static yX7_in, Cond.code yX7_in cX7_in 6 (some .boolean), Cond.methodLink RX7 96 yX7_lays, Cond.instanceMethod yX7_lays, Cond.selects RX7 yX7_lays yX7_lays, Cond.code yX7_lays cX7_lays 1 none, Cond.methodLink RX7 75 yX7_laysHops, Cond.instanceMethod yX7_laysHops, Cond.selects RX7 yX7_laysHops yX7_laysHops, Cond.code yX7_laysHops cX7_laysHops 2 none, Cond.fieldLink RX7 45 "LeastRoutesModel" "hops" "[I", Cond.methodLink RX7 72 yX7_hopBy, Cond.static yX7_hopBy, Cond.code yX7_hopBy cX7_hopBy 5 (some .int), Cond.methodLink RX7 57 yX7_decides]
def wsX7_prefix_r2 : List Cond := [Cond.static yX7_decides, Cond.code yX7_decides cX7_decides 5 (some .int), Cond.methodLink RX7 78 yX7_laysCosts, Cond.instanceMethod yX7_laysCosts, Cond.selects RX7 yX7_laysCosts yX7_laysCosts, Cond.code yX7_laysCosts cX7_laysCosts 5 none, Cond.fieldLink RX7 42 "LeastRoutesModel" "costs" "[I", Cond.methodLink RX7 61 yX7_lesser, Cond.static yX7_lesser, Cond.code yX7_lesser cX7_lesser 2 (some .int), Cond.methodLink RX7 81 yX7_laysLeast, Cond.instanceMethod yX7_laysLeast, Cond.selects RX7 yX7_laysLeast yX7_laysLeast, Cond.code yX7_laysLeast cX7_laysLeast 4 none, Cond.fieldLink RX7 48 "LeastRoutesModel" "comes" "[I", Cond.methodLink RX7 69 yX7_setOf, Cond.instanceMethod yX7_setOf, Cond.selects RX7 yX7_setOf yX7_setOf, Cond.code yX7_setOf cX7_setOf 4 (some .int), Cond.methodLink RX7 65 yX7_ease, Cond.instanceMethod yX7_ease, Cond.selects RX7 yX7_ease yX7_ease, Cond.code yX7_ease cX7_ease 4 (some .int), Cond.methodLink RX7 107 yX7_toldOf]
def wsX7_prefix_r3 : List Cond := [Cond.static yX7_toldOf, Cond.code yX7_toldOf cX7_toldOf 1 (some .int), Cond.methodLink RX7 110 yX7_hopsIn, Cond.instanceMethod yX7_hopsIn, Cond.selects RX7 yX7_hopsIn yX7_hopsIn, Cond.code yX7_hopsIn cX7_hopsIn 4 (some .int), Cond.methodLink RX7 84 yX7_has, Cond.static yX7_has, Cond.code yX7_has cX7_has 3 (some .boolean), Cond.methodLink RX7 113 yX7_isRedundant, Cond.instanceMethod yX7_isRedundant, Cond.selects RX7 yX7_isRedundant yX7_isRedundant, Cond.code yX7_isRedundant cX7_isRedundant 4 (some .boolean)]
def wsX7_prefix : List Cond := .code yX7_prefix cX7_prefix 3 (some .int) :: ((wsX7_prefix_r1 ++ (wsX7_prefix_r2 ++ wsX7_prefix_r3)) ++ wsX70)
def wsX7_cost_r1 : List Cond := [Cond.constantLong RX7 116 (7), Cond.fieldLink RX7 42 "LeastRoutesModel" "costs" "[I", Cond.methodLink RX7 101 yX7_isPrefix, Cond.static yX7_isPrefix, Cond.initialized RX7, Cond.code yX7_isPrefix cX7_isPrefix 1 (some .boolean), Cond.constantLong RX7 99 (511), Cond.methodLink RX7 90 yX7_in, Cond.static yX7_in, Cond.code yX7_in cX7_in 6 (some .boolean), Cond.methodLink RX7 96 yX7_lays, Cond.instanceMethod yX7_lays, Cond.selects RX7 yX7_lays yX7_lays, Cond.code yX7_lays cX7_lays 1 none, Cond.methodLink RX7 75 yX7_laysHops, Cond.instanceMethod yX7_laysHops, Cond.selects RX7 yX7_laysHops yX7_laysHops, Cond.code yX7_laysHops cX7_laysHops 2 none, Cond.fieldLink RX7 45 "LeastRoutesModel" "hops" "[I", Cond.fieldLink RX7 7 "LeastRoutesModel" "st" "[I", Cond.methodLink RX7 72 yX7_hopBy, Cond.static yX7_hopBy, Cond.code yX7_hopBy cX7_hopBy 5 (some .int), Cond.methodLink RX7 57 yX7_decides]
def wsX7_cost_r2 : List Cond := [Cond.static yX7_decides, Cond.code yX7_decides cX7_decides 5 (some .int), Cond.methodLink RX7 78 yX7_laysCosts, Cond.instanceMethod yX7_laysCosts, Cond.selects RX7 yX7_laysCosts yX7_laysCosts, Cond.code yX7_laysCosts cX7_laysCosts 5 none, Cond.methodLink RX7 61 yX7_lesser, Cond.static yX7_lesser, Cond.code yX7_lesser cX7_lesser 2 (some .int), Cond.methodLink RX7 81 yX7_laysLeast, Cond.instanceMethod yX7_laysLeast, Cond.selects RX7 yX7_laysLeast yX7_laysLeast, Cond.code yX7_laysLeast cX7_laysLeast 4 none, Cond.fieldLink RX7 48 "LeastRoutesModel" "comes" "[I", Cond.fieldLink RX7 39 "LeastRoutesModel" "least" "[I", Cond.methodLink RX7 69 yX7_setOf, Cond.instanceMethod yX7_setOf, Cond.selects RX7 yX7_setOf yX7_setOf, Cond.code yX7_setOf cX7_setOf 4 (some .int), Cond.methodLink RX7 65 yX7_ease, Cond.instanceMethod yX7_ease, Cond.selects RX7 yX7_ease yX7_ease, Cond.code yX7_ease cX7_ease 4 (some .int)]
def wsX7_cost : List Cond := .code yX7_cost cX7_cost 3 (some .int) :: ((wsX7_cost_r1 ++ wsX7_cost_r2) ++ wsX70)
def wsX7_many : List Cond := .code yX7_many cX7_many 4 (some .int) :: ([])
def wsX7_leastAt : List Cond := .code yX7_leastAt cX7_leastAt 4 (some .int) :: ([.fieldLink RX7 39 "LeastRoutesModel" "least" "[I"] ++ wsX70)
def wsX7_least_r1 : List Cond := [Cond.fieldLink RX7 39 "LeastRoutesModel" "least" "[I", Cond.methodLink RX7 90 yX7_in, Cond.static yX7_in, Cond.initialized RX7, Cond.code yX7_in cX7_in 6 (some .boolean), Cond.methodLink RX7 96 yX7_lays, Cond.instanceMethod yX7_lays, Cond.selects RX7 yX7_lays yX7_lays, Cond.code yX7_lays cX7_lays 1 none, Cond.methodLink RX7 75 yX7_laysHops, Cond.instanceMethod yX7_laysHops, Cond.selects RX7 yX7_laysHops yX7_laysHops, Cond.code yX7_laysHops cX7_laysHops 2 none, Cond.fieldLink RX7 45 "LeastRoutesModel" "hops" "[I", Cond.fieldLink RX7 7 "LeastRoutesModel" "st" "[I", Cond.methodLink RX7 72 yX7_hopBy, Cond.static yX7_hopBy, Cond.code yX7_hopBy cX7_hopBy 5 (some .int), Cond.methodLink RX7 57 yX7_decides, Cond.static yX7_decides, Cond.code yX7_decides cX7_decides 5 (some .int), Cond.methodLink RX7 78 yX7_laysCosts, Cond.instanceMethod yX7_laysCosts, Cond.selects RX7 yX7_laysCosts yX7_laysCosts]
def wsX7_least_r2 : List Cond := [Cond.code yX7_laysCosts cX7_laysCosts 5 none, Cond.fieldLink RX7 42 "LeastRoutesModel" "costs" "[I", Cond.methodLink RX7 61 yX7_lesser, Cond.static yX7_lesser, Cond.code yX7_lesser cX7_lesser 2 (some .int), Cond.methodLink RX7 81 yX7_laysLeast, Cond.instanceMethod yX7_laysLeast, Cond.selects RX7 yX7_laysLeast yX7_laysLeast, Cond.code yX7_laysLeast cX7_laysLeast 4 none, Cond.fieldLink RX7 48 "LeastRoutesModel" "comes" "[I", Cond.methodLink RX7 69 yX7_setOf, Cond.instanceMethod yX7_setOf, Cond.selects RX7 yX7_setOf yX7_setOf, Cond.code yX7_setOf cX7_setOf 4 (some .int), Cond.methodLink RX7 65 yX7_ease, Cond.instanceMethod yX7_ease, Cond.selects RX7 yX7_ease yX7_ease, Cond.code yX7_ease cX7_ease 4 (some .int), Cond.methodLink RX7 118 yX7_leastAt, Cond.instanceMethod yX7_leastAt, Cond.selects RX7 yX7_leastAt yX7_leastAt, Cond.code yX7_leastAt cX7_leastAt 4 (some .int)]
def wsX7_least : List Cond := .code yX7_least cX7_least 4 (some .int) :: ((wsX7_least_r1 ++ wsX7_least_r2) ++ wsX70)
def wsX7_changeAt : List Cond := .code yX7_changeAt cX7_changeAt 4 (some .int) :: ([.fieldLink RX7 39 "LeastRoutesModel" "least" "[I", .fieldLink RX7 7 "LeastRoutesModel" "st" "[I"] ++ wsX70)
def wsX7_changes : List Cond := .code yX7_changes cX7_changes 3 (some .int) :: ([.fieldLink RX7 39 "LeastRoutesModel" "least" "[I", .fieldLink RX7 7 "LeastRoutesModel" "st" "[I"] ++ wsX70)
def wsX7_change_r1 : List Cond := [Cond.constantLong RX7 94 (3), Cond.fieldLink RX7 7 "LeastRoutesModel" "st" "[I", Cond.fieldLink RX7 39 "LeastRoutesModel" "least" "[I", Cond.methodLink RX7 90 yX7_in, Cond.static yX7_in, Cond.initialized RX7, Cond.code yX7_in cX7_in 6 (some .boolean), Cond.methodLink RX7 96 yX7_lays, Cond.instanceMethod yX7_lays, Cond.selects RX7 yX7_lays yX7_lays, Cond.code yX7_lays cX7_lays 1 none, Cond.methodLink RX7 75 yX7_laysHops, Cond.instanceMethod yX7_laysHops, Cond.selects RX7 yX7_laysHops yX7_laysHops, Cond.code yX7_laysHops cX7_laysHops 2 none, Cond.fieldLink RX7 45 "LeastRoutesModel" "hops" "[I", Cond.methodLink RX7 72 yX7_hopBy, Cond.static yX7_hopBy, Cond.code yX7_hopBy cX7_hopBy 5 (some .int), Cond.methodLink RX7 57 yX7_decides, Cond.static yX7_decides, Cond.code yX7_decides cX7_decides 5 (some .int), Cond.methodLink RX7 78 yX7_laysCosts, Cond.instanceMethod yX7_laysCosts]
def wsX7_change_r2 : List Cond := [Cond.selects RX7 yX7_laysCosts yX7_laysCosts, Cond.code yX7_laysCosts cX7_laysCosts 5 none, Cond.fieldLink RX7 42 "LeastRoutesModel" "costs" "[I", Cond.methodLink RX7 61 yX7_lesser, Cond.static yX7_lesser, Cond.code yX7_lesser cX7_lesser 2 (some .int), Cond.methodLink RX7 81 yX7_laysLeast, Cond.instanceMethod yX7_laysLeast, Cond.selects RX7 yX7_laysLeast yX7_laysLeast, Cond.code yX7_laysLeast cX7_laysLeast 4 none, Cond.fieldLink RX7 48 "LeastRoutesModel" "comes" "[I", Cond.methodLink RX7 69 yX7_setOf, Cond.instanceMethod yX7_setOf, Cond.selects RX7 yX7_setOf yX7_setOf, Cond.code yX7_setOf cX7_setOf 4 (some .int), Cond.methodLink RX7 65 yX7_ease, Cond.instanceMethod yX7_ease, Cond.selects RX7 yX7_ease yX7_ease, Cond.code yX7_ease cX7_ease 4 (some .int), Cond.methodLink RX7 121 yX7_changeAt, Cond.instanceMethod yX7_changeAt, Cond.selects RX7 yX7_changeAt yX7_changeAt, Cond.code yX7_changeAt cX7_changeAt 4 (some .int), Cond.methodLink RX7 107 yX7_toldOf]
def wsX7_change_r3 : List Cond := [Cond.static yX7_toldOf, Cond.code yX7_toldOf cX7_toldOf 1 (some .int)]
def wsX7_change : List Cond := .code yX7_change cX7_change 5 (some .int) :: ((wsX7_change_r1 ++ (wsX7_change_r2 ++ wsX7_change_r3)) ++ wsX70)
def wsX7_isOne : List Cond := .code yX7_isOne cX7_isOne 6 (some .boolean) :: ([.fieldLink RX7 45 "LeastRoutesModel" "hops" "[I", .methodLink RX7 84 yX7_has, .static yX7_has, .initialized RX7, .code yX7_has cX7_has 3 (some .boolean)] ++ wsX70)
def wsX7_proofOf : List Cond := .code yX7_proofOf cX7_proofOf 4 (some .int) :: ([.methodLink RX7 124 yX7_isOne, .instanceMethod yX7_isOne, .selects RX7 yX7_isOne yX7_isOne, .initialized RX7, .code yX7_isOne cX7_isOne 6 (some .boolean), .fieldLink RX7 45 "LeastRoutesModel" "hops" "[I", .methodLink RX7 84 yX7_has, .static yX7_has, .code yX7_has cX7_has 3 (some .boolean)] ++ wsX70)
def wsX7_wide : List Cond := .code yX7_wide cX7_wide 3 (some .int) :: ([])
def wsX7_proofAt : List Cond := .code yX7_proofAt cX7_proofAt 4 (some .int) :: ([.methodLink RX7 127 yX7_proofOf, .instanceMethod yX7_proofOf, .selects RX7 yX7_proofOf yX7_proofOf, .initialized RX7, .code yX7_proofOf cX7_proofOf 4 (some .int), .methodLink RX7 124 yX7_isOne, .instanceMethod yX7_isOne, .selects RX7 yX7_isOne yX7_isOne, .code yX7_isOne cX7_isOne 6 (some .boolean), .fieldLink RX7 45 "LeastRoutesModel" "hops" "[I", .methodLink RX7 84 yX7_has, .static yX7_has, .code yX7_has cX7_has 3 (some .boolean), .methodLink RX7 130 yX7_wide, .static yX7_wide, .code yX7_wide cX7_wide 3 (some .int)] ++ wsX70)
def wsX7_proof_r1 : List Cond := [Cond.constantLong RX7 133 (2), Cond.fieldLink RX7 45 "LeastRoutesModel" "hops" "[I", Cond.methodLink RX7 90 yX7_in, Cond.static yX7_in, Cond.initialized RX7, Cond.code yX7_in cX7_in 6 (some .boolean), Cond.methodLink RX7 75 yX7_laysHops, Cond.instanceMethod yX7_laysHops, Cond.selects RX7 yX7_laysHops yX7_laysHops, Cond.code yX7_laysHops cX7_laysHops 2 none, Cond.fieldLink RX7 7 "LeastRoutesModel" "st" "[I", Cond.methodLink RX7 72 yX7_hopBy, Cond.static yX7_hopBy, Cond.code yX7_hopBy cX7_hopBy 5 (some .int), Cond.methodLink RX7 57 yX7_decides, Cond.static yX7_decides, Cond.code yX7_decides cX7_decides 5 (some .int), Cond.methodLink RX7 135 yX7_proofAt, Cond.instanceMethod yX7_proofAt, Cond.selects RX7 yX7_proofAt yX7_proofAt, Cond.code yX7_proofAt cX7_proofAt 4 (some .int), Cond.methodLink RX7 127 yX7_proofOf, Cond.instanceMethod yX7_proofOf, Cond.selects RX7 yX7_proofOf yX7_proofOf]
def wsX7_proof_r2 : List Cond := [Cond.code yX7_proofOf cX7_proofOf 4 (some .int), Cond.methodLink RX7 124 yX7_isOne, Cond.instanceMethod yX7_isOne, Cond.selects RX7 yX7_isOne yX7_isOne, Cond.code yX7_isOne cX7_isOne 6 (some .boolean), Cond.methodLink RX7 84 yX7_has, Cond.static yX7_has, Cond.code yX7_has cX7_has 3 (some .boolean), Cond.methodLink RX7 130 yX7_wide, Cond.static yX7_wide, Cond.code yX7_wide cX7_wide 3 (some .int)]
def wsX7_proof : List Cond := .code yX7_proof cX7_proof 4 (some .int) :: ((wsX7_proof_r1 ++ wsX7_proof_r2) ++ wsX70)
def wsX7_redundant : List Cond := .code yX7_redundant cX7_redundant 3 (some .int) :: ([.fieldLink RX7 7 "LeastRoutesModel" "st" "[I", .methodLink RX7 113 yX7_isRedundant, .instanceMethod yX7_isRedundant, .selects RX7 yX7_isRedundant yX7_isRedundant, .initialized RX7, .code yX7_isRedundant cX7_isRedundant 4 (some .boolean), .fieldLink RX7 45 "LeastRoutesModel" "hops" "[I", .methodLink RX7 72 yX7_hopBy, .static yX7_hopBy, .code yX7_hopBy cX7_hopBy 5 (some .int), .methodLink RX7 57 yX7_decides, .static yX7_decides, .code yX7_decides cX7_decides 5 (some .int)] ++ wsX70)
def wsX7_firstUnlike : List Cond := .code yX7_firstUnlike cX7_firstUnlike 2 (some .int) :: ([.fieldLink RX7 45 "LeastRoutesModel" "hops" "[I"] ++ wsX70)
def wsX7_count_r1 : List Cond := [Cond.fieldLink RX7 7 "LeastRoutesModel" "st" "[I", Cond.fieldLink RX7 39 "LeastRoutesModel" "least" "[I", Cond.fieldLink RX7 152 "LeastRoutesModel" "acts" "I", Cond.methodLink RX7 96 yX7_lays, Cond.instanceMethod yX7_lays, Cond.selects RX7 yX7_lays yX7_lays, Cond.initialized RX7, Cond.code yX7_lays cX7_lays 1 none, Cond.methodLink RX7 75 yX7_laysHops, Cond.instanceMethod yX7_laysHops, Cond.selects RX7 yX7_laysHops yX7_laysHops, Cond.code yX7_laysHops cX7_laysHops 2 none, Cond.fieldLink RX7 45 "LeastRoutesModel" "hops" "[I", Cond.methodLink RX7 72 yX7_hopBy, Cond.static yX7_hopBy, Cond.code yX7_hopBy cX7_hopBy 5 (some .int), Cond.methodLink RX7 57 yX7_decides, Cond.static yX7_decides, Cond.code yX7_decides cX7_decides 5 (some .int), Cond.methodLink RX7 78 yX7_laysCosts, Cond.instanceMethod yX7_laysCosts, Cond.selects RX7 yX7_laysCosts yX7_laysCosts, Cond.code yX7_laysCosts cX7_laysCosts 5 none, Cond.fieldLink RX7 42 "LeastRoutesModel" "costs" "[I"]
def wsX7_count_r2 : List Cond := [Cond.methodLink RX7 61 yX7_lesser, Cond.static yX7_lesser, Cond.code yX7_lesser cX7_lesser 2 (some .int), Cond.methodLink RX7 81 yX7_laysLeast, Cond.instanceMethod yX7_laysLeast, Cond.selects RX7 yX7_laysLeast yX7_laysLeast, Cond.code yX7_laysLeast cX7_laysLeast 4 none, Cond.fieldLink RX7 48 "LeastRoutesModel" "comes" "[I", Cond.methodLink RX7 69 yX7_setOf, Cond.instanceMethod yX7_setOf, Cond.selects RX7 yX7_setOf yX7_setOf, Cond.code yX7_setOf cX7_setOf 4 (some .int), Cond.methodLink RX7 65 yX7_ease, Cond.instanceMethod yX7_ease, Cond.selects RX7 yX7_ease yX7_ease, Cond.code yX7_ease cX7_ease 4 (some .int), Cond.methodLink RX7 138 yX7_many, Cond.static yX7_many, Cond.code yX7_many cX7_many 4 (some .int), Cond.methodLink RX7 142 yX7_changes, Cond.instanceMethod yX7_changes, Cond.selects RX7 yX7_changes yX7_changes, Cond.code yX7_changes cX7_changes 3 (some .int), Cond.methodLink RX7 135 yX7_proofAt]
def wsX7_count_r3 : List Cond := [Cond.instanceMethod yX7_proofAt, Cond.selects RX7 yX7_proofAt yX7_proofAt, Cond.code yX7_proofAt cX7_proofAt 4 (some .int), Cond.methodLink RX7 127 yX7_proofOf, Cond.instanceMethod yX7_proofOf, Cond.selects RX7 yX7_proofOf yX7_proofOf, Cond.code yX7_proofOf cX7_proofOf 4 (some .int), Cond.methodLink RX7 124 yX7_isOne, Cond.instanceMethod yX7_isOne, Cond.selects RX7 yX7_isOne yX7_isOne, Cond.code yX7_isOne cX7_isOne 6 (some .boolean), Cond.methodLink RX7 84 yX7_has, Cond.static yX7_has, Cond.code yX7_has cX7_has 3 (some .boolean), Cond.methodLink RX7 130 yX7_wide, Cond.static yX7_wide, Cond.code yX7_wide cX7_wide 3 (some .int), Cond.methodLink RX7 146 yX7_redundant, Cond.instanceMethod yX7_redundant, Cond.selects RX7 yX7_redundant yX7_redundant, Cond.code yX7_redundant cX7_redundant 3 (some .int), Cond.methodLink RX7 113 yX7_isRedundant, Cond.instanceMethod yX7_isRedundant, Cond.selects RX7 yX7_isRedundant yX7_isRedundant]
def wsX7_count_r4 : List Cond := [Cond.code yX7_isRedundant cX7_isRedundant 4 (some .boolean), Cond.methodLink RX7 149 yX7_firstUnlike, Cond.instanceMethod yX7_firstUnlike, Cond.selects RX7 yX7_firstUnlike yX7_firstUnlike, Cond.code yX7_firstUnlike cX7_firstUnlike 2 (some .int)]
def wsX7_count : List Cond := .code yX7_count cX7_count 2 (some .int) :: ((wsX7_count_r1 ++ (wsX7_count_r2 ++ (wsX7_count_r3 ++ wsX7_count_r4))) ++ wsX70)
def wsX7_chances : List Cond := .code yX7_chances cX7_chances 12 (some .int) :: ([.fieldLink RX7 7 "LeastRoutesModel" "st" "[I", .fieldLink RX7 51 "LeastRoutesModel" "chain" "[I", .methodLink RX7 72 yX7_hopBy, .static yX7_hopBy, .initialized RX7, .code yX7_hopBy cX7_hopBy 5 (some .int), .methodLink RX7 57 yX7_decides, .static yX7_decides, .code yX7_decides cX7_decides 5 (some .int)] ++ wsX70)
def wsX7_lost : List Cond := .code yX7_lost cX7_lost 10 (some .int) :: ([.constantLong RX7 88 (255), .constantLong RX7 155 (10), .fieldLink RX7 7 "LeastRoutesModel" "st" "[I", .fieldLink RX7 51 "LeastRoutesModel" "chain" "[I", .methodLink RX7 90 yX7_in, .static yX7_in, .initialized RX7, .code yX7_in cX7_in 6 (some .boolean), .methodLink RX7 157 yX7_chances, .instanceMethod yX7_chances, .selects RX7 yX7_chances yX7_chances, .code yX7_chances cX7_chances 12 (some .int), .methodLink RX7 72 yX7_hopBy, .static yX7_hopBy, .code yX7_hopBy cX7_hopBy 5 (some .int), .methodLink RX7 57 yX7_decides, .static yX7_decides, .code yX7_decides cX7_decides 5 (some .int)] ++ wsX70)
def wsX7_notes : List Cond := .code yX7_notes cX7_notes 1 none :: ([.fieldLink RX7 152 "LeastRoutesModel" "acts" "I", .fieldLink RX7 13 "LeastRoutesModel" "past" "[I", .fieldLink RX7 7 "LeastRoutesModel" "st" "[I", .methodLink RX7 161 yX7_bring, .static yX7_bring, .initialized RX7, .code yX7_bring cX7_bring 6 none] ++ wsX70)
def wsX7_tell : List Cond := .code yX7_tell cX7_tell 4 (some .int) :: ([.constantLong RX7 116 (7), .fieldLink RX7 7 "LeastRoutesModel" "st" "[I", .methodLink RX7 101 yX7_isPrefix, .static yX7_isPrefix, .initialized RX7, .code yX7_isPrefix cX7_isPrefix 1 (some .boolean), .constantLong RX7 99 (511), .methodLink RX7 90 yX7_in, .static yX7_in, .code yX7_in cX7_in 6 (some .boolean), .methodLink RX7 138 yX7_many, .static yX7_many, .code yX7_many cX7_many 4 (some .int), .methodLink RX7 165 yX7_notes, .instanceMethod yX7_notes, .selects RX7 yX7_notes yX7_notes, .code yX7_notes cX7_notes 1 none, .fieldLink RX7 152 "LeastRoutesModel" "acts" "I", .fieldLink RX7 13 "LeastRoutesModel" "past" "[I", .methodLink RX7 161 yX7_bring, .static yX7_bring, .code yX7_bring cX7_bring 6 none] ++ wsX70)
def wsX7_out : List Cond := .code yX7_out cX7_out 3 (some .int) :: ([.fieldLink RX7 7 "LeastRoutesModel" "st" "[I", .methodLink RX7 101 yX7_isPrefix, .static yX7_isPrefix, .initialized RX7, .code yX7_isPrefix cX7_isPrefix 1 (some .boolean), .constantLong RX7 99 (511), .methodLink RX7 90 yX7_in, .static yX7_in, .code yX7_in cX7_in 6 (some .boolean), .methodLink RX7 165 yX7_notes, .instanceMethod yX7_notes, .selects RX7 yX7_notes yX7_notes, .code yX7_notes cX7_notes 1 none, .fieldLink RX7 152 "LeastRoutesModel" "acts" "I", .fieldLink RX7 13 "LeastRoutesModel" "past" "[I", .methodLink RX7 161 yX7_bring, .static yX7_bring, .code yX7_bring cX7_bring 6 none] ++ wsX70)
def wsX7_rename : List Cond := .code yX7_rename cX7_rename 5 (some .int) :: ([.constantLong RX7 116 (7), .fieldLink RX7 7 "LeastRoutesModel" "st" "[I", .methodLink RX7 90 yX7_in, .static yX7_in, .initialized RX7, .code yX7_in cX7_in 6 (some .boolean), .methodLink RX7 165 yX7_notes, .instanceMethod yX7_notes, .selects RX7 yX7_notes yX7_notes, .code yX7_notes cX7_notes 1 none, .fieldLink RX7 152 "LeastRoutesModel" "acts" "I", .fieldLink RX7 13 "LeastRoutesModel" "past" "[I", .methodLink RX7 161 yX7_bring, .static yX7_bring, .code yX7_bring cX7_bring 6 none] ++ wsX70)
def wsX7_install_r1 : List Cond := [Cond.fieldLink RX7 39 "LeastRoutesModel" "least" "[I", Cond.fieldLink RX7 7 "LeastRoutesModel" "st" "[I", Cond.methodLink RX7 96 yX7_lays, Cond.instanceMethod yX7_lays, Cond.selects RX7 yX7_lays yX7_lays, Cond.initialized RX7, Cond.code yX7_lays cX7_lays 1 none, Cond.methodLink RX7 75 yX7_laysHops, Cond.instanceMethod yX7_laysHops, Cond.selects RX7 yX7_laysHops yX7_laysHops, Cond.code yX7_laysHops cX7_laysHops 2 none, Cond.fieldLink RX7 45 "LeastRoutesModel" "hops" "[I", Cond.methodLink RX7 72 yX7_hopBy, Cond.static yX7_hopBy, Cond.code yX7_hopBy cX7_hopBy 5 (some .int), Cond.methodLink RX7 57 yX7_decides, Cond.static yX7_decides, Cond.code yX7_decides cX7_decides 5 (some .int), Cond.methodLink RX7 78 yX7_laysCosts, Cond.instanceMethod yX7_laysCosts, Cond.selects RX7 yX7_laysCosts yX7_laysCosts, Cond.code yX7_laysCosts cX7_laysCosts 5 none, Cond.fieldLink RX7 42 "LeastRoutesModel" "costs" "[I", Cond.methodLink RX7 61 yX7_lesser]
def wsX7_install_r2 : List Cond := [Cond.static yX7_lesser, Cond.code yX7_lesser cX7_lesser 2 (some .int), Cond.methodLink RX7 81 yX7_laysLeast, Cond.instanceMethod yX7_laysLeast, Cond.selects RX7 yX7_laysLeast yX7_laysLeast, Cond.code yX7_laysLeast cX7_laysLeast 4 none, Cond.fieldLink RX7 48 "LeastRoutesModel" "comes" "[I", Cond.methodLink RX7 69 yX7_setOf, Cond.instanceMethod yX7_setOf, Cond.selects RX7 yX7_setOf yX7_setOf, Cond.code yX7_setOf cX7_setOf 4 (some .int), Cond.methodLink RX7 65 yX7_ease, Cond.instanceMethod yX7_ease, Cond.selects RX7 yX7_ease yX7_ease, Cond.code yX7_ease cX7_ease 4 (some .int), Cond.methodLink RX7 142 yX7_changes, Cond.instanceMethod yX7_changes, Cond.selects RX7 yX7_changes yX7_changes, Cond.code yX7_changes cX7_changes 3 (some .int), Cond.methodLink RX7 165 yX7_notes, Cond.instanceMethod yX7_notes, Cond.selects RX7 yX7_notes yX7_notes, Cond.code yX7_notes cX7_notes 1 none, Cond.fieldLink RX7 152 "LeastRoutesModel" "acts" "I"]
def wsX7_install_r3 : List Cond := [Cond.fieldLink RX7 13 "LeastRoutesModel" "past" "[I", Cond.methodLink RX7 161 yX7_bring, Cond.static yX7_bring, Cond.code yX7_bring cX7_bring 6 none]
def wsX7_install : List Cond := .code yX7_install cX7_install 2 (some .int) :: ((wsX7_install_r1 ++ (wsX7_install_r2 ++ wsX7_install_r3)) ++ wsX70)
def wsX7_type : List Cond := .code yX7_type cX7_type 2 (some .int) :: ([.constantLong RX7 168 (32), .constantLong RX7 170 (126), .fieldLink RX7 172 "LeastRoutesModel" "tapeMany" "I", .fieldLink RX7 26 "LeastRoutesModel" "tape" "[I", .methodLink RX7 90 yX7_in, .static yX7_in, .initialized RX7, .code yX7_in cX7_in 6 (some .boolean)] ++ wsX70)
def wsX7_looks : List Cond := .code yX7_looks cX7_looks 1 (some .int) :: ([.fieldLink RX7 175 "LeastRoutesModel" "readAt" "I", .fieldLink RX7 172 "LeastRoutesModel" "tapeMany" "I", .fieldLink RX7 26 "LeastRoutesModel" "tape" "[I"] ++ wsX70)
def wsX7_readsEntry : List Cond := .code yX7_readsEntry cX7_readsEntry 3 (some .boolean) :: ([.fieldLink RX7 175 "LeastRoutesModel" "readAt" "I", .fieldLink RX7 54 "LeastRoutesModel" "told" "[I", .constantLong RX7 181 (48), .constantLong RX7 183 (55), .methodLink RX7 178 yX7_looks, .instanceMethod yX7_looks, .selects RX7 yX7_looks yX7_looks, .initialized RX7, .code yX7_looks cX7_looks 1 (some .int), .fieldLink RX7 172 "LeastRoutesModel" "tapeMany" "I", .fieldLink RX7 26 "LeastRoutesModel" "tape" "[I", .methodLink RX7 90 yX7_in, .static yX7_in, .code yX7_in cX7_in 6 (some .boolean)] ++ wsX70)
def wsX7_readsAll : List Cond := .code yX7_readsAll cX7_readsAll 2 (some .boolean) :: ([.fieldLink RX7 175 "LeastRoutesModel" "readAt" "I", .fieldLink RX7 54 "LeastRoutesModel" "told" "[I", .methodLink RX7 185 yX7_readsEntry, .instanceMethod yX7_readsEntry, .selects RX7 yX7_readsEntry yX7_readsEntry, .initialized RX7, .code yX7_readsEntry cX7_readsEntry 3 (some .boolean), .constantLong RX7 181 (48), .constantLong RX7 183 (55), .methodLink RX7 178 yX7_looks, .instanceMethod yX7_looks, .selects RX7 yX7_looks yX7_looks, .code yX7_looks cX7_looks 1 (some .int), .fieldLink RX7 172 "LeastRoutesModel" "tapeMany" "I", .fieldLink RX7 26 "LeastRoutesModel" "tape" "[I", .methodLink RX7 90 yX7_in, .static yX7_in, .code yX7_in cX7_in 6 (some .boolean)] ++ wsX70)
def wsX7_read_r1 : List Cond := [Cond.fieldLink RX7 172 "LeastRoutesModel" "tapeMany" "I", Cond.fieldLink RX7 175 "LeastRoutesModel" "readAt" "I", Cond.fieldLink RX7 54 "LeastRoutesModel" "told" "[I", Cond.fieldLink RX7 7 "LeastRoutesModel" "st" "[I", Cond.methodLink RX7 189 yX7_readsAll, Cond.instanceMethod yX7_readsAll, Cond.selects RX7 yX7_readsAll yX7_readsAll, Cond.initialized RX7, Cond.code yX7_readsAll cX7_readsAll 2 (some .boolean), Cond.methodLink RX7 185 yX7_readsEntry, Cond.instanceMethod yX7_readsEntry, Cond.selects RX7 yX7_readsEntry yX7_readsEntry, Cond.code yX7_readsEntry cX7_readsEntry 3 (some .boolean), Cond.constantLong RX7 181 (48), Cond.constantLong RX7 183 (55), Cond.methodLink RX7 178 yX7_looks, Cond.instanceMethod yX7_looks, Cond.selects RX7 yX7_looks yX7_looks, Cond.code yX7_looks cX7_looks 1 (some .int), Cond.fieldLink RX7 26 "LeastRoutesModel" "tape" "[I", Cond.methodLink RX7 90 yX7_in, Cond.static yX7_in, Cond.code yX7_in cX7_in 6 (some .boolean), Cond.methodLink RX7 165 yX7_notes]
def wsX7_read_r2 : List Cond := [Cond.instanceMethod yX7_notes, Cond.selects RX7 yX7_notes yX7_notes, Cond.code yX7_notes cX7_notes 1 none, Cond.fieldLink RX7 152 "LeastRoutesModel" "acts" "I", Cond.fieldLink RX7 13 "LeastRoutesModel" "past" "[I", Cond.methodLink RX7 161 yX7_bring, Cond.static yX7_bring, Cond.code yX7_bring cX7_bring 6 none, Cond.methodLink RX7 138 yX7_many, Cond.static yX7_many, Cond.code yX7_many cX7_many 4 (some .int)]
def wsX7_read : List Cond := .code yX7_read cX7_read 2 (some .int) :: ((wsX7_read_r1 ++ wsX7_read_r2) ++ wsX70)
def wsX7_turnsOnce : List Cond := .code yX7_turnsOnce cX7_turnsOnce 6 none :: ([.fieldLink RX7 7 "LeastRoutesModel" "st" "[I", .constantLong RX7 192 (1103515245), .constantLong RX7 194 (12345), .constantLong RX7 196 (2147483648), .constant RX7 198 (65536), .methodLink RX7 165 yX7_notes, .instanceMethod yX7_notes, .selects RX7 yX7_notes yX7_notes, .initialized RX7, .code yX7_notes cX7_notes 1 none, .fieldLink RX7 152 "LeastRoutesModel" "acts" "I", .fieldLink RX7 13 "LeastRoutesModel" "past" "[I", .methodLink RX7 161 yX7_bring, .static yX7_bring, .code yX7_bring cX7_bring 6 none, .methodLink RX7 138 yX7_many, .static yX7_many, .code yX7_many cX7_many 4 (some .int)] ++ wsX70)
def wsX7_drift_r1 : List Cond := [Cond.constantLong RX7 199 (40), Cond.fieldLink RX7 7 "LeastRoutesModel" "st" "[I", Cond.methodLink RX7 90 yX7_in, Cond.static yX7_in, Cond.initialized RX7, Cond.code yX7_in cX7_in 6 (some .boolean), Cond.methodLink RX7 201 yX7_turnsOnce, Cond.instanceMethod yX7_turnsOnce, Cond.selects RX7 yX7_turnsOnce yX7_turnsOnce, Cond.code yX7_turnsOnce cX7_turnsOnce 6 none, Cond.constantLong RX7 192 (1103515245), Cond.constantLong RX7 194 (12345), Cond.constantLong RX7 196 (2147483648), Cond.constant RX7 198 (65536), Cond.methodLink RX7 165 yX7_notes, Cond.instanceMethod yX7_notes, Cond.selects RX7 yX7_notes yX7_notes, Cond.code yX7_notes cX7_notes 1 none, Cond.fieldLink RX7 152 "LeastRoutesModel" "acts" "I", Cond.fieldLink RX7 13 "LeastRoutesModel" "past" "[I", Cond.methodLink RX7 161 yX7_bring, Cond.static yX7_bring, Cond.code yX7_bring cX7_bring 6 none, Cond.methodLink RX7 138 yX7_many]
def wsX7_drift_r2 : List Cond := [Cond.static yX7_many, Cond.code yX7_many cX7_many 4 (some .int)]
def wsX7_drift : List Cond := .code yX7_drift cX7_drift 3 (some .int) :: ((wsX7_drift_r1 ++ wsX7_drift_r2) ++ wsX70)
def wsX7_undo : List Cond := .code yX7_undo cX7_undo 1 (some .int) :: ([.fieldLink RX7 152 "LeastRoutesModel" "acts" "I", .fieldLink RX7 13 "LeastRoutesModel" "past" "[I", .fieldLink RX7 7 "LeastRoutesModel" "st" "[I", .methodLink RX7 161 yX7_bring, .static yX7_bring, .initialized RX7, .code yX7_bring cX7_bring 6 none] ++ wsX70)
def wsX7_seed : List Cond := .code yX7_seed cX7_seed 3 (some .int) :: ([.fieldLink RX7 7 "LeastRoutesModel" "st" "[I"] ++ wsX70)
def wsX7_image : List Cond := .code yX7_image cX7_image 1 (some .int) :: ([.fieldLink RX7 7 "LeastRoutesModel" "st" "[I", .fieldLink RX7 16 "LeastRoutesModel" "image" "[I", .fieldLink RX7 13 "LeastRoutesModel" "past" "[I", .fieldLink RX7 19 "LeastRoutesModel" "imagePast" "[I", .fieldLink RX7 152 "LeastRoutesModel" "acts" "I", .fieldLink RX7 22 "LeastRoutesModel" "imageActs" "I", .methodLink RX7 161 yX7_bring, .static yX7_bring, .initialized RX7, .code yX7_bring cX7_bring 6 none] ++ wsX70)
def wsX7_restore : List Cond := .code yX7_restore cX7_restore 1 (some .int) :: ([.fieldLink RX7 22 "LeastRoutesModel" "imageActs" "I", .fieldLink RX7 16 "LeastRoutesModel" "image" "[I", .fieldLink RX7 7 "LeastRoutesModel" "st" "[I", .fieldLink RX7 19 "LeastRoutesModel" "imagePast" "[I", .fieldLink RX7 13 "LeastRoutesModel" "past" "[I", .fieldLink RX7 152 "LeastRoutesModel" "acts" "I", .methodLink RX7 161 yX7_bring, .static yX7_bring, .initialized RX7, .code yX7_bring cX7_bring 6 none] ++ wsX70)
def wsX7_isSheet : List Cond := .code yX7_isSheet cX7_isSheet 2 (some .boolean) :: ([.constantLong RX7 94 (3), .methodLink RX7 90 yX7_in, .static yX7_in, .initialized RX7, .code yX7_in cX7_in 6 (some .boolean)])
def wsX7_found : List Cond := .code yX7_found cX7_found 5 (some .int) :: ([.fieldLink RX7 29 "LeastRoutesModel" "laneOf" "[I", .fieldLink RX7 32 "LeastRoutesModel" "sizeOf" "[I"] ++ wsX70)
def wsX7_isLength : List Cond := .code yX7_isLength cX7_isLength 8 (some .boolean) :: ([.fieldLink RX7 35 "LeastRoutesModel" "items" "[J"] ++ wsX70)
def wsX7_lengths : List Cond := .code yX7_lengths cX7_lengths 9 (some .int) :: ([.constantLong RX7 207 (12), .fieldLink RX7 35 "LeastRoutesModel" "items" "[J", .constantLong RX7 88 (255), .constantLong RX7 116 (7), .methodLink RX7 204 yX7_isSheet, .static yX7_isSheet, .initialized RX7, .code yX7_isSheet cX7_isSheet 2 (some .boolean), .constantLong RX7 94 (3), .methodLink RX7 90 yX7_in, .static yX7_in, .code yX7_in cX7_in 6 (some .boolean), .methodLink RX7 209 yX7_found, .instanceMethod yX7_found, .selects RX7 yX7_found yX7_found, .code yX7_found cX7_found 5 (some .int), .fieldLink RX7 29 "LeastRoutesModel" "laneOf" "[I", .fieldLink RX7 32 "LeastRoutesModel" "sizeOf" "[I", .methodLink RX7 213 yX7_isLength, .instanceMethod yX7_isLength, .selects RX7 yX7_isLength yX7_isLength, .code yX7_isLength cX7_isLength 8 (some .boolean)] ++ wsX70)
def wsX7_lowest : List Cond := .code yX7_lowest cX7_lowest 3 (some .long) :: ([])
def wsX7_film_r1 : List Cond := [Cond.constantLong RX7 207 (12), Cond.fieldLink RX7 39 "LeastRoutesModel" "least" "[I", Cond.fieldLink RX7 35 "LeastRoutesModel" "items" "[J", Cond.methodLink RX7 90 yX7_in, Cond.static yX7_in, Cond.initialized RX7, Cond.code yX7_in cX7_in 6 (some .boolean), Cond.methodLink RX7 204 yX7_isSheet, Cond.static yX7_isSheet, Cond.code yX7_isSheet cX7_isSheet 2 (some .boolean), Cond.constantLong RX7 94 (3), Cond.methodLink RX7 96 yX7_lays, Cond.instanceMethod yX7_lays, Cond.selects RX7 yX7_lays yX7_lays, Cond.code yX7_lays cX7_lays 1 none, Cond.methodLink RX7 75 yX7_laysHops, Cond.instanceMethod yX7_laysHops, Cond.selects RX7 yX7_laysHops yX7_laysHops, Cond.code yX7_laysHops cX7_laysHops 2 none, Cond.fieldLink RX7 45 "LeastRoutesModel" "hops" "[I", Cond.fieldLink RX7 7 "LeastRoutesModel" "st" "[I", Cond.methodLink RX7 72 yX7_hopBy, Cond.static yX7_hopBy, Cond.code yX7_hopBy cX7_hopBy 5 (some .int)]
def wsX7_film_r2 : List Cond := [Cond.methodLink RX7 57 yX7_decides, Cond.static yX7_decides, Cond.code yX7_decides cX7_decides 5 (some .int), Cond.methodLink RX7 78 yX7_laysCosts, Cond.instanceMethod yX7_laysCosts, Cond.selects RX7 yX7_laysCosts yX7_laysCosts, Cond.code yX7_laysCosts cX7_laysCosts 5 none, Cond.fieldLink RX7 42 "LeastRoutesModel" "costs" "[I", Cond.methodLink RX7 61 yX7_lesser, Cond.static yX7_lesser, Cond.code yX7_lesser cX7_lesser 2 (some .int), Cond.methodLink RX7 81 yX7_laysLeast, Cond.instanceMethod yX7_laysLeast, Cond.selects RX7 yX7_laysLeast yX7_laysLeast, Cond.code yX7_laysLeast cX7_laysLeast 4 none, Cond.fieldLink RX7 48 "LeastRoutesModel" "comes" "[I", Cond.methodLink RX7 69 yX7_setOf, Cond.instanceMethod yX7_setOf, Cond.selects RX7 yX7_setOf yX7_setOf, Cond.code yX7_setOf cX7_setOf 4 (some .int), Cond.methodLink RX7 65 yX7_ease, Cond.instanceMethod yX7_ease, Cond.selects RX7 yX7_ease yX7_ease, Cond.code yX7_ease cX7_ease 4 (some .int)]
def wsX7_film_r3 : List Cond := [Cond.methodLink RX7 138 yX7_many, Cond.static yX7_many, Cond.code yX7_many cX7_many 4 (some .int), Cond.methodLink RX7 209 yX7_found, Cond.instanceMethod yX7_found, Cond.selects RX7 yX7_found yX7_found, Cond.code yX7_found cX7_found 5 (some .int), Cond.fieldLink RX7 29 "LeastRoutesModel" "laneOf" "[I", Cond.fieldLink RX7 32 "LeastRoutesModel" "sizeOf" "[I", Cond.methodLink RX7 118 yX7_leastAt, Cond.instanceMethod yX7_leastAt, Cond.selects RX7 yX7_leastAt yX7_leastAt, Cond.code yX7_leastAt cX7_leastAt 4 (some .int), Cond.methodLink RX7 217 yX7_lowest, Cond.static yX7_lowest, Cond.code yX7_lowest cX7_lowest 3 (some .long)]
def wsX7_film : List Cond := .code yX7_film cX7_film 9 (some .int) :: ((wsX7_film_r1 ++ (wsX7_film_r2 ++ wsX7_film_r3)) ++ wsX70)
def wsX7_sheet : List Cond := .code yX7_sheet cX7_sheet 5 (some .int) :: ([.fieldLink RX7 29 "LeastRoutesModel" "laneOf" "[I", .fieldLink RX7 32 "LeastRoutesModel" "sizeOf" "[I", .fieldLink RX7 35 "LeastRoutesModel" "items" "[J", .methodLink RX7 204 yX7_isSheet, .static yX7_isSheet, .initialized RX7, .code yX7_isSheet cX7_isSheet 2 (some .boolean), .constantLong RX7 94 (3), .methodLink RX7 90 yX7_in, .static yX7_in, .code yX7_in cX7_in 6 (some .boolean)] ++ wsX70)
def wsX7_drop : List Cond := .code yX7_drop cX7_drop 2 (some .int) :: ([.constantLong RX7 94 (3), .fieldLink RX7 29 "LeastRoutesModel" "laneOf" "[I", .fieldLink RX7 32 "LeastRoutesModel" "sizeOf" "[I", .methodLink RX7 90 yX7_in, .static yX7_in, .initialized RX7, .code yX7_in cX7_in 6 (some .boolean)] ++ wsX70)
def wsX7_item : List Cond := .code yX7_item cX7_item 7 (some .int) :: ([.fieldLink RX7 35 "LeastRoutesModel" "items" "[J", .methodLink RX7 204 yX7_isSheet, .static yX7_isSheet, .initialized RX7, .code yX7_isSheet cX7_isSheet 2 (some .boolean), .constantLong RX7 94 (3), .methodLink RX7 90 yX7_in, .static yX7_in, .code yX7_in cX7_in 6 (some .boolean), .methodLink RX7 209 yX7_found, .instanceMethod yX7_found, .selects RX7 yX7_found yX7_found, .code yX7_found cX7_found 5 (some .int), .fieldLink RX7 29 "LeastRoutesModel" "laneOf" "[I", .fieldLink RX7 32 "LeastRoutesModel" "sizeOf" "[I", .methodLink RX7 217 yX7_lowest, .static yX7_lowest, .code yX7_lowest cX7_lowest 3 (some .long)] ++ wsX70)
def wsX7_copy : List Cond := .code yX7_copy cX7_copy 9 (some .int) :: ([.constantLong RX7 94 (3), .fieldLink RX7 29 "LeastRoutesModel" "laneOf" "[I", .fieldLink RX7 32 "LeastRoutesModel" "sizeOf" "[I", .fieldLink RX7 35 "LeastRoutesModel" "items" "[J", .methodLink RX7 90 yX7_in, .static yX7_in, .initialized RX7, .code yX7_in cX7_in 6 (some .boolean)] ++ wsX70)
def wsJ9_max_7cf53 : List Cond := .code yJ9_max_7cf53 cJ9_max_7cf53 2 (some .int) :: ([])
def wsL_law_r1 : List Cond := [Cond.classLink RL 7 RX6, Cond.instantiable RX6 7, Cond.initialized RX6, Cond.classLink RL 10 RX7, Cond.instantiable RX7 18, Cond.initialized RX7, Cond.constantLong RL 111 (4294967295), Cond.methodLink RL 9 yX6_init, Cond.instanceMethod yX6_init, Cond.code yX6_init cX6_init 2 none, Cond.methodLink RX6 1 objectInit, Cond.instanceMethod objectInit, Cond.code objectInit ⟨#[0xb1]⟩ 1 none, Cond.classLink RX6 7 RX0, Cond.instantiable RX0 3, Cond.initialized RX0, Cond.fieldLink RX6 10 "LeastRoutes" "history" "LLeastRoutes$History;", Cond.fieldLink RX6 16 "LeastRoutes" "kept" "LLeastRoutes$History;", Cond.classLink RX6 19 RX5, Cond.instantiable RX5 7, Cond.initialized RX5, Cond.fieldLink RX6 22 "LeastRoutes" "view" "LLeastRoutes$View;", Cond.classLink RX6 26 RX4, Cond.instantiable RX4 5]
def wsL_law_r2 : List Cond := [Cond.initialized RX4, Cond.fieldLink RX6 29 "LeastRoutes" "tape" "LLeastRoutes$Tape;", Cond.classLink RX6 33 RX2, Cond.fieldLink RX6 35 "LeastRoutes" "sheets" "[LLeastRoutes$Sheet;", Cond.fieldLink RX6 39 "LeastRoutes" "hasImage" "Z", Cond.fieldLink RX6 43 "LeastRoutes" "viewIsOld" "Z", Cond.instantiable RX2 3, Cond.initialized RX2, Cond.methodLink RX6 9 yX0_init, Cond.instanceMethod yX0_init, Cond.code yX0_init cX0_init 2 none, Cond.methodLink RX0 3 objectInit, Cond.classLink RX0 9 RX1, Cond.instantiable RX1 3, Cond.initialized RX1, Cond.fieldLink RX0 12 "LeastRoutes$History" "now" "LLeastRoutes$Moment;", Cond.fieldLink RX0 18 "LeastRoutes$History" "known" "[LLeastRoutes$Moment;", Cond.fieldLink RX0 22 "LeastRoutes$History" "size" "I", Cond.instanceMethod yX1_init, Cond.code yX1_init cX1_init 1 none, Cond.methodLink RX1 1 objectInit, Cond.classLink RX1 7 RX3, Cond.instantiable RX3 2, Cond.initialized RX3]
def wsL_law_r3 : List Cond := [Cond.fieldLink RX1 10 "LeastRoutes$Moment" "told" "LLeastRoutes$Table;", Cond.fieldLink RX1 16 "LeastRoutes$Moment" "inUse" "LLeastRoutes$Table;", Cond.fieldLink RX1 19 "LeastRoutes$Moment" "draw" "I", Cond.instanceMethod yX3_init, Cond.code yX3_init cX3_init 1 none, Cond.methodLink RX3 3 objectInit, Cond.arrayClass .long, Cond.fieldLink RX3 9 "LeastRoutes$Table" "places" "[J", Cond.fieldLink RX3 15 "LeastRoutes$Table" "size" "I", Cond.instanceMethod yX5_init, Cond.code yX5_init cX5_init 1 none, Cond.methodLink RX5 3 objectInit, Cond.arrayClass .int, Cond.fieldLink RX5 9 "LeastRoutes$View" "sent" "[I", Cond.fieldLink RX5 15 "LeastRoutes$View" "sentByInstalled" "[I", Cond.fieldLink RX5 18 "LeastRoutes$View" "best" "[I", Cond.fieldLink RX5 21 "LeastRoutes$View" "ease" "[I", Cond.fieldLink RX5 24 "LeastRoutes$View" "fromAbove" "[I", Cond.classLink RX5 27 RX3, Cond.fieldLink RX5 30 "LeastRoutes$View" "inUse" "LLeastRoutes$Table;", Cond.fieldLink RX5 34 "LeastRoutes$View" "leastOne" "LLeastRoutes$Table;", Cond.instanceMethod yX4_init, Cond.code yX4_init cX4_init 1 none, Cond.methodLink RX4 3 objectInit]
def wsL_law_r4 : List Cond := [Cond.fieldLink RX4 9 "LeastRoutes$Tape" "letters" "[I", Cond.classLink RX4 15 RX3, Cond.fieldLink RX4 18 "LeastRoutes$Tape" "told" "LLeastRoutes$Table;", Cond.fieldLink RX4 22 "LeastRoutes$Tape" "size" "I", Cond.fieldLink RX4 26 "LeastRoutes$Tape" "place" "I", Cond.fieldLink RX4 29 "LeastRoutes$Tape" "number" "I", Cond.instanceMethod yX2_init, Cond.code yX2_init cX2_init 1 none, Cond.methodLink RX2 3 objectInit, Cond.fieldLink RX2 9 "LeastRoutes$Sheet" "items" "[J", Cond.fieldLink RX2 15 "LeastRoutes$Sheet" "ownLane" "I", Cond.fieldLink RX2 19 "LeastRoutes$Sheet" "size" "I", Cond.methodLink RL 12 yX7_init, Cond.instanceMethod yX7_init, Cond.code yX7_init cX7_init 2 none, Cond.methodLink RX7 1 objectInit, Cond.fieldLink RX7 7 "LeastRoutesModel" "st" "[I", Cond.fieldLink RX7 13 "LeastRoutesModel" "past" "[I", Cond.fieldLink RX7 16 "LeastRoutesModel" "image" "[I", Cond.fieldLink RX7 19 "LeastRoutesModel" "imagePast" "[I", Cond.fieldLink RX7 22 "LeastRoutesModel" "imageActs" "I", Cond.fieldLink RX7 26 "LeastRoutesModel" "tape" "[I", Cond.fieldLink RX7 29 "LeastRoutesModel" "laneOf" "[I", Cond.fieldLink RX7 32 "LeastRoutesModel" "sizeOf" "[I"]
def wsL_law_r5 : List Cond := [Cond.fieldLink RX7 35 "LeastRoutesModel" "items" "[J", Cond.fieldLink RX7 39 "LeastRoutesModel" "least" "[I", Cond.fieldLink RX7 42 "LeastRoutesModel" "costs" "[I", Cond.fieldLink RX7 45 "LeastRoutesModel" "hops" "[I", Cond.fieldLink RX7 48 "LeastRoutesModel" "comes" "[I", Cond.fieldLink RX7 51 "LeastRoutesModel" "chain" "[I", Cond.fieldLink RX7 54 "LeastRoutesModel" "told" "[I", Cond.methodLink RL 13 yX6_look, Cond.instanceMethod yX6_look, Cond.selects RX6 yX6_look yX6_look, Cond.code yX6_look cX6_look 3 (some .int), Cond.methodLink RX6 47 yX6_isAddress, Cond.static yX6_isAddress, Cond.code yX6_isAddress cX6_isAddress 1 (some .boolean), Cond.methodLink RX6 51 yX6_table, Cond.instanceMethod yX6_table, Cond.selects RX6 yX6_table yX6_table, Cond.code yX6_table cX6_table 1 (some (.object "LeastRoutes$Table")), Cond.methodLink RX6 181 yX0_present, Cond.instanceMethod yX0_present, Cond.selects RX0 yX0_present yX0_present, Cond.code yX0_present cX0_present 1 (some (.object "LeastRoutes$Moment")), Cond.methodLink RX6 254 yX1_tableNow, Cond.instanceMethod yX1_tableNow]
def wsL_law_r6 : List Cond := [Cond.selects RX1 yX1_tableNow yX1_tableNow, Cond.code yX1_tableNow cX1_tableNow 1 (some (.object "LeastRoutes$Table")), Cond.methodLink RX6 55 yX3_hopOfAddress, Cond.instanceMethod yX3_hopOfAddress, Cond.selects RX3 yX3_hopOfAddress yX3_hopOfAddress, Cond.code yX3_hopOfAddress cX3_hopOfAddress 3 (some .int), Cond.methodLink RX3 46 yX3_deciderOf, Cond.instanceMethod yX3_deciderOf, Cond.selects RX3 yX3_deciderOf yX3_deciderOf, Cond.code yX3_deciderOf cX3_deciderOf 4 (some .int), Cond.methodLink RX3 26 yX3_hopAt, Cond.instanceMethod yX3_hopAt, Cond.selects RX3 yX3_hopAt yX3_hopAt, Cond.code yX3_hopAt cX3_hopAt 3 (some .int), Cond.methodLink RX6 61 yX3_deciderOf, Cond.methodLink RX6 64 yX6_installed, Cond.instanceMethod yX6_installed, Cond.selects RX6 yX6_installed yX6_installed, Cond.code yX6_installed cX6_installed 1 (some (.object "LeastRoutes$Table")), Cond.methodLink RX6 257 yX1_installedNow, Cond.instanceMethod yX1_installedNow, Cond.selects RX1 yX1_installedNow yX1_installedNow, Cond.code yX1_installedNow cX1_installedNow 1 (some (.object "LeastRoutes$Table")), Cond.methodLink RX6 67 yX6_freshView]
def wsL_law_r7 : List Cond := [Cond.instanceMethod yX6_freshView, Cond.selects RX6 yX6_freshView yX6_freshView, Cond.code yX6_freshView cX6_freshView 1 (some (.object "LeastRoutes$View")), Cond.methodLink RX6 260 yX5_make, Cond.instanceMethod yX5_make, Cond.selects RX5 yX5_make yX5_make, Cond.code yX5_make cX5_make 3 none, Cond.methodLink RX5 37 yX3_takeFrom, Cond.instanceMethod yX3_takeFrom, Cond.selects RX3 yX3_takeFrom yX3_takeFrom, Cond.code yX3_takeFrom cX3_takeFrom 2 none, Cond.methodLink RX3 40 arraycopyName, Cond.native arraycopyName, Cond.static arraycopyName, Cond.initialized "java/lang/System", Cond.methodLink RX5 41 yX5_spread, Cond.static yX5_spread, Cond.code yX5_spread cX5_spread 4 none, Cond.methodLink RX5 87 Lib.Math.max.name, Cond.static Lib.Math.max.name, Cond.initialized "java/lang/Math", Cond.code Lib.Math.max.name Lib.Math.max.code 2 (some .int), Cond.methodLink RX5 66 yX3_hopAt, Cond.methodLink RX5 45 yX5_findBest]
def wsL_law_r8 : List Cond := [Cond.instanceMethod yX5_findBest, Cond.selects RX5 yX5_findBest yX5_findBest, Cond.code yX5_findBest cX5_findBest 3 none, Cond.methodLink RX5 48 yX5_findLeast, Cond.instanceMethod yX5_findLeast, Cond.selects RX5 yX5_findLeast yX5_findLeast, Cond.code yX5_findLeast cX5_findLeast 3 none, Cond.methodLink RX5 93 yX3_makeEmpty, Cond.instanceMethod yX3_makeEmpty, Cond.selects RX3 yX3_makeEmpty yX3_makeEmpty, Cond.code yX3_makeEmpty cX3_makeEmpty 1 none, Cond.methodLink RX3 34 yJ7_fill_d0a16, Cond.static yJ7_fill_d0a16, Cond.initialized RJ7, Cond.code yJ7_fill_d0a16 cJ7_fill_d0a16 5 none, Cond.methodLink RX5 62 yX5_hasBit, Cond.static yX5_hasBit, Cond.code yX5_hasBit cX5_hasBit 2 (some .boolean), Cond.static yX6_lowestHop, Cond.code yX6_lowestHop cX6_lowestHop 1 (some .int), Cond.methodLink RX6 240 yJ6_numberOfTrailingZeros_0f7a4, Cond.static yJ6_numberOfTrailingZeros_0f7a4, Cond.initialized RJ6, Cond.code yJ6_numberOfTrailingZeros_0f7a4 cJ6_numberOfTrailingZeros_0f7a4 2 (some .int)]
def wsL_law_r9 : List Cond := [Cond.constant RJ6 264 (65536), Cond.methodLink RX5 99 yX3_put, Cond.instanceMethod yX3_put, Cond.selects RX3 yX3_put yX3_put, Cond.code yX3_put cX3_put 3 none, Cond.static yX6_isPrefix, Cond.code yX6_isPrefix cX6_isPrefix 1 (some .boolean), Cond.static yX6_isHop, Cond.code yX6_isHop cX6_isHop 1 (some .boolean), Cond.methodLink RX3 30 yX3_setPlace, Cond.instanceMethod yX3_setPlace, Cond.selects RX3 yX3_setPlace yX3_setPlace, Cond.code yX3_setPlace cX3_setPlace 4 none, Cond.constantLong RX3 67 (15), Cond.constantLong RX3 69 (-1), Cond.methodLink RX6 71 yX5_leastTable, Cond.instanceMethod yX5_leastTable, Cond.selects RX5 yX5_leastTable yX5_leastTable, Cond.code yX5_leastTable cX5_leastTable 1 (some (.object "LeastRoutes$Table")), Cond.methodLink RL 17 yX7_look, Cond.instanceMethod yX7_look, Cond.selects RX7 yX7_look yX7_look, Cond.code yX7_look cX7_look 3 (some .int), Cond.constantLong RX7 88 (255)]
def wsL_law_r10 : List Cond := [Cond.constantLong RX7 94 (3), Cond.methodLink RX7 90 yX7_in, Cond.static yX7_in, Cond.code yX7_in cX7_in 6 (some .boolean), Cond.methodLink RX7 96 yX7_lays, Cond.instanceMethod yX7_lays, Cond.selects RX7 yX7_lays yX7_lays, Cond.code yX7_lays cX7_lays 1 none, Cond.methodLink RX7 75 yX7_laysHops, Cond.instanceMethod yX7_laysHops, Cond.selects RX7 yX7_laysHops yX7_laysHops, Cond.code yX7_laysHops cX7_laysHops 2 none, Cond.methodLink RX7 72 yX7_hopBy, Cond.static yX7_hopBy, Cond.code yX7_hopBy cX7_hopBy 5 (some .int), Cond.methodLink RX7 57 yX7_decides, Cond.static yX7_decides, Cond.code yX7_decides cX7_decides 5 (some .int), Cond.methodLink RX7 78 yX7_laysCosts, Cond.instanceMethod yX7_laysCosts, Cond.selects RX7 yX7_laysCosts yX7_laysCosts, Cond.code yX7_laysCosts cX7_laysCosts 5 none, Cond.methodLink RX7 61 yX7_lesser, Cond.static yX7_lesser]
def wsL_law_r11 : List Cond := [Cond.code yX7_lesser cX7_lesser 2 (some .int), Cond.methodLink RX7 81 yX7_laysLeast, Cond.instanceMethod yX7_laysLeast, Cond.selects RX7 yX7_laysLeast yX7_laysLeast, Cond.code yX7_laysLeast cX7_laysLeast 4 none, Cond.methodLink RX7 69 yX7_setOf, Cond.instanceMethod yX7_setOf, Cond.selects RX7 yX7_setOf yX7_setOf, Cond.code yX7_setOf cX7_setOf 4 (some .int), Cond.methodLink RX7 65 yX7_ease, Cond.instanceMethod yX7_ease, Cond.selects RX7 yX7_ease yX7_ease, Cond.code yX7_ease cX7_ease 4 (some .int), Cond.methodLink RL 18 yX6_prefix, Cond.instanceMethod yX6_prefix, Cond.selects RX6 yX6_prefix yX6_prefix, Cond.code yX6_prefix cX6_prefix 3 (some .int), Cond.methodLink RX6 74 yX6_isPrefix, Cond.methodLink RX6 77 yX3_hopAt, Cond.methodLink RX6 80 yX5_bestHops, Cond.instanceMethod yX5_bestHops, Cond.selects RX5 yX5_bestHops yX5_bestHops, Cond.code yX5_bestHops cX5_bestHops 2 (some .int), Cond.methodLink RX6 83 yX5_easeOf]
def wsL_law_r12 : List Cond := [Cond.instanceMethod yX5_easeOf, Cond.selects RX5 yX5_easeOf yX5_easeOf, Cond.code yX5_easeOf cX5_easeOf 2 (some .int), Cond.methodLink RX6 86 yX5_hopsBeneath, Cond.instanceMethod yX5_hopsBeneath, Cond.selects RX5 yX5_hopsBeneath yX5_hopsBeneath, Cond.code yX5_hopsBeneath cX5_hopsBeneath 2 (some .int), Cond.methodLink RX6 89 yX3_redundancyOf, Cond.instanceMethod yX3_redundancyOf, Cond.selects RX3 yX3_redundancyOf yX3_redundancyOf, Cond.code yX3_redundancyOf cX3_redundancyOf 3 (some .int), Cond.methodLink RX3 52 yX3_hopFromAbove, Cond.instanceMethod yX3_hopFromAbove, Cond.selects RX3 yX3_hopFromAbove yX3_hopFromAbove, Cond.code yX3_hopFromAbove cX3_hopFromAbove 4 (some .int), Cond.methodLink RX3 55 yX3_decidesAny, Cond.instanceMethod yX3_decidesAny, Cond.selects RX3 yX3_decidesAny yX3_decidesAny, Cond.code yX3_decidesAny cX3_decidesAny 5 (some .boolean), Cond.static yX6_firstAddress, Cond.code yX6_firstAddress cX6_firstAddress 1 (some .int), Cond.methodLink RX6 251 yX6_bitsOf, Cond.static yX6_bitsOf, Cond.code yX6_bitsOf cX6_bitsOf 1 (some .int)]
def wsL_law_r13 : List Cond := [Cond.methodLink RX6 248 yJ6_numberOfLeadingZeros_0f7a4, Cond.static yJ6_numberOfLeadingZeros_0f7a4, Cond.code yJ6_numberOfLeadingZeros_0f7a4 cJ6_numberOfLeadingZeros_0f7a4 2 (some .int), Cond.static yX6_howManyAddresses, Cond.code yX6_howManyAddresses cX6_howManyAddresses 1 (some .int), Cond.methodLink RL 21 yX7_prefix, Cond.instanceMethod yX7_prefix, Cond.selects RX7 yX7_prefix yX7_prefix, Cond.code yX7_prefix cX7_prefix 3 (some .int), Cond.constantLong RX7 105 (6), Cond.methodLink RX7 101 yX7_isPrefix, Cond.static yX7_isPrefix, Cond.code yX7_isPrefix cX7_isPrefix 1 (some .boolean), Cond.constantLong RX7 99 (511), Cond.methodLink RX7 107 yX7_toldOf, Cond.static yX7_toldOf, Cond.code yX7_toldOf cX7_toldOf 1 (some .int), Cond.methodLink RX7 110 yX7_hopsIn, Cond.instanceMethod yX7_hopsIn, Cond.selects RX7 yX7_hopsIn yX7_hopsIn, Cond.code yX7_hopsIn cX7_hopsIn 4 (some .int), Cond.methodLink RX7 84 yX7_has, Cond.static yX7_has, Cond.code yX7_has cX7_has 3 (some .boolean)]
def wsL_law_r14 : List Cond := [Cond.methodLink RX7 113 yX7_isRedundant, Cond.instanceMethod yX7_isRedundant, Cond.selects RX7 yX7_isRedundant yX7_isRedundant, Cond.code yX7_isRedundant cX7_isRedundant 4 (some .boolean), Cond.methodLink RL 22 yX6_cost, Cond.instanceMethod yX6_cost, Cond.selects RX6 yX6_cost yX6_cost, Cond.code yX6_cost cX6_cost 3 (some .int), Cond.methodLink RX6 92 yX6_isHop, Cond.methodLink RX6 95 yX5_costBy, Cond.instanceMethod yX5_costBy, Cond.selects RX5 yX5_costBy yX5_costBy, Cond.code yX5_costBy cX5_costBy 3 (some .int), Cond.methodLink RX5 55 yX5_easeOf, Cond.methodLink RX5 59 yX5_bestHops, Cond.methodLink RL 25 yX7_cost, Cond.instanceMethod yX7_cost, Cond.selects RX7 yX7_cost yX7_cost, Cond.code yX7_cost cX7_cost 3 (some .int), Cond.constantLong RX7 116 (7), Cond.methodLink RL 26 yX6_least, Cond.instanceMethod yX6_least, Cond.selects RX6 yX6_least yX6_least, Cond.code yX6_least cX6_least 5 (some .int)]
def wsL_law_r15 : List Cond := [Cond.methodLink RX6 99 yX3_numberOf, Cond.instanceMethod yX3_numberOf, Cond.selects RX3 yX3_numberOf yX3_numberOf, Cond.code yX3_numberOf cX3_numberOf 4 (some .int), Cond.methodLink RL 29 yX7_least, Cond.instanceMethod yX7_least, Cond.selects RX7 yX7_least yX7_least, Cond.code yX7_least cX7_least 4 (some .int), Cond.methodLink RX7 118 yX7_leastAt, Cond.instanceMethod yX7_leastAt, Cond.selects RX7 yX7_leastAt yX7_leastAt, Cond.code yX7_leastAt cX7_leastAt 4 (some .int), Cond.methodLink RL 30 yX6_count, Cond.instanceMethod yX6_count, Cond.selects RX6 yX6_count yX6_count, Cond.code yX6_count cX6_count 2 (some .int), Cond.methodLink RX6 102 yX3_howMany, Cond.instanceMethod yX3_howMany, Cond.selects RX3 yX3_howMany yX3_howMany, Cond.code yX3_howMany cX3_howMany 1 (some .int), Cond.methodLink RX6 106 yX5_countChanges, Cond.instanceMethod yX5_countChanges, Cond.selects RX5 yX5_countChanges yX5_countChanges, Cond.code yX5_countChanges cX5_countChanges 3 (some .int)]
def wsL_law_r16 : List Cond := [Cond.methodLink RX5 69 yX5_kindOfChange, Cond.instanceMethod yX5_kindOfChange, Cond.selects RX5 yX5_kindOfChange yX5_kindOfChange, Cond.code yX5_kindOfChange cX5_kindOfChange 4 (some .int), Cond.methodLink RX6 109 yX5_countProof, Cond.instanceMethod yX5_countProof, Cond.selects RX5 yX5_countProof yX5_countProof, Cond.code yX5_countProof cX5_countProof 3 (some .int), Cond.methodLink RX5 72 yX5_proofFrom, Cond.instanceMethod yX5_proofFrom, Cond.selects RX5 yX5_proofFrom yX5_proofFrom, Cond.code yX5_proofFrom cX5_proofFrom 4 (some .int), Cond.methodLink RX5 75 yX5_hopsBeneath, Cond.static yX6_isOneHop, Cond.code yX6_isOneHop cX6_isOneHop 1 (some .boolean), Cond.methodLink RX6 245 yJ6_bitCount_0f7a4, Cond.static yJ6_bitCount_0f7a4, Cond.code yJ6_bitCount_0f7a4 cJ6_bitCount_0f7a4 1 (some .int), Cond.constant RJ6 265 (1431655765), Cond.constant RJ6 266 (858993459), Cond.constant RJ6 267 (252645135), Cond.methodLink RX5 81 yX5_installedHopsBeneath, Cond.instanceMethod yX5_installedHopsBeneath, Cond.selects RX5 yX5_installedHopsBeneath yX5_installedHopsBeneath]
def wsL_law_r17 : List Cond := [Cond.code yX5_installedHopsBeneath cX5_installedHopsBeneath 2 (some .int), Cond.methodLink RX6 112 yX3_countRedundant, Cond.instanceMethod yX3_countRedundant, Cond.selects RX3 yX3_countRedundant yX3_countRedundant, Cond.code yX3_countRedundant cX3_countRedundant 3 (some .int), Cond.methodLink RX3 58 yX3_redundancyOf, Cond.methodLink RX6 115 yX5_firstSentElsewhere, Cond.instanceMethod yX5_firstSentElsewhere, Cond.selects RX5 yX5_firstSentElsewhere yX5_firstSentElsewhere, Cond.code yX5_firstSentElsewhere cX5_firstSentElsewhere 2 (some .int), Cond.methodLink RX6 118 yX0_howManyKnown, Cond.instanceMethod yX0_howManyKnown, Cond.selects RX0 yX0_howManyKnown yX0_howManyKnown, Cond.code yX0_howManyKnown cX0_howManyKnown 1 (some .int), Cond.methodLink RL 34 yX7_count, Cond.instanceMethod yX7_count, Cond.selects RX7 yX7_count yX7_count, Cond.code yX7_count cX7_count 2 (some .int), Cond.fieldLink RX7 152 "LeastRoutesModel" "acts" "I", Cond.methodLink RX7 138 yX7_many, Cond.static yX7_many, Cond.code yX7_many cX7_many 4 (some .int), Cond.methodLink RX7 142 yX7_changes, Cond.instanceMethod yX7_changes]
def wsL_law_r18 : List Cond := [Cond.selects RX7 yX7_changes yX7_changes, Cond.code yX7_changes cX7_changes 3 (some .int), Cond.methodLink RX7 135 yX7_proofAt, Cond.instanceMethod yX7_proofAt, Cond.selects RX7 yX7_proofAt yX7_proofAt, Cond.code yX7_proofAt cX7_proofAt 4 (some .int), Cond.methodLink RX7 127 yX7_proofOf, Cond.instanceMethod yX7_proofOf, Cond.selects RX7 yX7_proofOf yX7_proofOf, Cond.code yX7_proofOf cX7_proofOf 4 (some .int), Cond.methodLink RX7 124 yX7_isOne, Cond.instanceMethod yX7_isOne, Cond.selects RX7 yX7_isOne yX7_isOne, Cond.code yX7_isOne cX7_isOne 6 (some .boolean), Cond.methodLink RX7 130 yX7_wide, Cond.static yX7_wide, Cond.code yX7_wide cX7_wide 3 (some .int), Cond.methodLink RX7 146 yX7_redundant, Cond.instanceMethod yX7_redundant, Cond.selects RX7 yX7_redundant yX7_redundant, Cond.code yX7_redundant cX7_redundant 3 (some .int), Cond.methodLink RX7 149 yX7_firstUnlike, Cond.instanceMethod yX7_firstUnlike, Cond.selects RX7 yX7_firstUnlike yX7_firstUnlike]
def wsL_law_r19 : List Cond := [Cond.code yX7_firstUnlike cX7_firstUnlike 2 (some .int), Cond.methodLink RL 35 yX6_change, Cond.instanceMethod yX6_change, Cond.selects RX6 yX6_change yX6_change, Cond.code yX6_change cX6_change 5 (some .int), Cond.methodLink RX6 121 yX5_changeNumber, Cond.instanceMethod yX5_changeNumber, Cond.selects RX5 yX5_changeNumber yX5_changeNumber, Cond.code yX5_changeNumber cX5_changeNumber 4 (some .int), Cond.methodLink RX6 124 yX5_kindOfChange, Cond.methodLink RL 38 yX7_change, Cond.instanceMethod yX7_change, Cond.selects RX7 yX7_change yX7_change, Cond.code yX7_change cX7_change 5 (some .int), Cond.methodLink RX7 121 yX7_changeAt, Cond.instanceMethod yX7_changeAt, Cond.selects RX7 yX7_changeAt yX7_changeAt, Cond.code yX7_changeAt cX7_changeAt 4 (some .int), Cond.methodLink RL 39 yX6_proof, Cond.instanceMethod yX6_proof, Cond.selects RX6 yX6_proof yX6_proof, Cond.code yX6_proof cX6_proof 5 (some .int), Cond.methodLink RX6 127 yX5_proofNumber, Cond.instanceMethod yX5_proofNumber]
def wsL_law_r20 : List Cond := [Cond.selects RX5 yX5_proofNumber yX5_proofNumber, Cond.code yX5_proofNumber cX5_proofNumber 5 (some .int), Cond.methodLink RX6 130 yX6_lowestHop, Cond.methodLink RX6 133 yX5_installedHopsBeneath, Cond.methodLink RL 42 yX7_proof, Cond.instanceMethod yX7_proof, Cond.selects RX7 yX7_proof yX7_proof, Cond.code yX7_proof cX7_proof 4 (some .int), Cond.constantLong RX7 133 (2), Cond.methodLink RL 43 yX6_lost, Cond.instanceMethod yX6_lost, Cond.selects RX6 yX6_lost yX6_lost, Cond.code yX6_lost cX6_lost 11 (some .int), Cond.constantLong RX6 136 (10), Cond.methodLink RX6 138 yX6_greatestDivisor, Cond.static yX6_greatestDivisor, Cond.code yX6_greatestDivisor cX6_greatestDivisor 11 (some .long), Cond.methodLink RL 47 yX7_lost, Cond.instanceMethod yX7_lost, Cond.selects RX7 yX7_lost yX7_lost, Cond.code yX7_lost cX7_lost 10 (some .int), Cond.constantLong RX7 155 (10), Cond.methodLink RX7 157 yX7_chances, Cond.instanceMethod yX7_chances]
def wsL_law_r21 : List Cond := [Cond.selects RX7 yX7_chances yX7_chances, Cond.code yX7_chances cX7_chances 12 (some .int), Cond.methodLink RL 48 yX6_tell, Cond.instanceMethod yX6_tell, Cond.selects RX6 yX6_tell yX6_tell, Cond.code yX6_tell cX6_tell 4 (some .int), Cond.methodLink RX6 142 yX6_beginStep, Cond.instanceMethod yX6_beginStep, Cond.selects RX6 yX6_beginStep yX6_beginStep, Cond.code yX6_beginStep cX6_beginStep 1 none, Cond.methodLink RX6 264 yX0_remember, Cond.instanceMethod yX0_remember, Cond.selects RX0 yX0_remember yX0_remember, Cond.code yX0_remember cX0_remember 1 none, Cond.methodLink RX0 26 yX0_loseOldest, Cond.instanceMethod yX0_loseOldest, Cond.selects RX0 yX0_loseOldest yX0_loseOldest, Cond.code yX0_loseOldest cX0_loseOldest 3 none, Cond.methodLink RX0 29 yX1_takeFrom, Cond.instanceMethod yX1_takeFrom, Cond.selects RX1 yX1_takeFrom yX1_takeFrom, Cond.code yX1_takeFrom cX1_takeFrom 2 none, Cond.methodLink RX1 25 yX3_takeFrom, Cond.methodLink RX6 145 yX3_put]
def wsL_law_r22 : List Cond := [Cond.methodLink RL 51 yX7_tell, Cond.instanceMethod yX7_tell, Cond.selects RX7 yX7_tell yX7_tell, Cond.code yX7_tell cX7_tell 4 (some .int), Cond.methodLink RX7 165 yX7_notes, Cond.instanceMethod yX7_notes, Cond.selects RX7 yX7_notes yX7_notes, Cond.code yX7_notes cX7_notes 1 none, Cond.methodLink RX7 161 yX7_bring, Cond.static yX7_bring, Cond.code yX7_bring cX7_bring 6 none, Cond.methodLink RL 52 yX6_out, Cond.instanceMethod yX6_out, Cond.selects RX6 yX6_out yX6_out, Cond.code yX6_out cX6_out 3 (some .int), Cond.methodLink RX6 149 yX3_takeOut, Cond.instanceMethod yX3_takeOut, Cond.selects RX3 yX3_takeOut yX3_takeOut, Cond.code yX3_takeOut cX3_takeOut 2 none, Cond.methodLink RL 55 yX7_out, Cond.instanceMethod yX7_out, Cond.selects RX7 yX7_out yX7_out, Cond.code yX7_out cX7_out 3 (some .int), Cond.methodLink RL 56 yX6_rename]
def wsL_law_r23 : List Cond := [Cond.instanceMethod yX6_rename, Cond.selects RX6 yX6_rename yX6_rename, Cond.code yX6_rename cX6_rename 3 (some .int), Cond.methodLink RX6 153 yX3_hasHop, Cond.instanceMethod yX3_hasHop, Cond.selects RX3 yX3_hasHop yX3_hasHop, Cond.code yX3_hasHop cX3_hasHop 3 (some .boolean), Cond.methodLink RX6 156 yX3_replaceHop, Cond.instanceMethod yX3_replaceHop, Cond.selects RX3 yX3_replaceHop yX3_replaceHop, Cond.code yX3_replaceHop cX3_replaceHop 5 (some .int), Cond.methodLink RX3 49 yX3_put, Cond.methodLink RL 59 yX7_rename, Cond.instanceMethod yX7_rename, Cond.selects RX7 yX7_rename yX7_rename, Cond.code yX7_rename cX7_rename 5 (some .int), Cond.methodLink RL 60 yX6_install, Cond.instanceMethod yX6_install, Cond.selects RX6 yX6_install yX6_install, Cond.code yX6_install cX6_install 3 (some .int), Cond.methodLink RX6 159 yX3_takeFrom, Cond.methodLink RL 64 yX7_install, Cond.instanceMethod yX7_install, Cond.selects RX7 yX7_install yX7_install]
def wsL_law_r24 : List Cond := [Cond.code yX7_install cX7_install 2 (some .int), Cond.methodLink RL 65 yX6_type, Cond.instanceMethod yX6_type, Cond.selects RX6 yX6_type yX6_type, Cond.code yX6_type cX6_type 2 (some .int), Cond.methodLink RX6 163 yX4_addLetter, Cond.instanceMethod yX4_addLetter, Cond.selects RX4 yX4_addLetter yX4_addLetter, Cond.code yX4_addLetter cX4_addLetter 2 (some .int), Cond.methodLink RL 68 yX7_type, Cond.instanceMethod yX7_type, Cond.selects RX7 yX7_type yX7_type, Cond.code yX7_type cX7_type 2 (some .int), Cond.constantLong RX7 168 (32), Cond.constantLong RX7 170 (126), Cond.fieldLink RX7 172 "LeastRoutesModel" "tapeMany" "I", Cond.methodLink RL 69 yX6_read, Cond.instanceMethod yX6_read, Cond.selects RX6 yX6_read yX6_read, Cond.code yX6_read cX6_read 2 (some .int), Cond.methodLink RX6 166 yX4_parse, Cond.instanceMethod yX4_parse, Cond.selects RX4 yX4_parse yX4_parse, Cond.code yX4_parse cX4_parse 4 (some .int)]
def wsL_law_r25 : List Cond := [Cond.methodLink RX4 32 yX3_makeEmpty, Cond.methodLink RX4 35 yX4_parseEntry, Cond.instanceMethod yX4_parseEntry, Cond.selects RX4 yX4_parseEntry yX4_parseEntry, Cond.code yX4_parseEntry cX4_parseEntry 3 (some .int), Cond.methodLink RX4 39 yX4_letterHere, Cond.instanceMethod yX4_letterHere, Cond.selects RX4 yX4_letterHere yX4_letterHere, Cond.code yX4_letterHere cX4_letterHere 1 (some .int), Cond.methodLink RX4 42 yX4_parseFigures, Cond.instanceMethod yX4_parseFigures, Cond.selects RX4 yX4_parseFigures yX4_parseFigures, Cond.code yX4_parseFigures cX4_parseFigures 3 (some .int), Cond.methodLink RX4 45 yX3_hopAt, Cond.methodLink RX4 53 yX3_put, Cond.methodLink RX6 169 yX4_makeEmpty, Cond.instanceMethod yX4_makeEmpty, Cond.selects RX4 yX4_makeEmpty yX4_makeEmpty, Cond.code yX4_makeEmpty cX4_makeEmpty 1 none, Cond.methodLink RX6 172 yX4_toldTable, Cond.instanceMethod yX4_toldTable, Cond.selects RX4 yX4_toldTable yX4_toldTable, Cond.code yX4_toldTable cX4_toldTable 1 (some (.object "LeastRoutes$Table")), Cond.methodLink RL 72 yX7_read]
def wsL_law_r26 : List Cond := [Cond.instanceMethod yX7_read, Cond.selects RX7 yX7_read yX7_read, Cond.code yX7_read cX7_read 2 (some .int), Cond.fieldLink RX7 175 "LeastRoutesModel" "readAt" "I", Cond.methodLink RX7 189 yX7_readsAll, Cond.instanceMethod yX7_readsAll, Cond.selects RX7 yX7_readsAll yX7_readsAll, Cond.code yX7_readsAll cX7_readsAll 2 (some .boolean), Cond.methodLink RX7 185 yX7_readsEntry, Cond.instanceMethod yX7_readsEntry, Cond.selects RX7 yX7_readsEntry yX7_readsEntry, Cond.code yX7_readsEntry cX7_readsEntry 3 (some .boolean), Cond.constantLong RX7 181 (48), Cond.constantLong RX7 183 (55), Cond.methodLink RX7 178 yX7_looks, Cond.instanceMethod yX7_looks, Cond.selects RX7 yX7_looks yX7_looks, Cond.code yX7_looks cX7_looks 1 (some .int), Cond.methodLink RL 73 yX6_drift, Cond.instanceMethod yX6_drift, Cond.selects RX6 yX6_drift yX6_drift, Cond.code yX6_drift cX6_drift 3 (some .int), Cond.methodLink RX6 175 yX6_takeTurn, Cond.instanceMethod yX6_takeTurn]
def wsL_law_r27 : List Cond := [Cond.selects RX6 yX6_takeTurn yX6_takeTurn, Cond.code yX6_takeTurn cX6_takeTurn 6 none, Cond.methodLink RX6 267 yX1_nextDraw, Cond.instanceMethod yX1_nextDraw, Cond.selects RX1 yX1_nextDraw yX1_nextDraw, Cond.code yX1_nextDraw cX1_nextDraw 1 (some .int), Cond.constant RX1 23 (1103515245), Cond.constant RX1 24 (2147483647), Cond.methodLink RL 76 yX7_drift, Cond.instanceMethod yX7_drift, Cond.selects RX7 yX7_drift yX7_drift, Cond.code yX7_drift cX7_drift 3 (some .int), Cond.constantLong RX7 199 (40), Cond.methodLink RX7 201 yX7_turnsOnce, Cond.instanceMethod yX7_turnsOnce, Cond.selects RX7 yX7_turnsOnce yX7_turnsOnce, Cond.code yX7_turnsOnce cX7_turnsOnce 6 none, Cond.constantLong RX7 192 (1103515245), Cond.constantLong RX7 194 (12345), Cond.constantLong RX7 196 (2147483648), Cond.constant RX7 198 (65536), Cond.methodLink RL 77 yX6_undo, Cond.instanceMethod yX6_undo, Cond.selects RX6 yX6_undo yX6_undo]
def wsL_law_r28 : List Cond := [Cond.code yX6_undo cX6_undo 1 (some .int), Cond.methodLink RX6 178 yX0_goBack, Cond.instanceMethod yX0_goBack, Cond.selects RX0 yX0_goBack yX0_goBack, Cond.code yX0_goBack cX0_goBack 1 none, Cond.methodLink RL 80 yX7_undo, Cond.instanceMethod yX7_undo, Cond.selects RX7 yX7_undo yX7_undo, Cond.code yX7_undo cX7_undo 1 (some .int), Cond.methodLink RL 81 yX6_seed, Cond.instanceMethod yX6_seed, Cond.selects RX6 yX6_seed yX6_seed, Cond.code yX6_seed cX6_seed 3 (some .int), Cond.methodLink RX6 185 yX1_drawNow, Cond.instanceMethod yX1_drawNow, Cond.selects RX1 yX1_drawNow yX1_drawNow, Cond.code yX1_drawNow cX1_drawNow 1 (some .int), Cond.methodLink RX6 190 yX1_setDraw, Cond.instanceMethod yX1_setDraw, Cond.selects RX1 yX1_setDraw yX1_setDraw, Cond.code yX1_setDraw cX1_setDraw 2 none, Cond.methodLink RL 84 yX7_seed, Cond.instanceMethod yX7_seed, Cond.selects RX7 yX7_seed yX7_seed]
def wsL_law_r29 : List Cond := [Cond.code yX7_seed cX7_seed 3 (some .int), Cond.methodLink RL 85 yX6_image, Cond.instanceMethod yX6_image, Cond.selects RX6 yX6_image yX6_image, Cond.code yX6_image cX6_image 1 (some .int), Cond.methodLink RX6 193 yX0_takeAllFrom, Cond.instanceMethod yX0_takeAllFrom, Cond.selects RX0 yX0_takeAllFrom yX0_takeAllFrom, Cond.code yX0_takeAllFrom cX0_takeAllFrom 3 none, Cond.methodLink RL 88 yX7_image, Cond.instanceMethod yX7_image, Cond.selects RX7 yX7_image yX7_image, Cond.code yX7_image cX7_image 1 (some .int), Cond.methodLink RL 89 yX6_restore, Cond.instanceMethod yX6_restore, Cond.selects RX6 yX6_restore yX6_restore, Cond.code yX6_restore cX6_restore 1 (some .int), Cond.methodLink RL 92 yX7_restore, Cond.instanceMethod yX7_restore, Cond.selects RX7 yX7_restore yX7_restore, Cond.code yX7_restore cX7_restore 1 (some .int), Cond.methodLink RL 93 yX6_lengths, Cond.instanceMethod yX6_lengths, Cond.selects RX6 yX6_lengths yX6_lengths]
def wsL_law_r30 : List Cond := [Cond.code yX6_lengths cX6_lengths 8 (some .int), Cond.methodLink RX6 197 yX6_isSheet, Cond.static yX6_isSheet, Cond.code yX6_isSheet cX6_isSheet 1 (some .boolean), Cond.methodLink RX6 200 yX6_isLane, Cond.static yX6_isLane, Cond.code yX6_isLane cX6_isLane 1 (some .boolean), Cond.methodLink RX6 203 yX2_refusal, Cond.instanceMethod yX2_refusal, Cond.selects RX2 yX2_refusal yX2_refusal, Cond.code yX2_refusal cX2_refusal 4 (some .int), Cond.methodLink RX2 22 yX2_holdsNothing, Cond.instanceMethod yX2_holdsNothing, Cond.selects RX2 yX2_holdsNothing yX2_holdsNothing, Cond.code yX2_holdsNothing cX2_holdsNothing 1 (some .boolean), Cond.methodLink RX2 26 yX2_hasItems, Cond.instanceMethod yX2_hasItems, Cond.selects RX2 yX2_hasItems yX2_hasItems, Cond.code yX2_hasItems cX2_hasItems 3 (some .boolean), Cond.methodLink RX6 207 yX2_holdsPairs, Cond.instanceMethod yX2_holdsPairs, Cond.selects RX2 yX2_holdsPairs yX2_holdsPairs, Cond.code yX2_holdsPairs cX2_holdsPairs 8 (some .boolean), Cond.constantLong RX2 46 (256)]
def wsL_law_r31 : List Cond := [Cond.constantLong RX2 48 (8), Cond.methodLink RX6 211 yX2_isToldBy, Cond.instanceMethod yX2_isToldBy, Cond.selects RX2 yX2_isToldBy yX2_isToldBy, Cond.code yX2_isToldBy cX2_isToldBy 8 (some .boolean), Cond.methodLink RL 97 yX7_lengths, Cond.instanceMethod yX7_lengths, Cond.selects RX7 yX7_lengths yX7_lengths, Cond.code yX7_lengths cX7_lengths 9 (some .int), Cond.constantLong RX7 207 (12), Cond.methodLink RX7 204 yX7_isSheet, Cond.static yX7_isSheet, Cond.code yX7_isSheet cX7_isSheet 2 (some .boolean), Cond.methodLink RX7 209 yX7_found, Cond.instanceMethod yX7_found, Cond.selects RX7 yX7_found yX7_found, Cond.code yX7_found cX7_found 5 (some .int), Cond.methodLink RX7 213 yX7_isLength, Cond.instanceMethod yX7_isLength, Cond.selects RX7 yX7_isLength yX7_isLength, Cond.code yX7_isLength cX7_isLength 8 (some .boolean), Cond.methodLink RL 98 yX6_film, Cond.instanceMethod yX6_film, Cond.selects RX6 yX6_film yX6_film]
def wsL_law_r32 : List Cond := [Cond.code yX6_film cX6_film 10 (some .int), Cond.methodLink RX6 215 yX2_setItem, Cond.instanceMethod yX2_setItem, Cond.selects RX2 yX2_setItem yX2_setItem, Cond.code yX2_setItem cX2_setItem 4 none, Cond.methodLink RX2 36 yX2_lowestBits, Cond.instanceMethod yX2_lowestBits, Cond.selects RX2 yX2_lowestBits yX2_lowestBits, Cond.code yX2_lowestBits cX2_lowestBits 3 (some .long), Cond.methodLink RL 102 yX7_film, Cond.instanceMethod yX7_film, Cond.selects RX7 yX7_film yX7_film, Cond.code yX7_film cX7_film 9 (some .int), Cond.methodLink RX7 217 yX7_lowest, Cond.static yX7_lowest, Cond.code yX7_lowest cX7_lowest 3 (some .long), Cond.methodLink RL 103 yX6_sheet, Cond.instanceMethod yX6_sheet, Cond.selects RX6 yX6_sheet yX6_sheet, Cond.code yX6_sheet cX6_sheet 4 (some .int), Cond.methodLink RX6 219 yX2_startRow, Cond.instanceMethod yX2_startRow, Cond.selects RX2 yX2_startRow yX2_startRow, Cond.code yX2_startRow cX2_startRow 3 none]
def wsL_law_r33 : List Cond := [Cond.methodLink RX2 30 yJ7_fill_d0a16, Cond.methodLink RL 106 yX7_sheet, Cond.instanceMethod yX7_sheet, Cond.selects RX7 yX7_sheet yX7_sheet, Cond.code yX7_sheet cX7_sheet 5 (some .int), Cond.methodLink RL 107 yX6_drop, Cond.instanceMethod yX6_drop, Cond.selects RX6 yX6_drop yX6_drop, Cond.code yX6_drop cX6_drop 2 (some .int), Cond.methodLink RX6 222 yX2_holdsNothing, Cond.methodLink RX6 226 yX2_makeNothing, Cond.instanceMethod yX2_makeNothing, Cond.selects RX2 yX2_makeNothing yX2_makeNothing, Cond.code yX2_makeNothing cX2_makeNothing 2 (some .int), Cond.methodLink RL 110 yX7_drop, Cond.instanceMethod yX7_drop, Cond.selects RX7 yX7_drop yX7_drop, Cond.code yX7_drop cX7_drop 2 (some .int), Cond.methodLink RL 113 yX6_item, Cond.instanceMethod yX6_item, Cond.selects RX6 yX6_item yX6_item, Cond.code yX6_item cX6_item 7 (some .int), Cond.methodLink RL 117 yX7_item, Cond.instanceMethod yX7_item]
def wsL_law_r34 : List Cond := [Cond.selects RX7 yX7_item yX7_item, Cond.code yX7_item cX7_item 7 (some .int), Cond.methodLink RL 118 yX6_copy, Cond.instanceMethod yX6_copy, Cond.selects RX6 yX6_copy yX6_copy, Cond.code yX6_copy cX6_copy 8 (some .int), Cond.methodLink RX6 229 yX2_hasLaneOf, Cond.instanceMethod yX2_hasLaneOf, Cond.selects RX2 yX2_hasLaneOf yX2_hasLaneOf, Cond.code yX2_hasLaneOf cX2_hasLaneOf 2 (some .boolean), Cond.methodLink RX6 233 yX2_hasItems, Cond.methodLink RX6 236 yX2_takeItems, Cond.instanceMethod yX2_takeItems, Cond.selects RX2 yX2_takeItems yX2_takeItems, Cond.code yX2_takeItems cX2_takeItems 5 none, Cond.methodLink RX2 40 arraycopyName, Cond.methodLink RL 121 yX7_copy, Cond.instanceMethod yX7_copy, Cond.selects RX7 yX7_copy yX7_copy, Cond.code yX7_copy cX7_copy 9 (some .int)]
def wsL_law : List Cond := (wsL_law_r1 ++ (wsL_law_r2 ++ (wsL_law_r3 ++ (wsL_law_r4 ++ (wsL_law_r5 ++ (wsL_law_r6 ++ (wsL_law_r7 ++ (wsL_law_r8 ++ (wsL_law_r9 ++ (wsL_law_r10 ++ (wsL_law_r11 ++ (wsL_law_r12 ++ (wsL_law_r13 ++ (wsL_law_r14 ++ (wsL_law_r15 ++ (wsL_law_r16 ++ (wsL_law_r17 ++ (wsL_law_r18 ++ (wsL_law_r19 ++ (wsL_law_r20 ++ (wsL_law_r21 ++ (wsL_law_r22 ++ (wsL_law_r23 ++ (wsL_law_r24 ++ (wsL_law_r25 ++ (wsL_law_r26 ++ (wsL_law_r27 ++ (wsL_law_r28 ++ (wsL_law_r29 ++ (wsL_law_r30 ++ (wsL_law_r31 ++ (wsL_law_r32 ++ (wsL_law_r33 ++ wsL_law_r34))))))))))))))))))))))))))))))))) ++ wsX60 ++ wsX70 ++ wsX00 ++ wsX50 ++ wsX40 ++ wsX20 ++ wsX10 ++ wsX30 ++ ([] : List Cond)
end
section
theorem wq_fm {big ws : List Cond} (ps : List Nat) (hp : ws = ps.filterMap (fun i => big[i]?)) : ∀ w ∈ ws, w ∈ big := by
  intro w hw
  rw [hp] at hw
  obtain ⟨i, -, hi⟩ := List.mem_filterMap.mp hw
  first | exact List.mem_of_getElem? hi | exact List.getElem?_mem hi
set_option maxRecDepth 20000 in
theorem wq_wsL_law_r1 : ∀ w ∈ wsL_law_r1, w ∈ lw_tbl := wq_fm [52, 53, 40, 663, 664, 47, 973, 54, 55, 56, 57, 58, 59, 60, 61, 41, 179, 180, 107, 108, 44, 181, 138, 139] (by decide +kernel)
set_option maxRecDepth 20000 in
theorem wq_wsL_law_r2 : ∀ w ∈ wsL_law_r2, w ∈ lw_tbl := wq_fm [45, 182, 162, 183, 184, 185, 164, 46, 62, 63, 64, 65, 66, 67, 42, 97, 98, 99, 69, 70, 71, 72, 73, 43] (by decide +kernel)
set_option maxRecDepth 20000 in
theorem wq_wsL_law_r3 : ∀ w ∈ wsL_law_r3, w ∈ lw_tbl := wq_fm [86, 87, 88, 75, 76, 77, 85, 78, 79, 110, 111, 112, 137, 115, 116, 117, 118, 119, 113, 120, 121, 141, 142, 143] (by decide +kernel)
set_option maxRecDepth 20000 in
theorem wq_wsL_law_r4 : ∀ w ∈ wsL_law_r4, w ∈ lw_tbl := wq_fm [146, 144, 147, 148, 149, 150, 166, 167, 168, 169, 170, 171, 665, 666, 667, 668, 669, 670, 672, 673, 674, 675, 677, 678] (by decide +kernel)
set_option maxRecDepth 20000 in
theorem wq_wsL_law_r5 : ∀ w ∈ wsL_law_r5, w ∈ lw_tbl := wq_fm [679, 680, 681, 682, 683, 684, 685, 201, 202, 203, 204, 205, 206, 207, 208, 210, 0, 211, 212, 213, 214, 215, 216, 217] (by decide +kernel)
set_option maxRecDepth 20000 in
theorem wq_wsL_law_r6 : ∀ w ∈ wsL_law_r6, w ∈ lw_tbl := wq_fm [218, 219, 220, 221, 222, 223, 224, 225, 226, 227, 228, 229, 230, 231, 232, 233, 235, 1, 236, 237, 238, 239, 240, 241] (by decide +kernel)
set_option maxRecDepth 20000 in
theorem wq_wsL_law_r7 : ∀ w ∈ wsL_law_r7, w ∈ lw_tbl := wq_fm [243, 2, 244, 245, 246, 247, 248, 249, 250, 251, 252, 253, 255, 254, 48, 256, 257, 258, 260, 261, 49, 262, 259, 263] (by decide +kernel)
set_option maxRecDepth 20000 in
theorem wq_wsL_law_r8 : ∀ w ∈ wsL_law_r8, w ∈ lw_tbl := wq_fm [265, 3, 266, 267, 269, 4, 270, 271, 272, 273, 274, 275, 276, 50, 277, 278, 279, 280, 282, 283, 284, 285, 51, 286] (by decide +kernel)
set_option maxRecDepth 20000 in
theorem wq_wsL_law_r9 : ∀ w ∈ wsL_law_r9, w ∈ lw_tbl := wq_fm [287, 288, 289, 290, 291, 293, 294, 296, 297, 298, 300, 5, 301, 302, 303, 304, 305, 306, 307, 724, 725, 726, 727, 728] (by decide +kernel)
set_option maxRecDepth 20000 in
theorem wq_wsL_law_r10 : ∀ w ∈ wsL_law_r10, w ∈ lw_tbl := wq_fm [732, 729, 730, 731, 733, 735, 15, 736, 737, 739, 16, 740, 741, 742, 743, 744, 745, 746, 747, 749, 17, 750, 751, 752] (by decide +kernel)
set_option maxRecDepth 20000 in
theorem wq_wsL_law_r11 : ∀ w ∈ wsL_law_r11, w ∈ lw_tbl := wq_fm [753, 754, 756, 18, 757, 758, 760, 19, 761, 762, 764, 20, 765, 308, 309, 310, 311, 312, 313, 314, 315, 316, 317, 319] (by decide +kernel)
set_option maxRecDepth 20000 in
theorem wq_wsL_law_r12 : ∀ w ∈ wsL_law_r12, w ∈ lw_tbl := wq_fm [320, 321, 322, 323, 324, 325, 326, 327, 328, 329, 330, 331, 332, 333, 334, 335, 337, 6, 338, 340, 341, 342, 343, 344] (by decide +kernel)
set_option maxRecDepth 20000 in
theorem wq_wsL_law_r13 : ∀ w ∈ wsL_law_r13, w ∈ lw_tbl := wq_fm [345, 346, 347, 349, 350, 766, 767, 768, 769, 774, 770, 771, 772, 773, 775, 776, 777, 778, 780, 21, 781, 782, 783, 784] (by decide +kernel)
set_option maxRecDepth 20000 in
theorem wq_wsL_law_r14 : ∀ w ∈ wsL_law_r14, w ∈ lw_tbl := wq_fm [785, 787, 22, 788, 351, 352, 353, 354, 355, 356, 357, 358, 359, 360, 361, 789, 790, 791, 792, 793, 362, 363, 364, 365] (by decide +kernel)
set_option maxRecDepth 20000 in
theorem wq_wsL_law_r15 : ∀ w ∈ wsL_law_r15, w ∈ lw_tbl := wq_fm [366, 367, 368, 369, 794, 795, 796, 797, 798, 800, 23, 801, 370, 371, 372, 373, 374, 375, 376, 377, 378, 379, 380, 381] (by decide +kernel)
set_option maxRecDepth 20000 in
theorem wq_wsL_law_r16 : ∀ w ∈ wsL_law_r16, w ∈ lw_tbl := wq_fm [382, 383, 384, 385, 386, 387, 388, 389, 390, 392, 7, 393, 394, 396, 397, 398, 399, 400, 401, 402, 403, 404, 405, 406] (by decide +kernel)
set_option maxRecDepth 20000 in
theorem wq_wsL_law_r17 : ∀ w ∈ wsL_law_r17, w ∈ lw_tbl := wq_fm [407, 409, 410, 411, 412, 413, 414, 415, 416, 417, 418, 419, 420, 421, 830, 831, 832, 833, 671, 834, 835, 836, 837, 839] (by decide +kernel)
set_option maxRecDepth 20000 in
theorem wq_wsL_law_r18 : ∀ w ∈ wsL_law_r18, w ∈ lw_tbl := wq_fm [28, 840, 815, 817, 25, 818, 819, 821, 26, 822, 823, 825, 27, 826, 827, 828, 829, 841, 843, 29, 844, 845, 847, 30] (by decide +kernel)
set_option maxRecDepth 20000 in
theorem wq_wsL_law_r19 : ∀ w ∈ wsL_law_r19, w ∈ lw_tbl := wq_fm [848, 422, 423, 424, 425, 426, 427, 428, 429, 430, 802, 803, 804, 805, 806, 808, 24, 809, 431, 432, 433, 434, 435, 436] (by decide +kernel)
set_option maxRecDepth 20000 in
theorem wq_wsL_law_r20 : ∀ w ∈ wsL_law_r20, w ∈ lw_tbl := wq_fm [437, 438, 439, 440, 810, 811, 812, 813, 814, 441, 442, 443, 444, 445, 446, 447, 448, 849, 850, 851, 852, 853, 854, 856] (by decide +kernel)
set_option maxRecDepth 20000 in
theorem wq_wsL_law_r21 : ∀ w ∈ wsL_law_r21, w ∈ lw_tbl := wq_fm [31, 857, 449, 450, 451, 452, 453, 455, 8, 456, 457, 458, 459, 460, 461, 463, 9, 464, 465, 466, 467, 468, 469, 470] (by decide +kernel)
set_option maxRecDepth 20000 in
theorem wq_wsL_law_r22 : ∀ w ∈ wsL_law_r22, w ∈ lw_tbl := wq_fm [858, 859, 860, 861, 862, 864, 32, 865, 866, 867, 868, 471, 472, 473, 474, 475, 476, 477, 478, 869, 870, 871, 872, 479] (by decide +kernel)
set_option maxRecDepth 20000 in
theorem wq_wsL_law_r23 : ∀ w ∈ wsL_law_r23, w ∈ lw_tbl := wq_fm [480, 481, 482, 483, 484, 485, 486, 487, 488, 489, 490, 491, 873, 874, 875, 876, 492, 493, 494, 495, 496, 877, 878, 879] (by decide +kernel)
set_option maxRecDepth 20000 in
theorem wq_wsL_law_r24 : ∀ w ∈ wsL_law_r24, w ∈ lw_tbl := wq_fm [880, 497, 498, 499, 500, 501, 502, 503, 504, 881, 882, 883, 884, 885, 886, 676, 505, 506, 507, 508, 509, 510, 511, 512] (by decide +kernel)
set_option maxRecDepth 20000 in
theorem wq_wsL_law_r25 : ∀ w ∈ wsL_law_r25, w ∈ lw_tbl := wq_fm [513, 514, 516, 10, 517, 518, 520, 11, 521, 522, 524, 12, 525, 526, 528, 529, 530, 531, 532, 533, 534, 535, 536, 887] (by decide +kernel)
set_option maxRecDepth 20000 in
theorem wq_wsL_law_r26 : ∀ w ∈ wsL_law_r26, w ∈ lw_tbl := wq_fm [888, 889, 890, 686, 891, 893, 33, 894, 895, 897, 34, 898, 903, 904, 899, 901, 35, 902, 537, 538, 539, 540, 541, 543] (by decide +kernel)
set_option maxRecDepth 20000 in
theorem wq_wsL_law_r27 : ∀ w ∈ wsL_law_r27, w ∈ lw_tbl := wq_fm [13, 544, 545, 546, 547, 548, 549, 550, 905, 906, 907, 908, 909, 910, 912, 36, 913, 914, 915, 916, 917, 551, 552, 553] (by decide +kernel)
set_option maxRecDepth 20000 in
theorem wq_wsL_law_r28 : ∀ w ∈ wsL_law_r28, w ∈ lw_tbl := wq_fm [554, 555, 556, 557, 558, 918, 919, 920, 921, 559, 560, 561, 562, 563, 564, 565, 566, 567, 568, 569, 570, 922, 923, 924] (by decide +kernel)
set_option maxRecDepth 20000 in
theorem wq_wsL_law_r29 : ∀ w ∈ wsL_law_r29, w ∈ lw_tbl := wq_fm [925, 571, 572, 573, 574, 575, 576, 577, 578, 926, 927, 928, 929, 579, 580, 581, 582, 930, 931, 932, 933, 583, 584, 585] (by decide +kernel)
set_option maxRecDepth 20000 in
theorem wq_wsL_law_r30 : ∀ w ∈ wsL_law_r30, w ∈ lw_tbl := wq_fm [586, 587, 588, 589, 590, 591, 592, 593, 594, 595, 596, 597, 598, 599, 600, 601, 602, 603, 604, 605, 606, 607, 608, 609] (by decide +kernel)
set_option maxRecDepth 20000 in
theorem wq_wsL_law_r31 : ∀ w ∈ wsL_law_r31, w ∈ lw_tbl := wq_fm [610, 611, 612, 613, 614, 934, 935, 936, 937, 941, 938, 939, 940, 942, 944, 37, 945, 946, 948, 38, 949, 615, 616, 617] (by decide +kernel)
set_option maxRecDepth 20000 in
theorem wq_wsL_law_r32 : ∀ w ∈ wsL_law_r32, w ∈ lw_tbl := wq_fm [618, 619, 620, 621, 622, 623, 625, 14, 626, 950, 951, 952, 953, 954, 955, 956, 627, 628, 629, 630, 631, 632, 633, 634] (by decide +kernel)
set_option maxRecDepth 20000 in
theorem wq_wsL_law_r33 : ∀ w ∈ wsL_law_r33, w ∈ lw_tbl := wq_fm [635, 957, 958, 959, 960, 636, 637, 638, 639, 640, 641, 642, 643, 644, 961, 962, 963, 964, 645, 646, 647, 648, 965, 966] (by decide +kernel)
set_option maxRecDepth 20000 in
theorem wq_wsL_law_r34 : ∀ w ∈ wsL_law_r34, w ∈ lw_tbl := wq_fm [967, 968, 649, 650, 651, 652, 653, 654, 655, 656, 657, 658, 659, 660, 661, 662, 969, 970, 971, 972] (by decide +kernel)
set_option maxRecDepth 20000 in
theorem wq_wsX60 : ∀ w ∈ wsX60, w ∈ lw_tbl := wq_fm [186, 188, 190, 192, 194, 196, 198] (by decide +kernel)
set_option maxRecDepth 20000 in
theorem wq_wsX70 : ∀ w ∈ wsX70, w ∈ lw_tbl := wq_fm [687, 689, 691, 693, 695, 697, 699, 701, 703, 705, 707, 709, 711, 713, 715, 717, 719, 721] (by decide +kernel)
set_option maxRecDepth 20000 in
theorem wq_wsX00 : ∀ w ∈ wsX00, w ∈ lw_tbl := wq_fm [100, 102, 104] (by decide +kernel)
set_option maxRecDepth 20000 in
theorem wq_wsX50 : ∀ w ∈ wsX50, w ∈ lw_tbl := wq_fm [122, 124, 126, 128, 130, 132, 134] (by decide +kernel)
set_option maxRecDepth 20000 in
theorem wq_wsX40 : ∀ w ∈ wsX40, w ∈ lw_tbl := wq_fm [151, 153, 155, 157, 159] (by decide +kernel)
set_option maxRecDepth 20000 in
theorem wq_wsX20 : ∀ w ∈ wsX20, w ∈ lw_tbl := wq_fm [172, 174, 176] (by decide +kernel)
set_option maxRecDepth 20000 in
theorem wq_wsX10 : ∀ w ∈ wsX10, w ∈ lw_tbl := wq_fm [89, 91, 93] (by decide +kernel)
set_option maxRecDepth 20000 in
theorem wq_wsX30 : ∀ w ∈ wsX30, w ∈ lw_tbl := wq_fm [80, 82] (by decide +kernel)
theorem wsL_law_in : ∀ w ∈ wsL_law, w ∈ lw_tbl := by
  unfold wsL_law
  exact List.forall_mem_append.mpr ⟨List.forall_mem_append.mpr ⟨List.forall_mem_append.mpr ⟨List.forall_mem_append.mpr ⟨List.forall_mem_append.mpr ⟨List.forall_mem_append.mpr ⟨List.forall_mem_append.mpr ⟨List.forall_mem_append.mpr ⟨List.forall_mem_append.mpr ⟨List.forall_mem_append.mpr ⟨wq_wsL_law_r1, List.forall_mem_append.mpr ⟨wq_wsL_law_r2, List.forall_mem_append.mpr ⟨wq_wsL_law_r3, List.forall_mem_append.mpr ⟨wq_wsL_law_r4, List.forall_mem_append.mpr ⟨wq_wsL_law_r5, List.forall_mem_append.mpr ⟨wq_wsL_law_r6, List.forall_mem_append.mpr ⟨wq_wsL_law_r7, List.forall_mem_append.mpr ⟨wq_wsL_law_r8, List.forall_mem_append.mpr ⟨wq_wsL_law_r9, List.forall_mem_append.mpr ⟨wq_wsL_law_r10, List.forall_mem_append.mpr ⟨wq_wsL_law_r11, List.forall_mem_append.mpr ⟨wq_wsL_law_r12, List.forall_mem_append.mpr ⟨wq_wsL_law_r13, List.forall_mem_append.mpr ⟨wq_wsL_law_r14, List.forall_mem_append.mpr ⟨wq_wsL_law_r15, List.forall_mem_append.mpr ⟨wq_wsL_law_r16, List.forall_mem_append.mpr ⟨wq_wsL_law_r17, List.forall_mem_append.mpr ⟨wq_wsL_law_r18, List.forall_mem_append.mpr ⟨wq_wsL_law_r19, List.forall_mem_append.mpr ⟨wq_wsL_law_r20, List.forall_mem_append.mpr ⟨wq_wsL_law_r21, List.forall_mem_append.mpr ⟨wq_wsL_law_r22, List.forall_mem_append.mpr ⟨wq_wsL_law_r23, List.forall_mem_append.mpr ⟨wq_wsL_law_r24, List.forall_mem_append.mpr ⟨wq_wsL_law_r25, List.forall_mem_append.mpr ⟨wq_wsL_law_r26, List.forall_mem_append.mpr ⟨wq_wsL_law_r27, List.forall_mem_append.mpr ⟨wq_wsL_law_r28, List.forall_mem_append.mpr ⟨wq_wsL_law_r29, List.forall_mem_append.mpr ⟨wq_wsL_law_r30, List.forall_mem_append.mpr ⟨wq_wsL_law_r31, List.forall_mem_append.mpr ⟨wq_wsL_law_r32, List.forall_mem_append.mpr ⟨wq_wsL_law_r33, wq_wsL_law_r34⟩⟩⟩⟩⟩⟩⟩⟩⟩⟩⟩⟩⟩⟩⟩⟩⟩⟩⟩⟩⟩⟩⟩⟩⟩⟩⟩⟩⟩⟩⟩⟩⟩, wq_wsX60⟩, wq_wsX70⟩, wq_wsX00⟩, wq_wsX50⟩, wq_wsX40⟩, wq_wsX20⟩, wq_wsX10⟩, wq_wsX30⟩, (fun _ h => absurd h List.not_mem_nil)⟩
theorem inlX0 : ∀ w ∈ wsX00, w ∈ wsL_law := fun _ h => List.mem_append_left _ (List.mem_append_left _ (List.mem_append_left _ (List.mem_append_left _ (List.mem_append_left _ (List.mem_append_left _ (List.mem_append_right _ h))))))
theorem inX0 : ∀ w ∈ wsX00, w ∈ lw_tbl := fun w h => wsL_law_in w (inlX0 w h)
theorem inlX1 : ∀ w ∈ wsX10, w ∈ wsL_law := fun _ h => List.mem_append_left _ (List.mem_append_left _ (List.mem_append_right _ h))
theorem inX1 : ∀ w ∈ wsX10, w ∈ lw_tbl := fun w h => wsL_law_in w (inlX1 w h)
theorem inlX2 : ∀ w ∈ wsX20, w ∈ wsL_law := fun _ h => List.mem_append_left _ (List.mem_append_left _ (List.mem_append_left _ (List.mem_append_right _ h)))
theorem inX2 : ∀ w ∈ wsX20, w ∈ lw_tbl := fun w h => wsL_law_in w (inlX2 w h)
theorem inlX3 : ∀ w ∈ wsX30, w ∈ wsL_law := fun _ h => List.mem_append_left _ (List.mem_append_right _ h)
theorem inX3 : ∀ w ∈ wsX30, w ∈ lw_tbl := fun w h => wsL_law_in w (inlX3 w h)
theorem inlX4 : ∀ w ∈ wsX40, w ∈ wsL_law := fun _ h => List.mem_append_left _ (List.mem_append_left _ (List.mem_append_left _ (List.mem_append_left _ (List.mem_append_right _ h))))
theorem inX4 : ∀ w ∈ wsX40, w ∈ lw_tbl := fun w h => wsL_law_in w (inlX4 w h)
theorem inlX5 : ∀ w ∈ wsX50, w ∈ wsL_law := fun _ h => List.mem_append_left _ (List.mem_append_left _ (List.mem_append_left _ (List.mem_append_left _ (List.mem_append_left _ (List.mem_append_right _ h)))))
theorem inX5 : ∀ w ∈ wsX50, w ∈ lw_tbl := fun w h => wsL_law_in w (inlX5 w h)
theorem inlX6 : ∀ w ∈ wsX60, w ∈ wsL_law := fun _ h => List.mem_append_left _ (List.mem_append_left _ (List.mem_append_left _ (List.mem_append_left _ (List.mem_append_left _ (List.mem_append_left _ (List.mem_append_left _ (List.mem_append_left _ (List.mem_append_right _ h))))))))
theorem inX6 : ∀ w ∈ wsX60, w ∈ lw_tbl := fun w h => wsL_law_in w (inlX6 w h)
theorem inlX7 : ∀ w ∈ wsX70, w ∈ wsL_law := fun _ h => List.mem_append_left _ (List.mem_append_left _ (List.mem_append_left _ (List.mem_append_left _ (List.mem_append_left _ (List.mem_append_left _ (List.mem_append_left _ (List.mem_append_right _ h)))))))
theorem inX7 : ∀ w ∈ wsX70, w ∈ lw_tbl := fun w h => wsL_law_in w (inlX7 w h)
theorem inJ6 : ∀ w ∈ wsJ60, w ∈ lw_tbl := by decide +kernel
theorem inJ9 : ∀ w ∈ wsJ90, w ∈ lw_tbl := by decide +kernel
theorem inJ10 : ∀ w ∈ wsJ100, w ∈ lw_tbl := by decide +kernel
theorem inJ7 : ∀ w ∈ wsJ70, w ∈ lw_tbl := by decide +kernel
end
section
set_option maxRecDepth 20000 in
theorem ggX0_init_X1_init : GoodIn wsX0_init wsX1_init := goodIn_r _ [11, 12, 2, 3, 13, 14, 15, 16, 17, 18, 19, 20, 21, 22, 23, 24, 31, 32, 25, 26, 27] (by decide +kernel) (by decide +kernel)
set_option maxRecDepth 20000 in
theorem gX0_init_X1_init_n11 : GoodIn wsX0_init (wsX1_init) := ggX0_init_X1_init
theorem dX0_init_0 : decode cX0_init 0 = .ok (.aload_n 0, 1) := by decide +kernel
theorem dX0_init_1 : decode cX0_init 1 = .ok (.invokespecial 3, 3) := by decide +kernel
theorem dX0_init_4 : decode cX0_init 4 = .ok (.aload_n 0, 1) := by decide +kernel
theorem dX0_init_5 : decode cX0_init 5 = .ok (.new 9, 3) := by decide +kernel
theorem dX0_init_8 : decode cX0_init 8 = .ok (.dup, 1) := by decide +kernel
theorem dX0_init_9 : decode cX0_init 9 = .ok (.invokespecial 11, 3) := by decide +kernel
theorem dX0_init_12 : decode cX0_init 12 = .ok (.putfield 12, 3) := by decide +kernel
theorem dX0_init_15 : decode cX0_init 15 = .ok (.aload_n 0, 1) := by decide +kernel
theorem dX0_init_16 : decode cX0_init 16 = .ok (.bipush 6, 2) := by decide +kernel
theorem dX0_init_18 : decode cX0_init 18 = .ok (.anewarray 9, 3) := by decide +kernel
theorem dX0_init_21 : decode cX0_init 21 = .ok (.putfield 18, 3) := by decide +kernel
theorem dX0_init_24 : decode cX0_init 24 = .ok (.aload_n 0, 1) := by decide +kernel
theorem dX0_init_25 : decode cX0_init 25 = .ok (.iconst 0, 1) := by decide +kernel
theorem dX0_init_26 : decode cX0_init 26 = .ok (.putfield 22, 3) := by decide +kernel
theorem dX0_init_29 : decode cX0_init 29 = .ok (.iconst 0, 1) := by decide +kernel
theorem dX0_init_30 : decode cX0_init 30 = .ok (.istore_n 1, 1) := by decide +kernel
theorem dX0_init_31 : decode cX0_init 31 = .ok (.iload_n 1, 1) := by decide +kernel
theorem dX0_init_32 : decode cX0_init 32 = .ok (.bipush 6, 2) := by decide +kernel
theorem dX0_init_34 : decode cX0_init 34 = .ok (.if_icmp .ge 22, 3) := by decide +kernel
theorem dX0_init_37 : decode cX0_init 37 = .ok (.aload_n 0, 1) := by decide +kernel
theorem dX0_init_38 : decode cX0_init 38 = .ok (.getfield 18, 3) := by decide +kernel
theorem dX0_init_41 : decode cX0_init 41 = .ok (.iload_n 1, 1) := by decide +kernel
theorem dX0_init_42 : decode cX0_init 42 = .ok (.new 9, 3) := by decide +kernel
theorem dX0_init_45 : decode cX0_init 45 = .ok (.dup, 1) := by decide +kernel
theorem dX0_init_46 : decode cX0_init 46 = .ok (.invokespecial 11, 3) := by decide +kernel
theorem dX0_init_49 : decode cX0_init 49 = .ok (.aastore, 1) := by decide +kernel
theorem dX0_init_50 : decode cX0_init 50 = .ok (.iinc 1 1, 3) := by decide +kernel
theorem dX0_init_53 : decode cX0_init 53 = .ok (.goto (-22), 3) := by decide +kernel
theorem dX0_init_56 : decode cX0_init 56 = .ok (.return_, 1) := by decide +kernel
theorem dX0_present_0 : decode cX0_present 0 = .ok (.aload_n 0, 1) := by decide +kernel
theorem dX0_present_1 : decode cX0_present 1 = .ok (.getfield 12, 3) := by decide +kernel
theorem dX0_present_4 : decode cX0_present 4 = .ok (.areturn, 1) := by decide +kernel
theorem dX0_howManyKnown_0 : decode cX0_howManyKnown 0 = .ok (.aload_n 0, 1) := by decide +kernel
theorem dX0_howManyKnown_1 : decode cX0_howManyKnown 1 = .ok (.getfield 22, 3) := by decide +kernel
theorem dX0_howManyKnown_4 : decode cX0_howManyKnown 4 = .ok (.ireturn, 1) := by decide +kernel
set_option maxRecDepth 20000 in
theorem ggX0_remember_X0_loseOldest : GoodIn wsX0_remember wsX0_loseOldest := goodIn_r _ [8, 2, 1, 28, 29, 30] (by decide +kernel) (by decide +kernel)
set_option maxRecDepth 20000 in
theorem gX0_remember_X0_loseOldest : GoodIn wsX0_remember (wsV RX0 26 RX0 yX0_loseOldest wsX0_loseOldest) := goodIn_app (goodIn_of _ (by decide +kernel)) ggX0_remember_X0_loseOldest
set_option maxRecDepth 20000 in
theorem ggX0_remember_X1_takeFrom : GoodIn wsX0_remember wsX1_takeFrom := goodIn_r _ [13, 14, 15, 16, 17, 18, 19, 20, 21, 22, 23, 24, 25, 26, 27, 31, 32, 33, 34, 35] (by decide +kernel) (by decide +kernel)
set_option maxRecDepth 20000 in
theorem gX0_remember_X1_takeFrom : GoodIn wsX0_remember (wsV RX0 29 RX1 yX1_takeFrom wsX1_takeFrom) := goodIn_app (goodIn_of _ (by decide +kernel)) ggX0_remember_X1_takeFrom
theorem dX0_remember_0 : decode cX0_remember 0 = .ok (.aload_n 0, 1) := by decide +kernel
theorem dX0_remember_1 : decode cX0_remember 1 = .ok (.getfield 22, 3) := by decide +kernel
theorem dX0_remember_4 : decode cX0_remember 4 = .ok (.bipush 6, 2) := by decide +kernel
theorem dX0_remember_6 : decode cX0_remember 6 = .ok (.if_icmp .ne 7, 3) := by decide +kernel
theorem dX0_remember_9 : decode cX0_remember 9 = .ok (.aload_n 0, 1) := by decide +kernel
theorem dX0_remember_10 : decode cX0_remember 10 = .ok (.invokevirtual 26, 3) := by decide +kernel
theorem dX0_remember_13 : decode cX0_remember 13 = .ok (.aload_n 0, 1) := by decide +kernel
theorem dX0_remember_14 : decode cX0_remember 14 = .ok (.getfield 18, 3) := by decide +kernel
theorem dX0_remember_17 : decode cX0_remember 17 = .ok (.aload_n 0, 1) := by decide +kernel
theorem dX0_remember_18 : decode cX0_remember 18 = .ok (.getfield 22, 3) := by decide +kernel
theorem dX0_remember_21 : decode cX0_remember 21 = .ok (.aaload, 1) := by decide +kernel
theorem dX0_remember_22 : decode cX0_remember 22 = .ok (.aload_n 0, 1) := by decide +kernel
theorem dX0_remember_23 : decode cX0_remember 23 = .ok (.getfield 12, 3) := by decide +kernel
theorem dX0_remember_26 : decode cX0_remember 26 = .ok (.invokevirtual 29, 3) := by decide +kernel
theorem dX0_remember_29 : decode cX0_remember 29 = .ok (.aload_n 0, 1) := by decide +kernel
theorem dX0_remember_30 : decode cX0_remember 30 = .ok (.dup, 1) := by decide +kernel
theorem dX0_remember_31 : decode cX0_remember 31 = .ok (.getfield 22, 3) := by decide +kernel
theorem dX0_remember_34 : decode cX0_remember 34 = .ok (.iconst 1, 1) := by decide +kernel
theorem dX0_remember_35 : decode cX0_remember 35 = .ok (.iadd, 1) := by decide +kernel
theorem dX0_remember_36 : decode cX0_remember 36 = .ok (.putfield 22, 3) := by decide +kernel
theorem dX0_remember_39 : decode cX0_remember 39 = .ok (.return_, 1) := by decide +kernel
set_option maxRecDepth 20000 in
theorem ggX0_goBack_X1_takeFrom : GoodIn wsX0_goBack wsX1_takeFrom := goodIn_r _ [8, 9, 10, 11, 12, 13, 14, 15, 16, 17, 18, 19, 20, 21, 22, 26, 27, 28, 29, 30] (by decide +kernel) (by decide +kernel)
set_option maxRecDepth 20000 in
theorem gX0_goBack_X1_takeFrom : GoodIn wsX0_goBack (wsV RX0 29 RX1 yX1_takeFrom wsX1_takeFrom) := goodIn_app (goodIn_of _ (by decide +kernel)) ggX0_goBack_X1_takeFrom
theorem dX0_goBack_0 : decode cX0_goBack 0 = .ok (.aload_n 0, 1) := by decide +kernel
theorem dX0_goBack_1 : decode cX0_goBack 1 = .ok (.getfield 22, 3) := by decide +kernel
theorem dX0_goBack_4 : decode cX0_goBack 4 = .ok (.ifCond .le 29, 3) := by decide +kernel
theorem dX0_goBack_7 : decode cX0_goBack 7 = .ok (.aload_n 0, 1) := by decide +kernel
theorem dX0_goBack_8 : decode cX0_goBack 8 = .ok (.dup, 1) := by decide +kernel
theorem dX0_goBack_9 : decode cX0_goBack 9 = .ok (.getfield 22, 3) := by decide +kernel
theorem dX0_goBack_12 : decode cX0_goBack 12 = .ok (.iconst 1, 1) := by decide +kernel
theorem dX0_goBack_13 : decode cX0_goBack 13 = .ok (.isub, 1) := by decide +kernel
theorem dX0_goBack_14 : decode cX0_goBack 14 = .ok (.putfield 22, 3) := by decide +kernel
theorem dX0_goBack_17 : decode cX0_goBack 17 = .ok (.aload_n 0, 1) := by decide +kernel
theorem dX0_goBack_18 : decode cX0_goBack 18 = .ok (.getfield 12, 3) := by decide +kernel
theorem dX0_goBack_21 : decode cX0_goBack 21 = .ok (.aload_n 0, 1) := by decide +kernel
theorem dX0_goBack_22 : decode cX0_goBack 22 = .ok (.getfield 18, 3) := by decide +kernel
theorem dX0_goBack_25 : decode cX0_goBack 25 = .ok (.aload_n 0, 1) := by decide +kernel
theorem dX0_goBack_26 : decode cX0_goBack 26 = .ok (.getfield 22, 3) := by decide +kernel
theorem dX0_goBack_29 : decode cX0_goBack 29 = .ok (.aaload, 1) := by decide +kernel
theorem dX0_goBack_30 : decode cX0_goBack 30 = .ok (.invokevirtual 29, 3) := by decide +kernel
theorem dX0_goBack_33 : decode cX0_goBack 33 = .ok (.return_, 1) := by decide +kernel
set_option maxRecDepth 20000 in
theorem ggX0_takeAllFrom_X1_takeFrom : GoodIn wsX0_takeAllFrom wsX1_takeFrom := goodIn_r _ [8, 9, 10, 11, 12, 13, 14, 15, 16, 17, 18, 19, 20, 21, 22, 26, 27, 28, 29, 30] (by decide +kernel) (by decide +kernel)
set_option maxRecDepth 20000 in
theorem gX0_takeAllFrom_X1_takeFrom : GoodIn wsX0_takeAllFrom (wsV RX0 29 RX1 yX1_takeFrom wsX1_takeFrom) := goodIn_app (goodIn_of _ (by decide +kernel)) ggX0_takeAllFrom_X1_takeFrom
theorem dX0_takeAllFrom_0 : decode cX0_takeAllFrom 0 = .ok (.aload_n 0, 1) := by decide +kernel
theorem dX0_takeAllFrom_1 : decode cX0_takeAllFrom 1 = .ok (.getfield 12, 3) := by decide +kernel
theorem dX0_takeAllFrom_4 : decode cX0_takeAllFrom 4 = .ok (.aload_n 1, 1) := by decide +kernel
theorem dX0_takeAllFrom_5 : decode cX0_takeAllFrom 5 = .ok (.getfield 12, 3) := by decide +kernel
theorem dX0_takeAllFrom_8 : decode cX0_takeAllFrom 8 = .ok (.invokevirtual 29, 3) := by decide +kernel
theorem dX0_takeAllFrom_11 : decode cX0_takeAllFrom 11 = .ok (.iconst 0, 1) := by decide +kernel
theorem dX0_takeAllFrom_12 : decode cX0_takeAllFrom 12 = .ok (.istore_n 2, 1) := by decide +kernel
theorem dX0_takeAllFrom_13 : decode cX0_takeAllFrom 13 = .ok (.iload_n 2, 1) := by decide +kernel
theorem dX0_takeAllFrom_14 : decode cX0_takeAllFrom 14 = .ok (.bipush 6, 2) := by decide +kernel
theorem dX0_takeAllFrom_16 : decode cX0_takeAllFrom 16 = .ok (.if_icmp .ge 24, 3) := by decide +kernel
theorem dX0_takeAllFrom_19 : decode cX0_takeAllFrom 19 = .ok (.aload_n 0, 1) := by decide +kernel
theorem dX0_takeAllFrom_20 : decode cX0_takeAllFrom 20 = .ok (.getfield 18, 3) := by decide +kernel
theorem dX0_takeAllFrom_23 : decode cX0_takeAllFrom 23 = .ok (.iload_n 2, 1) := by decide +kernel
theorem dX0_takeAllFrom_24 : decode cX0_takeAllFrom 24 = .ok (.aaload, 1) := by decide +kernel
theorem dX0_takeAllFrom_25 : decode cX0_takeAllFrom 25 = .ok (.aload_n 1, 1) := by decide +kernel
theorem dX0_takeAllFrom_26 : decode cX0_takeAllFrom 26 = .ok (.getfield 18, 3) := by decide +kernel
theorem dX0_takeAllFrom_29 : decode cX0_takeAllFrom 29 = .ok (.iload_n 2, 1) := by decide +kernel
theorem dX0_takeAllFrom_30 : decode cX0_takeAllFrom 30 = .ok (.aaload, 1) := by decide +kernel
theorem dX0_takeAllFrom_31 : decode cX0_takeAllFrom 31 = .ok (.invokevirtual 29, 3) := by decide +kernel
theorem dX0_takeAllFrom_34 : decode cX0_takeAllFrom 34 = .ok (.iinc 2 1, 3) := by decide +kernel
theorem dX0_takeAllFrom_37 : decode cX0_takeAllFrom 37 = .ok (.goto (-24), 3) := by decide +kernel
theorem dX0_takeAllFrom_40 : decode cX0_takeAllFrom 40 = .ok (.aload_n 0, 1) := by decide +kernel
theorem dX0_takeAllFrom_41 : decode cX0_takeAllFrom 41 = .ok (.aload_n 1, 1) := by decide +kernel
theorem dX0_takeAllFrom_42 : decode cX0_takeAllFrom 42 = .ok (.getfield 22, 3) := by decide +kernel
theorem dX0_takeAllFrom_45 : decode cX0_takeAllFrom 45 = .ok (.putfield 22, 3) := by decide +kernel
theorem dX0_takeAllFrom_48 : decode cX0_takeAllFrom 48 = .ok (.return_, 1) := by decide +kernel
theorem dX0_loseOldest_0 : decode cX0_loseOldest 0 = .ok (.aload_n 0, 1) := by decide +kernel
theorem dX0_loseOldest_1 : decode cX0_loseOldest 1 = .ok (.getfield 18, 3) := by decide +kernel
theorem dX0_loseOldest_4 : decode cX0_loseOldest 4 = .ok (.iconst 0, 1) := by decide +kernel
theorem dX0_loseOldest_5 : decode cX0_loseOldest 5 = .ok (.aaload, 1) := by decide +kernel
theorem dX0_loseOldest_6 : decode cX0_loseOldest 6 = .ok (.astore_n 1, 1) := by decide +kernel
theorem dX0_loseOldest_7 : decode cX0_loseOldest 7 = .ok (.iconst 1, 1) := by decide +kernel
theorem dX0_loseOldest_8 : decode cX0_loseOldest 8 = .ok (.istore_n 2, 1) := by decide +kernel
theorem dX0_loseOldest_9 : decode cX0_loseOldest 9 = .ok (.iload_n 2, 1) := by decide +kernel
theorem dX0_loseOldest_10 : decode cX0_loseOldest 10 = .ok (.bipush 6, 2) := by decide +kernel
theorem dX0_loseOldest_12 : decode cX0_loseOldest 12 = .ok (.if_icmp .ge 23, 3) := by decide +kernel
theorem dX0_loseOldest_15 : decode cX0_loseOldest 15 = .ok (.aload_n 0, 1) := by decide +kernel
theorem dX0_loseOldest_16 : decode cX0_loseOldest 16 = .ok (.getfield 18, 3) := by decide +kernel
theorem dX0_loseOldest_19 : decode cX0_loseOldest 19 = .ok (.iload_n 2, 1) := by decide +kernel
theorem dX0_loseOldest_20 : decode cX0_loseOldest 20 = .ok (.iconst 1, 1) := by decide +kernel
theorem dX0_loseOldest_21 : decode cX0_loseOldest 21 = .ok (.isub, 1) := by decide +kernel
theorem dX0_loseOldest_22 : decode cX0_loseOldest 22 = .ok (.aload_n 0, 1) := by decide +kernel
theorem dX0_loseOldest_23 : decode cX0_loseOldest 23 = .ok (.getfield 18, 3) := by decide +kernel
theorem dX0_loseOldest_26 : decode cX0_loseOldest 26 = .ok (.iload_n 2, 1) := by decide +kernel
theorem dX0_loseOldest_27 : decode cX0_loseOldest 27 = .ok (.aaload, 1) := by decide +kernel
theorem dX0_loseOldest_28 : decode cX0_loseOldest 28 = .ok (.aastore, 1) := by decide +kernel
theorem dX0_loseOldest_29 : decode cX0_loseOldest 29 = .ok (.iinc 2 1, 3) := by decide +kernel
theorem dX0_loseOldest_32 : decode cX0_loseOldest 32 = .ok (.goto (-23), 3) := by decide +kernel
theorem dX0_loseOldest_35 : decode cX0_loseOldest 35 = .ok (.aload_n 0, 1) := by decide +kernel
theorem dX0_loseOldest_36 : decode cX0_loseOldest 36 = .ok (.getfield 18, 3) := by decide +kernel
theorem dX0_loseOldest_39 : decode cX0_loseOldest 39 = .ok (.iconst 5, 1) := by decide +kernel
theorem dX0_loseOldest_40 : decode cX0_loseOldest 40 = .ok (.aload_n 1, 1) := by decide +kernel
theorem dX0_loseOldest_41 : decode cX0_loseOldest 41 = .ok (.aastore, 1) := by decide +kernel
theorem dX0_loseOldest_42 : decode cX0_loseOldest 42 = .ok (.aload_n 0, 1) := by decide +kernel
theorem dX0_loseOldest_43 : decode cX0_loseOldest 43 = .ok (.iconst 5, 1) := by decide +kernel
theorem dX0_loseOldest_44 : decode cX0_loseOldest 44 = .ok (.putfield 22, 3) := by decide +kernel
theorem dX0_loseOldest_47 : decode cX0_loseOldest 47 = .ok (.return_, 1) := by decide +kernel
set_option maxRecDepth 20000 in
theorem ggX1_init_X3_init : GoodIn wsX1_init wsX3_init := goodIn_r _ [11, 12, 2, 3, 13, 14, 15, 16, 17] (by decide +kernel) (by decide +kernel)
set_option maxRecDepth 20000 in
theorem gX1_init_X3_init_n9 : GoodIn wsX1_init (wsX3_init) := ggX1_init_X3_init
theorem dX1_init_0 : decode cX1_init 0 = .ok (.aload_n 0, 1) := by decide +kernel
theorem dX1_init_1 : decode cX1_init 1 = .ok (.invokespecial 1, 3) := by decide +kernel
theorem dX1_init_4 : decode cX1_init 4 = .ok (.aload_n 0, 1) := by decide +kernel
theorem dX1_init_5 : decode cX1_init 5 = .ok (.new 7, 3) := by decide +kernel
theorem dX1_init_8 : decode cX1_init 8 = .ok (.dup, 1) := by decide +kernel
theorem dX1_init_9 : decode cX1_init 9 = .ok (.invokespecial 9, 3) := by decide +kernel
theorem dX1_init_12 : decode cX1_init 12 = .ok (.putfield 10, 3) := by decide +kernel
theorem dX1_init_15 : decode cX1_init 15 = .ok (.aload_n 0, 1) := by decide +kernel
theorem dX1_init_16 : decode cX1_init 16 = .ok (.new 7, 3) := by decide +kernel
theorem dX1_init_19 : decode cX1_init 19 = .ok (.dup, 1) := by decide +kernel
theorem dX1_init_20 : decode cX1_init 20 = .ok (.invokespecial 9, 3) := by decide +kernel
theorem dX1_init_23 : decode cX1_init 23 = .ok (.putfield 16, 3) := by decide +kernel
theorem dX1_init_26 : decode cX1_init 26 = .ok (.aload_n 0, 1) := by decide +kernel
theorem dX1_init_27 : decode cX1_init 27 = .ok (.iconst 1, 1) := by decide +kernel
theorem dX1_init_28 : decode cX1_init 28 = .ok (.putfield 19, 3) := by decide +kernel
theorem dX1_init_31 : decode cX1_init 31 = .ok (.return_, 1) := by decide +kernel
theorem dX1_tableNow_0 : decode cX1_tableNow 0 = .ok (.aload_n 0, 1) := by decide +kernel
theorem dX1_tableNow_1 : decode cX1_tableNow 1 = .ok (.getfield 10, 3) := by decide +kernel
theorem dX1_tableNow_4 : decode cX1_tableNow 4 = .ok (.areturn, 1) := by decide +kernel
theorem dX1_installedNow_0 : decode cX1_installedNow 0 = .ok (.aload_n 0, 1) := by decide +kernel
theorem dX1_installedNow_1 : decode cX1_installedNow 1 = .ok (.getfield 16, 3) := by decide +kernel
theorem dX1_installedNow_4 : decode cX1_installedNow 4 = .ok (.areturn, 1) := by decide +kernel
theorem dX1_drawNow_0 : decode cX1_drawNow 0 = .ok (.aload_n 0, 1) := by decide +kernel
theorem dX1_drawNow_1 : decode cX1_drawNow 1 = .ok (.getfield 19, 3) := by decide +kernel
theorem dX1_drawNow_4 : decode cX1_drawNow 4 = .ok (.ireturn, 1) := by decide +kernel
theorem dX1_setDraw_0 : decode cX1_setDraw 0 = .ok (.aload_n 0, 1) := by decide +kernel
theorem dX1_setDraw_1 : decode cX1_setDraw 1 = .ok (.iload_n 1, 1) := by decide +kernel
theorem dX1_setDraw_2 : decode cX1_setDraw 2 = .ok (.putfield 19, 3) := by decide +kernel
theorem dX1_setDraw_5 : decode cX1_setDraw 5 = .ok (.return_, 1) := by decide +kernel
theorem dX1_nextDraw_0 : decode cX1_nextDraw 0 = .ok (.aload_n 0, 1) := by decide +kernel
theorem dX1_nextDraw_1 : decode cX1_nextDraw 1 = .ok (.aload_n 0, 1) := by decide +kernel
theorem dX1_nextDraw_2 : decode cX1_nextDraw 2 = .ok (.getfield 19, 3) := by decide +kernel
theorem dX1_nextDraw_5 : decode cX1_nextDraw 5 = .ok (.ldc 23, 2) := by decide +kernel
theorem dX1_nextDraw_7 : decode cX1_nextDraw 7 = .ok (.imul, 1) := by decide +kernel
theorem dX1_nextDraw_8 : decode cX1_nextDraw 8 = .ok (.sipush 12345, 3) := by decide +kernel
theorem dX1_nextDraw_11 : decode cX1_nextDraw 11 = .ok (.iadd, 1) := by decide +kernel
theorem dX1_nextDraw_12 : decode cX1_nextDraw 12 = .ok (.ldc 24, 2) := by decide +kernel
theorem dX1_nextDraw_14 : decode cX1_nextDraw 14 = .ok (.iand, 1) := by decide +kernel
theorem dX1_nextDraw_15 : decode cX1_nextDraw 15 = .ok (.putfield 19, 3) := by decide +kernel
theorem dX1_nextDraw_18 : decode cX1_nextDraw 18 = .ok (.aload_n 0, 1) := by decide +kernel
theorem dX1_nextDraw_19 : decode cX1_nextDraw 19 = .ok (.getfield 19, 3) := by decide +kernel
theorem dX1_nextDraw_22 : decode cX1_nextDraw 22 = .ok (.ireturn, 1) := by decide +kernel
set_option maxRecDepth 20000 in
theorem ggX1_takeFrom_X3_takeFrom : GoodIn wsX1_takeFrom wsX3_takeFrom := goodIn_r _ [8, 9, 10, 11, 12, 13, 14, 18, 19] (by decide +kernel) (by decide +kernel)
set_option maxRecDepth 20000 in
theorem gX1_takeFrom_X3_takeFrom : GoodIn wsX1_takeFrom (wsV RX1 25 RX3 yX3_takeFrom wsX3_takeFrom) := goodIn_app (goodIn_of _ (by decide +kernel)) ggX1_takeFrom_X3_takeFrom
theorem dX1_takeFrom_0 : decode cX1_takeFrom 0 = .ok (.aload_n 0, 1) := by decide +kernel
theorem dX1_takeFrom_1 : decode cX1_takeFrom 1 = .ok (.getfield 10, 3) := by decide +kernel
theorem dX1_takeFrom_4 : decode cX1_takeFrom 4 = .ok (.aload_n 1, 1) := by decide +kernel
theorem dX1_takeFrom_5 : decode cX1_takeFrom 5 = .ok (.getfield 10, 3) := by decide +kernel
theorem dX1_takeFrom_8 : decode cX1_takeFrom 8 = .ok (.invokevirtual 25, 3) := by decide +kernel
theorem dX1_takeFrom_11 : decode cX1_takeFrom 11 = .ok (.aload_n 0, 1) := by decide +kernel
theorem dX1_takeFrom_12 : decode cX1_takeFrom 12 = .ok (.getfield 16, 3) := by decide +kernel
theorem dX1_takeFrom_15 : decode cX1_takeFrom 15 = .ok (.aload_n 1, 1) := by decide +kernel
theorem dX1_takeFrom_16 : decode cX1_takeFrom 16 = .ok (.getfield 16, 3) := by decide +kernel
theorem dX1_takeFrom_19 : decode cX1_takeFrom 19 = .ok (.invokevirtual 25, 3) := by decide +kernel
theorem dX1_takeFrom_22 : decode cX1_takeFrom 22 = .ok (.aload_n 0, 1) := by decide +kernel
theorem dX1_takeFrom_23 : decode cX1_takeFrom 23 = .ok (.aload_n 1, 1) := by decide +kernel
theorem dX1_takeFrom_24 : decode cX1_takeFrom 24 = .ok (.getfield 19, 3) := by decide +kernel
theorem dX1_takeFrom_27 : decode cX1_takeFrom 27 = .ok (.putfield 19, 3) := by decide +kernel
theorem dX1_takeFrom_30 : decode cX1_takeFrom 30 = .ok (.return_, 1) := by decide +kernel
theorem dX2_init_0 : decode cX2_init 0 = .ok (.aload_n 0, 1) := by decide +kernel
theorem dX2_init_1 : decode cX2_init 1 = .ok (.invokespecial 3, 3) := by decide +kernel
theorem dX2_init_4 : decode cX2_init 4 = .ok (.aload_n 0, 1) := by decide +kernel
theorem dX2_init_5 : decode cX2_init 5 = .ok (.bipush 30, 2) := by decide +kernel
theorem dX2_init_7 : decode cX2_init 7 = .ok (.newarray .long, 2) := by decide +kernel
theorem dX2_init_9 : decode cX2_init 9 = .ok (.putfield 9, 3) := by decide +kernel
theorem dX2_init_12 : decode cX2_init 12 = .ok (.aload_n 0, 1) := by decide +kernel
theorem dX2_init_13 : decode cX2_init 13 = .ok (.iconst (-1), 1) := by decide +kernel
theorem dX2_init_14 : decode cX2_init 14 = .ok (.putfield 15, 3) := by decide +kernel
theorem dX2_init_17 : decode cX2_init 17 = .ok (.aload_n 0, 1) := by decide +kernel
theorem dX2_init_18 : decode cX2_init 18 = .ok (.iconst 0, 1) := by decide +kernel
theorem dX2_init_19 : decode cX2_init 19 = .ok (.putfield 19, 3) := by decide +kernel
theorem dX2_init_22 : decode cX2_init 22 = .ok (.return_, 1) := by decide +kernel
theorem dX2_holdsNothing_0 : decode cX2_holdsNothing 0 = .ok (.aload_n 0, 1) := by decide +kernel
theorem dX2_holdsNothing_1 : decode cX2_holdsNothing 1 = .ok (.getfield 15, 3) := by decide +kernel
theorem dX2_holdsNothing_4 : decode cX2_holdsNothing 4 = .ok (.iconst (-1), 1) := by decide +kernel
theorem dX2_holdsNothing_5 : decode cX2_holdsNothing 5 = .ok (.if_icmp .ne 7, 3) := by decide +kernel
theorem dX2_holdsNothing_8 : decode cX2_holdsNothing 8 = .ok (.iconst 1, 1) := by decide +kernel
theorem dX2_holdsNothing_9 : decode cX2_holdsNothing 9 = .ok (.goto 4, 3) := by decide +kernel
theorem dX2_holdsNothing_12 : decode cX2_holdsNothing 12 = .ok (.iconst 0, 1) := by decide +kernel
theorem dX2_holdsNothing_13 : decode cX2_holdsNothing 13 = .ok (.ireturn, 1) := by decide +kernel
theorem dX2_hasLaneOf_0 : decode cX2_hasLaneOf 0 = .ok (.aload_n 0, 1) := by decide +kernel
theorem dX2_hasLaneOf_1 : decode cX2_hasLaneOf 1 = .ok (.getfield 15, 3) := by decide +kernel
theorem dX2_hasLaneOf_4 : decode cX2_hasLaneOf 4 = .ok (.aload_n 1, 1) := by decide +kernel
theorem dX2_hasLaneOf_5 : decode cX2_hasLaneOf 5 = .ok (.getfield 15, 3) := by decide +kernel
theorem dX2_hasLaneOf_8 : decode cX2_hasLaneOf 8 = .ok (.if_icmp .ne 7, 3) := by decide +kernel
theorem dX2_hasLaneOf_11 : decode cX2_hasLaneOf 11 = .ok (.iconst 1, 1) := by decide +kernel
theorem dX2_hasLaneOf_12 : decode cX2_hasLaneOf 12 = .ok (.goto 4, 3) := by decide +kernel
theorem dX2_hasLaneOf_15 : decode cX2_hasLaneOf 15 = .ok (.iconst 0, 1) := by decide +kernel
theorem dX2_hasLaneOf_16 : decode cX2_hasLaneOf 16 = .ok (.ireturn, 1) := by decide +kernel
theorem dX2_hasItems_0 : decode cX2_hasItems 0 = .ok (.iload_n 2, 1) := by decide +kernel
theorem dX2_hasItems_1 : decode cX2_hasItems 1 = .ok (.ifCond .lt 21, 3) := by decide +kernel
theorem dX2_hasItems_4 : decode cX2_hasItems 4 = .ok (.iload_n 1, 1) := by decide +kernel
theorem dX2_hasItems_5 : decode cX2_hasItems 5 = .ok (.ifCond .lt 17, 3) := by decide +kernel
theorem dX2_hasItems_8 : decode cX2_hasItems 8 = .ok (.iload_n 1, 1) := by decide +kernel
theorem dX2_hasItems_9 : decode cX2_hasItems 9 = .ok (.aload_n 0, 1) := by decide +kernel
theorem dX2_hasItems_10 : decode cX2_hasItems 10 = .ok (.getfield 19, 3) := by decide +kernel
theorem dX2_hasItems_13 : decode cX2_hasItems 13 = .ok (.iload_n 2, 1) := by decide +kernel
theorem dX2_hasItems_14 : decode cX2_hasItems 14 = .ok (.isub, 1) := by decide +kernel
theorem dX2_hasItems_15 : decode cX2_hasItems 15 = .ok (.if_icmp .gt 7, 3) := by decide +kernel
theorem dX2_hasItems_18 : decode cX2_hasItems 18 = .ok (.iconst 1, 1) := by decide +kernel
theorem dX2_hasItems_19 : decode cX2_hasItems 19 = .ok (.goto 4, 3) := by decide +kernel
theorem dX2_hasItems_22 : decode cX2_hasItems 22 = .ok (.iconst 0, 1) := by decide +kernel
theorem dX2_hasItems_23 : decode cX2_hasItems 23 = .ok (.ireturn, 1) := by decide +kernel
set_option maxRecDepth 20000 in
theorem ggX2_refusal_X2_holdsNothing : GoodIn wsX2_refusal wsX2_holdsNothing := goodIn_r _ [6, 1, 12, 13, 14] (by decide +kernel) (by decide +kernel)
set_option maxRecDepth 20000 in
theorem gX2_refusal_X2_holdsNothing : GoodIn wsX2_refusal (wsV RX2 22 RX2 yX2_holdsNothing wsX2_holdsNothing) := goodIn_app (goodIn_of _ (by decide +kernel)) ggX2_refusal_X2_holdsNothing
set_option maxRecDepth 20000 in
theorem ggX2_refusal_X2_hasItems : GoodIn wsX2_refusal wsX2_hasItems := goodIn_r _ [10, 11, 12, 13, 14] (by decide +kernel) (by decide +kernel)
set_option maxRecDepth 20000 in
theorem gX2_refusal_X2_hasItems : GoodIn wsX2_refusal (wsV RX2 26 RX2 yX2_hasItems wsX2_hasItems) := goodIn_app (goodIn_of _ (by decide +kernel)) ggX2_refusal_X2_hasItems
theorem dX2_refusal_0 : decode cX2_refusal 0 = .ok (.aload_n 0, 1) := by decide +kernel
theorem dX2_refusal_1 : decode cX2_refusal 1 = .ok (.invokevirtual 22, 3) := by decide +kernel
theorem dX2_refusal_4 : decode cX2_refusal 4 = .ok (.ifCond .eq 6, 3) := by decide +kernel
theorem dX2_refusal_7 : decode cX2_refusal 7 = .ok (.bipush (-11), 2) := by decide +kernel
theorem dX2_refusal_9 : decode cX2_refusal 9 = .ok (.ireturn, 1) := by decide +kernel
theorem dX2_refusal_10 : decode cX2_refusal 10 = .ok (.aload_n 0, 1) := by decide +kernel
theorem dX2_refusal_11 : decode cX2_refusal 11 = .ok (.getfield 15, 3) := by decide +kernel
theorem dX2_refusal_14 : decode cX2_refusal 14 = .ok (.iload_n 1, 1) := by decide +kernel
theorem dX2_refusal_15 : decode cX2_refusal 15 = .ok (.if_icmp .eq 6, 3) := by decide +kernel
theorem dX2_refusal_18 : decode cX2_refusal 18 = .ok (.bipush (-12), 2) := by decide +kernel
theorem dX2_refusal_20 : decode cX2_refusal 20 = .ok (.ireturn, 1) := by decide +kernel
theorem dX2_refusal_21 : decode cX2_refusal 21 = .ok (.aload_n 0, 1) := by decide +kernel
theorem dX2_refusal_22 : decode cX2_refusal 22 = .ok (.iload_n 2, 1) := by decide +kernel
theorem dX2_refusal_23 : decode cX2_refusal 23 = .ok (.iload_n 3, 1) := by decide +kernel
theorem dX2_refusal_24 : decode cX2_refusal 24 = .ok (.invokevirtual 26, 3) := by decide +kernel
theorem dX2_refusal_27 : decode cX2_refusal 27 = .ok (.ifCond .eq 7, 3) := by decide +kernel
theorem dX2_refusal_30 : decode cX2_refusal 30 = .ok (.iconst 0, 1) := by decide +kernel
theorem dX2_refusal_31 : decode cX2_refusal 31 = .ok (.goto 5, 3) := by decide +kernel
theorem dX2_refusal_34 : decode cX2_refusal 34 = .ok (.bipush (-13), 2) := by decide +kernel
theorem dX2_refusal_36 : decode cX2_refusal 36 = .ok (.ireturn, 1) := by decide +kernel
set_option maxRecDepth 20000 in
theorem ggX2_startRow_J7_fill_d0a16 : GoodIn wsX2_startRow wsJ7_fill_d0a16 := goodIn_r _ [7] (by decide +kernel) (by decide +kernel)
set_option maxRecDepth 20000 in
theorem gX2_startRow_J7_fill_d0a16 : GoodIn wsX2_startRow (va_wsS RX2 30 yJ7_fill_d0a16 wsJ7_fill_d0a16) := goodIn_app (goodIn_of _ (by decide +kernel)) ggX2_startRow_J7_fill_d0a16
theorem dX2_startRow_0 : decode cX2_startRow 0 = .ok (.aload_n 0, 1) := by decide +kernel
theorem dX2_startRow_1 : decode cX2_startRow 1 = .ok (.getfield 9, 3) := by decide +kernel
theorem dX2_startRow_4 : decode cX2_startRow 4 = .ok (.lconst 0, 1) := by decide +kernel
theorem dX2_startRow_5 : decode cX2_startRow 5 = .ok (.invokestatic 30, 3) := by decide +kernel
theorem dX2_startRow_8 : decode cX2_startRow 8 = .ok (.aload_n 0, 1) := by decide +kernel
theorem dX2_startRow_9 : decode cX2_startRow 9 = .ok (.iload_n 1, 1) := by decide +kernel
theorem dX2_startRow_10 : decode cX2_startRow 10 = .ok (.putfield 15, 3) := by decide +kernel
theorem dX2_startRow_13 : decode cX2_startRow 13 = .ok (.aload_n 0, 1) := by decide +kernel
theorem dX2_startRow_14 : decode cX2_startRow 14 = .ok (.iload_n 2, 1) := by decide +kernel
theorem dX2_startRow_15 : decode cX2_startRow 15 = .ok (.putfield 19, 3) := by decide +kernel
theorem dX2_startRow_18 : decode cX2_startRow 18 = .ok (.return_, 1) := by decide +kernel
theorem dX2_makeNothing_0 : decode cX2_makeNothing 0 = .ok (.aload_n 0, 1) := by decide +kernel
theorem dX2_makeNothing_1 : decode cX2_makeNothing 1 = .ok (.getfield 19, 3) := by decide +kernel
theorem dX2_makeNothing_4 : decode cX2_makeNothing 4 = .ok (.istore_n 1, 1) := by decide +kernel
theorem dX2_makeNothing_5 : decode cX2_makeNothing 5 = .ok (.aload_n 0, 1) := by decide +kernel
theorem dX2_makeNothing_6 : decode cX2_makeNothing 6 = .ok (.iconst (-1), 1) := by decide +kernel
theorem dX2_makeNothing_7 : decode cX2_makeNothing 7 = .ok (.putfield 15, 3) := by decide +kernel
theorem dX2_makeNothing_10 : decode cX2_makeNothing 10 = .ok (.aload_n 0, 1) := by decide +kernel
theorem dX2_makeNothing_11 : decode cX2_makeNothing 11 = .ok (.iconst 0, 1) := by decide +kernel
theorem dX2_makeNothing_12 : decode cX2_makeNothing 12 = .ok (.putfield 19, 3) := by decide +kernel
theorem dX2_makeNothing_15 : decode cX2_makeNothing 15 = .ok (.iload_n 1, 1) := by decide +kernel
theorem dX2_makeNothing_16 : decode cX2_makeNothing 16 = .ok (.ireturn, 1) := by decide +kernel
set_option maxRecDepth 20000 in
theorem ggX2_setItem_X2_hasItems : GoodIn wsX2_setItem wsX2_hasItems := goodIn_r _ [6, 7, 13, 14, 15] (by decide +kernel) (by decide +kernel)
set_option maxRecDepth 20000 in
theorem gX2_setItem_X2_hasItems : GoodIn wsX2_setItem (wsV RX2 26 RX2 yX2_hasItems wsX2_hasItems) := goodIn_app (goodIn_of _ (by decide +kernel)) ggX2_setItem_X2_hasItems
set_option maxRecDepth 20000 in
theorem ggX2_setItem_X2_lowestBits : GoodIn wsX2_setItem wsX2_lowestBits := goodIn_r _ [11, 12, 13, 14, 15] (by decide +kernel) (by decide +kernel)
set_option maxRecDepth 20000 in
theorem gX2_setItem_X2_lowestBits : GoodIn wsX2_setItem (wsV RX2 36 RX2 yX2_lowestBits wsX2_lowestBits) := goodIn_app (goodIn_of _ (by decide +kernel)) ggX2_setItem_X2_lowestBits
theorem dX2_setItem_0 : decode cX2_setItem 0 = .ok (.aload_n 0, 1) := by decide +kernel
theorem dX2_setItem_1 : decode cX2_setItem 1 = .ok (.iload_n 1, 1) := by decide +kernel
theorem dX2_setItem_2 : decode cX2_setItem 2 = .ok (.iconst 1, 1) := by decide +kernel
theorem dX2_setItem_3 : decode cX2_setItem 3 = .ok (.invokevirtual 26, 3) := by decide +kernel
theorem dX2_setItem_6 : decode cX2_setItem 6 = .ok (.ifCond .eq 14, 3) := by decide +kernel
theorem dX2_setItem_9 : decode cX2_setItem 9 = .ok (.aload_n 0, 1) := by decide +kernel
theorem dX2_setItem_10 : decode cX2_setItem 10 = .ok (.getfield 9, 3) := by decide +kernel
theorem dX2_setItem_13 : decode cX2_setItem 13 = .ok (.iload_n 1, 1) := by decide +kernel
theorem dX2_setItem_14 : decode cX2_setItem 14 = .ok (.aload_n 0, 1) := by decide +kernel
theorem dX2_setItem_15 : decode cX2_setItem 15 = .ok (.lload_n 2, 1) := by decide +kernel
theorem dX2_setItem_16 : decode cX2_setItem 16 = .ok (.invokevirtual 36, 3) := by decide +kernel
theorem dX2_setItem_19 : decode cX2_setItem 19 = .ok (.lastore, 1) := by decide +kernel
theorem dX2_setItem_20 : decode cX2_setItem 20 = .ok (.return_, 1) := by decide +kernel
set_option maxRecDepth 20000 in
theorem ggX2_takeItems_X2_hasItems : GoodIn wsX2_takeItems wsX2_hasItems := goodIn_r _ [10, 11, 12, 13, 14] (by decide +kernel) (by decide +kernel)
set_option maxRecDepth 20000 in
theorem gX2_takeItems_X2_hasItems : GoodIn wsX2_takeItems (wsV RX2 26 RX2 yX2_hasItems wsX2_hasItems) := goodIn_app (goodIn_of _ (by decide +kernel)) ggX2_takeItems_X2_hasItems
theorem dX2_takeItems_0 : decode cX2_takeItems 0 = .ok (.aload_n 2, 1) := by decide +kernel
theorem dX2_takeItems_1 : decode cX2_takeItems 1 = .ok (.iload_n 3, 1) := by decide +kernel
theorem dX2_takeItems_2 : decode cX2_takeItems 2 = .ok (.iload 4, 2) := by decide +kernel
theorem dX2_takeItems_4 : decode cX2_takeItems 4 = .ok (.invokevirtual 26, 3) := by decide +kernel
theorem dX2_takeItems_7 : decode cX2_takeItems 7 = .ok (.ifCond .eq 28, 3) := by decide +kernel
theorem dX2_takeItems_10 : decode cX2_takeItems 10 = .ok (.aload_n 0, 1) := by decide +kernel
theorem dX2_takeItems_11 : decode cX2_takeItems 11 = .ok (.iload_n 1, 1) := by decide +kernel
theorem dX2_takeItems_12 : decode cX2_takeItems 12 = .ok (.iload 4, 2) := by decide +kernel
theorem dX2_takeItems_14 : decode cX2_takeItems 14 = .ok (.invokevirtual 26, 3) := by decide +kernel
theorem dX2_takeItems_17 : decode cX2_takeItems 17 = .ok (.ifCond .eq 18, 3) := by decide +kernel
theorem dX2_takeItems_20 : decode cX2_takeItems 20 = .ok (.aload_n 2, 1) := by decide +kernel
theorem dX2_takeItems_21 : decode cX2_takeItems 21 = .ok (.getfield 9, 3) := by decide +kernel
theorem dX2_takeItems_24 : decode cX2_takeItems 24 = .ok (.iload_n 3, 1) := by decide +kernel
theorem dX2_takeItems_25 : decode cX2_takeItems 25 = .ok (.aload_n 0, 1) := by decide +kernel
theorem dX2_takeItems_26 : decode cX2_takeItems 26 = .ok (.getfield 9, 3) := by decide +kernel
theorem dX2_takeItems_29 : decode cX2_takeItems 29 = .ok (.iload_n 1, 1) := by decide +kernel
theorem dX2_takeItems_30 : decode cX2_takeItems 30 = .ok (.iload 4, 2) := by decide +kernel
theorem dX2_takeItems_32 : decode cX2_takeItems 32 = .ok (.invokestatic 40, 3) := by decide +kernel
theorem dX2_takeItems_35 : decode cX2_takeItems 35 = .ok (.return_, 1) := by decide +kernel
set_option maxRecDepth 20000 in
theorem ggX2_holdsPairs_X2_hasItems : GoodIn wsX2_holdsPairs wsX2_hasItems := goodIn_r _ [8, 9, 10, 11, 12] (by decide +kernel) (by decide +kernel)
set_option maxRecDepth 20000 in
theorem gX2_holdsPairs_X2_hasItems : GoodIn wsX2_holdsPairs (wsV RX2 26 RX2 yX2_hasItems wsX2_hasItems) := goodIn_app (goodIn_of _ (by decide +kernel)) ggX2_holdsPairs_X2_hasItems
theorem dX2_holdsPairs_0 : decode cX2_holdsPairs 0 = .ok (.aload_n 0, 1) := by decide +kernel
theorem dX2_holdsPairs_1 : decode cX2_holdsPairs 1 = .ok (.iload_n 1, 1) := by decide +kernel
theorem dX2_holdsPairs_2 : decode cX2_holdsPairs 2 = .ok (.iconst 2, 1) := by decide +kernel
theorem dX2_holdsPairs_3 : decode cX2_holdsPairs 3 = .ok (.iload_n 2, 1) := by decide +kernel
theorem dX2_holdsPairs_4 : decode cX2_holdsPairs 4 = .ok (.imul, 1) := by decide +kernel
theorem dX2_holdsPairs_5 : decode cX2_holdsPairs 5 = .ok (.invokevirtual 26, 3) := by decide +kernel
theorem dX2_holdsPairs_8 : decode cX2_holdsPairs 8 = .ok (.ifCond .ne 5, 3) := by decide +kernel
theorem dX2_holdsPairs_11 : decode cX2_holdsPairs 11 = .ok (.iconst 0, 1) := by decide +kernel
theorem dX2_holdsPairs_12 : decode cX2_holdsPairs 12 = .ok (.ireturn, 1) := by decide +kernel
theorem dX2_holdsPairs_13 : decode cX2_holdsPairs 13 = .ok (.iconst 0, 1) := by decide +kernel
theorem dX2_holdsPairs_14 : decode cX2_holdsPairs 14 = .ok (.istore_n 3, 1) := by decide +kernel
theorem dX2_holdsPairs_15 : decode cX2_holdsPairs 15 = .ok (.iload_n 3, 1) := by decide +kernel
theorem dX2_holdsPairs_16 : decode cX2_holdsPairs 16 = .ok (.iload_n 2, 1) := by decide +kernel
theorem dX2_holdsPairs_17 : decode cX2_holdsPairs 17 = .ok (.if_icmp .ge 69, 3) := by decide +kernel
theorem dX2_holdsPairs_20 : decode cX2_holdsPairs 20 = .ok (.aload_n 0, 1) := by decide +kernel
theorem dX2_holdsPairs_21 : decode cX2_holdsPairs 21 = .ok (.getfield 9, 3) := by decide +kernel
theorem dX2_holdsPairs_24 : decode cX2_holdsPairs 24 = .ok (.iload_n 1, 1) := by decide +kernel
theorem dX2_holdsPairs_25 : decode cX2_holdsPairs 25 = .ok (.iconst 2, 1) := by decide +kernel
theorem dX2_holdsPairs_26 : decode cX2_holdsPairs 26 = .ok (.iload_n 3, 1) := by decide +kernel
theorem dX2_holdsPairs_27 : decode cX2_holdsPairs 27 = .ok (.imul, 1) := by decide +kernel
theorem dX2_holdsPairs_28 : decode cX2_holdsPairs 28 = .ok (.iadd, 1) := by decide +kernel
theorem dX2_holdsPairs_29 : decode cX2_holdsPairs 29 = .ok (.laload, 1) := by decide +kernel
theorem dX2_holdsPairs_30 : decode cX2_holdsPairs 30 = .ok (.lstore 4, 2) := by decide +kernel
theorem dX2_holdsPairs_32 : decode cX2_holdsPairs 32 = .ok (.aload_n 0, 1) := by decide +kernel
theorem dX2_holdsPairs_33 : decode cX2_holdsPairs 33 = .ok (.getfield 9, 3) := by decide +kernel
theorem dX2_holdsPairs_36 : decode cX2_holdsPairs 36 = .ok (.iload_n 1, 1) := by decide +kernel
theorem dX2_holdsPairs_37 : decode cX2_holdsPairs 37 = .ok (.iconst 2, 1) := by decide +kernel
theorem dX2_holdsPairs_38 : decode cX2_holdsPairs 38 = .ok (.iload_n 3, 1) := by decide +kernel
theorem dX2_holdsPairs_39 : decode cX2_holdsPairs 39 = .ok (.imul, 1) := by decide +kernel
theorem dX2_holdsPairs_40 : decode cX2_holdsPairs 40 = .ok (.iadd, 1) := by decide +kernel
theorem dX2_holdsPairs_41 : decode cX2_holdsPairs 41 = .ok (.iconst 1, 1) := by decide +kernel
theorem dX2_holdsPairs_42 : decode cX2_holdsPairs 42 = .ok (.iadd, 1) := by decide +kernel
theorem dX2_holdsPairs_43 : decode cX2_holdsPairs 43 = .ok (.laload, 1) := by decide +kernel
theorem dX2_holdsPairs_44 : decode cX2_holdsPairs 44 = .ok (.lstore 6, 2) := by decide +kernel
theorem dX2_holdsPairs_46 : decode cX2_holdsPairs 46 = .ok (.lload 4, 2) := by decide +kernel
theorem dX2_holdsPairs_48 : decode cX2_holdsPairs 48 = .ok (.lconst 0, 1) := by decide +kernel
theorem dX2_holdsPairs_49 : decode cX2_holdsPairs 49 = .ok (.lcmp, 1) := by decide +kernel
theorem dX2_holdsPairs_50 : decode cX2_holdsPairs 50 = .ok (.ifCond .lt 28, 3) := by decide +kernel
theorem dX2_holdsPairs_53 : decode cX2_holdsPairs 53 = .ok (.lload 4, 2) := by decide +kernel
theorem dX2_holdsPairs_55 : decode cX2_holdsPairs 55 = .ok (.ldc2_w 46, 3) := by decide +kernel
theorem dX2_holdsPairs_58 : decode cX2_holdsPairs 58 = .ok (.lcmp, 1) := by decide +kernel
theorem dX2_holdsPairs_59 : decode cX2_holdsPairs 59 = .ok (.ifCond .ge 19, 3) := by decide +kernel
theorem dX2_holdsPairs_62 : decode cX2_holdsPairs 62 = .ok (.lload 6, 2) := by decide +kernel
theorem dX2_holdsPairs_64 : decode cX2_holdsPairs 64 = .ok (.lconst 0, 1) := by decide +kernel
theorem dX2_holdsPairs_65 : decode cX2_holdsPairs 65 = .ok (.lcmp, 1) := by decide +kernel
theorem dX2_holdsPairs_66 : decode cX2_holdsPairs 66 = .ok (.ifCond .lt 12, 3) := by decide +kernel
theorem dX2_holdsPairs_69 : decode cX2_holdsPairs 69 = .ok (.lload 6, 2) := by decide +kernel
theorem dX2_holdsPairs_71 : decode cX2_holdsPairs 71 = .ok (.ldc2_w 48, 3) := by decide +kernel
theorem dX2_holdsPairs_74 : decode cX2_holdsPairs 74 = .ok (.lcmp, 1) := by decide +kernel
theorem dX2_holdsPairs_75 : decode cX2_holdsPairs 75 = .ok (.ifCond .lt 5, 3) := by decide +kernel
theorem dX2_holdsPairs_78 : decode cX2_holdsPairs 78 = .ok (.iconst 0, 1) := by decide +kernel
theorem dX2_holdsPairs_79 : decode cX2_holdsPairs 79 = .ok (.ireturn, 1) := by decide +kernel
theorem dX2_holdsPairs_80 : decode cX2_holdsPairs 80 = .ok (.iinc 3 1, 3) := by decide +kernel
theorem dX2_holdsPairs_83 : decode cX2_holdsPairs 83 = .ok (.goto (-68), 3) := by decide +kernel
theorem dX2_holdsPairs_86 : decode cX2_holdsPairs 86 = .ok (.iconst 1, 1) := by decide +kernel
theorem dX2_holdsPairs_87 : decode cX2_holdsPairs 87 = .ok (.ireturn, 1) := by decide +kernel
set_option maxRecDepth 20000 in
theorem ggX2_isToldBy_X2_hasItems : GoodIn wsX2_isToldBy wsX2_hasItems := goodIn_r _ [6, 7, 8, 9, 10] (by decide +kernel) (by decide +kernel)
set_option maxRecDepth 20000 in
theorem gX2_isToldBy_X2_hasItems : GoodIn wsX2_isToldBy (wsV RX2 26 RX2 yX2_hasItems wsX2_hasItems) := goodIn_app (goodIn_of _ (by decide +kernel)) ggX2_isToldBy_X2_hasItems
theorem dX2_isToldBy_0 : decode cX2_isToldBy 0 = .ok (.aload_n 0, 1) := by decide +kernel
theorem dX2_isToldBy_1 : decode cX2_isToldBy 1 = .ok (.iload_n 2, 1) := by decide +kernel
theorem dX2_isToldBy_2 : decode cX2_isToldBy 2 = .ok (.iconst 2, 1) := by decide +kernel
theorem dX2_isToldBy_3 : decode cX2_isToldBy 3 = .ok (.iload_n 3, 1) := by decide +kernel
theorem dX2_isToldBy_4 : decode cX2_isToldBy 4 = .ok (.imul, 1) := by decide +kernel
theorem dX2_isToldBy_5 : decode cX2_isToldBy 5 = .ok (.invokevirtual 26, 3) := by decide +kernel
theorem dX2_isToldBy_8 : decode cX2_isToldBy 8 = .ok (.ifCond .ne 5, 3) := by decide +kernel
theorem dX2_isToldBy_11 : decode cX2_isToldBy 11 = .ok (.iconst 0, 1) := by decide +kernel
theorem dX2_isToldBy_12 : decode cX2_isToldBy 12 = .ok (.ireturn, 1) := by decide +kernel
theorem dX2_isToldBy_13 : decode cX2_isToldBy 13 = .ok (.bipush 8, 2) := by decide +kernel
theorem dX2_isToldBy_15 : decode cX2_isToldBy 15 = .ok (.iload_n 1, 1) := by decide +kernel
theorem dX2_isToldBy_16 : decode cX2_isToldBy 16 = .ok (.isub, 1) := by decide +kernel
theorem dX2_isToldBy_17 : decode cX2_isToldBy 17 = .ok (.istore 4, 2) := by decide +kernel
theorem dX2_isToldBy_19 : decode cX2_isToldBy 19 = .ok (.iconst 0, 1) := by decide +kernel
theorem dX2_isToldBy_20 : decode cX2_isToldBy 20 = .ok (.istore 5, 2) := by decide +kernel
theorem dX2_isToldBy_22 : decode cX2_isToldBy 22 = .ok (.iload 5, 2) := by decide +kernel
theorem dX2_isToldBy_24 : decode cX2_isToldBy 24 = .ok (.iload_n 3, 1) := by decide +kernel
theorem dX2_isToldBy_25 : decode cX2_isToldBy 25 = .ok (.if_icmp .ge 101, 3) := by decide +kernel
theorem dX2_isToldBy_28 : decode cX2_isToldBy 28 = .ok (.iconst 0, 1) := by decide +kernel
theorem dX2_isToldBy_29 : decode cX2_isToldBy 29 = .ok (.istore 6, 2) := by decide +kernel
theorem dX2_isToldBy_31 : decode cX2_isToldBy 31 = .ok (.iload 6, 2) := by decide +kernel
theorem dX2_isToldBy_33 : decode cX2_isToldBy 33 = .ok (.iload 5, 2) := by decide +kernel
theorem dX2_isToldBy_35 : decode cX2_isToldBy 35 = .ok (.if_icmp .ge 85, 3) := by decide +kernel
theorem dX2_isToldBy_38 : decode cX2_isToldBy 38 = .ok (.aload_n 0, 1) := by decide +kernel
theorem dX2_isToldBy_39 : decode cX2_isToldBy 39 = .ok (.getfield 9, 3) := by decide +kernel
theorem dX2_isToldBy_42 : decode cX2_isToldBy 42 = .ok (.iload_n 2, 1) := by decide +kernel
theorem dX2_isToldBy_43 : decode cX2_isToldBy 43 = .ok (.iconst 2, 1) := by decide +kernel
theorem dX2_isToldBy_44 : decode cX2_isToldBy 44 = .ok (.iload 5, 2) := by decide +kernel
theorem dX2_isToldBy_46 : decode cX2_isToldBy 46 = .ok (.imul, 1) := by decide +kernel
theorem dX2_isToldBy_47 : decode cX2_isToldBy 47 = .ok (.iadd, 1) := by decide +kernel
theorem dX2_isToldBy_48 : decode cX2_isToldBy 48 = .ok (.laload, 1) := by decide +kernel
theorem dX2_isToldBy_49 : decode cX2_isToldBy 49 = .ok (.iload 4, 2) := by decide +kernel
theorem dX2_isToldBy_51 : decode cX2_isToldBy 51 = .ok (.lshr, 1) := by decide +kernel
theorem dX2_isToldBy_52 : decode cX2_isToldBy 52 = .ok (.aload_n 0, 1) := by decide +kernel
theorem dX2_isToldBy_53 : decode cX2_isToldBy 53 = .ok (.getfield 9, 3) := by decide +kernel
theorem dX2_isToldBy_56 : decode cX2_isToldBy 56 = .ok (.iload_n 2, 1) := by decide +kernel
theorem dX2_isToldBy_57 : decode cX2_isToldBy 57 = .ok (.iconst 2, 1) := by decide +kernel
theorem dX2_isToldBy_58 : decode cX2_isToldBy 58 = .ok (.iload 6, 2) := by decide +kernel
theorem dX2_isToldBy_60 : decode cX2_isToldBy 60 = .ok (.imul, 1) := by decide +kernel
theorem dX2_isToldBy_61 : decode cX2_isToldBy 61 = .ok (.iadd, 1) := by decide +kernel
theorem dX2_isToldBy_62 : decode cX2_isToldBy 62 = .ok (.laload, 1) := by decide +kernel
theorem dX2_isToldBy_63 : decode cX2_isToldBy 63 = .ok (.iload 4, 2) := by decide +kernel
theorem dX2_isToldBy_65 : decode cX2_isToldBy 65 = .ok (.lshr, 1) := by decide +kernel
theorem dX2_isToldBy_66 : decode cX2_isToldBy 66 = .ok (.lcmp, 1) := by decide +kernel
theorem dX2_isToldBy_67 : decode cX2_isToldBy 67 = .ok (.ifCond .ne 7, 3) := by decide +kernel
theorem dX2_isToldBy_70 : decode cX2_isToldBy 70 = .ok (.iconst 1, 1) := by decide +kernel
theorem dX2_isToldBy_71 : decode cX2_isToldBy 71 = .ok (.goto 4, 3) := by decide +kernel
theorem dX2_isToldBy_74 : decode cX2_isToldBy 74 = .ok (.iconst 0, 1) := by decide +kernel
theorem dX2_isToldBy_75 : decode cX2_isToldBy 75 = .ok (.istore 7, 2) := by decide +kernel
theorem dX2_isToldBy_77 : decode cX2_isToldBy 77 = .ok (.iload 7, 2) := by decide +kernel
theorem dX2_isToldBy_79 : decode cX2_isToldBy 79 = .ok (.ifCond .eq 35, 3) := by decide +kernel
theorem dX2_isToldBy_82 : decode cX2_isToldBy 82 = .ok (.aload_n 0, 1) := by decide +kernel
theorem dX2_isToldBy_83 : decode cX2_isToldBy 83 = .ok (.getfield 9, 3) := by decide +kernel
theorem dX2_isToldBy_86 : decode cX2_isToldBy 86 = .ok (.iload_n 2, 1) := by decide +kernel
theorem dX2_isToldBy_87 : decode cX2_isToldBy 87 = .ok (.iconst 2, 1) := by decide +kernel
theorem dX2_isToldBy_88 : decode cX2_isToldBy 88 = .ok (.iload 5, 2) := by decide +kernel
theorem dX2_isToldBy_90 : decode cX2_isToldBy 90 = .ok (.imul, 1) := by decide +kernel
theorem dX2_isToldBy_91 : decode cX2_isToldBy 91 = .ok (.iadd, 1) := by decide +kernel
theorem dX2_isToldBy_92 : decode cX2_isToldBy 92 = .ok (.iconst 1, 1) := by decide +kernel
theorem dX2_isToldBy_93 : decode cX2_isToldBy 93 = .ok (.iadd, 1) := by decide +kernel
theorem dX2_isToldBy_94 : decode cX2_isToldBy 94 = .ok (.laload, 1) := by decide +kernel
theorem dX2_isToldBy_95 : decode cX2_isToldBy 95 = .ok (.aload_n 0, 1) := by decide +kernel
theorem dX2_isToldBy_96 : decode cX2_isToldBy 96 = .ok (.getfield 9, 3) := by decide +kernel
theorem dX2_isToldBy_99 : decode cX2_isToldBy 99 = .ok (.iload_n 2, 1) := by decide +kernel
theorem dX2_isToldBy_100 : decode cX2_isToldBy 100 = .ok (.iconst 2, 1) := by decide +kernel
theorem dX2_isToldBy_101 : decode cX2_isToldBy 101 = .ok (.iload 6, 2) := by decide +kernel
theorem dX2_isToldBy_103 : decode cX2_isToldBy 103 = .ok (.imul, 1) := by decide +kernel
theorem dX2_isToldBy_104 : decode cX2_isToldBy 104 = .ok (.iadd, 1) := by decide +kernel
theorem dX2_isToldBy_105 : decode cX2_isToldBy 105 = .ok (.iconst 1, 1) := by decide +kernel
theorem dX2_isToldBy_106 : decode cX2_isToldBy 106 = .ok (.iadd, 1) := by decide +kernel
theorem dX2_isToldBy_107 : decode cX2_isToldBy 107 = .ok (.laload, 1) := by decide +kernel
theorem dX2_isToldBy_108 : decode cX2_isToldBy 108 = .ok (.lcmp, 1) := by decide +kernel
theorem dX2_isToldBy_109 : decode cX2_isToldBy 109 = .ok (.ifCond .eq 5, 3) := by decide +kernel
theorem dX2_isToldBy_112 : decode cX2_isToldBy 112 = .ok (.iconst 0, 1) := by decide +kernel
theorem dX2_isToldBy_113 : decode cX2_isToldBy 113 = .ok (.ireturn, 1) := by decide +kernel
theorem dX2_isToldBy_114 : decode cX2_isToldBy 114 = .ok (.iinc 6 1, 3) := by decide +kernel
theorem dX2_isToldBy_117 : decode cX2_isToldBy 117 = .ok (.goto (-86), 3) := by decide +kernel
theorem dX2_isToldBy_120 : decode cX2_isToldBy 120 = .ok (.iinc 5 1, 3) := by decide +kernel
theorem dX2_isToldBy_123 : decode cX2_isToldBy 123 = .ok (.goto (-101), 3) := by decide +kernel
theorem dX2_isToldBy_126 : decode cX2_isToldBy 126 = .ok (.iconst 1, 1) := by decide +kernel
theorem dX2_isToldBy_127 : decode cX2_isToldBy 127 = .ok (.ireturn, 1) := by decide +kernel
theorem dX2_lowestBits_0 : decode cX2_lowestBits 0 = .ok (.aload_n 0, 1) := by decide +kernel
theorem dX2_lowestBits_1 : decode cX2_lowestBits 1 = .ok (.getfield 15, 3) := by decide +kernel
theorem dX2_lowestBits_4 : decode cX2_lowestBits 4 = .ok (.tableswitch 42 0 2 #[28, 33, 38], 28) := by decide +kernel
theorem dX2_lowestBits_32 : decode cX2_lowestBits 32 = .ok (.lload_n 1, 1) := by decide +kernel
theorem dX2_lowestBits_33 : decode cX2_lowestBits 33 = .ok (.l2i, 1) := by decide +kernel
theorem dX2_lowestBits_34 : decode cX2_lowestBits 34 = .ok (.i2b, 1) := by decide +kernel
theorem dX2_lowestBits_35 : decode cX2_lowestBits 35 = .ok (.i2l, 1) := by decide +kernel
theorem dX2_lowestBits_36 : decode cX2_lowestBits 36 = .ok (.lreturn, 1) := by decide +kernel
theorem dX2_lowestBits_37 : decode cX2_lowestBits 37 = .ok (.lload_n 1, 1) := by decide +kernel
theorem dX2_lowestBits_38 : decode cX2_lowestBits 38 = .ok (.l2i, 1) := by decide +kernel
theorem dX2_lowestBits_39 : decode cX2_lowestBits 39 = .ok (.i2s, 1) := by decide +kernel
theorem dX2_lowestBits_40 : decode cX2_lowestBits 40 = .ok (.i2l, 1) := by decide +kernel
theorem dX2_lowestBits_41 : decode cX2_lowestBits 41 = .ok (.lreturn, 1) := by decide +kernel
theorem dX2_lowestBits_42 : decode cX2_lowestBits 42 = .ok (.lload_n 1, 1) := by decide +kernel
theorem dX2_lowestBits_43 : decode cX2_lowestBits 43 = .ok (.l2i, 1) := by decide +kernel
theorem dX2_lowestBits_44 : decode cX2_lowestBits 44 = .ok (.i2l, 1) := by decide +kernel
theorem dX2_lowestBits_45 : decode cX2_lowestBits 45 = .ok (.lreturn, 1) := by decide +kernel
theorem dX2_lowestBits_46 : decode cX2_lowestBits 46 = .ok (.lload_n 1, 1) := by decide +kernel
theorem dX2_lowestBits_47 : decode cX2_lowestBits 47 = .ok (.lreturn, 1) := by decide +kernel
theorem dX3_init_0 : decode cX3_init 0 = .ok (.aload_n 0, 1) := by decide +kernel
theorem dX3_init_1 : decode cX3_init 1 = .ok (.invokespecial 3, 3) := by decide +kernel
theorem dX3_init_4 : decode cX3_init 4 = .ok (.aload_n 0, 1) := by decide +kernel
theorem dX3_init_5 : decode cX3_init 5 = .ok (.bipush 32, 2) := by decide +kernel
theorem dX3_init_7 : decode cX3_init 7 = .ok (.newarray .long, 2) := by decide +kernel
theorem dX3_init_9 : decode cX3_init 9 = .ok (.putfield 9, 3) := by decide +kernel
theorem dX3_init_12 : decode cX3_init 12 = .ok (.aload_n 0, 1) := by decide +kernel
theorem dX3_init_13 : decode cX3_init 13 = .ok (.iconst 0, 1) := by decide +kernel
theorem dX3_init_14 : decode cX3_init 14 = .ok (.putfield 15, 3) := by decide +kernel
theorem dX3_init_17 : decode cX3_init 17 = .ok (.return_, 1) := by decide +kernel
theorem dX3_howMany_0 : decode cX3_howMany 0 = .ok (.aload_n 0, 1) := by decide +kernel
theorem dX3_howMany_1 : decode cX3_howMany 1 = .ok (.getfield 15, 3) := by decide +kernel
theorem dX3_howMany_4 : decode cX3_howMany 4 = .ok (.ireturn, 1) := by decide +kernel
theorem dX3_hopAt_0 : decode cX3_hopAt 0 = .ok (.iload_n 1, 1) := by decide +kernel
theorem dX3_hopAt_1 : decode cX3_hopAt 1 = .ok (.iconst 1, 1) := by decide +kernel
theorem dX3_hopAt_2 : decode cX3_hopAt 2 = .ok (.if_icmp .lt 10, 3) := by decide +kernel
theorem dX3_hopAt_5 : decode cX3_hopAt 5 = .ok (.iload_n 1, 1) := by decide +kernel
theorem dX3_hopAt_6 : decode cX3_hopAt 6 = .ok (.sipush 512, 3) := by decide +kernel
theorem dX3_hopAt_9 : decode cX3_hopAt 9 = .ok (.if_icmp .lt 6, 3) := by decide +kernel
theorem dX3_hopAt_12 : decode cX3_hopAt 12 = .ok (.bipush (-4), 2) := by decide +kernel
theorem dX3_hopAt_14 : decode cX3_hopAt 14 = .ok (.ireturn, 1) := by decide +kernel
theorem dX3_hopAt_15 : decode cX3_hopAt 15 = .ok (.aload_n 0, 1) := by decide +kernel
theorem dX3_hopAt_16 : decode cX3_hopAt 16 = .ok (.getfield 9, 3) := by decide +kernel
theorem dX3_hopAt_19 : decode cX3_hopAt 19 = .ok (.iload_n 1, 1) := by decide +kernel
theorem dX3_hopAt_20 : decode cX3_hopAt 20 = .ok (.iconst 4, 1) := by decide +kernel
theorem dX3_hopAt_21 : decode cX3_hopAt 21 = .ok (.ishr, 1) := by decide +kernel
theorem dX3_hopAt_22 : decode cX3_hopAt 22 = .ok (.laload, 1) := by decide +kernel
theorem dX3_hopAt_23 : decode cX3_hopAt 23 = .ok (.iconst 4, 1) := by decide +kernel
theorem dX3_hopAt_24 : decode cX3_hopAt 24 = .ok (.iload_n 1, 1) := by decide +kernel
theorem dX3_hopAt_25 : decode cX3_hopAt 25 = .ok (.bipush 15, 2) := by decide +kernel
theorem dX3_hopAt_27 : decode cX3_hopAt 27 = .ok (.iand, 1) := by decide +kernel
theorem dX3_hopAt_28 : decode cX3_hopAt 28 = .ok (.imul, 1) := by decide +kernel
theorem dX3_hopAt_29 : decode cX3_hopAt 29 = .ok (.lushr, 1) := by decide +kernel
theorem dX3_hopAt_30 : decode cX3_hopAt 30 = .ok (.l2i, 1) := by decide +kernel
theorem dX3_hopAt_31 : decode cX3_hopAt 31 = .ok (.bipush 15, 2) := by decide +kernel
theorem dX3_hopAt_33 : decode cX3_hopAt 33 = .ok (.iand, 1) := by decide +kernel
theorem dX3_hopAt_34 : decode cX3_hopAt 34 = .ok (.istore_n 2, 1) := by decide +kernel
theorem dX3_hopAt_35 : decode cX3_hopAt 35 = .ok (.iload_n 2, 1) := by decide +kernel
theorem dX3_hopAt_36 : decode cX3_hopAt 36 = .ok (.ifCond .ne 8, 3) := by decide +kernel
theorem dX3_hopAt_39 : decode cX3_hopAt 39 = .ok (.bipush (-4), 2) := by decide +kernel
theorem dX3_hopAt_41 : decode cX3_hopAt 41 = .ok (.goto 6, 3) := by decide +kernel
theorem dX3_hopAt_44 : decode cX3_hopAt 44 = .ok (.iload_n 2, 1) := by decide +kernel
theorem dX3_hopAt_45 : decode cX3_hopAt 45 = .ok (.iconst 1, 1) := by decide +kernel
theorem dX3_hopAt_46 : decode cX3_hopAt 46 = .ok (.isub, 1) := by decide +kernel
theorem dX3_hopAt_47 : decode cX3_hopAt 47 = .ok (.ireturn, 1) := by decide +kernel
set_option maxRecDepth 20000 in
theorem ggX3_put_X6_isPrefix : GoodIn wsX3_put wsX6_isPrefix := goodIn_r _ [4] (by decide +kernel) (by decide +kernel)
set_option maxRecDepth 20000 in
theorem gX3_put_X6_isPrefix_n19 : GoodIn wsX3_put (wsX6_isPrefix) := ggX3_put_X6_isPrefix
set_option maxRecDepth 20000 in
theorem ggX3_put_X6_isHop : GoodIn wsX3_put wsX6_isHop := goodIn_r _ [6] (by decide +kernel) (by decide +kernel)
set_option maxRecDepth 20000 in
theorem gX3_put_X6_isHop_n23 : GoodIn wsX3_put (wsX6_isHop) := ggX3_put_X6_isHop
set_option maxRecDepth 20000 in
theorem ggX3_put_X3_hopAt : GoodIn wsX3_put wsX3_hopAt := goodIn_r _ [11, 12, 19, 20] (by decide +kernel) (by decide +kernel)
set_option maxRecDepth 20000 in
theorem gX3_put_X3_hopAt : GoodIn wsX3_put (wsV RX3 26 RX3 yX3_hopAt wsX3_hopAt) := goodIn_app (goodIn_of _ (by decide +kernel)) ggX3_put_X3_hopAt
set_option maxRecDepth 20000 in
theorem ggX3_put_X3_setPlace : GoodIn wsX3_put wsX3_setPlace := goodIn_r _ [16, 12, 17, 18, 19, 20] (by decide +kernel) (by decide +kernel)
set_option maxRecDepth 20000 in
theorem gX3_put_X3_setPlace : GoodIn wsX3_put (wsV RX3 30 RX3 yX3_setPlace wsX3_setPlace) := goodIn_app (goodIn_of _ (by decide +kernel)) ggX3_put_X3_setPlace
theorem dX3_put_0 : decode cX3_put 0 = .ok (.iload_n 1, 1) := by decide +kernel
theorem dX3_put_1 : decode cX3_put 1 = .ok (.invokestatic 19, 3) := by decide +kernel
theorem dX3_put_4 : decode cX3_put 4 = .ok (.ifCond .eq 42, 3) := by decide +kernel
theorem dX3_put_7 : decode cX3_put 7 = .ok (.iload_n 2, 1) := by decide +kernel
theorem dX3_put_8 : decode cX3_put 8 = .ok (.invokestatic 23, 3) := by decide +kernel
theorem dX3_put_11 : decode cX3_put 11 = .ok (.ifCond .eq 35, 3) := by decide +kernel
theorem dX3_put_14 : decode cX3_put 14 = .ok (.aload_n 0, 1) := by decide +kernel
theorem dX3_put_15 : decode cX3_put 15 = .ok (.dup, 1) := by decide +kernel
theorem dX3_put_16 : decode cX3_put 16 = .ok (.getfield 15, 3) := by decide +kernel
theorem dX3_put_19 : decode cX3_put 19 = .ok (.aload_n 0, 1) := by decide +kernel
theorem dX3_put_20 : decode cX3_put 20 = .ok (.iload_n 1, 1) := by decide +kernel
theorem dX3_put_21 : decode cX3_put 21 = .ok (.invokevirtual 26, 3) := by decide +kernel
theorem dX3_put_24 : decode cX3_put 24 = .ok (.bipush (-4), 2) := by decide +kernel
theorem dX3_put_26 : decode cX3_put 26 = .ok (.if_icmp .ne 7, 3) := by decide +kernel
theorem dX3_put_29 : decode cX3_put 29 = .ok (.iconst 1, 1) := by decide +kernel
theorem dX3_put_30 : decode cX3_put 30 = .ok (.goto 4, 3) := by decide +kernel
theorem dX3_put_33 : decode cX3_put 33 = .ok (.iconst 0, 1) := by decide +kernel
theorem dX3_put_34 : decode cX3_put 34 = .ok (.iadd, 1) := by decide +kernel
theorem dX3_put_35 : decode cX3_put 35 = .ok (.putfield 15, 3) := by decide +kernel
theorem dX3_put_38 : decode cX3_put 38 = .ok (.aload_n 0, 1) := by decide +kernel
theorem dX3_put_39 : decode cX3_put 39 = .ok (.iload_n 1, 1) := by decide +kernel
theorem dX3_put_40 : decode cX3_put 40 = .ok (.iload_n 2, 1) := by decide +kernel
theorem dX3_put_41 : decode cX3_put 41 = .ok (.iconst 1, 1) := by decide +kernel
theorem dX3_put_42 : decode cX3_put 42 = .ok (.iadd, 1) := by decide +kernel
theorem dX3_put_43 : decode cX3_put 43 = .ok (.invokevirtual 30, 3) := by decide +kernel
theorem dX3_put_46 : decode cX3_put 46 = .ok (.return_, 1) := by decide +kernel
set_option maxRecDepth 20000 in
theorem ggX3_takeOut_X3_hopAt : GoodIn wsX3_takeOut wsX3_hopAt := goodIn_r _ [6, 7, 14, 15] (by decide +kernel) (by decide +kernel)
set_option maxRecDepth 20000 in
theorem gX3_takeOut_X3_hopAt : GoodIn wsX3_takeOut (wsV RX3 26 RX3 yX3_hopAt wsX3_hopAt) := goodIn_app (goodIn_of _ (by decide +kernel)) ggX3_takeOut_X3_hopAt
set_option maxRecDepth 20000 in
theorem ggX3_takeOut_X3_setPlace : GoodIn wsX3_takeOut wsX3_setPlace := goodIn_r _ [11, 7, 12, 13, 14, 15] (by decide +kernel) (by decide +kernel)
set_option maxRecDepth 20000 in
theorem gX3_takeOut_X3_setPlace : GoodIn wsX3_takeOut (wsV RX3 30 RX3 yX3_setPlace wsX3_setPlace) := goodIn_app (goodIn_of _ (by decide +kernel)) ggX3_takeOut_X3_setPlace
theorem dX3_takeOut_0 : decode cX3_takeOut 0 = .ok (.aload_n 0, 1) := by decide +kernel
theorem dX3_takeOut_1 : decode cX3_takeOut 1 = .ok (.iload_n 1, 1) := by decide +kernel
theorem dX3_takeOut_2 : decode cX3_takeOut 2 = .ok (.invokevirtual 26, 3) := by decide +kernel
theorem dX3_takeOut_5 : decode cX3_takeOut 5 = .ok (.bipush (-4), 2) := by decide +kernel
theorem dX3_takeOut_7 : decode cX3_takeOut 7 = .ok (.if_icmp .eq 19, 3) := by decide +kernel
theorem dX3_takeOut_10 : decode cX3_takeOut 10 = .ok (.aload_n 0, 1) := by decide +kernel
theorem dX3_takeOut_11 : decode cX3_takeOut 11 = .ok (.dup, 1) := by decide +kernel
theorem dX3_takeOut_12 : decode cX3_takeOut 12 = .ok (.getfield 15, 3) := by decide +kernel
theorem dX3_takeOut_15 : decode cX3_takeOut 15 = .ok (.iconst 1, 1) := by decide +kernel
theorem dX3_takeOut_16 : decode cX3_takeOut 16 = .ok (.isub, 1) := by decide +kernel
theorem dX3_takeOut_17 : decode cX3_takeOut 17 = .ok (.putfield 15, 3) := by decide +kernel
theorem dX3_takeOut_20 : decode cX3_takeOut 20 = .ok (.aload_n 0, 1) := by decide +kernel
theorem dX3_takeOut_21 : decode cX3_takeOut 21 = .ok (.iload_n 1, 1) := by decide +kernel
theorem dX3_takeOut_22 : decode cX3_takeOut 22 = .ok (.iconst 0, 1) := by decide +kernel
theorem dX3_takeOut_23 : decode cX3_takeOut 23 = .ok (.invokevirtual 30, 3) := by decide +kernel
theorem dX3_takeOut_26 : decode cX3_takeOut 26 = .ok (.return_, 1) := by decide +kernel
set_option maxRecDepth 20000 in
theorem ggX3_makeEmpty_J7_fill_d0a16 : GoodIn wsX3_makeEmpty wsJ7_fill_d0a16 := goodIn_r _ [6] (by decide +kernel) (by decide +kernel)
set_option maxRecDepth 20000 in
theorem gX3_makeEmpty_J7_fill_d0a16 : GoodIn wsX3_makeEmpty (va_wsS RX3 34 yJ7_fill_d0a16 wsJ7_fill_d0a16) := goodIn_app (goodIn_of _ (by decide +kernel)) ggX3_makeEmpty_J7_fill_d0a16
theorem dX3_makeEmpty_0 : decode cX3_makeEmpty 0 = .ok (.aload_n 0, 1) := by decide +kernel
theorem dX3_makeEmpty_1 : decode cX3_makeEmpty 1 = .ok (.getfield 9, 3) := by decide +kernel
theorem dX3_makeEmpty_4 : decode cX3_makeEmpty 4 = .ok (.lconst 0, 1) := by decide +kernel
theorem dX3_makeEmpty_5 : decode cX3_makeEmpty 5 = .ok (.invokestatic 34, 3) := by decide +kernel
theorem dX3_makeEmpty_8 : decode cX3_makeEmpty 8 = .ok (.aload_n 0, 1) := by decide +kernel
theorem dX3_makeEmpty_9 : decode cX3_makeEmpty 9 = .ok (.iconst 0, 1) := by decide +kernel
theorem dX3_makeEmpty_10 : decode cX3_makeEmpty 10 = .ok (.putfield 15, 3) := by decide +kernel
theorem dX3_makeEmpty_13 : decode cX3_makeEmpty 13 = .ok (.return_, 1) := by decide +kernel
theorem dX3_takeFrom_0 : decode cX3_takeFrom 0 = .ok (.aload_n 1, 1) := by decide +kernel
theorem dX3_takeFrom_1 : decode cX3_takeFrom 1 = .ok (.getfield 9, 3) := by decide +kernel
theorem dX3_takeFrom_4 : decode cX3_takeFrom 4 = .ok (.iconst 0, 1) := by decide +kernel
theorem dX3_takeFrom_5 : decode cX3_takeFrom 5 = .ok (.aload_n 0, 1) := by decide +kernel
theorem dX3_takeFrom_6 : decode cX3_takeFrom 6 = .ok (.getfield 9, 3) := by decide +kernel
theorem dX3_takeFrom_9 : decode cX3_takeFrom 9 = .ok (.iconst 0, 1) := by decide +kernel
theorem dX3_takeFrom_10 : decode cX3_takeFrom 10 = .ok (.aload_n 0, 1) := by decide +kernel
theorem dX3_takeFrom_11 : decode cX3_takeFrom 11 = .ok (.getfield 9, 3) := by decide +kernel
theorem dX3_takeFrom_14 : decode cX3_takeFrom 14 = .ok (.arraylength, 1) := by decide +kernel
theorem dX3_takeFrom_15 : decode cX3_takeFrom 15 = .ok (.invokestatic 40, 3) := by decide +kernel
theorem dX3_takeFrom_18 : decode cX3_takeFrom 18 = .ok (.aload_n 0, 1) := by decide +kernel
theorem dX3_takeFrom_19 : decode cX3_takeFrom 19 = .ok (.aload_n 1, 1) := by decide +kernel
theorem dX3_takeFrom_20 : decode cX3_takeFrom 20 = .ok (.getfield 15, 3) := by decide +kernel
theorem dX3_takeFrom_23 : decode cX3_takeFrom 23 = .ok (.putfield 15, 3) := by decide +kernel
theorem dX3_takeFrom_26 : decode cX3_takeFrom 26 = .ok (.return_, 1) := by decide +kernel
set_option maxRecDepth 20000 in
theorem ggX3_deciderOf_X3_hopAt : GoodIn wsX3_deciderOf wsX3_hopAt := goodIn_r _ [5, 6, 7, 8] (by decide +kernel) (by decide +kernel)
set_option maxRecDepth 20000 in
theorem gX3_deciderOf_X3_hopAt : GoodIn wsX3_deciderOf (wsV RX3 26 RX3 yX3_hopAt wsX3_hopAt) := goodIn_app (goodIn_of _ (by decide +kernel)) ggX3_deciderOf_X3_hopAt
theorem dX3_deciderOf_0 : decode cX3_deciderOf 0 = .ok (.iconst 0, 1) := by decide +kernel
theorem dX3_deciderOf_1 : decode cX3_deciderOf 1 = .ok (.istore_n 2, 1) := by decide +kernel
theorem dX3_deciderOf_2 : decode cX3_deciderOf 2 = .ok (.iload_n 2, 1) := by decide +kernel
theorem dX3_deciderOf_3 : decode cX3_deciderOf 3 = .ok (.bipush 8, 2) := by decide +kernel
theorem dX3_deciderOf_5 : decode cX3_deciderOf 5 = .ok (.if_icmp .gt 29, 3) := by decide +kernel
theorem dX3_deciderOf_8 : decode cX3_deciderOf 8 = .ok (.sipush 256, 3) := by decide +kernel
theorem dX3_deciderOf_11 : decode cX3_deciderOf 11 = .ok (.iload_n 1, 1) := by decide +kernel
theorem dX3_deciderOf_12 : decode cX3_deciderOf 12 = .ok (.iadd, 1) := by decide +kernel
theorem dX3_deciderOf_13 : decode cX3_deciderOf 13 = .ok (.iload_n 2, 1) := by decide +kernel
theorem dX3_deciderOf_14 : decode cX3_deciderOf 14 = .ok (.ishr, 1) := by decide +kernel
theorem dX3_deciderOf_15 : decode cX3_deciderOf 15 = .ok (.istore_n 3, 1) := by decide +kernel
theorem dX3_deciderOf_16 : decode cX3_deciderOf 16 = .ok (.aload_n 0, 1) := by decide +kernel
theorem dX3_deciderOf_17 : decode cX3_deciderOf 17 = .ok (.iload_n 3, 1) := by decide +kernel
theorem dX3_deciderOf_18 : decode cX3_deciderOf 18 = .ok (.invokevirtual 26, 3) := by decide +kernel
theorem dX3_deciderOf_21 : decode cX3_deciderOf 21 = .ok (.bipush (-4), 2) := by decide +kernel
theorem dX3_deciderOf_23 : decode cX3_deciderOf 23 = .ok (.if_icmp .eq 5, 3) := by decide +kernel
theorem dX3_deciderOf_26 : decode cX3_deciderOf 26 = .ok (.iload_n 3, 1) := by decide +kernel
theorem dX3_deciderOf_27 : decode cX3_deciderOf 27 = .ok (.ireturn, 1) := by decide +kernel
theorem dX3_deciderOf_28 : decode cX3_deciderOf 28 = .ok (.iinc 2 1, 3) := by decide +kernel
theorem dX3_deciderOf_31 : decode cX3_deciderOf 31 = .ok (.goto (-29), 3) := by decide +kernel
theorem dX3_deciderOf_34 : decode cX3_deciderOf 34 = .ok (.bipush (-4), 2) := by decide +kernel
theorem dX3_deciderOf_36 : decode cX3_deciderOf 36 = .ok (.ireturn, 1) := by decide +kernel
set_option maxRecDepth 20000 in
theorem ggX3_hopOfAddress_X3_deciderOf : GoodIn wsX3_hopOfAddress wsX3_deciderOf := goodIn_r _ [5, 6, 7, 8, 4, 9, 10, 11, 12] (by decide +kernel) (by decide +kernel)
set_option maxRecDepth 20000 in
theorem gX3_hopOfAddress_X3_deciderOf : GoodIn wsX3_hopOfAddress (wsV RX3 46 RX3 yX3_deciderOf wsX3_deciderOf) := goodIn_app (goodIn_of _ (by decide +kernel)) ggX3_hopOfAddress_X3_deciderOf
set_option maxRecDepth 20000 in
theorem ggX3_hopOfAddress_X3_hopAt : GoodIn wsX3_hopOfAddress wsX3_hopAt := goodIn_r _ [9, 10, 11, 12] (by decide +kernel) (by decide +kernel)
set_option maxRecDepth 20000 in
theorem gX3_hopOfAddress_X3_hopAt : GoodIn wsX3_hopOfAddress (wsV RX3 26 RX3 yX3_hopAt wsX3_hopAt) := goodIn_app (goodIn_of _ (by decide +kernel)) ggX3_hopOfAddress_X3_hopAt
theorem dX3_hopOfAddress_0 : decode cX3_hopOfAddress 0 = .ok (.aload_n 0, 1) := by decide +kernel
theorem dX3_hopOfAddress_1 : decode cX3_hopOfAddress 1 = .ok (.iload_n 1, 1) := by decide +kernel
theorem dX3_hopOfAddress_2 : decode cX3_hopOfAddress 2 = .ok (.invokevirtual 46, 3) := by decide +kernel
theorem dX3_hopOfAddress_5 : decode cX3_hopOfAddress 5 = .ok (.istore_n 2, 1) := by decide +kernel
theorem dX3_hopOfAddress_6 : decode cX3_hopOfAddress 6 = .ok (.iload_n 2, 1) := by decide +kernel
theorem dX3_hopOfAddress_7 : decode cX3_hopOfAddress 7 = .ok (.bipush (-4), 2) := by decide +kernel
theorem dX3_hopOfAddress_9 : decode cX3_hopOfAddress 9 = .ok (.if_icmp .ne 7, 3) := by decide +kernel
theorem dX3_hopOfAddress_12 : decode cX3_hopOfAddress 12 = .ok (.iconst 0, 1) := by decide +kernel
theorem dX3_hopOfAddress_13 : decode cX3_hopOfAddress 13 = .ok (.goto 8, 3) := by decide +kernel
theorem dX3_hopOfAddress_16 : decode cX3_hopOfAddress 16 = .ok (.aload_n 0, 1) := by decide +kernel
theorem dX3_hopOfAddress_17 : decode cX3_hopOfAddress 17 = .ok (.iload_n 2, 1) := by decide +kernel
theorem dX3_hopOfAddress_18 : decode cX3_hopOfAddress 18 = .ok (.invokevirtual 26, 3) := by decide +kernel
theorem dX3_hopOfAddress_21 : decode cX3_hopOfAddress 21 = .ok (.ireturn, 1) := by decide +kernel
set_option maxRecDepth 20000 in
theorem ggX3_hopFromAbove_X3_hopAt : GoodIn wsX3_hopFromAbove wsX3_hopAt := goodIn_r _ [5, 6, 7, 8] (by decide +kernel) (by decide +kernel)
set_option maxRecDepth 20000 in
theorem gX3_hopFromAbove_X3_hopAt : GoodIn wsX3_hopFromAbove (wsV RX3 26 RX3 yX3_hopAt wsX3_hopAt) := goodIn_app (goodIn_of _ (by decide +kernel)) ggX3_hopFromAbove_X3_hopAt
theorem dX3_hopFromAbove_0 : decode cX3_hopFromAbove 0 = .ok (.iconst 1, 1) := by decide +kernel
theorem dX3_hopFromAbove_1 : decode cX3_hopFromAbove 1 = .ok (.istore_n 2, 1) := by decide +kernel
theorem dX3_hopFromAbove_2 : decode cX3_hopFromAbove 2 = .ok (.iload_n 2, 1) := by decide +kernel
theorem dX3_hopFromAbove_3 : decode cX3_hopFromAbove 3 = .ok (.bipush 8, 2) := by decide +kernel
theorem dX3_hopFromAbove_5 : decode cX3_hopFromAbove 5 = .ok (.if_icmp .gt 25, 3) := by decide +kernel
theorem dX3_hopFromAbove_8 : decode cX3_hopFromAbove 8 = .ok (.aload_n 0, 1) := by decide +kernel
theorem dX3_hopFromAbove_9 : decode cX3_hopFromAbove 9 = .ok (.iload_n 1, 1) := by decide +kernel
theorem dX3_hopFromAbove_10 : decode cX3_hopFromAbove 10 = .ok (.iload_n 2, 1) := by decide +kernel
theorem dX3_hopFromAbove_11 : decode cX3_hopFromAbove 11 = .ok (.ishr, 1) := by decide +kernel
theorem dX3_hopFromAbove_12 : decode cX3_hopFromAbove 12 = .ok (.invokevirtual 26, 3) := by decide +kernel
theorem dX3_hopFromAbove_15 : decode cX3_hopFromAbove 15 = .ok (.istore_n 3, 1) := by decide +kernel
theorem dX3_hopFromAbove_16 : decode cX3_hopFromAbove 16 = .ok (.iload_n 3, 1) := by decide +kernel
theorem dX3_hopFromAbove_17 : decode cX3_hopFromAbove 17 = .ok (.bipush (-4), 2) := by decide +kernel
theorem dX3_hopFromAbove_19 : decode cX3_hopFromAbove 19 = .ok (.if_icmp .eq 5, 3) := by decide +kernel
theorem dX3_hopFromAbove_22 : decode cX3_hopFromAbove 22 = .ok (.iload_n 3, 1) := by decide +kernel
theorem dX3_hopFromAbove_23 : decode cX3_hopFromAbove 23 = .ok (.ireturn, 1) := by decide +kernel
theorem dX3_hopFromAbove_24 : decode cX3_hopFromAbove 24 = .ok (.iinc 2 1, 3) := by decide +kernel
theorem dX3_hopFromAbove_27 : decode cX3_hopFromAbove 27 = .ok (.goto (-25), 3) := by decide +kernel
theorem dX3_hopFromAbove_30 : decode cX3_hopFromAbove 30 = .ok (.iconst 0, 1) := by decide +kernel
theorem dX3_hopFromAbove_31 : decode cX3_hopFromAbove 31 = .ok (.ireturn, 1) := by decide +kernel
set_option maxRecDepth 20000 in
theorem ggX3_numberOf_X3_hopAt : GoodIn wsX3_numberOf wsX3_hopAt := goodIn_r _ [5, 6, 7, 8] (by decide +kernel) (by decide +kernel)
set_option maxRecDepth 20000 in
theorem gX3_numberOf_X3_hopAt : GoodIn wsX3_numberOf (wsV RX3 26 RX3 yX3_hopAt wsX3_hopAt) := goodIn_app (goodIn_of _ (by decide +kernel)) ggX3_numberOf_X3_hopAt
theorem dX3_numberOf_0 : decode cX3_numberOf 0 = .ok (.iconst 0, 1) := by decide +kernel
theorem dX3_numberOf_1 : decode cX3_numberOf 1 = .ok (.istore_n 2, 1) := by decide +kernel
theorem dX3_numberOf_2 : decode cX3_numberOf 2 = .ok (.iconst 1, 1) := by decide +kernel
theorem dX3_numberOf_3 : decode cX3_numberOf 3 = .ok (.istore_n 3, 1) := by decide +kernel
theorem dX3_numberOf_4 : decode cX3_numberOf 4 = .ok (.iload_n 3, 1) := by decide +kernel
theorem dX3_numberOf_5 : decode cX3_numberOf 5 = .ok (.sipush 512, 3) := by decide +kernel
theorem dX3_numberOf_8 : decode cX3_numberOf 8 = .ok (.if_icmp .ge 29, 3) := by decide +kernel
theorem dX3_numberOf_11 : decode cX3_numberOf 11 = .ok (.aload_n 0, 1) := by decide +kernel
theorem dX3_numberOf_12 : decode cX3_numberOf 12 = .ok (.iload_n 3, 1) := by decide +kernel
theorem dX3_numberOf_13 : decode cX3_numberOf 13 = .ok (.invokevirtual 26, 3) := by decide +kernel
theorem dX3_numberOf_16 : decode cX3_numberOf 16 = .ok (.bipush (-4), 2) := by decide +kernel
theorem dX3_numberOf_18 : decode cX3_numberOf 18 = .ok (.if_icmp .eq 13, 3) := by decide +kernel
theorem dX3_numberOf_21 : decode cX3_numberOf 21 = .ok (.iload_n 2, 1) := by decide +kernel
theorem dX3_numberOf_22 : decode cX3_numberOf 22 = .ok (.iload_n 1, 1) := by decide +kernel
theorem dX3_numberOf_23 : decode cX3_numberOf 23 = .ok (.if_icmp .ne 5, 3) := by decide +kernel
theorem dX3_numberOf_26 : decode cX3_numberOf 26 = .ok (.iload_n 3, 1) := by decide +kernel
theorem dX3_numberOf_27 : decode cX3_numberOf 27 = .ok (.ireturn, 1) := by decide +kernel
theorem dX3_numberOf_28 : decode cX3_numberOf 28 = .ok (.iinc 2 1, 3) := by decide +kernel
theorem dX3_numberOf_31 : decode cX3_numberOf 31 = .ok (.iinc 3 1, 3) := by decide +kernel
theorem dX3_numberOf_34 : decode cX3_numberOf 34 = .ok (.goto (-30), 3) := by decide +kernel
theorem dX3_numberOf_37 : decode cX3_numberOf 37 = .ok (.bipush (-4), 2) := by decide +kernel
theorem dX3_numberOf_39 : decode cX3_numberOf 39 = .ok (.ireturn, 1) := by decide +kernel
set_option maxRecDepth 20000 in
theorem ggX3_hasHop_X3_hopAt : GoodIn wsX3_hasHop wsX3_hopAt := goodIn_r _ [5, 6, 7, 8] (by decide +kernel) (by decide +kernel)
set_option maxRecDepth 20000 in
theorem gX3_hasHop_X3_hopAt : GoodIn wsX3_hasHop (wsV RX3 26 RX3 yX3_hopAt wsX3_hopAt) := goodIn_app (goodIn_of _ (by decide +kernel)) ggX3_hasHop_X3_hopAt
theorem dX3_hasHop_0 : decode cX3_hasHop 0 = .ok (.iconst 1, 1) := by decide +kernel
theorem dX3_hasHop_1 : decode cX3_hasHop 1 = .ok (.istore_n 2, 1) := by decide +kernel
theorem dX3_hasHop_2 : decode cX3_hasHop 2 = .ok (.iload_n 2, 1) := by decide +kernel
theorem dX3_hasHop_3 : decode cX3_hasHop 3 = .ok (.sipush 512, 3) := by decide +kernel
theorem dX3_hasHop_6 : decode cX3_hasHop 6 = .ok (.if_icmp .ge 20, 3) := by decide +kernel
theorem dX3_hasHop_9 : decode cX3_hasHop 9 = .ok (.aload_n 0, 1) := by decide +kernel
theorem dX3_hasHop_10 : decode cX3_hasHop 10 = .ok (.iload_n 2, 1) := by decide +kernel
theorem dX3_hasHop_11 : decode cX3_hasHop 11 = .ok (.invokevirtual 26, 3) := by decide +kernel
theorem dX3_hasHop_14 : decode cX3_hasHop 14 = .ok (.iload_n 1, 1) := by decide +kernel
theorem dX3_hasHop_15 : decode cX3_hasHop 15 = .ok (.if_icmp .ne 5, 3) := by decide +kernel
theorem dX3_hasHop_18 : decode cX3_hasHop 18 = .ok (.iconst 1, 1) := by decide +kernel
theorem dX3_hasHop_19 : decode cX3_hasHop 19 = .ok (.ireturn, 1) := by decide +kernel
theorem dX3_hasHop_20 : decode cX3_hasHop 20 = .ok (.iinc 2 1, 3) := by decide +kernel
theorem dX3_hasHop_23 : decode cX3_hasHop 23 = .ok (.goto (-21), 3) := by decide +kernel
theorem dX3_hasHop_26 : decode cX3_hasHop 26 = .ok (.iconst 0, 1) := by decide +kernel
theorem dX3_hasHop_27 : decode cX3_hasHop 27 = .ok (.ireturn, 1) := by decide +kernel
set_option maxRecDepth 20000 in
theorem ggX3_replaceHop_X3_hopAt : GoodIn wsX3_replaceHop wsX3_hopAt := goodIn_r _ [5, 6, 23, 24] (by decide +kernel) (by decide +kernel)
set_option maxRecDepth 20000 in
theorem gX3_replaceHop_X3_hopAt : GoodIn wsX3_replaceHop (wsV RX3 26 RX3 yX3_hopAt wsX3_hopAt) := goodIn_app (goodIn_of _ (by decide +kernel)) ggX3_replaceHop_X3_hopAt
set_option maxRecDepth 20000 in
theorem ggX3_replaceHop_X3_put : GoodIn wsX3_replaceHop wsX3_put := goodIn_r _ [10, 11, 12, 13, 14, 15, 16, 1, 2, 3, 4, 5, 6, 17, 18, 19, 20, 21, 22, 23, 24] (by decide +kernel) (by decide +kernel)
set_option maxRecDepth 20000 in
theorem gX3_replaceHop_X3_put : GoodIn wsX3_replaceHop (wsV RX3 49 RX3 yX3_put wsX3_put) := goodIn_app (goodIn_of _ (by decide +kernel)) ggX3_replaceHop_X3_put
theorem dX3_replaceHop_0 : decode cX3_replaceHop 0 = .ok (.iconst 0, 1) := by decide +kernel
theorem dX3_replaceHop_1 : decode cX3_replaceHop 1 = .ok (.istore_n 3, 1) := by decide +kernel
theorem dX3_replaceHop_2 : decode cX3_replaceHop 2 = .ok (.iconst 1, 1) := by decide +kernel
theorem dX3_replaceHop_3 : decode cX3_replaceHop 3 = .ok (.istore 4, 2) := by decide +kernel
theorem dX3_replaceHop_5 : decode cX3_replaceHop 5 = .ok (.iload 4, 2) := by decide +kernel
theorem dX3_replaceHop_7 : decode cX3_replaceHop 7 = .ok (.sipush 512, 3) := by decide +kernel
theorem dX3_replaceHop_10 : decode cX3_replaceHop 10 = .ok (.if_icmp .ge 29, 3) := by decide +kernel
theorem dX3_replaceHop_13 : decode cX3_replaceHop 13 = .ok (.aload_n 0, 1) := by decide +kernel
theorem dX3_replaceHop_14 : decode cX3_replaceHop 14 = .ok (.iload 4, 2) := by decide +kernel
theorem dX3_replaceHop_16 : decode cX3_replaceHop 16 = .ok (.invokevirtual 26, 3) := by decide +kernel
theorem dX3_replaceHop_19 : decode cX3_replaceHop 19 = .ok (.iload_n 1, 1) := by decide +kernel
theorem dX3_replaceHop_20 : decode cX3_replaceHop 20 = .ok (.if_icmp .ne 13, 3) := by decide +kernel
theorem dX3_replaceHop_23 : decode cX3_replaceHop 23 = .ok (.aload_n 0, 1) := by decide +kernel
theorem dX3_replaceHop_24 : decode cX3_replaceHop 24 = .ok (.iload 4, 2) := by decide +kernel
theorem dX3_replaceHop_26 : decode cX3_replaceHop 26 = .ok (.iload_n 2, 1) := by decide +kernel
theorem dX3_replaceHop_27 : decode cX3_replaceHop 27 = .ok (.invokevirtual 49, 3) := by decide +kernel
theorem dX3_replaceHop_30 : decode cX3_replaceHop 30 = .ok (.iinc 3 1, 3) := by decide +kernel
theorem dX3_replaceHop_33 : decode cX3_replaceHop 33 = .ok (.iinc 4 1, 3) := by decide +kernel
theorem dX3_replaceHop_36 : decode cX3_replaceHop 36 = .ok (.goto (-31), 3) := by decide +kernel
theorem dX3_replaceHop_39 : decode cX3_replaceHop 39 = .ok (.iload_n 3, 1) := by decide +kernel
theorem dX3_replaceHop_40 : decode cX3_replaceHop 40 = .ok (.ireturn, 1) := by decide +kernel
set_option maxRecDepth 20000 in
theorem ggX3_redundancyOf_X3_hopAt : GoodIn wsX3_redundancyOf wsX3_hopAt := goodIn_r _ [5, 6, 32, 33] (by decide +kernel) (by decide +kernel)
set_option maxRecDepth 20000 in
theorem gX3_redundancyOf_X3_hopAt : GoodIn wsX3_redundancyOf (wsV RX3 26 RX3 yX3_hopAt wsX3_hopAt) := goodIn_app (goodIn_of _ (by decide +kernel)) ggX3_redundancyOf_X3_hopAt
set_option maxRecDepth 20000 in
theorem ggX3_redundancyOf_X3_hopFromAbove : GoodIn wsX3_redundancyOf wsX3_hopFromAbove := goodIn_r _ [10, 1, 2, 3, 4, 5, 6, 32, 33] (by decide +kernel) (by decide +kernel)
set_option maxRecDepth 20000 in
theorem gX3_redundancyOf_X3_hopFromAbove : GoodIn wsX3_redundancyOf (wsV RX3 52 RX3 yX3_hopFromAbove wsX3_hopFromAbove) := goodIn_app (goodIn_of _ (by decide +kernel)) ggX3_redundancyOf_X3_hopFromAbove
set_option maxRecDepth 20000 in
theorem ggX3_redundancyOf_X3_decidesAny : GoodIn wsX3_redundancyOf wsX3_decidesAny := goodIn_r _ [14, 15, 16, 17, 18, 19, 20, 21, 22, 23, 24, 25, 26, 27, 28, 29, 30, 4, 31, 1, 2, 3, 5, 6, 32, 33] (by decide +kernel) (by decide +kernel)
set_option maxRecDepth 20000 in
theorem gX3_redundancyOf_X3_decidesAny : GoodIn wsX3_redundancyOf (wsV RX3 55 RX3 yX3_decidesAny wsX3_decidesAny) := goodIn_app (goodIn_of _ (by decide +kernel)) ggX3_redundancyOf_X3_decidesAny
theorem dX3_redundancyOf_0 : decode cX3_redundancyOf 0 = .ok (.aload_n 0, 1) := by decide +kernel
theorem dX3_redundancyOf_1 : decode cX3_redundancyOf 1 = .ok (.iload_n 1, 1) := by decide +kernel
theorem dX3_redundancyOf_2 : decode cX3_redundancyOf 2 = .ok (.invokevirtual 26, 3) := by decide +kernel
theorem dX3_redundancyOf_5 : decode cX3_redundancyOf 5 = .ok (.istore_n 2, 1) := by decide +kernel
theorem dX3_redundancyOf_6 : decode cX3_redundancyOf 6 = .ok (.iload_n 2, 1) := by decide +kernel
theorem dX3_redundancyOf_7 : decode cX3_redundancyOf 7 = .ok (.bipush (-4), 2) := by decide +kernel
theorem dX3_redundancyOf_9 : decode cX3_redundancyOf 9 = .ok (.if_icmp .ne 6, 3) := by decide +kernel
theorem dX3_redundancyOf_12 : decode cX3_redundancyOf 12 = .ok (.bipush (-4), 2) := by decide +kernel
theorem dX3_redundancyOf_14 : decode cX3_redundancyOf 14 = .ok (.ireturn, 1) := by decide +kernel
theorem dX3_redundancyOf_15 : decode cX3_redundancyOf 15 = .ok (.iload_n 2, 1) := by decide +kernel
theorem dX3_redundancyOf_16 : decode cX3_redundancyOf 16 = .ok (.aload_n 0, 1) := by decide +kernel
theorem dX3_redundancyOf_17 : decode cX3_redundancyOf 17 = .ok (.iload_n 1, 1) := by decide +kernel
theorem dX3_redundancyOf_18 : decode cX3_redundancyOf 18 = .ok (.invokevirtual 52, 3) := by decide +kernel
theorem dX3_redundancyOf_21 : decode cX3_redundancyOf 21 = .ok (.if_icmp .eq 11, 3) := by decide +kernel
theorem dX3_redundancyOf_24 : decode cX3_redundancyOf 24 = .ok (.aload_n 0, 1) := by decide +kernel
theorem dX3_redundancyOf_25 : decode cX3_redundancyOf 25 = .ok (.iload_n 1, 1) := by decide +kernel
theorem dX3_redundancyOf_26 : decode cX3_redundancyOf 26 = .ok (.invokevirtual 55, 3) := by decide +kernel
theorem dX3_redundancyOf_29 : decode cX3_redundancyOf 29 = .ok (.ifCond .ne 7, 3) := by decide +kernel
theorem dX3_redundancyOf_32 : decode cX3_redundancyOf 32 = .ok (.iconst 1, 1) := by decide +kernel
theorem dX3_redundancyOf_33 : decode cX3_redundancyOf 33 = .ok (.goto 4, 3) := by decide +kernel
theorem dX3_redundancyOf_36 : decode cX3_redundancyOf 36 = .ok (.iconst 0, 1) := by decide +kernel
theorem dX3_redundancyOf_37 : decode cX3_redundancyOf 37 = .ok (.ireturn, 1) := by decide +kernel
set_option maxRecDepth 20000 in
theorem ggX3_countRedundant_X3_redundancyOf : GoodIn wsX3_countRedundant wsX3_redundancyOf := goodIn_r _ [5, 6, 7, 8, 4, 9, 10, 11, 12, 13, 14, 15, 16, 17, 18, 19, 20, 21, 22, 23, 24, 25, 26, 27, 28, 29, 30, 31, 32, 33, 34, 35, 36, 37] (by decide +kernel) (by decide +kernel)
set_option maxRecDepth 20000 in
theorem gX3_countRedundant_X3_redundancyOf : GoodIn wsX3_countRedundant (wsV RX3 58 RX3 yX3_redundancyOf wsX3_redundancyOf) := goodIn_app (goodIn_of _ (by decide +kernel)) ggX3_countRedundant_X3_redundancyOf
theorem dX3_countRedundant_0 : decode cX3_countRedundant 0 = .ok (.iconst 0, 1) := by decide +kernel
theorem dX3_countRedundant_1 : decode cX3_countRedundant 1 = .ok (.istore_n 1, 1) := by decide +kernel
theorem dX3_countRedundant_2 : decode cX3_countRedundant 2 = .ok (.iconst 1, 1) := by decide +kernel
theorem dX3_countRedundant_3 : decode cX3_countRedundant 3 = .ok (.istore_n 2, 1) := by decide +kernel
theorem dX3_countRedundant_4 : decode cX3_countRedundant 4 = .ok (.iload_n 2, 1) := by decide +kernel
theorem dX3_countRedundant_5 : decode cX3_countRedundant 5 = .ok (.sipush 512, 3) := by decide +kernel
theorem dX3_countRedundant_8 : decode cX3_countRedundant 8 = .ok (.if_icmp .ge 21, 3) := by decide +kernel
theorem dX3_countRedundant_11 : decode cX3_countRedundant 11 = .ok (.aload_n 0, 1) := by decide +kernel
theorem dX3_countRedundant_12 : decode cX3_countRedundant 12 = .ok (.iload_n 2, 1) := by decide +kernel
theorem dX3_countRedundant_13 : decode cX3_countRedundant 13 = .ok (.invokevirtual 58, 3) := by decide +kernel
theorem dX3_countRedundant_16 : decode cX3_countRedundant 16 = .ok (.iconst 1, 1) := by decide +kernel
theorem dX3_countRedundant_17 : decode cX3_countRedundant 17 = .ok (.if_icmp .ne 6, 3) := by decide +kernel
theorem dX3_countRedundant_20 : decode cX3_countRedundant 20 = .ok (.iinc 1 1, 3) := by decide +kernel
theorem dX3_countRedundant_23 : decode cX3_countRedundant 23 = .ok (.iinc 2 1, 3) := by decide +kernel
theorem dX3_countRedundant_26 : decode cX3_countRedundant 26 = .ok (.goto (-22), 3) := by decide +kernel
theorem dX3_countRedundant_29 : decode cX3_countRedundant 29 = .ok (.iload_n 1, 1) := by decide +kernel
theorem dX3_countRedundant_30 : decode cX3_countRedundant 30 = .ok (.ireturn, 1) := by decide +kernel
set_option maxRecDepth 20000 in
theorem ggX3_decidesAny_X6_firstAddress : GoodIn wsX3_decidesAny wsX6_firstAddress := goodIn_r _ [3, 4, 5, 2, 6, 7, 8, 9, 10, 11] (by decide +kernel) (by decide +kernel)
set_option maxRecDepth 20000 in
theorem gX3_decidesAny_X6_firstAddress_n61 : GoodIn wsX3_decidesAny (wsX6_firstAddress) := ggX3_decidesAny_X6_firstAddress
set_option maxRecDepth 20000 in
theorem ggX3_decidesAny_X6_howManyAddresses : GoodIn wsX3_decidesAny wsX6_howManyAddresses := goodIn_r _ [13, 4, 5, 2, 6, 7, 8, 9, 10, 11] (by decide +kernel) (by decide +kernel)
set_option maxRecDepth 20000 in
theorem gX3_decidesAny_X6_howManyAddresses_n64 : GoodIn wsX3_decidesAny (wsX6_howManyAddresses) := ggX3_decidesAny_X6_howManyAddresses
set_option maxRecDepth 20000 in
theorem ggX3_decidesAny_X3_deciderOf : GoodIn wsX3_decidesAny wsX3_deciderOf := goodIn_r _ [18, 19, 20, 21, 17, 22, 23, 24, 25] (by decide +kernel) (by decide +kernel)
set_option maxRecDepth 20000 in
theorem gX3_decidesAny_X3_deciderOf : GoodIn wsX3_decidesAny (wsV RX3 46 RX3 yX3_deciderOf wsX3_deciderOf) := goodIn_app (goodIn_of _ (by decide +kernel)) ggX3_decidesAny_X3_deciderOf
theorem dX3_decidesAny_0 : decode cX3_decidesAny 0 = .ok (.iload_n 1, 1) := by decide +kernel
theorem dX3_decidesAny_1 : decode cX3_decidesAny 1 = .ok (.invokestatic 61, 3) := by decide +kernel
theorem dX3_decidesAny_4 : decode cX3_decidesAny 4 = .ok (.istore_n 2, 1) := by decide +kernel
theorem dX3_decidesAny_5 : decode cX3_decidesAny 5 = .ok (.iload_n 2, 1) := by decide +kernel
theorem dX3_decidesAny_6 : decode cX3_decidesAny 6 = .ok (.iload_n 1, 1) := by decide +kernel
theorem dX3_decidesAny_7 : decode cX3_decidesAny 7 = .ok (.invokestatic 64, 3) := by decide +kernel
theorem dX3_decidesAny_10 : decode cX3_decidesAny 10 = .ok (.iadd, 1) := by decide +kernel
theorem dX3_decidesAny_11 : decode cX3_decidesAny 11 = .ok (.istore_n 3, 1) := by decide +kernel
theorem dX3_decidesAny_12 : decode cX3_decidesAny 12 = .ok (.iload_n 2, 1) := by decide +kernel
theorem dX3_decidesAny_13 : decode cX3_decidesAny 13 = .ok (.istore 4, 2) := by decide +kernel
theorem dX3_decidesAny_15 : decode cX3_decidesAny 15 = .ok (.iload 4, 2) := by decide +kernel
theorem dX3_decidesAny_17 : decode cX3_decidesAny 17 = .ok (.iload_n 3, 1) := by decide +kernel
theorem dX3_decidesAny_18 : decode cX3_decidesAny 18 = .ok (.if_icmp .ge 21, 3) := by decide +kernel
theorem dX3_decidesAny_21 : decode cX3_decidesAny 21 = .ok (.aload_n 0, 1) := by decide +kernel
theorem dX3_decidesAny_22 : decode cX3_decidesAny 22 = .ok (.iload 4, 2) := by decide +kernel
theorem dX3_decidesAny_24 : decode cX3_decidesAny 24 = .ok (.invokevirtual 46, 3) := by decide +kernel
theorem dX3_decidesAny_27 : decode cX3_decidesAny 27 = .ok (.iload_n 1, 1) := by decide +kernel
theorem dX3_decidesAny_28 : decode cX3_decidesAny 28 = .ok (.if_icmp .ne 5, 3) := by decide +kernel
theorem dX3_decidesAny_31 : decode cX3_decidesAny 31 = .ok (.iconst 1, 1) := by decide +kernel
theorem dX3_decidesAny_32 : decode cX3_decidesAny 32 = .ok (.ireturn, 1) := by decide +kernel
theorem dX3_decidesAny_33 : decode cX3_decidesAny 33 = .ok (.iinc 4 1, 3) := by decide +kernel
theorem dX3_decidesAny_36 : decode cX3_decidesAny 36 = .ok (.goto (-21), 3) := by decide +kernel
theorem dX3_decidesAny_39 : decode cX3_decidesAny 39 = .ok (.iconst 0, 1) := by decide +kernel
theorem dX3_decidesAny_40 : decode cX3_decidesAny 40 = .ok (.ireturn, 1) := by decide +kernel
theorem dX3_setPlace_0 : decode cX3_setPlace 0 = .ok (.iload_n 1, 1) := by decide +kernel
theorem dX3_setPlace_1 : decode cX3_setPlace 1 = .ok (.iconst 1, 1) := by decide +kernel
theorem dX3_setPlace_2 : decode cX3_setPlace 2 = .ok (.if_icmp .lt 48, 3) := by decide +kernel
theorem dX3_setPlace_5 : decode cX3_setPlace 5 = .ok (.iload_n 1, 1) := by decide +kernel
theorem dX3_setPlace_6 : decode cX3_setPlace 6 = .ok (.sipush 512, 3) := by decide +kernel
theorem dX3_setPlace_9 : decode cX3_setPlace 9 = .ok (.if_icmp .ge 41, 3) := by decide +kernel
theorem dX3_setPlace_12 : decode cX3_setPlace 12 = .ok (.iconst 4, 1) := by decide +kernel
theorem dX3_setPlace_13 : decode cX3_setPlace 13 = .ok (.iload_n 1, 1) := by decide +kernel
theorem dX3_setPlace_14 : decode cX3_setPlace 14 = .ok (.bipush 15, 2) := by decide +kernel
theorem dX3_setPlace_16 : decode cX3_setPlace 16 = .ok (.iand, 1) := by decide +kernel
theorem dX3_setPlace_17 : decode cX3_setPlace 17 = .ok (.imul, 1) := by decide +kernel
theorem dX3_setPlace_18 : decode cX3_setPlace 18 = .ok (.istore_n 3, 1) := by decide +kernel
theorem dX3_setPlace_19 : decode cX3_setPlace 19 = .ok (.aload_n 0, 1) := by decide +kernel
theorem dX3_setPlace_20 : decode cX3_setPlace 20 = .ok (.getfield 9, 3) := by decide +kernel
theorem dX3_setPlace_23 : decode cX3_setPlace 23 = .ok (.iload_n 1, 1) := by decide +kernel
theorem dX3_setPlace_24 : decode cX3_setPlace 24 = .ok (.iconst 4, 1) := by decide +kernel
theorem dX3_setPlace_25 : decode cX3_setPlace 25 = .ok (.ishr, 1) := by decide +kernel
theorem dX3_setPlace_26 : decode cX3_setPlace 26 = .ok (.aload_n 0, 1) := by decide +kernel
theorem dX3_setPlace_27 : decode cX3_setPlace 27 = .ok (.getfield 9, 3) := by decide +kernel
theorem dX3_setPlace_30 : decode cX3_setPlace 30 = .ok (.iload_n 1, 1) := by decide +kernel
theorem dX3_setPlace_31 : decode cX3_setPlace 31 = .ok (.iconst 4, 1) := by decide +kernel
theorem dX3_setPlace_32 : decode cX3_setPlace 32 = .ok (.ishr, 1) := by decide +kernel
theorem dX3_setPlace_33 : decode cX3_setPlace 33 = .ok (.laload, 1) := by decide +kernel
theorem dX3_setPlace_34 : decode cX3_setPlace 34 = .ok (.ldc2_w 67, 3) := by decide +kernel
theorem dX3_setPlace_37 : decode cX3_setPlace 37 = .ok (.iload_n 3, 1) := by decide +kernel
theorem dX3_setPlace_38 : decode cX3_setPlace 38 = .ok (.lshl, 1) := by decide +kernel
theorem dX3_setPlace_39 : decode cX3_setPlace 39 = .ok (.ldc2_w 69, 3) := by decide +kernel
theorem dX3_setPlace_42 : decode cX3_setPlace 42 = .ok (.lxor, 1) := by decide +kernel
theorem dX3_setPlace_43 : decode cX3_setPlace 43 = .ok (.land, 1) := by decide +kernel
theorem dX3_setPlace_44 : decode cX3_setPlace 44 = .ok (.iload_n 2, 1) := by decide +kernel
theorem dX3_setPlace_45 : decode cX3_setPlace 45 = .ok (.i2l, 1) := by decide +kernel
theorem dX3_setPlace_46 : decode cX3_setPlace 46 = .ok (.iload_n 3, 1) := by decide +kernel
theorem dX3_setPlace_47 : decode cX3_setPlace 47 = .ok (.lshl, 1) := by decide +kernel
theorem dX3_setPlace_48 : decode cX3_setPlace 48 = .ok (.lor, 1) := by decide +kernel
theorem dX3_setPlace_49 : decode cX3_setPlace 49 = .ok (.lastore, 1) := by decide +kernel
theorem dX3_setPlace_50 : decode cX3_setPlace 50 = .ok (.return_, 1) := by decide +kernel
set_option maxRecDepth 20000 in
theorem ggX4_init_X3_init : GoodIn wsX4_init wsX3_init := goodIn_r _ [14, 15, 2, 3, 16, 17, 18, 24, 25] (by decide +kernel) (by decide +kernel)
set_option maxRecDepth 20000 in
theorem gX4_init_X3_init_n17 : GoodIn wsX4_init (wsX3_init) := ggX4_init_X3_init
theorem dX4_init_0 : decode cX4_init 0 = .ok (.aload_n 0, 1) := by decide +kernel
theorem dX4_init_1 : decode cX4_init 1 = .ok (.invokespecial 3, 3) := by decide +kernel
theorem dX4_init_4 : decode cX4_init 4 = .ok (.aload_n 0, 1) := by decide +kernel
theorem dX4_init_5 : decode cX4_init 5 = .ok (.bipush 100, 2) := by decide +kernel
theorem dX4_init_7 : decode cX4_init 7 = .ok (.newarray .int, 2) := by decide +kernel
theorem dX4_init_9 : decode cX4_init 9 = .ok (.putfield 9, 3) := by decide +kernel
theorem dX4_init_12 : decode cX4_init 12 = .ok (.aload_n 0, 1) := by decide +kernel
theorem dX4_init_13 : decode cX4_init 13 = .ok (.new 15, 3) := by decide +kernel
theorem dX4_init_16 : decode cX4_init 16 = .ok (.dup, 1) := by decide +kernel
theorem dX4_init_17 : decode cX4_init 17 = .ok (.invokespecial 17, 3) := by decide +kernel
theorem dX4_init_20 : decode cX4_init 20 = .ok (.putfield 18, 3) := by decide +kernel
theorem dX4_init_23 : decode cX4_init 23 = .ok (.aload_n 0, 1) := by decide +kernel
theorem dX4_init_24 : decode cX4_init 24 = .ok (.iconst 0, 1) := by decide +kernel
theorem dX4_init_25 : decode cX4_init 25 = .ok (.putfield 22, 3) := by decide +kernel
theorem dX4_init_28 : decode cX4_init 28 = .ok (.aload_n 0, 1) := by decide +kernel
theorem dX4_init_29 : decode cX4_init 29 = .ok (.iconst 0, 1) := by decide +kernel
theorem dX4_init_30 : decode cX4_init 30 = .ok (.putfield 26, 3) := by decide +kernel
theorem dX4_init_33 : decode cX4_init 33 = .ok (.aload_n 0, 1) := by decide +kernel
theorem dX4_init_34 : decode cX4_init 34 = .ok (.iconst 1, 1) := by decide +kernel
theorem dX4_init_35 : decode cX4_init 35 = .ok (.putfield 29, 3) := by decide +kernel
theorem dX4_init_38 : decode cX4_init 38 = .ok (.return_, 1) := by decide +kernel
theorem dX4_addLetter_0 : decode cX4_addLetter 0 = .ok (.aload_n 0, 1) := by decide +kernel
theorem dX4_addLetter_1 : decode cX4_addLetter 1 = .ok (.getfield 22, 3) := by decide +kernel
theorem dX4_addLetter_4 : decode cX4_addLetter 4 = .ok (.bipush 100, 2) := by decide +kernel
theorem dX4_addLetter_6 : decode cX4_addLetter 6 = .ok (.if_icmp .lt 6, 3) := by decide +kernel
theorem dX4_addLetter_9 : decode cX4_addLetter 9 = .ok (.bipush (-3), 2) := by decide +kernel
theorem dX4_addLetter_11 : decode cX4_addLetter 11 = .ok (.ireturn, 1) := by decide +kernel
theorem dX4_addLetter_12 : decode cX4_addLetter 12 = .ok (.aload_n 0, 1) := by decide +kernel
theorem dX4_addLetter_13 : decode cX4_addLetter 13 = .ok (.getfield 9, 3) := by decide +kernel
theorem dX4_addLetter_16 : decode cX4_addLetter 16 = .ok (.aload_n 0, 1) := by decide +kernel
theorem dX4_addLetter_17 : decode cX4_addLetter 17 = .ok (.getfield 22, 3) := by decide +kernel
theorem dX4_addLetter_20 : decode cX4_addLetter 20 = .ok (.iload_n 1, 1) := by decide +kernel
theorem dX4_addLetter_21 : decode cX4_addLetter 21 = .ok (.iastore, 1) := by decide +kernel
theorem dX4_addLetter_22 : decode cX4_addLetter 22 = .ok (.aload_n 0, 1) := by decide +kernel
theorem dX4_addLetter_23 : decode cX4_addLetter 23 = .ok (.dup, 1) := by decide +kernel
theorem dX4_addLetter_24 : decode cX4_addLetter 24 = .ok (.getfield 22, 3) := by decide +kernel
theorem dX4_addLetter_27 : decode cX4_addLetter 27 = .ok (.iconst 1, 1) := by decide +kernel
theorem dX4_addLetter_28 : decode cX4_addLetter 28 = .ok (.iadd, 1) := by decide +kernel
theorem dX4_addLetter_29 : decode cX4_addLetter 29 = .ok (.putfield 22, 3) := by decide +kernel
theorem dX4_addLetter_32 : decode cX4_addLetter 32 = .ok (.aload_n 0, 1) := by decide +kernel
theorem dX4_addLetter_33 : decode cX4_addLetter 33 = .ok (.getfield 22, 3) := by decide +kernel
theorem dX4_addLetter_36 : decode cX4_addLetter 36 = .ok (.ireturn, 1) := by decide +kernel
theorem dX4_makeEmpty_0 : decode cX4_makeEmpty 0 = .ok (.aload_n 0, 1) := by decide +kernel
theorem dX4_makeEmpty_1 : decode cX4_makeEmpty 1 = .ok (.iconst 0, 1) := by decide +kernel
theorem dX4_makeEmpty_2 : decode cX4_makeEmpty 2 = .ok (.putfield 22, 3) := by decide +kernel
theorem dX4_makeEmpty_5 : decode cX4_makeEmpty 5 = .ok (.return_, 1) := by decide +kernel
theorem dX4_toldTable_0 : decode cX4_toldTable 0 = .ok (.aload_n 0, 1) := by decide +kernel
theorem dX4_toldTable_1 : decode cX4_toldTable 1 = .ok (.getfield 18, 3) := by decide +kernel
theorem dX4_toldTable_4 : decode cX4_toldTable 4 = .ok (.areturn, 1) := by decide +kernel
set_option maxRecDepth 20000 in
theorem ggX4_parse_X3_makeEmpty : GoodIn wsX4_parse wsX3_makeEmpty := goodIn_r _ [7, 8, 9, 10, 11, 12, 13, 55, 56] (by decide +kernel) (by decide +kernel)
set_option maxRecDepth 20000 in
theorem gX4_parse_X3_makeEmpty : GoodIn wsX4_parse (wsV RX4 32 RX3 yX3_makeEmpty wsX3_makeEmpty) := goodIn_app (goodIn_of _ (by decide +kernel)) ggX4_parse_X3_makeEmpty
set_option maxRecDepth 20000 in
theorem ggX4_parse_X4_parseEntry : GoodIn wsX4_parse wsX4_parseEntry := goodIn_r _ [18, 2, 1, 19, 20, 21, 22, 17, 23, 24, 25, 26, 27, 28, 29, 30, 31, 32, 6, 33, 8, 34, 35, 36, 37, 38, 39, 40, 9, 41, 42, 43, 44, 45, 46, 47, 48, 49, 50, 51, 52, 53, 54, 55, 56] (by decide +kernel) (by decide +kernel)
set_option maxRecDepth 20000 in
theorem gX4_parse_X4_parseEntry : GoodIn wsX4_parse (wsV RX4 35 RX4 yX4_parseEntry wsX4_parseEntry) := goodIn_app (goodIn_of _ (by decide +kernel)) ggX4_parse_X4_parseEntry
set_option maxRecDepth 20000 in
theorem ggX4_parse_X4_letterHere : GoodIn wsX4_parse wsX4_letterHere := goodIn_r _ [23, 2, 24, 25, 50, 51, 52, 53, 54] (by decide +kernel) (by decide +kernel)
set_option maxRecDepth 20000 in
theorem gX4_parse_X4_letterHere : GoodIn wsX4_parse (wsV RX4 39 RX4 yX4_letterHere wsX4_letterHere) := goodIn_app (goodIn_of _ (by decide +kernel)) ggX4_parse_X4_letterHere
theorem dX4_parse_0 : decode cX4_parse 0 = .ok (.aload_n 0, 1) := by decide +kernel
theorem dX4_parse_1 : decode cX4_parse 1 = .ok (.getfield 18, 3) := by decide +kernel
theorem dX4_parse_4 : decode cX4_parse 4 = .ok (.invokevirtual 32, 3) := by decide +kernel
theorem dX4_parse_7 : decode cX4_parse 7 = .ok (.aload_n 0, 1) := by decide +kernel
theorem dX4_parse_8 : decode cX4_parse 8 = .ok (.iconst 0, 1) := by decide +kernel
theorem dX4_parse_9 : decode cX4_parse 9 = .ok (.putfield 26, 3) := by decide +kernel
theorem dX4_parse_12 : decode cX4_parse 12 = .ok (.iconst 0, 1) := by decide +kernel
theorem dX4_parse_13 : decode cX4_parse 13 = .ok (.istore_n 1, 1) := by decide +kernel
theorem dX4_parse_14 : decode cX4_parse 14 = .ok (.iload_n 1, 1) := by decide +kernel
theorem dX4_parse_15 : decode cX4_parse 15 = .ok (.bipush 100, 2) := by decide +kernel
theorem dX4_parse_17 : decode cX4_parse 17 = .ok (.if_icmp .gt 56, 3) := by decide +kernel
theorem dX4_parse_20 : decode cX4_parse 20 = .ok (.aload_n 0, 1) := by decide +kernel
theorem dX4_parse_21 : decode cX4_parse 21 = .ok (.invokevirtual 35, 3) := by decide +kernel
theorem dX4_parse_24 : decode cX4_parse 24 = .ok (.istore_n 2, 1) := by decide +kernel
theorem dX4_parse_25 : decode cX4_parse 25 = .ok (.iload_n 2, 1) := by decide +kernel
theorem dX4_parse_26 : decode cX4_parse 26 = .ok (.bipush (-4), 2) := by decide +kernel
theorem dX4_parse_28 : decode cX4_parse 28 = .ok (.if_icmp .eq 5, 3) := by decide +kernel
theorem dX4_parse_31 : decode cX4_parse 31 = .ok (.iload_n 2, 1) := by decide +kernel
theorem dX4_parse_32 : decode cX4_parse 32 = .ok (.ireturn, 1) := by decide +kernel
theorem dX4_parse_33 : decode cX4_parse 33 = .ok (.aload_n 0, 1) := by decide +kernel
theorem dX4_parse_34 : decode cX4_parse 34 = .ok (.invokevirtual 39, 3) := by decide +kernel
theorem dX4_parse_37 : decode cX4_parse 37 = .ok (.istore_n 3, 1) := by decide +kernel
theorem dX4_parse_38 : decode cX4_parse 38 = .ok (.iload_n 3, 1) := by decide +kernel
theorem dX4_parse_39 : decode cX4_parse 39 = .ok (.iconst (-1), 1) := by decide +kernel
theorem dX4_parse_40 : decode cX4_parse 40 = .ok (.if_icmp .ne 6, 3) := by decide +kernel
theorem dX4_parse_43 : decode cX4_parse 43 = .ok (.bipush (-4), 2) := by decide +kernel
theorem dX4_parse_45 : decode cX4_parse 45 = .ok (.ireturn, 1) := by decide +kernel
theorem dX4_parse_46 : decode cX4_parse 46 = .ok (.iload_n 3, 1) := by decide +kernel
theorem dX4_parse_47 : decode cX4_parse 47 = .ok (.bipush 59, 2) := by decide +kernel
theorem dX4_parse_49 : decode cX4_parse 49 = .ok (.if_icmp .eq 8, 3) := by decide +kernel
theorem dX4_parse_52 : decode cX4_parse 52 = .ok (.aload_n 0, 1) := by decide +kernel
theorem dX4_parse_53 : decode cX4_parse 53 = .ok (.getfield 26, 3) := by decide +kernel
theorem dX4_parse_56 : decode cX4_parse 56 = .ok (.ireturn, 1) := by decide +kernel
theorem dX4_parse_57 : decode cX4_parse 57 = .ok (.aload_n 0, 1) := by decide +kernel
theorem dX4_parse_58 : decode cX4_parse 58 = .ok (.dup, 1) := by decide +kernel
theorem dX4_parse_59 : decode cX4_parse 59 = .ok (.getfield 26, 3) := by decide +kernel
theorem dX4_parse_62 : decode cX4_parse 62 = .ok (.iconst 1, 1) := by decide +kernel
theorem dX4_parse_63 : decode cX4_parse 63 = .ok (.iadd, 1) := by decide +kernel
theorem dX4_parse_64 : decode cX4_parse 64 = .ok (.putfield 26, 3) := by decide +kernel
theorem dX4_parse_67 : decode cX4_parse 67 = .ok (.iinc 1 1, 3) := by decide +kernel
theorem dX4_parse_70 : decode cX4_parse 70 = .ok (.goto (-56), 3) := by decide +kernel
theorem dX4_parse_73 : decode cX4_parse 73 = .ok (.aload_n 0, 1) := by decide +kernel
theorem dX4_parse_74 : decode cX4_parse 74 = .ok (.getfield 26, 3) := by decide +kernel
theorem dX4_parse_77 : decode cX4_parse 77 = .ok (.ireturn, 1) := by decide +kernel
set_option maxRecDepth 20000 in
theorem ggX4_parseEntry_X4_letterHere : GoodIn wsX4_parseEntry wsX4_letterHere := goodIn_r _ [8, 1, 9, 10, 38, 39, 40, 41, 42] (by decide +kernel) (by decide +kernel)
set_option maxRecDepth 20000 in
theorem gX4_parseEntry_X4_letterHere : GoodIn wsX4_parseEntry (wsV RX4 39 RX4 yX4_letterHere wsX4_letterHere) := goodIn_app (goodIn_of _ (by decide +kernel)) ggX4_parseEntry_X4_letterHere
set_option maxRecDepth 20000 in
theorem ggX4_parseEntry_X4_parseFigures : GoodIn wsX4_parseEntry wsX4_parseFigures := goodIn_r _ [14, 3, 1, 4, 5, 6, 7, 8, 9, 10, 38, 39, 40, 41, 42] (by decide +kernel) (by decide +kernel)
set_option maxRecDepth 20000 in
theorem gX4_parseEntry_X4_parseFigures : GoodIn wsX4_parseEntry (wsV RX4 42 RX4 yX4_parseFigures wsX4_parseFigures) := goodIn_app (goodIn_of _ (by decide +kernel)) ggX4_parseEntry_X4_parseFigures
set_option maxRecDepth 20000 in
theorem ggX4_parseEntry_X3_hopAt : GoodIn wsX4_parseEntry wsX3_hopAt := goodIn_r _ [19, 20, 43, 44] (by decide +kernel) (by decide +kernel)
set_option maxRecDepth 20000 in
theorem gX4_parseEntry_X3_hopAt : GoodIn wsX4_parseEntry (wsV RX4 45 RX3 yX3_hopAt wsX3_hopAt) := goodIn_app (goodIn_of _ (by decide +kernel)) ggX4_parseEntry_X3_hopAt
set_option maxRecDepth 20000 in
theorem ggX4_parseEntry_X6_isHop : GoodIn wsX4_parseEntry wsX6_isHop := goodIn_r _ [23] (by decide +kernel) (by decide +kernel)
set_option maxRecDepth 20000 in
theorem gX4_parseEntry_X6_isHop_n49 : GoodIn wsX4_parseEntry (wsX6_isHop) := ggX4_parseEntry_X6_isHop
set_option maxRecDepth 20000 in
theorem ggX4_parseEntry_X3_put : GoodIn wsX4_parseEntry wsX3_put := goodIn_r _ [27, 28, 29, 22, 30, 21, 23, 31, 16, 17, 18, 19, 20, 32, 33, 34, 35, 36, 37, 43, 44] (by decide +kernel) (by decide +kernel)
set_option maxRecDepth 20000 in
theorem gX4_parseEntry_X3_put : GoodIn wsX4_parseEntry (wsV RX4 53 RX3 yX3_put wsX3_put) := goodIn_app (goodIn_of _ (by decide +kernel)) ggX4_parseEntry_X3_put
theorem dX4_parseEntry_0 : decode cX4_parseEntry 0 = .ok (.aload_n 0, 1) := by decide +kernel
theorem dX4_parseEntry_1 : decode cX4_parseEntry 1 = .ok (.invokevirtual 39, 3) := by decide +kernel
theorem dX4_parseEntry_4 : decode cX4_parseEntry 4 = .ok (.pop, 1) := by decide +kernel
theorem dX4_parseEntry_5 : decode cX4_parseEntry 5 = .ok (.aload_n 0, 1) := by decide +kernel
theorem dX4_parseEntry_6 : decode cX4_parseEntry 6 = .ok (.getfield 26, 3) := by decide +kernel
theorem dX4_parseEntry_9 : decode cX4_parseEntry 9 = .ok (.istore_n 1, 1) := by decide +kernel
theorem dX4_parseEntry_10 : decode cX4_parseEntry 10 = .ok (.aload_n 0, 1) := by decide +kernel
theorem dX4_parseEntry_11 : decode cX4_parseEntry 11 = .ok (.invokevirtual 42, 3) := by decide +kernel
theorem dX4_parseEntry_14 : decode cX4_parseEntry 14 = .ok (.bipush 8, 2) := by decide +kernel
theorem dX4_parseEntry_16 : decode cX4_parseEntry 16 = .ok (.if_icmp .ge 27, 3) := by decide +kernel
theorem dX4_parseEntry_19 : decode cX4_parseEntry 19 = .ok (.aload_n 0, 1) := by decide +kernel
theorem dX4_parseEntry_20 : decode cX4_parseEntry 20 = .ok (.invokevirtual 39, 3) := by decide +kernel
theorem dX4_parseEntry_23 : decode cX4_parseEntry 23 = .ok (.bipush 42, 2) := by decide +kernel
theorem dX4_parseEntry_25 : decode cX4_parseEntry 25 = .ok (.if_icmp .eq 8, 3) := by decide +kernel
theorem dX4_parseEntry_28 : decode cX4_parseEntry 28 = .ok (.aload_n 0, 1) := by decide +kernel
theorem dX4_parseEntry_29 : decode cX4_parseEntry 29 = .ok (.getfield 26, 3) := by decide +kernel
theorem dX4_parseEntry_32 : decode cX4_parseEntry 32 = .ok (.ireturn, 1) := by decide +kernel
theorem dX4_parseEntry_33 : decode cX4_parseEntry 33 = .ok (.aload_n 0, 1) := by decide +kernel
theorem dX4_parseEntry_34 : decode cX4_parseEntry 34 = .ok (.dup, 1) := by decide +kernel
theorem dX4_parseEntry_35 : decode cX4_parseEntry 35 = .ok (.getfield 26, 3) := by decide +kernel
theorem dX4_parseEntry_38 : decode cX4_parseEntry 38 = .ok (.iconst 1, 1) := by decide +kernel
theorem dX4_parseEntry_39 : decode cX4_parseEntry 39 = .ok (.iadd, 1) := by decide +kernel
theorem dX4_parseEntry_40 : decode cX4_parseEntry 40 = .ok (.putfield 26, 3) := by decide +kernel
theorem dX4_parseEntry_43 : decode cX4_parseEntry 43 = .ok (.aload_n 0, 1) := by decide +kernel
theorem dX4_parseEntry_44 : decode cX4_parseEntry 44 = .ok (.invokevirtual 39, 3) := by decide +kernel
theorem dX4_parseEntry_47 : decode cX4_parseEntry 47 = .ok (.bipush 58, 2) := by decide +kernel
theorem dX4_parseEntry_49 : decode cX4_parseEntry 49 = .ok (.if_icmp .eq 8, 3) := by decide +kernel
theorem dX4_parseEntry_52 : decode cX4_parseEntry 52 = .ok (.aload_n 0, 1) := by decide +kernel
theorem dX4_parseEntry_53 : decode cX4_parseEntry 53 = .ok (.getfield 26, 3) := by decide +kernel
theorem dX4_parseEntry_56 : decode cX4_parseEntry 56 = .ok (.ireturn, 1) := by decide +kernel
theorem dX4_parseEntry_57 : decode cX4_parseEntry 57 = .ok (.aload_n 0, 1) := by decide +kernel
theorem dX4_parseEntry_58 : decode cX4_parseEntry 58 = .ok (.dup, 1) := by decide +kernel
theorem dX4_parseEntry_59 : decode cX4_parseEntry 59 = .ok (.getfield 26, 3) := by decide +kernel
theorem dX4_parseEntry_62 : decode cX4_parseEntry 62 = .ok (.iconst 1, 1) := by decide +kernel
theorem dX4_parseEntry_63 : decode cX4_parseEntry 63 = .ok (.iadd, 1) := by decide +kernel
theorem dX4_parseEntry_64 : decode cX4_parseEntry 64 = .ok (.putfield 26, 3) := by decide +kernel
theorem dX4_parseEntry_67 : decode cX4_parseEntry 67 = .ok (.aload_n 0, 1) := by decide +kernel
theorem dX4_parseEntry_68 : decode cX4_parseEntry 68 = .ok (.getfield 18, 3) := by decide +kernel
theorem dX4_parseEntry_71 : decode cX4_parseEntry 71 = .ok (.aload_n 0, 1) := by decide +kernel
theorem dX4_parseEntry_72 : decode cX4_parseEntry 72 = .ok (.getfield 29, 3) := by decide +kernel
theorem dX4_parseEntry_75 : decode cX4_parseEntry 75 = .ok (.invokevirtual 45, 3) := by decide +kernel
theorem dX4_parseEntry_78 : decode cX4_parseEntry 78 = .ok (.bipush (-4), 2) := by decide +kernel
theorem dX4_parseEntry_80 : decode cX4_parseEntry 80 = .ok (.if_icmp .eq 5, 3) := by decide +kernel
theorem dX4_parseEntry_83 : decode cX4_parseEntry 83 = .ok (.iload_n 1, 1) := by decide +kernel
theorem dX4_parseEntry_84 : decode cX4_parseEntry 84 = .ok (.ireturn, 1) := by decide +kernel
theorem dX4_parseEntry_85 : decode cX4_parseEntry 85 = .ok (.aload_n 0, 1) := by decide +kernel
theorem dX4_parseEntry_86 : decode cX4_parseEntry 86 = .ok (.invokevirtual 39, 3) := by decide +kernel
theorem dX4_parseEntry_89 : decode cX4_parseEntry 89 = .ok (.bipush 48, 2) := by decide +kernel
theorem dX4_parseEntry_91 : decode cX4_parseEntry 91 = .ok (.isub, 1) := by decide +kernel
theorem dX4_parseEntry_92 : decode cX4_parseEntry 92 = .ok (.istore_n 2, 1) := by decide +kernel
theorem dX4_parseEntry_93 : decode cX4_parseEntry 93 = .ok (.iload_n 2, 1) := by decide +kernel
theorem dX4_parseEntry_94 : decode cX4_parseEntry 94 = .ok (.invokestatic 49, 3) := by decide +kernel
theorem dX4_parseEntry_97 : decode cX4_parseEntry 97 = .ok (.ifCond .ne 8, 3) := by decide +kernel
theorem dX4_parseEntry_100 : decode cX4_parseEntry 100 = .ok (.aload_n 0, 1) := by decide +kernel
theorem dX4_parseEntry_101 : decode cX4_parseEntry 101 = .ok (.getfield 26, 3) := by decide +kernel
theorem dX4_parseEntry_104 : decode cX4_parseEntry 104 = .ok (.ireturn, 1) := by decide +kernel
theorem dX4_parseEntry_105 : decode cX4_parseEntry 105 = .ok (.aload_n 0, 1) := by decide +kernel
theorem dX4_parseEntry_106 : decode cX4_parseEntry 106 = .ok (.dup, 1) := by decide +kernel
theorem dX4_parseEntry_107 : decode cX4_parseEntry 107 = .ok (.getfield 26, 3) := by decide +kernel
theorem dX4_parseEntry_110 : decode cX4_parseEntry 110 = .ok (.iconst 1, 1) := by decide +kernel
theorem dX4_parseEntry_111 : decode cX4_parseEntry 111 = .ok (.iadd, 1) := by decide +kernel
theorem dX4_parseEntry_112 : decode cX4_parseEntry 112 = .ok (.putfield 26, 3) := by decide +kernel
theorem dX4_parseEntry_115 : decode cX4_parseEntry 115 = .ok (.aload_n 0, 1) := by decide +kernel
theorem dX4_parseEntry_116 : decode cX4_parseEntry 116 = .ok (.getfield 18, 3) := by decide +kernel
theorem dX4_parseEntry_119 : decode cX4_parseEntry 119 = .ok (.aload_n 0, 1) := by decide +kernel
theorem dX4_parseEntry_120 : decode cX4_parseEntry 120 = .ok (.getfield 29, 3) := by decide +kernel
theorem dX4_parseEntry_123 : decode cX4_parseEntry 123 = .ok (.iload_n 2, 1) := by decide +kernel
theorem dX4_parseEntry_124 : decode cX4_parseEntry 124 = .ok (.invokevirtual 53, 3) := by decide +kernel
theorem dX4_parseEntry_127 : decode cX4_parseEntry 127 = .ok (.bipush (-4), 2) := by decide +kernel
theorem dX4_parseEntry_129 : decode cX4_parseEntry 129 = .ok (.ireturn, 1) := by decide +kernel
set_option maxRecDepth 20000 in
theorem ggX4_parseFigures_X4_letterHere : GoodIn wsX4_parseFigures wsX4_letterHere := goodIn_r _ [7, 2, 8, 9, 10, 11, 12, 13, 14] (by decide +kernel) (by decide +kernel)
set_option maxRecDepth 20000 in
theorem gX4_parseFigures_X4_letterHere : GoodIn wsX4_parseFigures (wsV RX4 39 RX4 yX4_letterHere wsX4_letterHere) := goodIn_app (goodIn_of _ (by decide +kernel)) ggX4_parseFigures_X4_letterHere
theorem dX4_parseFigures_0 : decode cX4_parseFigures 0 = .ok (.aload_n 0, 1) := by decide +kernel
theorem dX4_parseFigures_1 : decode cX4_parseFigures 1 = .ok (.iconst 1, 1) := by decide +kernel
theorem dX4_parseFigures_2 : decode cX4_parseFigures 2 = .ok (.putfield 29, 3) := by decide +kernel
theorem dX4_parseFigures_5 : decode cX4_parseFigures 5 = .ok (.iconst 0, 1) := by decide +kernel
theorem dX4_parseFigures_6 : decode cX4_parseFigures 6 = .ok (.istore_n 1, 1) := by decide +kernel
theorem dX4_parseFigures_7 : decode cX4_parseFigures 7 = .ok (.iload_n 1, 1) := by decide +kernel
theorem dX4_parseFigures_8 : decode cX4_parseFigures 8 = .ok (.bipush 8, 2) := by decide +kernel
theorem dX4_parseFigures_10 : decode cX4_parseFigures 10 = .ok (.if_icmp .ge 53, 3) := by decide +kernel
theorem dX4_parseFigures_13 : decode cX4_parseFigures 13 = .ok (.aload_n 0, 1) := by decide +kernel
theorem dX4_parseFigures_14 : decode cX4_parseFigures 14 = .ok (.invokevirtual 39, 3) := by decide +kernel
theorem dX4_parseFigures_17 : decode cX4_parseFigures 17 = .ok (.istore_n 2, 1) := by decide +kernel
theorem dX4_parseFigures_18 : decode cX4_parseFigures 18 = .ok (.iload_n 2, 1) := by decide +kernel
theorem dX4_parseFigures_19 : decode cX4_parseFigures 19 = .ok (.bipush 48, 2) := by decide +kernel
theorem dX4_parseFigures_21 : decode cX4_parseFigures 21 = .ok (.if_icmp .eq 11, 3) := by decide +kernel
theorem dX4_parseFigures_24 : decode cX4_parseFigures 24 = .ok (.iload_n 2, 1) := by decide +kernel
theorem dX4_parseFigures_25 : decode cX4_parseFigures 25 = .ok (.bipush 49, 2) := by decide +kernel
theorem dX4_parseFigures_27 : decode cX4_parseFigures 27 = .ok (.if_icmp .eq 5, 3) := by decide +kernel
theorem dX4_parseFigures_30 : decode cX4_parseFigures 30 = .ok (.iload_n 1, 1) := by decide +kernel
theorem dX4_parseFigures_31 : decode cX4_parseFigures 31 = .ok (.ireturn, 1) := by decide +kernel
theorem dX4_parseFigures_32 : decode cX4_parseFigures 32 = .ok (.aload_n 0, 1) := by decide +kernel
theorem dX4_parseFigures_33 : decode cX4_parseFigures 33 = .ok (.iconst 2, 1) := by decide +kernel
theorem dX4_parseFigures_34 : decode cX4_parseFigures 34 = .ok (.aload_n 0, 1) := by decide +kernel
theorem dX4_parseFigures_35 : decode cX4_parseFigures 35 = .ok (.getfield 29, 3) := by decide +kernel
theorem dX4_parseFigures_38 : decode cX4_parseFigures 38 = .ok (.imul, 1) := by decide +kernel
theorem dX4_parseFigures_39 : decode cX4_parseFigures 39 = .ok (.iload_n 2, 1) := by decide +kernel
theorem dX4_parseFigures_40 : decode cX4_parseFigures 40 = .ok (.bipush 48, 2) := by decide +kernel
theorem dX4_parseFigures_42 : decode cX4_parseFigures 42 = .ok (.isub, 1) := by decide +kernel
theorem dX4_parseFigures_43 : decode cX4_parseFigures 43 = .ok (.iadd, 1) := by decide +kernel
theorem dX4_parseFigures_44 : decode cX4_parseFigures 44 = .ok (.putfield 29, 3) := by decide +kernel
theorem dX4_parseFigures_47 : decode cX4_parseFigures 47 = .ok (.aload_n 0, 1) := by decide +kernel
theorem dX4_parseFigures_48 : decode cX4_parseFigures 48 = .ok (.dup, 1) := by decide +kernel
theorem dX4_parseFigures_49 : decode cX4_parseFigures 49 = .ok (.getfield 26, 3) := by decide +kernel
theorem dX4_parseFigures_52 : decode cX4_parseFigures 52 = .ok (.iconst 1, 1) := by decide +kernel
theorem dX4_parseFigures_53 : decode cX4_parseFigures 53 = .ok (.iadd, 1) := by decide +kernel
theorem dX4_parseFigures_54 : decode cX4_parseFigures 54 = .ok (.putfield 26, 3) := by decide +kernel
theorem dX4_parseFigures_57 : decode cX4_parseFigures 57 = .ok (.iinc 1 1, 3) := by decide +kernel
theorem dX4_parseFigures_60 : decode cX4_parseFigures 60 = .ok (.goto (-53), 3) := by decide +kernel
theorem dX4_parseFigures_63 : decode cX4_parseFigures 63 = .ok (.bipush 8, 2) := by decide +kernel
theorem dX4_parseFigures_65 : decode cX4_parseFigures 65 = .ok (.ireturn, 1) := by decide +kernel
theorem dX4_letterHere_0 : decode cX4_letterHere 0 = .ok (.aload_n 0, 1) := by decide +kernel
theorem dX4_letterHere_1 : decode cX4_letterHere 1 = .ok (.getfield 26, 3) := by decide +kernel
theorem dX4_letterHere_4 : decode cX4_letterHere 4 = .ok (.aload_n 0, 1) := by decide +kernel
theorem dX4_letterHere_5 : decode cX4_letterHere 5 = .ok (.getfield 22, 3) := by decide +kernel
theorem dX4_letterHere_8 : decode cX4_letterHere 8 = .ok (.if_icmp .ge 30, 3) := by decide +kernel
theorem dX4_letterHere_11 : decode cX4_letterHere 11 = .ok (.aload_n 0, 1) := by decide +kernel
theorem dX4_letterHere_12 : decode cX4_letterHere 12 = .ok (.getfield 9, 3) := by decide +kernel
theorem dX4_letterHere_15 : decode cX4_letterHere 15 = .ok (.aload_n 0, 1) := by decide +kernel
theorem dX4_letterHere_16 : decode cX4_letterHere 16 = .ok (.getfield 26, 3) := by decide +kernel
theorem dX4_letterHere_19 : decode cX4_letterHere 19 = .ok (.iaload, 1) := by decide +kernel
theorem dX4_letterHere_20 : decode cX4_letterHere 20 = .ok (.bipush 32, 2) := by decide +kernel
theorem dX4_letterHere_22 : decode cX4_letterHere 22 = .ok (.if_icmp .ne 16, 3) := by decide +kernel
theorem dX4_letterHere_25 : decode cX4_letterHere 25 = .ok (.aload_n 0, 1) := by decide +kernel
theorem dX4_letterHere_26 : decode cX4_letterHere 26 = .ok (.dup, 1) := by decide +kernel
theorem dX4_letterHere_27 : decode cX4_letterHere 27 = .ok (.getfield 26, 3) := by decide +kernel
theorem dX4_letterHere_30 : decode cX4_letterHere 30 = .ok (.iconst 1, 1) := by decide +kernel
theorem dX4_letterHere_31 : decode cX4_letterHere 31 = .ok (.iadd, 1) := by decide +kernel
theorem dX4_letterHere_32 : decode cX4_letterHere 32 = .ok (.putfield 26, 3) := by decide +kernel
theorem dX4_letterHere_35 : decode cX4_letterHere 35 = .ok (.goto (-35), 3) := by decide +kernel
theorem dX4_letterHere_38 : decode cX4_letterHere 38 = .ok (.aload_n 0, 1) := by decide +kernel
theorem dX4_letterHere_39 : decode cX4_letterHere 39 = .ok (.getfield 26, 3) := by decide +kernel
theorem dX4_letterHere_42 : decode cX4_letterHere 42 = .ok (.aload_n 0, 1) := by decide +kernel
theorem dX4_letterHere_43 : decode cX4_letterHere 43 = .ok (.getfield 22, 3) := by decide +kernel
theorem dX4_letterHere_46 : decode cX4_letterHere 46 = .ok (.if_icmp .ge 15, 3) := by decide +kernel
theorem dX4_letterHere_49 : decode cX4_letterHere 49 = .ok (.aload_n 0, 1) := by decide +kernel
theorem dX4_letterHere_50 : decode cX4_letterHere 50 = .ok (.getfield 9, 3) := by decide +kernel
theorem dX4_letterHere_53 : decode cX4_letterHere 53 = .ok (.aload_n 0, 1) := by decide +kernel
theorem dX4_letterHere_54 : decode cX4_letterHere 54 = .ok (.getfield 26, 3) := by decide +kernel
theorem dX4_letterHere_57 : decode cX4_letterHere 57 = .ok (.iaload, 1) := by decide +kernel
theorem dX4_letterHere_58 : decode cX4_letterHere 58 = .ok (.goto 4, 3) := by decide +kernel
theorem dX4_letterHere_61 : decode cX4_letterHere 61 = .ok (.iconst (-1), 1) := by decide +kernel
theorem dX4_letterHere_62 : decode cX4_letterHere 62 = .ok (.ireturn, 1) := by decide +kernel
set_option maxRecDepth 20000 in
theorem ggX5_init_X3_init : GoodIn wsX5_init wsX3_init := goodIn_r _ [16, 17, 2, 3, 18, 19, 20, 28, 29] (by decide +kernel) (by decide +kernel)
set_option maxRecDepth 20000 in
theorem gX5_init_X3_init_n29 : GoodIn wsX5_init (wsX3_init) := ggX5_init_X3_init
theorem dX5_init_0 : decode cX5_init 0 = .ok (.aload_n 0, 1) := by decide +kernel
theorem dX5_init_1 : decode cX5_init 1 = .ok (.invokespecial 3, 3) := by decide +kernel
theorem dX5_init_4 : decode cX5_init 4 = .ok (.aload_n 0, 1) := by decide +kernel
theorem dX5_init_5 : decode cX5_init 5 = .ok (.sipush 512, 3) := by decide +kernel
theorem dX5_init_8 : decode cX5_init 8 = .ok (.newarray .int, 2) := by decide +kernel
theorem dX5_init_10 : decode cX5_init 10 = .ok (.putfield 9, 3) := by decide +kernel
theorem dX5_init_13 : decode cX5_init 13 = .ok (.aload_n 0, 1) := by decide +kernel
theorem dX5_init_14 : decode cX5_init 14 = .ok (.sipush 512, 3) := by decide +kernel
theorem dX5_init_17 : decode cX5_init 17 = .ok (.newarray .int, 2) := by decide +kernel
theorem dX5_init_19 : decode cX5_init 19 = .ok (.putfield 15, 3) := by decide +kernel
theorem dX5_init_22 : decode cX5_init 22 = .ok (.aload_n 0, 1) := by decide +kernel
theorem dX5_init_23 : decode cX5_init 23 = .ok (.sipush 512, 3) := by decide +kernel
theorem dX5_init_26 : decode cX5_init 26 = .ok (.newarray .int, 2) := by decide +kernel
theorem dX5_init_28 : decode cX5_init 28 = .ok (.putfield 18, 3) := by decide +kernel
theorem dX5_init_31 : decode cX5_init 31 = .ok (.aload_n 0, 1) := by decide +kernel
theorem dX5_init_32 : decode cX5_init 32 = .ok (.sipush 512, 3) := by decide +kernel
theorem dX5_init_35 : decode cX5_init 35 = .ok (.newarray .int, 2) := by decide +kernel
theorem dX5_init_37 : decode cX5_init 37 = .ok (.putfield 21, 3) := by decide +kernel
theorem dX5_init_40 : decode cX5_init 40 = .ok (.aload_n 0, 1) := by decide +kernel
theorem dX5_init_41 : decode cX5_init 41 = .ok (.sipush 512, 3) := by decide +kernel
theorem dX5_init_44 : decode cX5_init 44 = .ok (.newarray .int, 2) := by decide +kernel
theorem dX5_init_46 : decode cX5_init 46 = .ok (.putfield 24, 3) := by decide +kernel
theorem dX5_init_49 : decode cX5_init 49 = .ok (.aload_n 0, 1) := by decide +kernel
theorem dX5_init_50 : decode cX5_init 50 = .ok (.new 27, 3) := by decide +kernel
theorem dX5_init_53 : decode cX5_init 53 = .ok (.dup, 1) := by decide +kernel
theorem dX5_init_54 : decode cX5_init 54 = .ok (.invokespecial 29, 3) := by decide +kernel
theorem dX5_init_57 : decode cX5_init 57 = .ok (.putfield 30, 3) := by decide +kernel
theorem dX5_init_60 : decode cX5_init 60 = .ok (.aload_n 0, 1) := by decide +kernel
theorem dX5_init_61 : decode cX5_init 61 = .ok (.new 27, 3) := by decide +kernel
theorem dX5_init_64 : decode cX5_init 64 = .ok (.dup, 1) := by decide +kernel
theorem dX5_init_65 : decode cX5_init 65 = .ok (.invokespecial 29, 3) := by decide +kernel
theorem dX5_init_68 : decode cX5_init 68 = .ok (.putfield 34, 3) := by decide +kernel
theorem dX5_init_71 : decode cX5_init 71 = .ok (.return_, 1) := by decide +kernel
set_option maxRecDepth 20000 in
theorem ggX5_make_X3_takeFrom : GoodIn wsX5_make wsX3_takeFrom := goodIn_r _ [8, 9, 10, 11, 12, 13, 14, 80, 81] (by decide +kernel) (by decide +kernel)
set_option maxRecDepth 20000 in
theorem gX5_make_X3_takeFrom : GoodIn wsX5_make (wsV RX5 37 RX3 yX3_takeFrom wsX3_takeFrom) := goodIn_app (goodIn_of _ (by decide +kernel)) ggX5_make_X3_takeFrom
set_option maxRecDepth 20000 in
theorem ggX5_make_X5_spread : GoodIn wsX5_make wsX5_spread := goodIn_r _ [18, 19, 20, 21, 22, 23, 24, 25, 7, 26, 9, 80, 81] (by decide +kernel) (by decide +kernel)
set_option maxRecDepth 20000 in
theorem gX5_make_X5_spread : GoodIn wsX5_make (va_wsS RX5 41 yX5_spread wsX5_spread) := goodIn_app (goodIn_of _ (by decide +kernel)) ggX5_make_X5_spread
set_option maxRecDepth 20000 in
theorem ggX5_make_X5_findBest : GoodIn wsX5_make wsX5_findBest := goodIn_r _ [30, 31, 2, 32, 73, 74, 75, 76, 77, 78, 79] (by decide +kernel) (by decide +kernel)
set_option maxRecDepth 20000 in
theorem gX5_make_X5_findBest : GoodIn wsX5_make (wsV RX5 45 RX5 yX5_findBest wsX5_findBest) := goodIn_app (goodIn_of _ (by decide +kernel)) ggX5_make_X5_findBest
set_option maxRecDepth 20000 in
theorem ggX5_make_X5_findLeast : GoodIn wsX5_make wsX5_findLeast := goodIn_r _ [36, 37, 38, 31, 39, 40, 41, 7, 42, 9, 14, 43, 44, 45, 46, 47, 48, 17, 49, 50, 51, 52, 53, 54, 55, 56, 57, 58, 59, 60, 61, 62, 63, 64, 65, 66, 24, 25, 26, 67, 68, 69, 70, 71, 72, 73, 74, 75, 76, 77, 78, 79, 80, 81] (by decide +kernel) (by decide +kernel)
set_option maxRecDepth 20000 in
theorem gX5_make_X5_findLeast : GoodIn wsX5_make (wsV RX5 48 RX5 yX5_findLeast wsX5_findLeast) := goodIn_app (goodIn_of _ (by decide +kernel)) ggX5_make_X5_findLeast
theorem dX5_make_0 : decode cX5_make 0 = .ok (.aload_n 0, 1) := by decide +kernel
theorem dX5_make_1 : decode cX5_make 1 = .ok (.getfield 30, 3) := by decide +kernel
theorem dX5_make_4 : decode cX5_make 4 = .ok (.aload_n 2, 1) := by decide +kernel
theorem dX5_make_5 : decode cX5_make 5 = .ok (.invokevirtual 37, 3) := by decide +kernel
theorem dX5_make_8 : decode cX5_make 8 = .ok (.aload_n 1, 1) := by decide +kernel
theorem dX5_make_9 : decode cX5_make 9 = .ok (.aload_n 0, 1) := by decide +kernel
theorem dX5_make_10 : decode cX5_make 10 = .ok (.getfield 9, 3) := by decide +kernel
theorem dX5_make_13 : decode cX5_make 13 = .ok (.invokestatic 41, 3) := by decide +kernel
theorem dX5_make_16 : decode cX5_make 16 = .ok (.aload_n 0, 1) := by decide +kernel
theorem dX5_make_17 : decode cX5_make 17 = .ok (.getfield 30, 3) := by decide +kernel
theorem dX5_make_20 : decode cX5_make 20 = .ok (.aload_n 0, 1) := by decide +kernel
theorem dX5_make_21 : decode cX5_make 21 = .ok (.getfield 15, 3) := by decide +kernel
theorem dX5_make_24 : decode cX5_make 24 = .ok (.invokestatic 41, 3) := by decide +kernel
theorem dX5_make_27 : decode cX5_make 27 = .ok (.aload_n 0, 1) := by decide +kernel
theorem dX5_make_28 : decode cX5_make 28 = .ok (.invokevirtual 45, 3) := by decide +kernel
theorem dX5_make_31 : decode cX5_make 31 = .ok (.aload_n 0, 1) := by decide +kernel
theorem dX5_make_32 : decode cX5_make 32 = .ok (.invokevirtual 48, 3) := by decide +kernel
theorem dX5_make_35 : decode cX5_make 35 = .ok (.return_, 1) := by decide +kernel
theorem dX5_leastTable_0 : decode cX5_leastTable 0 = .ok (.aload_n 0, 1) := by decide +kernel
theorem dX5_leastTable_1 : decode cX5_leastTable 1 = .ok (.getfield 34, 3) := by decide +kernel
theorem dX5_leastTable_4 : decode cX5_leastTable 4 = .ok (.areturn, 1) := by decide +kernel
set_option maxRecDepth 20000 in
theorem ggX5_hopsBeneath_X6_isPrefix : GoodIn wsX5_hopsBeneath wsX6_isPrefix := goodIn_r _ [4] (by decide +kernel) (by decide +kernel)
set_option maxRecDepth 20000 in
theorem gX5_hopsBeneath_X6_isPrefix_n51 : GoodIn wsX5_hopsBeneath (wsX6_isPrefix) := ggX5_hopsBeneath_X6_isPrefix
theorem dX5_hopsBeneath_0 : decode cX5_hopsBeneath 0 = .ok (.iload_n 1, 1) := by decide +kernel
theorem dX5_hopsBeneath_1 : decode cX5_hopsBeneath 1 = .ok (.invokestatic 51, 3) := by decide +kernel
theorem dX5_hopsBeneath_4 : decode cX5_hopsBeneath 4 = .ok (.ifCond .eq 12, 3) := by decide +kernel
theorem dX5_hopsBeneath_7 : decode cX5_hopsBeneath 7 = .ok (.aload_n 0, 1) := by decide +kernel
theorem dX5_hopsBeneath_8 : decode cX5_hopsBeneath 8 = .ok (.getfield 9, 3) := by decide +kernel
theorem dX5_hopsBeneath_11 : decode cX5_hopsBeneath 11 = .ok (.iload_n 1, 1) := by decide +kernel
theorem dX5_hopsBeneath_12 : decode cX5_hopsBeneath 12 = .ok (.iaload, 1) := by decide +kernel
theorem dX5_hopsBeneath_13 : decode cX5_hopsBeneath 13 = .ok (.goto 4, 3) := by decide +kernel
theorem dX5_hopsBeneath_16 : decode cX5_hopsBeneath 16 = .ok (.iconst 0, 1) := by decide +kernel
theorem dX5_hopsBeneath_17 : decode cX5_hopsBeneath 17 = .ok (.ireturn, 1) := by decide +kernel
set_option maxRecDepth 20000 in
theorem ggX5_installedHopsBeneath_X6_isPrefix : GoodIn wsX5_installedHopsBeneath wsX6_isPrefix := goodIn_r _ [4] (by decide +kernel) (by decide +kernel)
set_option maxRecDepth 20000 in
theorem gX5_installedHopsBeneath_X6_isPrefix_n51 : GoodIn wsX5_installedHopsBeneath (wsX6_isPrefix) := ggX5_installedHopsBeneath_X6_isPrefix
theorem dX5_installedHopsBeneath_0 : decode cX5_installedHopsBeneath 0 = .ok (.iload_n 1, 1) := by decide +kernel
theorem dX5_installedHopsBeneath_1 : decode cX5_installedHopsBeneath 1 = .ok (.invokestatic 51, 3) := by decide +kernel
theorem dX5_installedHopsBeneath_4 : decode cX5_installedHopsBeneath 4 = .ok (.ifCond .eq 12, 3) := by decide +kernel
theorem dX5_installedHopsBeneath_7 : decode cX5_installedHopsBeneath 7 = .ok (.aload_n 0, 1) := by decide +kernel
theorem dX5_installedHopsBeneath_8 : decode cX5_installedHopsBeneath 8 = .ok (.getfield 15, 3) := by decide +kernel
theorem dX5_installedHopsBeneath_11 : decode cX5_installedHopsBeneath 11 = .ok (.iload_n 1, 1) := by decide +kernel
theorem dX5_installedHopsBeneath_12 : decode cX5_installedHopsBeneath 12 = .ok (.iaload, 1) := by decide +kernel
theorem dX5_installedHopsBeneath_13 : decode cX5_installedHopsBeneath 13 = .ok (.goto 4, 3) := by decide +kernel
theorem dX5_installedHopsBeneath_16 : decode cX5_installedHopsBeneath 16 = .ok (.iconst 0, 1) := by decide +kernel
theorem dX5_installedHopsBeneath_17 : decode cX5_installedHopsBeneath 17 = .ok (.ireturn, 1) := by decide +kernel
set_option maxRecDepth 20000 in
theorem ggX5_bestHops_X6_isPrefix : GoodIn wsX5_bestHops wsX6_isPrefix := goodIn_r _ [4] (by decide +kernel) (by decide +kernel)
set_option maxRecDepth 20000 in
theorem gX5_bestHops_X6_isPrefix_n51 : GoodIn wsX5_bestHops (wsX6_isPrefix) := ggX5_bestHops_X6_isPrefix
theorem dX5_bestHops_0 : decode cX5_bestHops 0 = .ok (.iload_n 1, 1) := by decide +kernel
theorem dX5_bestHops_1 : decode cX5_bestHops 1 = .ok (.invokestatic 51, 3) := by decide +kernel
theorem dX5_bestHops_4 : decode cX5_bestHops 4 = .ok (.ifCond .eq 12, 3) := by decide +kernel
theorem dX5_bestHops_7 : decode cX5_bestHops 7 = .ok (.aload_n 0, 1) := by decide +kernel
theorem dX5_bestHops_8 : decode cX5_bestHops 8 = .ok (.getfield 18, 3) := by decide +kernel
theorem dX5_bestHops_11 : decode cX5_bestHops 11 = .ok (.iload_n 1, 1) := by decide +kernel
theorem dX5_bestHops_12 : decode cX5_bestHops 12 = .ok (.iaload, 1) := by decide +kernel
theorem dX5_bestHops_13 : decode cX5_bestHops 13 = .ok (.goto 4, 3) := by decide +kernel
theorem dX5_bestHops_16 : decode cX5_bestHops 16 = .ok (.iconst 0, 1) := by decide +kernel
theorem dX5_bestHops_17 : decode cX5_bestHops 17 = .ok (.ireturn, 1) := by decide +kernel
set_option maxRecDepth 20000 in
theorem ggX5_easeOf_X6_isPrefix : GoodIn wsX5_easeOf wsX6_isPrefix := goodIn_r _ [4] (by decide +kernel) (by decide +kernel)
set_option maxRecDepth 20000 in
theorem gX5_easeOf_X6_isPrefix_n51 : GoodIn wsX5_easeOf (wsX6_isPrefix) := ggX5_easeOf_X6_isPrefix
theorem dX5_easeOf_0 : decode cX5_easeOf 0 = .ok (.iload_n 1, 1) := by decide +kernel
theorem dX5_easeOf_1 : decode cX5_easeOf 1 = .ok (.invokestatic 51, 3) := by decide +kernel
theorem dX5_easeOf_4 : decode cX5_easeOf 4 = .ok (.ifCond .eq 12, 3) := by decide +kernel
theorem dX5_easeOf_7 : decode cX5_easeOf 7 = .ok (.aload_n 0, 1) := by decide +kernel
theorem dX5_easeOf_8 : decode cX5_easeOf 8 = .ok (.getfield 21, 3) := by decide +kernel
theorem dX5_easeOf_11 : decode cX5_easeOf 11 = .ok (.iload_n 1, 1) := by decide +kernel
theorem dX5_easeOf_12 : decode cX5_easeOf 12 = .ok (.iaload, 1) := by decide +kernel
theorem dX5_easeOf_13 : decode cX5_easeOf 13 = .ok (.goto 4, 3) := by decide +kernel
theorem dX5_easeOf_16 : decode cX5_easeOf 16 = .ok (.iconst 0, 1) := by decide +kernel
theorem dX5_easeOf_17 : decode cX5_easeOf 17 = .ok (.ireturn, 1) := by decide +kernel
set_option maxRecDepth 20000 in
theorem ggX5_costBy_X5_easeOf : GoodIn wsX5_costBy wsX5_easeOf := goodIn_r _ [5, 6, 7, 8, 9, 18, 19, 20, 21, 22, 23, 24] (by decide +kernel) (by decide +kernel)
set_option maxRecDepth 20000 in
theorem gX5_costBy_X5_easeOf : GoodIn wsX5_costBy (wsV RX5 55 RX5 yX5_easeOf wsX5_easeOf) := goodIn_app (goodIn_of _ (by decide +kernel)) ggX5_costBy_X5_easeOf
set_option maxRecDepth 20000 in
theorem ggX5_costBy_X5_bestHops : GoodIn wsX5_costBy wsX5_bestHops := goodIn_r _ [13, 14, 7, 8, 9, 18, 19, 20, 21, 22, 23, 24] (by decide +kernel) (by decide +kernel)
set_option maxRecDepth 20000 in
theorem gX5_costBy_X5_bestHops : GoodIn wsX5_costBy (wsV RX5 59 RX5 yX5_bestHops wsX5_bestHops) := goodIn_app (goodIn_of _ (by decide +kernel)) ggX5_costBy_X5_bestHops
set_option maxRecDepth 20000 in
theorem ggX5_costBy_X5_hasBit : GoodIn wsX5_costBy wsX5_hasBit := goodIn_r _ [17] (by decide +kernel) (by decide +kernel)
set_option maxRecDepth 20000 in
theorem gX5_costBy_X5_hasBit : GoodIn wsX5_costBy (va_wsS RX5 62 yX5_hasBit wsX5_hasBit) := goodIn_app (goodIn_of _ (by decide +kernel)) ggX5_costBy_X5_hasBit
theorem dX5_costBy_0 : decode cX5_costBy 0 = .ok (.aload_n 0, 1) := by decide +kernel
theorem dX5_costBy_1 : decode cX5_costBy 1 = .ok (.iload_n 1, 1) := by decide +kernel
theorem dX5_costBy_2 : decode cX5_costBy 2 = .ok (.invokevirtual 55, 3) := by decide +kernel
theorem dX5_costBy_5 : decode cX5_costBy 5 = .ok (.aload_n 0, 1) := by decide +kernel
theorem dX5_costBy_6 : decode cX5_costBy 6 = .ok (.iload_n 1, 1) := by decide +kernel
theorem dX5_costBy_7 : decode cX5_costBy 7 = .ok (.invokevirtual 59, 3) := by decide +kernel
theorem dX5_costBy_10 : decode cX5_costBy 10 = .ok (.iload_n 2, 1) := by decide +kernel
theorem dX5_costBy_11 : decode cX5_costBy 11 = .ok (.invokestatic 62, 3) := by decide +kernel
theorem dX5_costBy_14 : decode cX5_costBy 14 = .ok (.ifCond .eq 7, 3) := by decide +kernel
theorem dX5_costBy_17 : decode cX5_costBy 17 = .ok (.iconst 0, 1) := by decide +kernel
theorem dX5_costBy_18 : decode cX5_costBy 18 = .ok (.goto 4, 3) := by decide +kernel
theorem dX5_costBy_21 : decode cX5_costBy 21 = .ok (.iconst 1, 1) := by decide +kernel
theorem dX5_costBy_22 : decode cX5_costBy 22 = .ok (.iadd, 1) := by decide +kernel
theorem dX5_costBy_23 : decode cX5_costBy 23 = .ok (.ireturn, 1) := by decide +kernel
set_option maxRecDepth 20000 in
theorem ggX5_kindOfChange_X3_hopAt : GoodIn wsX5_kindOfChange wsX3_hopAt := goodIn_r _ [7, 8, 16, 17] (by decide +kernel) (by decide +kernel)
set_option maxRecDepth 20000 in
theorem gX5_kindOfChange_X3_hopAt : GoodIn wsX5_kindOfChange (wsV RX5 66 RX3 yX3_hopAt wsX3_hopAt) := goodIn_app (goodIn_of _ (by decide +kernel)) ggX5_kindOfChange_X3_hopAt
theorem dX5_kindOfChange_0 : decode cX5_kindOfChange 0 = .ok (.aload_n 0, 1) := by decide +kernel
theorem dX5_kindOfChange_1 : decode cX5_kindOfChange 1 = .ok (.getfield 30, 3) := by decide +kernel
theorem dX5_kindOfChange_4 : decode cX5_kindOfChange 4 = .ok (.iload_n 1, 1) := by decide +kernel
theorem dX5_kindOfChange_5 : decode cX5_kindOfChange 5 = .ok (.invokevirtual 66, 3) := by decide +kernel
theorem dX5_kindOfChange_8 : decode cX5_kindOfChange 8 = .ok (.istore_n 2, 1) := by decide +kernel
theorem dX5_kindOfChange_9 : decode cX5_kindOfChange 9 = .ok (.aload_n 0, 1) := by decide +kernel
theorem dX5_kindOfChange_10 : decode cX5_kindOfChange 10 = .ok (.getfield 34, 3) := by decide +kernel
theorem dX5_kindOfChange_13 : decode cX5_kindOfChange 13 = .ok (.iload_n 1, 1) := by decide +kernel
theorem dX5_kindOfChange_14 : decode cX5_kindOfChange 14 = .ok (.invokevirtual 66, 3) := by decide +kernel
theorem dX5_kindOfChange_17 : decode cX5_kindOfChange 17 = .ok (.istore_n 3, 1) := by decide +kernel
theorem dX5_kindOfChange_18 : decode cX5_kindOfChange 18 = .ok (.iload_n 2, 1) := by decide +kernel
theorem dX5_kindOfChange_19 : decode cX5_kindOfChange 19 = .ok (.iload_n 3, 1) := by decide +kernel
theorem dX5_kindOfChange_20 : decode cX5_kindOfChange 20 = .ok (.if_icmp .ne 6, 3) := by decide +kernel
theorem dX5_kindOfChange_23 : decode cX5_kindOfChange 23 = .ok (.bipush (-4), 2) := by decide +kernel
theorem dX5_kindOfChange_25 : decode cX5_kindOfChange 25 = .ok (.ireturn, 1) := by decide +kernel
theorem dX5_kindOfChange_26 : decode cX5_kindOfChange 26 = .ok (.iload_n 3, 1) := by decide +kernel
theorem dX5_kindOfChange_27 : decode cX5_kindOfChange 27 = .ok (.bipush (-4), 2) := by decide +kernel
theorem dX5_kindOfChange_29 : decode cX5_kindOfChange 29 = .ok (.if_icmp .ne 5, 3) := by decide +kernel
theorem dX5_kindOfChange_32 : decode cX5_kindOfChange 32 = .ok (.iconst 0, 1) := by decide +kernel
theorem dX5_kindOfChange_33 : decode cX5_kindOfChange 33 = .ok (.ireturn, 1) := by decide +kernel
theorem dX5_kindOfChange_34 : decode cX5_kindOfChange 34 = .ok (.iload_n 2, 1) := by decide +kernel
theorem dX5_kindOfChange_35 : decode cX5_kindOfChange 35 = .ok (.bipush (-4), 2) := by decide +kernel
theorem dX5_kindOfChange_37 : decode cX5_kindOfChange 37 = .ok (.if_icmp .ne 7, 3) := by decide +kernel
theorem dX5_kindOfChange_40 : decode cX5_kindOfChange 40 = .ok (.iconst 1, 1) := by decide +kernel
theorem dX5_kindOfChange_41 : decode cX5_kindOfChange 41 = .ok (.goto 4, 3) := by decide +kernel
theorem dX5_kindOfChange_44 : decode cX5_kindOfChange 44 = .ok (.iconst 2, 1) := by decide +kernel
theorem dX5_kindOfChange_45 : decode cX5_kindOfChange 45 = .ok (.ireturn, 1) := by decide +kernel
set_option maxRecDepth 20000 in
theorem ggX5_countChanges_X5_kindOfChange : GoodIn wsX5_countChanges wsX5_kindOfChange := goodIn_r _ [5, 6, 7, 8, 9, 10, 11, 12, 13, 14, 15, 16, 17, 18, 19, 20, 21, 22] (by decide +kernel) (by decide +kernel)
set_option maxRecDepth 20000 in
theorem gX5_countChanges_X5_kindOfChange : GoodIn wsX5_countChanges (wsV RX5 69 RX5 yX5_kindOfChange wsX5_kindOfChange) := goodIn_app (goodIn_of _ (by decide +kernel)) ggX5_countChanges_X5_kindOfChange
theorem dX5_countChanges_0 : decode cX5_countChanges 0 = .ok (.iconst 0, 1) := by decide +kernel
theorem dX5_countChanges_1 : decode cX5_countChanges 1 = .ok (.istore_n 1, 1) := by decide +kernel
theorem dX5_countChanges_2 : decode cX5_countChanges 2 = .ok (.iconst 1, 1) := by decide +kernel
theorem dX5_countChanges_3 : decode cX5_countChanges 3 = .ok (.istore_n 2, 1) := by decide +kernel
theorem dX5_countChanges_4 : decode cX5_countChanges 4 = .ok (.iload_n 2, 1) := by decide +kernel
theorem dX5_countChanges_5 : decode cX5_countChanges 5 = .ok (.sipush 512, 3) := by decide +kernel
theorem dX5_countChanges_8 : decode cX5_countChanges 8 = .ok (.if_icmp .ge 22, 3) := by decide +kernel
theorem dX5_countChanges_11 : decode cX5_countChanges 11 = .ok (.aload_n 0, 1) := by decide +kernel
theorem dX5_countChanges_12 : decode cX5_countChanges 12 = .ok (.iload_n 2, 1) := by decide +kernel
theorem dX5_countChanges_13 : decode cX5_countChanges 13 = .ok (.invokevirtual 69, 3) := by decide +kernel
theorem dX5_countChanges_16 : decode cX5_countChanges 16 = .ok (.bipush (-4), 2) := by decide +kernel
theorem dX5_countChanges_18 : decode cX5_countChanges 18 = .ok (.if_icmp .eq 6, 3) := by decide +kernel
theorem dX5_countChanges_21 : decode cX5_countChanges 21 = .ok (.iinc 1 1, 3) := by decide +kernel
theorem dX5_countChanges_24 : decode cX5_countChanges 24 = .ok (.iinc 2 1, 3) := by decide +kernel
theorem dX5_countChanges_27 : decode cX5_countChanges 27 = .ok (.goto (-23), 3) := by decide +kernel
theorem dX5_countChanges_30 : decode cX5_countChanges 30 = .ok (.iload_n 1, 1) := by decide +kernel
theorem dX5_countChanges_31 : decode cX5_countChanges 31 = .ok (.ireturn, 1) := by decide +kernel
set_option maxRecDepth 20000 in
theorem ggX5_changeNumber_X5_kindOfChange : GoodIn wsX5_changeNumber wsX5_kindOfChange := goodIn_r _ [5, 6, 7, 8, 9, 10, 11, 12, 13, 14, 15, 16, 17, 18, 19, 20, 21, 22] (by decide +kernel) (by decide +kernel)
set_option maxRecDepth 20000 in
theorem gX5_changeNumber_X5_kindOfChange : GoodIn wsX5_changeNumber (wsV RX5 69 RX5 yX5_kindOfChange wsX5_kindOfChange) := goodIn_app (goodIn_of _ (by decide +kernel)) ggX5_changeNumber_X5_kindOfChange
theorem dX5_changeNumber_0 : decode cX5_changeNumber 0 = .ok (.iconst 0, 1) := by decide +kernel
theorem dX5_changeNumber_1 : decode cX5_changeNumber 1 = .ok (.istore_n 2, 1) := by decide +kernel
theorem dX5_changeNumber_2 : decode cX5_changeNumber 2 = .ok (.iconst 1, 1) := by decide +kernel
theorem dX5_changeNumber_3 : decode cX5_changeNumber 3 = .ok (.istore_n 3, 1) := by decide +kernel
theorem dX5_changeNumber_4 : decode cX5_changeNumber 4 = .ok (.iload_n 3, 1) := by decide +kernel
theorem dX5_changeNumber_5 : decode cX5_changeNumber 5 = .ok (.sipush 512, 3) := by decide +kernel
theorem dX5_changeNumber_8 : decode cX5_changeNumber 8 = .ok (.if_icmp .ge 29, 3) := by decide +kernel
theorem dX5_changeNumber_11 : decode cX5_changeNumber 11 = .ok (.aload_n 0, 1) := by decide +kernel
theorem dX5_changeNumber_12 : decode cX5_changeNumber 12 = .ok (.iload_n 3, 1) := by decide +kernel
theorem dX5_changeNumber_13 : decode cX5_changeNumber 13 = .ok (.invokevirtual 69, 3) := by decide +kernel
theorem dX5_changeNumber_16 : decode cX5_changeNumber 16 = .ok (.bipush (-4), 2) := by decide +kernel
theorem dX5_changeNumber_18 : decode cX5_changeNumber 18 = .ok (.if_icmp .eq 13, 3) := by decide +kernel
theorem dX5_changeNumber_21 : decode cX5_changeNumber 21 = .ok (.iload_n 2, 1) := by decide +kernel
theorem dX5_changeNumber_22 : decode cX5_changeNumber 22 = .ok (.iload_n 1, 1) := by decide +kernel
theorem dX5_changeNumber_23 : decode cX5_changeNumber 23 = .ok (.if_icmp .ne 5, 3) := by decide +kernel
theorem dX5_changeNumber_26 : decode cX5_changeNumber 26 = .ok (.iload_n 3, 1) := by decide +kernel
theorem dX5_changeNumber_27 : decode cX5_changeNumber 27 = .ok (.ireturn, 1) := by decide +kernel
theorem dX5_changeNumber_28 : decode cX5_changeNumber 28 = .ok (.iinc 2 1, 3) := by decide +kernel
theorem dX5_changeNumber_31 : decode cX5_changeNumber 31 = .ok (.iinc 3 1, 3) := by decide +kernel
theorem dX5_changeNumber_34 : decode cX5_changeNumber 34 = .ok (.goto (-30), 3) := by decide +kernel
theorem dX5_changeNumber_37 : decode cX5_changeNumber 37 = .ok (.bipush (-4), 2) := by decide +kernel
theorem dX5_changeNumber_39 : decode cX5_changeNumber 39 = .ok (.ireturn, 1) := by decide +kernel
set_option maxRecDepth 20000 in
theorem ggX5_countProof_X5_proofFrom : GoodIn wsX5_countProof wsX5_proofFrom := goodIn_r _ [5, 6, 7, 8, 4, 9, 10, 11, 12, 13, 14, 15, 16, 17, 18, 19, 20, 21, 22, 23, 24, 25, 26, 27, 28, 29, 30, 31, 32, 33, 34, 35, 36, 37, 38, 39, 40, 41, 42, 43] (by decide +kernel) (by decide +kernel)
set_option maxRecDepth 20000 in
theorem gX5_countProof_X5_proofFrom : GoodIn wsX5_countProof (wsV RX5 72 RX5 yX5_proofFrom wsX5_proofFrom) := goodIn_app (goodIn_of _ (by decide +kernel)) ggX5_countProof_X5_proofFrom
theorem dX5_countProof_0 : decode cX5_countProof 0 = .ok (.iconst 0, 1) := by decide +kernel
theorem dX5_countProof_1 : decode cX5_countProof 1 = .ok (.istore_n 1, 1) := by decide +kernel
theorem dX5_countProof_2 : decode cX5_countProof 2 = .ok (.iconst 0, 1) := by decide +kernel
theorem dX5_countProof_3 : decode cX5_countProof 3 = .ok (.istore_n 2, 1) := by decide +kernel
theorem dX5_countProof_4 : decode cX5_countProof 4 = .ok (.iload_n 2, 1) := by decide +kernel
theorem dX5_countProof_5 : decode cX5_countProof 5 = .ok (.sipush 256, 3) := by decide +kernel
theorem dX5_countProof_8 : decode cX5_countProof 8 = .ok (.if_icmp .ge 22, 3) := by decide +kernel
theorem dX5_countProof_11 : decode cX5_countProof 11 = .ok (.aload_n 0, 1) := by decide +kernel
theorem dX5_countProof_12 : decode cX5_countProof 12 = .ok (.iload_n 2, 1) := by decide +kernel
theorem dX5_countProof_13 : decode cX5_countProof 13 = .ok (.invokevirtual 72, 3) := by decide +kernel
theorem dX5_countProof_16 : decode cX5_countProof 16 = .ok (.bipush (-4), 2) := by decide +kernel
theorem dX5_countProof_18 : decode cX5_countProof 18 = .ok (.if_icmp .eq 6, 3) := by decide +kernel
theorem dX5_countProof_21 : decode cX5_countProof 21 = .ok (.iinc 1 1, 3) := by decide +kernel
theorem dX5_countProof_24 : decode cX5_countProof 24 = .ok (.iinc 2 1, 3) := by decide +kernel
theorem dX5_countProof_27 : decode cX5_countProof 27 = .ok (.goto (-23), 3) := by decide +kernel
theorem dX5_countProof_30 : decode cX5_countProof 30 = .ok (.iload_n 1, 1) := by decide +kernel
theorem dX5_countProof_31 : decode cX5_countProof 31 = .ok (.ireturn, 1) := by decide +kernel
set_option maxRecDepth 20000 in
theorem ggX5_proofNumber_X5_proofFrom : GoodIn wsX5_proofNumber wsX5_proofFrom := goodIn_r _ [5, 6, 7, 8, 4, 9, 10, 11, 12, 13, 14, 15, 16, 17, 18, 19, 20, 21, 22, 23, 24, 25, 26, 27, 28, 29, 30, 31, 32, 33, 34, 35, 36, 37, 38, 39, 40, 41, 42, 43] (by decide +kernel) (by decide +kernel)
set_option maxRecDepth 20000 in
theorem gX5_proofNumber_X5_proofFrom : GoodIn wsX5_proofNumber (wsV RX5 72 RX5 yX5_proofFrom wsX5_proofFrom) := goodIn_app (goodIn_of _ (by decide +kernel)) ggX5_proofNumber_X5_proofFrom
theorem dX5_proofNumber_0 : decode cX5_proofNumber 0 = .ok (.iconst 0, 1) := by decide +kernel
theorem dX5_proofNumber_1 : decode cX5_proofNumber 1 = .ok (.istore_n 2, 1) := by decide +kernel
theorem dX5_proofNumber_2 : decode cX5_proofNumber 2 = .ok (.iconst 0, 1) := by decide +kernel
theorem dX5_proofNumber_3 : decode cX5_proofNumber 3 = .ok (.istore_n 3, 1) := by decide +kernel
theorem dX5_proofNumber_4 : decode cX5_proofNumber 4 = .ok (.iload_n 3, 1) := by decide +kernel
theorem dX5_proofNumber_5 : decode cX5_proofNumber 5 = .ok (.sipush 256, 3) := by decide +kernel
theorem dX5_proofNumber_8 : decode cX5_proofNumber 8 = .ok (.if_icmp .ge 34, 3) := by decide +kernel
theorem dX5_proofNumber_11 : decode cX5_proofNumber 11 = .ok (.aload_n 0, 1) := by decide +kernel
theorem dX5_proofNumber_12 : decode cX5_proofNumber 12 = .ok (.iload_n 3, 1) := by decide +kernel
theorem dX5_proofNumber_13 : decode cX5_proofNumber 13 = .ok (.invokevirtual 72, 3) := by decide +kernel
theorem dX5_proofNumber_16 : decode cX5_proofNumber 16 = .ok (.istore 4, 2) := by decide +kernel
theorem dX5_proofNumber_18 : decode cX5_proofNumber 18 = .ok (.iload 4, 2) := by decide +kernel
theorem dX5_proofNumber_20 : decode cX5_proofNumber 20 = .ok (.bipush (-4), 2) := by decide +kernel
theorem dX5_proofNumber_22 : decode cX5_proofNumber 22 = .ok (.if_icmp .eq 14, 3) := by decide +kernel
theorem dX5_proofNumber_25 : decode cX5_proofNumber 25 = .ok (.iload_n 2, 1) := by decide +kernel
theorem dX5_proofNumber_26 : decode cX5_proofNumber 26 = .ok (.iload_n 1, 1) := by decide +kernel
theorem dX5_proofNumber_27 : decode cX5_proofNumber 27 = .ok (.if_icmp .ne 6, 3) := by decide +kernel
theorem dX5_proofNumber_30 : decode cX5_proofNumber 30 = .ok (.iload 4, 2) := by decide +kernel
theorem dX5_proofNumber_32 : decode cX5_proofNumber 32 = .ok (.ireturn, 1) := by decide +kernel
theorem dX5_proofNumber_33 : decode cX5_proofNumber 33 = .ok (.iinc 2 1, 3) := by decide +kernel
theorem dX5_proofNumber_36 : decode cX5_proofNumber 36 = .ok (.iinc 3 1, 3) := by decide +kernel
theorem dX5_proofNumber_39 : decode cX5_proofNumber 39 = .ok (.goto (-35), 3) := by decide +kernel
theorem dX5_proofNumber_42 : decode cX5_proofNumber 42 = .ok (.bipush (-4), 2) := by decide +kernel
theorem dX5_proofNumber_44 : decode cX5_proofNumber 44 = .ok (.ireturn, 1) := by decide +kernel
theorem dX5_firstSentElsewhere_0 : decode cX5_firstSentElsewhere 0 = .ok (.iconst 0, 1) := by decide +kernel
theorem dX5_firstSentElsewhere_1 : decode cX5_firstSentElsewhere 1 = .ok (.istore_n 1, 1) := by decide +kernel
theorem dX5_firstSentElsewhere_2 : decode cX5_firstSentElsewhere 2 = .ok (.iload_n 1, 1) := by decide +kernel
theorem dX5_firstSentElsewhere_3 : decode cX5_firstSentElsewhere 3 = .ok (.sipush 256, 3) := by decide +kernel
theorem dX5_firstSentElsewhere_6 : decode cX5_firstSentElsewhere 6 = .ok (.if_icmp .ge 34, 3) := by decide +kernel
theorem dX5_firstSentElsewhere_9 : decode cX5_firstSentElsewhere 9 = .ok (.aload_n 0, 1) := by decide +kernel
theorem dX5_firstSentElsewhere_10 : decode cX5_firstSentElsewhere 10 = .ok (.getfield 9, 3) := by decide +kernel
theorem dX5_firstSentElsewhere_13 : decode cX5_firstSentElsewhere 13 = .ok (.sipush 256, 3) := by decide +kernel
theorem dX5_firstSentElsewhere_16 : decode cX5_firstSentElsewhere 16 = .ok (.iload_n 1, 1) := by decide +kernel
theorem dX5_firstSentElsewhere_17 : decode cX5_firstSentElsewhere 17 = .ok (.iadd, 1) := by decide +kernel
theorem dX5_firstSentElsewhere_18 : decode cX5_firstSentElsewhere 18 = .ok (.iaload, 1) := by decide +kernel
theorem dX5_firstSentElsewhere_19 : decode cX5_firstSentElsewhere 19 = .ok (.aload_n 0, 1) := by decide +kernel
theorem dX5_firstSentElsewhere_20 : decode cX5_firstSentElsewhere 20 = .ok (.getfield 15, 3) := by decide +kernel
theorem dX5_firstSentElsewhere_23 : decode cX5_firstSentElsewhere 23 = .ok (.sipush 256, 3) := by decide +kernel
theorem dX5_firstSentElsewhere_26 : decode cX5_firstSentElsewhere 26 = .ok (.iload_n 1, 1) := by decide +kernel
theorem dX5_firstSentElsewhere_27 : decode cX5_firstSentElsewhere 27 = .ok (.iadd, 1) := by decide +kernel
theorem dX5_firstSentElsewhere_28 : decode cX5_firstSentElsewhere 28 = .ok (.iaload, 1) := by decide +kernel
theorem dX5_firstSentElsewhere_29 : decode cX5_firstSentElsewhere 29 = .ok (.if_icmp .eq 5, 3) := by decide +kernel
theorem dX5_firstSentElsewhere_32 : decode cX5_firstSentElsewhere 32 = .ok (.iload_n 1, 1) := by decide +kernel
theorem dX5_firstSentElsewhere_33 : decode cX5_firstSentElsewhere 33 = .ok (.ireturn, 1) := by decide +kernel
theorem dX5_firstSentElsewhere_34 : decode cX5_firstSentElsewhere 34 = .ok (.iinc 1 1, 3) := by decide +kernel
theorem dX5_firstSentElsewhere_37 : decode cX5_firstSentElsewhere 37 = .ok (.goto (-35), 3) := by decide +kernel
theorem dX5_firstSentElsewhere_40 : decode cX5_firstSentElsewhere 40 = .ok (.bipush (-4), 2) := by decide +kernel
theorem dX5_firstSentElsewhere_42 : decode cX5_firstSentElsewhere 42 = .ok (.ireturn, 1) := by decide +kernel
set_option maxRecDepth 20000 in
theorem ggX5_proofFrom_X5_hopsBeneath : GoodIn wsX5_proofFrom wsX5_hopsBeneath := goodIn_r _ [5, 6, 7, 8, 9, 33, 34, 35, 36, 37, 38, 39] (by decide +kernel) (by decide +kernel)
set_option maxRecDepth 20000 in
theorem gX5_proofFrom_X5_hopsBeneath : GoodIn wsX5_proofFrom (wsV RX5 75 RX5 yX5_hopsBeneath wsX5_hopsBeneath) := goodIn_app (goodIn_of _ (by decide +kernel)) ggX5_proofFrom_X5_hopsBeneath
set_option maxRecDepth 20000 in
theorem ggX5_proofFrom_X6_isOneHop : GoodIn wsX5_proofFrom wsX6_isOneHop := goodIn_r _ [11, 12, 13, 14, 15, 16, 17, 18] (by decide +kernel) (by decide +kernel)
set_option maxRecDepth 20000 in
theorem gX5_proofFrom_X6_isOneHop_n78 : GoodIn wsX5_proofFrom (wsX6_isOneHop) := ggX5_proofFrom_X6_isOneHop
set_option maxRecDepth 20000 in
theorem ggX5_proofFrom_X5_installedHopsBeneath : GoodIn wsX5_proofFrom wsX5_installedHopsBeneath := goodIn_r _ [22, 23, 7, 8, 9, 33, 34, 35, 36, 37, 38, 39] (by decide +kernel) (by decide +kernel)
set_option maxRecDepth 20000 in
theorem gX5_proofFrom_X5_installedHopsBeneath : GoodIn wsX5_proofFrom (wsV RX5 81 RX5 yX5_installedHopsBeneath wsX5_installedHopsBeneath) := goodIn_app (goodIn_of _ (by decide +kernel)) ggX5_proofFrom_X5_installedHopsBeneath
set_option maxRecDepth 20000 in
theorem ggX5_proofFrom_X6_firstAddress : GoodIn wsX5_proofFrom wsX6_firstAddress := goodIn_r _ [25, 26, 27, 8, 28, 29, 30, 14, 31, 32] (by decide +kernel) (by decide +kernel)
set_option maxRecDepth 20000 in
theorem gX5_proofFrom_X6_firstAddress_n84 : GoodIn wsX5_proofFrom (wsX6_firstAddress) := ggX5_proofFrom_X6_firstAddress
theorem dX5_proofFrom_0 : decode cX5_proofFrom 0 = .ok (.iconst 0, 1) := by decide +kernel
theorem dX5_proofFrom_1 : decode cX5_proofFrom 1 = .ok (.istore_n 2, 1) := by decide +kernel
theorem dX5_proofFrom_2 : decode cX5_proofFrom 2 = .ok (.iload_n 2, 1) := by decide +kernel
theorem dX5_proofFrom_3 : decode cX5_proofFrom 3 = .ok (.bipush 8, 2) := by decide +kernel
theorem dX5_proofFrom_5 : decode cX5_proofFrom 5 = .ok (.if_icmp .gt 57, 3) := by decide +kernel
theorem dX5_proofFrom_8 : decode cX5_proofFrom 8 = .ok (.sipush 256, 3) := by decide +kernel
theorem dX5_proofFrom_11 : decode cX5_proofFrom 11 = .ok (.iload_n 1, 1) := by decide +kernel
theorem dX5_proofFrom_12 : decode cX5_proofFrom 12 = .ok (.iadd, 1) := by decide +kernel
theorem dX5_proofFrom_13 : decode cX5_proofFrom 13 = .ok (.bipush 8, 2) := by decide +kernel
theorem dX5_proofFrom_15 : decode cX5_proofFrom 15 = .ok (.iload_n 2, 1) := by decide +kernel
theorem dX5_proofFrom_16 : decode cX5_proofFrom 16 = .ok (.isub, 1) := by decide +kernel
theorem dX5_proofFrom_17 : decode cX5_proofFrom 17 = .ok (.ishr, 1) := by decide +kernel
theorem dX5_proofFrom_18 : decode cX5_proofFrom 18 = .ok (.istore_n 3, 1) := by decide +kernel
theorem dX5_proofFrom_19 : decode cX5_proofFrom 19 = .ok (.aload_n 0, 1) := by decide +kernel
theorem dX5_proofFrom_20 : decode cX5_proofFrom 20 = .ok (.iload_n 3, 1) := by decide +kernel
theorem dX5_proofFrom_21 : decode cX5_proofFrom 21 = .ok (.invokevirtual 75, 3) := by decide +kernel
theorem dX5_proofFrom_24 : decode cX5_proofFrom 24 = .ok (.invokestatic 78, 3) := by decide +kernel
theorem dX5_proofFrom_27 : decode cX5_proofFrom 27 = .ok (.ifCond .eq 29, 3) := by decide +kernel
theorem dX5_proofFrom_30 : decode cX5_proofFrom 30 = .ok (.aload_n 0, 1) := by decide +kernel
theorem dX5_proofFrom_31 : decode cX5_proofFrom 31 = .ok (.iload_n 3, 1) := by decide +kernel
theorem dX5_proofFrom_32 : decode cX5_proofFrom 32 = .ok (.invokevirtual 81, 3) := by decide +kernel
theorem dX5_proofFrom_35 : decode cX5_proofFrom 35 = .ok (.invokestatic 78, 3) := by decide +kernel
theorem dX5_proofFrom_38 : decode cX5_proofFrom 38 = .ok (.ifCond .eq 18, 3) := by decide +kernel
theorem dX5_proofFrom_41 : decode cX5_proofFrom 41 = .ok (.iload_n 3, 1) := by decide +kernel
theorem dX5_proofFrom_42 : decode cX5_proofFrom 42 = .ok (.invokestatic 84, 3) := by decide +kernel
theorem dX5_proofFrom_45 : decode cX5_proofFrom 45 = .ok (.iload_n 1, 1) := by decide +kernel
theorem dX5_proofFrom_46 : decode cX5_proofFrom 46 = .ok (.if_icmp .ne 7, 3) := by decide +kernel
theorem dX5_proofFrom_49 : decode cX5_proofFrom 49 = .ok (.iload_n 3, 1) := by decide +kernel
theorem dX5_proofFrom_50 : decode cX5_proofFrom 50 = .ok (.goto 5, 3) := by decide +kernel
theorem dX5_proofFrom_53 : decode cX5_proofFrom 53 = .ok (.bipush (-4), 2) := by decide +kernel
theorem dX5_proofFrom_55 : decode cX5_proofFrom 55 = .ok (.ireturn, 1) := by decide +kernel
theorem dX5_proofFrom_56 : decode cX5_proofFrom 56 = .ok (.iinc 2 1, 3) := by decide +kernel
theorem dX5_proofFrom_59 : decode cX5_proofFrom 59 = .ok (.goto (-57), 3) := by decide +kernel
theorem dX5_proofFrom_62 : decode cX5_proofFrom 62 = .ok (.bipush (-4), 2) := by decide +kernel
theorem dX5_proofFrom_64 : decode cX5_proofFrom 64 = .ok (.ireturn, 1) := by decide +kernel
set_option maxRecDepth 20000 in
theorem ggX5_spread_X3_hopAt : GoodIn wsX5_spread wsX3_hopAt := goodIn_r _ [9, 10, 11, 12] (by decide +kernel) (by decide +kernel)
set_option maxRecDepth 20000 in
theorem gX5_spread_X3_hopAt : GoodIn wsX5_spread (wsV RX5 66 RX3 yX3_hopAt wsX3_hopAt) := goodIn_app (goodIn_of _ (by decide +kernel)) ggX5_spread_X3_hopAt
theorem dX5_spread_0 : decode cX5_spread 0 = .ok (.aload_n 1, 1) := by decide +kernel
theorem dX5_spread_1 : decode cX5_spread 1 = .ok (.iconst 1, 1) := by decide +kernel
theorem dX5_spread_2 : decode cX5_spread 2 = .ok (.iconst 1, 1) := by decide +kernel
theorem dX5_spread_3 : decode cX5_spread 3 = .ok (.aload_n 0, 1) := by decide +kernel
theorem dX5_spread_4 : decode cX5_spread 4 = .ok (.iconst 1, 1) := by decide +kernel
theorem dX5_spread_5 : decode cX5_spread 5 = .ok (.invokevirtual 66, 3) := by decide +kernel
theorem dX5_spread_8 : decode cX5_spread 8 = .ok (.iconst 0, 1) := by decide +kernel
theorem dX5_spread_9 : decode cX5_spread 9 = .ok (.invokestatic 87, 3) := by decide +kernel
theorem dX5_spread_12 : decode cX5_spread 12 = .ok (.ishl, 1) := by decide +kernel
theorem dX5_spread_13 : decode cX5_spread 13 = .ok (.iastore, 1) := by decide +kernel
theorem dX5_spread_14 : decode cX5_spread 14 = .ok (.iconst 2, 1) := by decide +kernel
theorem dX5_spread_15 : decode cX5_spread 15 = .ok (.istore_n 2, 1) := by decide +kernel
theorem dX5_spread_16 : decode cX5_spread 16 = .ok (.iload_n 2, 1) := by decide +kernel
theorem dX5_spread_17 : decode cX5_spread 17 = .ok (.sipush 512, 3) := by decide +kernel
theorem dX5_spread_20 : decode cX5_spread 20 = .ok (.if_icmp .ge 35, 3) := by decide +kernel
theorem dX5_spread_23 : decode cX5_spread 23 = .ok (.aload_n 0, 1) := by decide +kernel
theorem dX5_spread_24 : decode cX5_spread 24 = .ok (.iload_n 2, 1) := by decide +kernel
theorem dX5_spread_25 : decode cX5_spread 25 = .ok (.invokevirtual 66, 3) := by decide +kernel
theorem dX5_spread_28 : decode cX5_spread 28 = .ok (.istore_n 3, 1) := by decide +kernel
theorem dX5_spread_29 : decode cX5_spread 29 = .ok (.aload_n 1, 1) := by decide +kernel
theorem dX5_spread_30 : decode cX5_spread 30 = .ok (.iload_n 2, 1) := by decide +kernel
theorem dX5_spread_31 : decode cX5_spread 31 = .ok (.iload_n 3, 1) := by decide +kernel
theorem dX5_spread_32 : decode cX5_spread 32 = .ok (.bipush (-4), 2) := by decide +kernel
theorem dX5_spread_34 : decode cX5_spread 34 = .ok (.if_icmp .ne 11, 3) := by decide +kernel
theorem dX5_spread_37 : decode cX5_spread 37 = .ok (.aload_n 1, 1) := by decide +kernel
theorem dX5_spread_38 : decode cX5_spread 38 = .ok (.iload_n 2, 1) := by decide +kernel
theorem dX5_spread_39 : decode cX5_spread 39 = .ok (.iconst 1, 1) := by decide +kernel
theorem dX5_spread_40 : decode cX5_spread 40 = .ok (.ishr, 1) := by decide +kernel
theorem dX5_spread_41 : decode cX5_spread 41 = .ok (.iaload, 1) := by decide +kernel
theorem dX5_spread_42 : decode cX5_spread 42 = .ok (.goto 6, 3) := by decide +kernel
theorem dX5_spread_45 : decode cX5_spread 45 = .ok (.iconst 1, 1) := by decide +kernel
theorem dX5_spread_46 : decode cX5_spread 46 = .ok (.iload_n 3, 1) := by decide +kernel
theorem dX5_spread_47 : decode cX5_spread 47 = .ok (.ishl, 1) := by decide +kernel
theorem dX5_spread_48 : decode cX5_spread 48 = .ok (.iastore, 1) := by decide +kernel
theorem dX5_spread_49 : decode cX5_spread 49 = .ok (.iinc 2 1, 3) := by decide +kernel
theorem dX5_spread_52 : decode cX5_spread 52 = .ok (.goto (-36), 3) := by decide +kernel
theorem dX5_spread_55 : decode cX5_spread 55 = .ok (.sipush 255, 3) := by decide +kernel
theorem dX5_spread_58 : decode cX5_spread 58 = .ok (.istore_n 2, 1) := by decide +kernel
theorem dX5_spread_59 : decode cX5_spread 59 = .ok (.iload_n 2, 1) := by decide +kernel
theorem dX5_spread_60 : decode cX5_spread 60 = .ok (.iconst 1, 1) := by decide +kernel
theorem dX5_spread_61 : decode cX5_spread 61 = .ok (.if_icmp .lt 25, 3) := by decide +kernel
theorem dX5_spread_64 : decode cX5_spread 64 = .ok (.aload_n 1, 1) := by decide +kernel
theorem dX5_spread_65 : decode cX5_spread 65 = .ok (.iload_n 2, 1) := by decide +kernel
theorem dX5_spread_66 : decode cX5_spread 66 = .ok (.aload_n 1, 1) := by decide +kernel
theorem dX5_spread_67 : decode cX5_spread 67 = .ok (.iconst 2, 1) := by decide +kernel
theorem dX5_spread_68 : decode cX5_spread 68 = .ok (.iload_n 2, 1) := by decide +kernel
theorem dX5_spread_69 : decode cX5_spread 69 = .ok (.imul, 1) := by decide +kernel
theorem dX5_spread_70 : decode cX5_spread 70 = .ok (.iaload, 1) := by decide +kernel
theorem dX5_spread_71 : decode cX5_spread 71 = .ok (.aload_n 1, 1) := by decide +kernel
theorem dX5_spread_72 : decode cX5_spread 72 = .ok (.iconst 2, 1) := by decide +kernel
theorem dX5_spread_73 : decode cX5_spread 73 = .ok (.iload_n 2, 1) := by decide +kernel
theorem dX5_spread_74 : decode cX5_spread 74 = .ok (.imul, 1) := by decide +kernel
theorem dX5_spread_75 : decode cX5_spread 75 = .ok (.iconst 1, 1) := by decide +kernel
theorem dX5_spread_76 : decode cX5_spread 76 = .ok (.iadd, 1) := by decide +kernel
theorem dX5_spread_77 : decode cX5_spread 77 = .ok (.iaload, 1) := by decide +kernel
theorem dX5_spread_78 : decode cX5_spread 78 = .ok (.ior, 1) := by decide +kernel
theorem dX5_spread_79 : decode cX5_spread 79 = .ok (.iastore, 1) := by decide +kernel
theorem dX5_spread_80 : decode cX5_spread 80 = .ok (.iinc 2 (-1), 3) := by decide +kernel
theorem dX5_spread_83 : decode cX5_spread 83 = .ok (.goto (-24), 3) := by decide +kernel
theorem dX5_spread_86 : decode cX5_spread 86 = .ok (.return_, 1) := by decide +kernel
theorem dX5_findBest_0 : decode cX5_findBest 0 = .ok (.sipush 256, 3) := by decide +kernel
theorem dX5_findBest_3 : decode cX5_findBest 3 = .ok (.istore_n 1, 1) := by decide +kernel
theorem dX5_findBest_4 : decode cX5_findBest 4 = .ok (.iload_n 1, 1) := by decide +kernel
theorem dX5_findBest_5 : decode cX5_findBest 5 = .ok (.sipush 512, 3) := by decide +kernel
theorem dX5_findBest_8 : decode cX5_findBest 8 = .ok (.if_icmp .ge 28, 3) := by decide +kernel
theorem dX5_findBest_11 : decode cX5_findBest 11 = .ok (.aload_n 0, 1) := by decide +kernel
theorem dX5_findBest_12 : decode cX5_findBest 12 = .ok (.getfield 18, 3) := by decide +kernel
theorem dX5_findBest_15 : decode cX5_findBest 15 = .ok (.iload_n 1, 1) := by decide +kernel
theorem dX5_findBest_16 : decode cX5_findBest 16 = .ok (.aload_n 0, 1) := by decide +kernel
theorem dX5_findBest_17 : decode cX5_findBest 17 = .ok (.getfield 9, 3) := by decide +kernel
theorem dX5_findBest_20 : decode cX5_findBest 20 = .ok (.iload_n 1, 1) := by decide +kernel
theorem dX5_findBest_21 : decode cX5_findBest 21 = .ok (.iaload, 1) := by decide +kernel
theorem dX5_findBest_22 : decode cX5_findBest 22 = .ok (.iastore, 1) := by decide +kernel
theorem dX5_findBest_23 : decode cX5_findBest 23 = .ok (.aload_n 0, 1) := by decide +kernel
theorem dX5_findBest_24 : decode cX5_findBest 24 = .ok (.getfield 21, 3) := by decide +kernel
theorem dX5_findBest_27 : decode cX5_findBest 27 = .ok (.iload_n 1, 1) := by decide +kernel
theorem dX5_findBest_28 : decode cX5_findBest 28 = .ok (.iconst 0, 1) := by decide +kernel
theorem dX5_findBest_29 : decode cX5_findBest 29 = .ok (.iastore, 1) := by decide +kernel
theorem dX5_findBest_30 : decode cX5_findBest 30 = .ok (.iinc 1 1, 3) := by decide +kernel
theorem dX5_findBest_33 : decode cX5_findBest 33 = .ok (.goto (-29), 3) := by decide +kernel
theorem dX5_findBest_36 : decode cX5_findBest 36 = .ok (.sipush 255, 3) := by decide +kernel
theorem dX5_findBest_39 : decode cX5_findBest 39 = .ok (.istore_n 1, 1) := by decide +kernel
theorem dX5_findBest_40 : decode cX5_findBest 40 = .ok (.iload_n 1, 1) := by decide +kernel
theorem dX5_findBest_41 : decode cX5_findBest 41 = .ok (.iconst 1, 1) := by decide +kernel
theorem dX5_findBest_42 : decode cX5_findBest 42 = .ok (.if_icmp .lt 97, 3) := by decide +kernel
theorem dX5_findBest_45 : decode cX5_findBest 45 = .ok (.aload_n 0, 1) := by decide +kernel
theorem dX5_findBest_46 : decode cX5_findBest 46 = .ok (.getfield 18, 3) := by decide +kernel
theorem dX5_findBest_49 : decode cX5_findBest 49 = .ok (.iconst 2, 1) := by decide +kernel
theorem dX5_findBest_50 : decode cX5_findBest 50 = .ok (.iload_n 1, 1) := by decide +kernel
theorem dX5_findBest_51 : decode cX5_findBest 51 = .ok (.imul, 1) := by decide +kernel
theorem dX5_findBest_52 : decode cX5_findBest 52 = .ok (.iaload, 1) := by decide +kernel
theorem dX5_findBest_53 : decode cX5_findBest 53 = .ok (.aload_n 0, 1) := by decide +kernel
theorem dX5_findBest_54 : decode cX5_findBest 54 = .ok (.getfield 18, 3) := by decide +kernel
theorem dX5_findBest_57 : decode cX5_findBest 57 = .ok (.iconst 2, 1) := by decide +kernel
theorem dX5_findBest_58 : decode cX5_findBest 58 = .ok (.iload_n 1, 1) := by decide +kernel
theorem dX5_findBest_59 : decode cX5_findBest 59 = .ok (.imul, 1) := by decide +kernel
theorem dX5_findBest_60 : decode cX5_findBest 60 = .ok (.iconst 1, 1) := by decide +kernel
theorem dX5_findBest_61 : decode cX5_findBest 61 = .ok (.iadd, 1) := by decide +kernel
theorem dX5_findBest_62 : decode cX5_findBest 62 = .ok (.iaload, 1) := by decide +kernel
theorem dX5_findBest_63 : decode cX5_findBest 63 = .ok (.iand, 1) := by decide +kernel
theorem dX5_findBest_64 : decode cX5_findBest 64 = .ok (.istore_n 2, 1) := by decide +kernel
theorem dX5_findBest_65 : decode cX5_findBest 65 = .ok (.aload_n 0, 1) := by decide +kernel
theorem dX5_findBest_66 : decode cX5_findBest 66 = .ok (.getfield 18, 3) := by decide +kernel
theorem dX5_findBest_69 : decode cX5_findBest 69 = .ok (.iload_n 1, 1) := by decide +kernel
theorem dX5_findBest_70 : decode cX5_findBest 70 = .ok (.iload_n 2, 1) := by decide +kernel
theorem dX5_findBest_71 : decode cX5_findBest 71 = .ok (.ifCond .eq 7, 3) := by decide +kernel
theorem dX5_findBest_74 : decode cX5_findBest 74 = .ok (.iload_n 2, 1) := by decide +kernel
theorem dX5_findBest_75 : decode cX5_findBest 75 = .ok (.goto 22, 3) := by decide +kernel
theorem dX5_findBest_78 : decode cX5_findBest 78 = .ok (.aload_n 0, 1) := by decide +kernel
theorem dX5_findBest_79 : decode cX5_findBest 79 = .ok (.getfield 18, 3) := by decide +kernel
theorem dX5_findBest_82 : decode cX5_findBest 82 = .ok (.iconst 2, 1) := by decide +kernel
theorem dX5_findBest_83 : decode cX5_findBest 83 = .ok (.iload_n 1, 1) := by decide +kernel
theorem dX5_findBest_84 : decode cX5_findBest 84 = .ok (.imul, 1) := by decide +kernel
theorem dX5_findBest_85 : decode cX5_findBest 85 = .ok (.iaload, 1) := by decide +kernel
theorem dX5_findBest_86 : decode cX5_findBest 86 = .ok (.aload_n 0, 1) := by decide +kernel
theorem dX5_findBest_87 : decode cX5_findBest 87 = .ok (.getfield 18, 3) := by decide +kernel
theorem dX5_findBest_90 : decode cX5_findBest 90 = .ok (.iconst 2, 1) := by decide +kernel
theorem dX5_findBest_91 : decode cX5_findBest 91 = .ok (.iload_n 1, 1) := by decide +kernel
theorem dX5_findBest_92 : decode cX5_findBest 92 = .ok (.imul, 1) := by decide +kernel
theorem dX5_findBest_93 : decode cX5_findBest 93 = .ok (.iconst 1, 1) := by decide +kernel
theorem dX5_findBest_94 : decode cX5_findBest 94 = .ok (.iadd, 1) := by decide +kernel
theorem dX5_findBest_95 : decode cX5_findBest 95 = .ok (.iaload, 1) := by decide +kernel
theorem dX5_findBest_96 : decode cX5_findBest 96 = .ok (.ior, 1) := by decide +kernel
theorem dX5_findBest_97 : decode cX5_findBest 97 = .ok (.iastore, 1) := by decide +kernel
theorem dX5_findBest_98 : decode cX5_findBest 98 = .ok (.aload_n 0, 1) := by decide +kernel
theorem dX5_findBest_99 : decode cX5_findBest 99 = .ok (.getfield 21, 3) := by decide +kernel
theorem dX5_findBest_102 : decode cX5_findBest 102 = .ok (.iload_n 1, 1) := by decide +kernel
theorem dX5_findBest_103 : decode cX5_findBest 103 = .ok (.aload_n 0, 1) := by decide +kernel
theorem dX5_findBest_104 : decode cX5_findBest 104 = .ok (.getfield 21, 3) := by decide +kernel
theorem dX5_findBest_107 : decode cX5_findBest 107 = .ok (.iconst 2, 1) := by decide +kernel
theorem dX5_findBest_108 : decode cX5_findBest 108 = .ok (.iload_n 1, 1) := by decide +kernel
theorem dX5_findBest_109 : decode cX5_findBest 109 = .ok (.imul, 1) := by decide +kernel
theorem dX5_findBest_110 : decode cX5_findBest 110 = .ok (.iaload, 1) := by decide +kernel
theorem dX5_findBest_111 : decode cX5_findBest 111 = .ok (.aload_n 0, 1) := by decide +kernel
theorem dX5_findBest_112 : decode cX5_findBest 112 = .ok (.getfield 21, 3) := by decide +kernel
theorem dX5_findBest_115 : decode cX5_findBest 115 = .ok (.iconst 2, 1) := by decide +kernel
theorem dX5_findBest_116 : decode cX5_findBest 116 = .ok (.iload_n 1, 1) := by decide +kernel
theorem dX5_findBest_117 : decode cX5_findBest 117 = .ok (.imul, 1) := by decide +kernel
theorem dX5_findBest_118 : decode cX5_findBest 118 = .ok (.iconst 1, 1) := by decide +kernel
theorem dX5_findBest_119 : decode cX5_findBest 119 = .ok (.iadd, 1) := by decide +kernel
theorem dX5_findBest_120 : decode cX5_findBest 120 = .ok (.iaload, 1) := by decide +kernel
theorem dX5_findBest_121 : decode cX5_findBest 121 = .ok (.iadd, 1) := by decide +kernel
theorem dX5_findBest_122 : decode cX5_findBest 122 = .ok (.iload_n 2, 1) := by decide +kernel
theorem dX5_findBest_123 : decode cX5_findBest 123 = .ok (.ifCond .eq 7, 3) := by decide +kernel
theorem dX5_findBest_126 : decode cX5_findBest 126 = .ok (.iconst 0, 1) := by decide +kernel
theorem dX5_findBest_127 : decode cX5_findBest 127 = .ok (.goto 4, 3) := by decide +kernel
theorem dX5_findBest_130 : decode cX5_findBest 130 = .ok (.iconst 1, 1) := by decide +kernel
theorem dX5_findBest_131 : decode cX5_findBest 131 = .ok (.iadd, 1) := by decide +kernel
theorem dX5_findBest_132 : decode cX5_findBest 132 = .ok (.iastore, 1) := by decide +kernel
theorem dX5_findBest_133 : decode cX5_findBest 133 = .ok (.iinc 1 (-1), 3) := by decide +kernel
theorem dX5_findBest_136 : decode cX5_findBest 136 = .ok (.goto (-96), 3) := by decide +kernel
theorem dX5_findBest_139 : decode cX5_findBest 139 = .ok (.return_, 1) := by decide +kernel
set_option maxRecDepth 20000 in
theorem ggX5_findLeast_X3_makeEmpty : GoodIn wsX5_findLeast wsX3_makeEmpty := goodIn_r _ [8, 9, 10, 11, 12, 13, 14, 52, 53] (by decide +kernel) (by decide +kernel)
set_option maxRecDepth 20000 in
theorem gX5_findLeast_X3_makeEmpty : GoodIn wsX5_findLeast (wsV RX5 93 RX3 yX3_makeEmpty wsX3_makeEmpty) := goodIn_app (goodIn_of _ (by decide +kernel)) ggX5_findLeast_X3_makeEmpty
set_option maxRecDepth 20000 in
theorem ggX5_findLeast_X5_hasBit : GoodIn wsX5_findLeast wsX5_hasBit := goodIn_r _ [18] (by decide +kernel) (by decide +kernel)
set_option maxRecDepth 20000 in
theorem gX5_findLeast_X5_hasBit : GoodIn wsX5_findLeast (va_wsS RX5 62 yX5_hasBit wsX5_hasBit) := goodIn_app (goodIn_of _ (by decide +kernel)) ggX5_findLeast_X5_hasBit
set_option maxRecDepth 20000 in
theorem ggX5_findLeast_X6_lowestHop : GoodIn wsX5_findLeast wsX6_lowestHop := goodIn_r _ [21, 22, 23, 24, 25, 26] (by decide +kernel) (by decide +kernel)
set_option maxRecDepth 20000 in
theorem gX5_findLeast_X6_lowestHop_n96 : GoodIn wsX5_findLeast (wsX6_lowestHop) := ggX5_findLeast_X6_lowestHop
set_option maxRecDepth 20000 in
theorem ggX5_findLeast_X3_put : GoodIn wsX5_findLeast wsX3_put := goodIn_r _ [30, 10, 31, 20, 32, 33, 34, 35, 36, 37, 7, 38, 9, 39, 40, 41, 42, 43, 44, 52, 53] (by decide +kernel) (by decide +kernel)
set_option maxRecDepth 20000 in
theorem gX5_findLeast_X3_put : GoodIn wsX5_findLeast (wsV RX5 99 RX3 yX3_put wsX3_put) := goodIn_app (goodIn_of _ (by decide +kernel)) ggX5_findLeast_X3_put
theorem dX5_findLeast_0 : decode cX5_findLeast 0 = .ok (.aload_n 0, 1) := by decide +kernel
theorem dX5_findLeast_1 : decode cX5_findLeast 1 = .ok (.getfield 34, 3) := by decide +kernel
theorem dX5_findLeast_4 : decode cX5_findLeast 4 = .ok (.invokevirtual 93, 3) := by decide +kernel
theorem dX5_findLeast_7 : decode cX5_findLeast 7 = .ok (.iconst 1, 1) := by decide +kernel
theorem dX5_findLeast_8 : decode cX5_findLeast 8 = .ok (.istore_n 1, 1) := by decide +kernel
theorem dX5_findLeast_9 : decode cX5_findLeast 9 = .ok (.iload_n 1, 1) := by decide +kernel
theorem dX5_findLeast_10 : decode cX5_findLeast 10 = .ok (.sipush 512, 3) := by decide +kernel
theorem dX5_findLeast_13 : decode cX5_findLeast 13 = .ok (.if_icmp .ge 79, 3) := by decide +kernel
theorem dX5_findLeast_16 : decode cX5_findLeast 16 = .ok (.iload_n 1, 1) := by decide +kernel
theorem dX5_findLeast_17 : decode cX5_findLeast 17 = .ok (.iconst 1, 1) := by decide +kernel
theorem dX5_findLeast_18 : decode cX5_findLeast 18 = .ok (.if_icmp .ne 7, 3) := by decide +kernel
theorem dX5_findLeast_21 : decode cX5_findLeast 21 = .ok (.iconst 0, 1) := by decide +kernel
theorem dX5_findLeast_22 : decode cX5_findLeast 22 = .ok (.goto 11, 3) := by decide +kernel
theorem dX5_findLeast_25 : decode cX5_findLeast 25 = .ok (.aload_n 0, 1) := by decide +kernel
theorem dX5_findLeast_26 : decode cX5_findLeast 26 = .ok (.getfield 24, 3) := by decide +kernel
theorem dX5_findLeast_29 : decode cX5_findLeast 29 = .ok (.iload_n 1, 1) := by decide +kernel
theorem dX5_findLeast_30 : decode cX5_findLeast 30 = .ok (.iconst 1, 1) := by decide +kernel
theorem dX5_findLeast_31 : decode cX5_findLeast 31 = .ok (.ishr, 1) := by decide +kernel
theorem dX5_findLeast_32 : decode cX5_findLeast 32 = .ok (.iaload, 1) := by decide +kernel
theorem dX5_findLeast_33 : decode cX5_findLeast 33 = .ok (.istore_n 2, 1) := by decide +kernel
theorem dX5_findLeast_34 : decode cX5_findLeast 34 = .ok (.aload_n 0, 1) := by decide +kernel
theorem dX5_findLeast_35 : decode cX5_findLeast 35 = .ok (.getfield 18, 3) := by decide +kernel
theorem dX5_findLeast_38 : decode cX5_findLeast 38 = .ok (.iload_n 1, 1) := by decide +kernel
theorem dX5_findLeast_39 : decode cX5_findLeast 39 = .ok (.iaload, 1) := by decide +kernel
theorem dX5_findLeast_40 : decode cX5_findLeast 40 = .ok (.iload_n 2, 1) := by decide +kernel
theorem dX5_findLeast_41 : decode cX5_findLeast 41 = .ok (.invokestatic 62, 3) := by decide +kernel
theorem dX5_findLeast_44 : decode cX5_findLeast 44 = .ok (.ifCond .eq 13, 3) := by decide +kernel
theorem dX5_findLeast_47 : decode cX5_findLeast 47 = .ok (.aload_n 0, 1) := by decide +kernel
theorem dX5_findLeast_48 : decode cX5_findLeast 48 = .ok (.getfield 24, 3) := by decide +kernel
theorem dX5_findLeast_51 : decode cX5_findLeast 51 = .ok (.iload_n 1, 1) := by decide +kernel
theorem dX5_findLeast_52 : decode cX5_findLeast 52 = .ok (.iload_n 2, 1) := by decide +kernel
theorem dX5_findLeast_53 : decode cX5_findLeast 53 = .ok (.iastore, 1) := by decide +kernel
theorem dX5_findLeast_54 : decode cX5_findLeast 54 = .ok (.goto 32, 3) := by decide +kernel
theorem dX5_findLeast_57 : decode cX5_findLeast 57 = .ok (.aload_n 0, 1) := by decide +kernel
theorem dX5_findLeast_58 : decode cX5_findLeast 58 = .ok (.getfield 24, 3) := by decide +kernel
theorem dX5_findLeast_61 : decode cX5_findLeast 61 = .ok (.iload_n 1, 1) := by decide +kernel
theorem dX5_findLeast_62 : decode cX5_findLeast 62 = .ok (.aload_n 0, 1) := by decide +kernel
theorem dX5_findLeast_63 : decode cX5_findLeast 63 = .ok (.getfield 18, 3) := by decide +kernel
theorem dX5_findLeast_66 : decode cX5_findLeast 66 = .ok (.iload_n 1, 1) := by decide +kernel
theorem dX5_findLeast_67 : decode cX5_findLeast 67 = .ok (.iaload, 1) := by decide +kernel
theorem dX5_findLeast_68 : decode cX5_findLeast 68 = .ok (.invokestatic 96, 3) := by decide +kernel
theorem dX5_findLeast_71 : decode cX5_findLeast 71 = .ok (.iastore, 1) := by decide +kernel
theorem dX5_findLeast_72 : decode cX5_findLeast 72 = .ok (.aload_n 0, 1) := by decide +kernel
theorem dX5_findLeast_73 : decode cX5_findLeast 73 = .ok (.getfield 34, 3) := by decide +kernel
theorem dX5_findLeast_76 : decode cX5_findLeast 76 = .ok (.iload_n 1, 1) := by decide +kernel
theorem dX5_findLeast_77 : decode cX5_findLeast 77 = .ok (.aload_n 0, 1) := by decide +kernel
theorem dX5_findLeast_78 : decode cX5_findLeast 78 = .ok (.getfield 24, 3) := by decide +kernel
theorem dX5_findLeast_81 : decode cX5_findLeast 81 = .ok (.iload_n 1, 1) := by decide +kernel
theorem dX5_findLeast_82 : decode cX5_findLeast 82 = .ok (.iaload, 1) := by decide +kernel
theorem dX5_findLeast_83 : decode cX5_findLeast 83 = .ok (.invokevirtual 99, 3) := by decide +kernel
theorem dX5_findLeast_86 : decode cX5_findLeast 86 = .ok (.iinc 1 1, 3) := by decide +kernel
theorem dX5_findLeast_89 : decode cX5_findLeast 89 = .ok (.goto (-80), 3) := by decide +kernel
theorem dX5_findLeast_92 : decode cX5_findLeast 92 = .ok (.return_, 1) := by decide +kernel
theorem dX5_hasBit_0 : decode cX5_hasBit 0 = .ok (.iload_n 0, 1) := by decide +kernel
theorem dX5_hasBit_1 : decode cX5_hasBit 1 = .ok (.iload_n 1, 1) := by decide +kernel
theorem dX5_hasBit_2 : decode cX5_hasBit 2 = .ok (.ishr, 1) := by decide +kernel
theorem dX5_hasBit_3 : decode cX5_hasBit 3 = .ok (.iconst 1, 1) := by decide +kernel
theorem dX5_hasBit_4 : decode cX5_hasBit 4 = .ok (.iand, 1) := by decide +kernel
theorem dX5_hasBit_5 : decode cX5_hasBit 5 = .ok (.iconst 1, 1) := by decide +kernel
theorem dX5_hasBit_6 : decode cX5_hasBit 6 = .ok (.if_icmp .ne 7, 3) := by decide +kernel
theorem dX5_hasBit_9 : decode cX5_hasBit 9 = .ok (.iconst 1, 1) := by decide +kernel
theorem dX5_hasBit_10 : decode cX5_hasBit 10 = .ok (.goto 4, 3) := by decide +kernel
theorem dX5_hasBit_13 : decode cX5_hasBit 13 = .ok (.iconst 0, 1) := by decide +kernel
theorem dX5_hasBit_14 : decode cX5_hasBit 14 = .ok (.ireturn, 1) := by decide +kernel
set_option maxRecDepth 20000 in
theorem ggX6_init_X0_init : GoodIn wsX6_init wsX0_init := goodIn_r _ [25, 26, 2, 3, 27, 28, 29, 30, 31, 32, 33, 34, 35, 36, 37, 38, 39, 40, 41, 42, 43, 44, 45, 46, 47, 100, 101, 102, 75, 76, 77, 103, 104] (by decide +kernel) (by decide +kernel)
set_option maxRecDepth 20000 in
theorem gX6_init_X0_init : GoodIn wsX6_init (wsX0_init) := ggX6_init_X0_init
set_option maxRecDepth 20000 in
theorem ggX6_init_X5_init : GoodIn wsX6_init wsX5_init := goodIn_r _ [49, 50, 2, 3, 51, 52, 53, 54, 55, 56, 57, 37, 38, 58, 59, 42, 43, 44, 45, 46, 47, 85, 86, 87, 88, 89, 90, 91, 103, 104] (by decide +kernel) (by decide +kernel)
set_option maxRecDepth 20000 in
theorem gX6_init_X5_init_n21 : GoodIn wsX6_init (wsX5_init) := ggX6_init_X5_init
set_option maxRecDepth 20000 in
theorem ggX6_init_X4_init : GoodIn wsX6_init wsX4_init := goodIn_r _ [61, 62, 2, 3, 51, 63, 64, 37, 38, 65, 66, 67, 68, 42, 43, 44, 45, 46, 47, 92, 93, 94, 95, 96, 103, 104] (by decide +kernel) (by decide +kernel)
set_option maxRecDepth 20000 in
theorem gX6_init_X4_init_n28 : GoodIn wsX6_init (wsX4_init) := ggX6_init_X4_init
set_option maxRecDepth 20000 in
theorem ggX6_init_X2_init : GoodIn wsX6_init wsX2_init := goodIn_r _ [70, 71, 2, 3, 45, 72, 73, 74, 97, 98, 99] (by decide +kernel) (by decide +kernel)
set_option maxRecDepth 20000 in
theorem gX6_init_X2_init_n46 : GoodIn wsX6_init (wsX2_init) := ggX6_init_X2_init
theorem dX6_init_0 : decode cX6_init 0 = .ok (.aload_n 0, 1) := by decide +kernel
theorem dX6_init_1 : decode cX6_init 1 = .ok (.invokespecial 1, 3) := by decide +kernel
theorem dX6_init_4 : decode cX6_init 4 = .ok (.aload_n 0, 1) := by decide +kernel
theorem dX6_init_5 : decode cX6_init 5 = .ok (.new 7, 3) := by decide +kernel
theorem dX6_init_8 : decode cX6_init 8 = .ok (.dup, 1) := by decide +kernel
theorem dX6_init_9 : decode cX6_init 9 = .ok (.invokespecial 9, 3) := by decide +kernel
theorem dX6_init_12 : decode cX6_init 12 = .ok (.putfield 10, 3) := by decide +kernel
theorem dX6_init_15 : decode cX6_init 15 = .ok (.aload_n 0, 1) := by decide +kernel
theorem dX6_init_16 : decode cX6_init 16 = .ok (.new 7, 3) := by decide +kernel
theorem dX6_init_19 : decode cX6_init 19 = .ok (.dup, 1) := by decide +kernel
theorem dX6_init_20 : decode cX6_init 20 = .ok (.invokespecial 9, 3) := by decide +kernel
theorem dX6_init_23 : decode cX6_init 23 = .ok (.putfield 16, 3) := by decide +kernel
theorem dX6_init_26 : decode cX6_init 26 = .ok (.aload_n 0, 1) := by decide +kernel
theorem dX6_init_27 : decode cX6_init 27 = .ok (.new 19, 3) := by decide +kernel
theorem dX6_init_30 : decode cX6_init 30 = .ok (.dup, 1) := by decide +kernel
theorem dX6_init_31 : decode cX6_init 31 = .ok (.invokespecial 21, 3) := by decide +kernel
theorem dX6_init_34 : decode cX6_init 34 = .ok (.putfield 22, 3) := by decide +kernel
theorem dX6_init_37 : decode cX6_init 37 = .ok (.aload_n 0, 1) := by decide +kernel
theorem dX6_init_38 : decode cX6_init 38 = .ok (.new 26, 3) := by decide +kernel
theorem dX6_init_41 : decode cX6_init 41 = .ok (.dup, 1) := by decide +kernel
theorem dX6_init_42 : decode cX6_init 42 = .ok (.invokespecial 28, 3) := by decide +kernel
theorem dX6_init_45 : decode cX6_init 45 = .ok (.putfield 29, 3) := by decide +kernel
theorem dX6_init_48 : decode cX6_init 48 = .ok (.aload_n 0, 1) := by decide +kernel
theorem dX6_init_49 : decode cX6_init 49 = .ok (.iconst 4, 1) := by decide +kernel
theorem dX6_init_50 : decode cX6_init 50 = .ok (.anewarray 33, 3) := by decide +kernel
theorem dX6_init_53 : decode cX6_init 53 = .ok (.putfield 35, 3) := by decide +kernel
theorem dX6_init_56 : decode cX6_init 56 = .ok (.aload_n 0, 1) := by decide +kernel
theorem dX6_init_57 : decode cX6_init 57 = .ok (.iconst 0, 1) := by decide +kernel
theorem dX6_init_58 : decode cX6_init 58 = .ok (.putfield 39, 3) := by decide +kernel
theorem dX6_init_61 : decode cX6_init 61 = .ok (.aload_n 0, 1) := by decide +kernel
theorem dX6_init_62 : decode cX6_init 62 = .ok (.iconst 1, 1) := by decide +kernel
theorem dX6_init_63 : decode cX6_init 63 = .ok (.putfield 43, 3) := by decide +kernel
theorem dX6_init_66 : decode cX6_init 66 = .ok (.iconst 0, 1) := by decide +kernel
theorem dX6_init_67 : decode cX6_init 67 = .ok (.istore_n 1, 1) := by decide +kernel
theorem dX6_init_68 : decode cX6_init 68 = .ok (.iload_n 1, 1) := by decide +kernel
theorem dX6_init_69 : decode cX6_init 69 = .ok (.iconst 4, 1) := by decide +kernel
theorem dX6_init_70 : decode cX6_init 70 = .ok (.if_icmp .ge 22, 3) := by decide +kernel
theorem dX6_init_73 : decode cX6_init 73 = .ok (.aload_n 0, 1) := by decide +kernel
theorem dX6_init_74 : decode cX6_init 74 = .ok (.getfield 35, 3) := by decide +kernel
theorem dX6_init_77 : decode cX6_init 77 = .ok (.iload_n 1, 1) := by decide +kernel
theorem dX6_init_78 : decode cX6_init 78 = .ok (.new 33, 3) := by decide +kernel
theorem dX6_init_81 : decode cX6_init 81 = .ok (.dup, 1) := by decide +kernel
theorem dX6_init_82 : decode cX6_init 82 = .ok (.invokespecial 46, 3) := by decide +kernel
theorem dX6_init_85 : decode cX6_init 85 = .ok (.aastore, 1) := by decide +kernel
theorem dX6_init_86 : decode cX6_init 86 = .ok (.iinc 1 1, 3) := by decide +kernel
theorem dX6_init_89 : decode cX6_init 89 = .ok (.goto (-21), 3) := by decide +kernel
theorem dX6_init_92 : decode cX6_init 92 = .ok (.return_, 1) := by decide +kernel
set_option maxRecDepth 20000 in
theorem ggX6_look_X6_isAddress : GoodIn wsX6_look wsX6_isAddress := goodIn_r _ [4] (by decide +kernel) (by decide +kernel)
set_option maxRecDepth 20000 in
theorem gX6_look_X6_isAddress : GoodIn wsX6_look (va_wsS RX6 47 yX6_isAddress wsX6_isAddress) := goodIn_app (goodIn_of _ (by decide +kernel)) ggX6_look_X6_isAddress
set_option maxRecDepth 20000 in
theorem ggX6_look_X6_table : GoodIn wsX6_look wsX6_table := goodIn_r _ [8, 9, 10, 11, 12, 13, 14, 15, 16, 17, 18, 19, 20, 21, 125, 126, 127, 128, 129, 130, 131, 132, 133, 134, 135, 136, 137] (by decide +kernel) (by decide +kernel)
set_option maxRecDepth 20000 in
theorem gX6_look_X6_table : GoodIn wsX6_look (wsV RX6 51 RX6 yX6_table wsX6_table) := goodIn_app (goodIn_of _ (by decide +kernel)) ggX6_look_X6_table
set_option maxRecDepth 20000 in
theorem ggX6_look_X3_hopOfAddress : GoodIn wsX6_look wsX3_hopOfAddress := goodIn_r _ [26, 27, 28, 29, 25, 30, 31, 32, 33, 34, 35, 138, 139] (by decide +kernel) (by decide +kernel)
set_option maxRecDepth 20000 in
theorem gX6_look_X3_hopOfAddress : GoodIn wsX6_look (wsV RX6 55 RX3 yX3_hopOfAddress wsX3_hopOfAddress) := goodIn_app (goodIn_of _ (by decide +kernel)) ggX6_look_X3_hopOfAddress
set_option maxRecDepth 20000 in
theorem ggX6_look_X3_deciderOf : GoodIn wsX6_look wsX3_deciderOf := goodIn_r _ [30, 31, 32, 33, 25, 34, 35, 138, 139] (by decide +kernel) (by decide +kernel)
set_option maxRecDepth 20000 in
theorem gX6_look_X3_deciderOf : GoodIn wsX6_look (wsV RX6 61 RX3 yX3_deciderOf wsX3_deciderOf) := goodIn_app (goodIn_of _ (by decide +kernel)) ggX6_look_X3_deciderOf
set_option maxRecDepth 20000 in
theorem ggX6_look_X6_installed : GoodIn wsX6_look wsX6_installed := goodIn_r _ [40, 9, 10, 11, 12, 13, 14, 15, 41, 42, 43, 19, 44, 45, 125, 126, 127, 128, 129, 130, 131, 132, 133, 134, 135, 136, 137] (by decide +kernel) (by decide +kernel)
set_option maxRecDepth 20000 in
theorem gX6_look_X6_installed : GoodIn wsX6_look (wsV RX6 64 RX6 yX6_installed wsX6_installed) := goodIn_app (goodIn_of _ (by decide +kernel)) ggX6_look_X6_installed
set_option maxRecDepth 20000 in
theorem ggX6_look_X6_freshView : GoodIn wsX6_look wsX6_freshView := goodIn_r _ [49, 50, 51, 5, 6, 7, 3, 8, 9, 10, 11, 12, 13, 14, 15, 16, 17, 18, 19, 20, 21, 37, 38, 39, 40, 41, 42, 43, 44, 45, 52, 53, 54, 55, 56, 57, 58, 59, 60, 61, 62, 25, 63, 35, 64, 65, 66, 67, 68, 69, 70, 71, 72, 73, 74, 75, 76, 32, 33, 34, 77, 78, 79, 80, 81, 82, 83, 84, 85, 86, 87, 88, 89, 90, 91, 92, 93, 94, 95, 96, 97, 98, 99, 100, 101, 102, 103, 104, 105, 106, 107, 108, 109, 110, 111, 112, 113, 114, 31, 115, 116, 117, 118, 119, 120, 125, 126, 127, 128, 129, 130, 131, 132, 133, 134, 135, 136, 137, 140, 141, 142, 143, 144, 145, 146, 138, 139] (by decide +kernel) (by decide +kernel)
set_option maxRecDepth 20000 in
theorem gX6_look_X6_freshView : GoodIn wsX6_look (wsV RX6 67 RX6 yX6_freshView wsX6_freshView) := goodIn_app (goodIn_of _ (by decide +kernel)) ggX6_look_X6_freshView
set_option maxRecDepth 20000 in
theorem ggX6_look_X5_leastTable : GoodIn wsX6_look wsX5_leastTable := goodIn_r _ [124, 87, 140, 141, 142, 143, 144, 145, 146] (by decide +kernel) (by decide +kernel)
set_option maxRecDepth 20000 in
theorem gX6_look_X5_leastTable : GoodIn wsX6_look (wsV RX6 71 RX5 yX5_leastTable wsX5_leastTable) := goodIn_app (goodIn_of _ (by decide +kernel)) ggX6_look_X5_leastTable
theorem dX6_look_0 : decode cX6_look 0 = .ok (.iload_n 1, 1) := by decide +kernel
theorem dX6_look_1 : decode cX6_look 1 = .ok (.invokestatic 47, 3) := by decide +kernel
theorem dX6_look_4 : decode cX6_look 4 = .ok (.ifCond .ne 5, 3) := by decide +kernel
theorem dX6_look_7 : decode cX6_look 7 = .ok (.iconst (-1), 1) := by decide +kernel
theorem dX6_look_8 : decode cX6_look 8 = .ok (.ireturn, 1) := by decide +kernel
theorem dX6_look_9 : decode cX6_look 9 = .ok (.iload_n 2, 1) := by decide +kernel
theorem dX6_look_10 : decode cX6_look 10 = .ok (.tableswitch 69 0 3 #[30, 39, 48, 57], 30) := by decide +kernel
theorem dX6_look_40 : decode cX6_look 40 = .ok (.aload_n 0, 1) := by decide +kernel
theorem dX6_look_41 : decode cX6_look 41 = .ok (.invokevirtual 51, 3) := by decide +kernel
theorem dX6_look_44 : decode cX6_look 44 = .ok (.iload_n 1, 1) := by decide +kernel
theorem dX6_look_45 : decode cX6_look 45 = .ok (.invokevirtual 55, 3) := by decide +kernel
theorem dX6_look_48 : decode cX6_look 48 = .ok (.ireturn, 1) := by decide +kernel
theorem dX6_look_49 : decode cX6_look 49 = .ok (.aload_n 0, 1) := by decide +kernel
theorem dX6_look_50 : decode cX6_look 50 = .ok (.invokevirtual 51, 3) := by decide +kernel
theorem dX6_look_53 : decode cX6_look 53 = .ok (.iload_n 1, 1) := by decide +kernel
theorem dX6_look_54 : decode cX6_look 54 = .ok (.invokevirtual 61, 3) := by decide +kernel
theorem dX6_look_57 : decode cX6_look 57 = .ok (.ireturn, 1) := by decide +kernel
theorem dX6_look_58 : decode cX6_look 58 = .ok (.aload_n 0, 1) := by decide +kernel
theorem dX6_look_59 : decode cX6_look 59 = .ok (.invokevirtual 64, 3) := by decide +kernel
theorem dX6_look_62 : decode cX6_look 62 = .ok (.iload_n 1, 1) := by decide +kernel
theorem dX6_look_63 : decode cX6_look 63 = .ok (.invokevirtual 55, 3) := by decide +kernel
theorem dX6_look_66 : decode cX6_look 66 = .ok (.ireturn, 1) := by decide +kernel
theorem dX6_look_67 : decode cX6_look 67 = .ok (.aload_n 0, 1) := by decide +kernel
theorem dX6_look_68 : decode cX6_look 68 = .ok (.invokevirtual 67, 3) := by decide +kernel
theorem dX6_look_71 : decode cX6_look 71 = .ok (.invokevirtual 71, 3) := by decide +kernel
theorem dX6_look_74 : decode cX6_look 74 = .ok (.iload_n 1, 1) := by decide +kernel
theorem dX6_look_75 : decode cX6_look 75 = .ok (.invokevirtual 55, 3) := by decide +kernel
theorem dX6_look_78 : decode cX6_look 78 = .ok (.ireturn, 1) := by decide +kernel
theorem dX6_look_79 : decode cX6_look 79 = .ok (.iconst (-1), 1) := by decide +kernel
theorem dX6_look_80 : decode cX6_look 80 = .ok (.ireturn, 1) := by decide +kernel
set_option maxRecDepth 20000 in
theorem ggX6_prefix_X6_isPrefix : GoodIn wsX6_prefix wsX6_isPrefix := goodIn_r _ [4] (by decide +kernel) (by decide +kernel)
set_option maxRecDepth 20000 in
theorem gX6_prefix_X6_isPrefix : GoodIn wsX6_prefix (va_wsS RX6 74 yX6_isPrefix wsX6_isPrefix) := goodIn_app (goodIn_of _ (by decide +kernel)) ggX6_prefix_X6_isPrefix
set_option maxRecDepth 20000 in
theorem ggX6_prefix_X6_table : GoodIn wsX6_prefix wsX6_table := goodIn_r _ [8, 9, 10, 11, 12, 13, 14, 15, 16, 17, 18, 19, 20, 21, 153, 154, 155, 156, 157, 158, 159, 160, 161, 162, 163, 164, 165] (by decide +kernel) (by decide +kernel)
set_option maxRecDepth 20000 in
theorem gX6_prefix_X6_table : GoodIn wsX6_prefix (wsV RX6 51 RX6 yX6_table wsX6_table) := goodIn_app (goodIn_of _ (by decide +kernel)) ggX6_prefix_X6_table
set_option maxRecDepth 20000 in
theorem ggX6_prefix_X3_hopAt : GoodIn wsX6_prefix wsX3_hopAt := goodIn_r _ [26, 27, 166, 167] (by decide +kernel) (by decide +kernel)
set_option maxRecDepth 20000 in
theorem gX6_prefix_X3_hopAt : GoodIn wsX6_prefix (wsV RX6 77 RX3 yX3_hopAt wsX3_hopAt) := goodIn_app (goodIn_of _ (by decide +kernel)) ggX6_prefix_X3_hopAt
set_option maxRecDepth 20000 in
theorem ggX6_prefix_X6_installed : GoodIn wsX6_prefix wsX6_installed := goodIn_r _ [31, 9, 10, 11, 12, 13, 14, 15, 32, 33, 34, 19, 35, 36, 153, 154, 155, 156, 157, 158, 159, 160, 161, 162, 163, 164, 165] (by decide +kernel) (by decide +kernel)
set_option maxRecDepth 20000 in
theorem gX6_prefix_X6_installed : GoodIn wsX6_prefix (wsV RX6 64 RX6 yX6_installed wsX6_installed) := goodIn_app (goodIn_of _ (by decide +kernel)) ggX6_prefix_X6_installed
set_option maxRecDepth 20000 in
theorem ggX6_prefix_X6_freshView : GoodIn wsX6_prefix wsX6_freshView := goodIn_r _ [40, 41, 42, 5, 6, 7, 3, 8, 9, 10, 11, 12, 13, 14, 15, 16, 17, 18, 19, 20, 21, 28, 29, 30, 31, 32, 33, 34, 35, 36, 43, 44, 45, 46, 47, 48, 49, 50, 51, 52, 53, 25, 54, 27, 55, 56, 57, 58, 59, 60, 61, 62, 63, 64, 65, 66, 67, 23, 24, 26, 68, 69, 70, 71, 72, 73, 74, 75, 76, 77, 78, 79, 80, 81, 82, 83, 84, 85, 86, 87, 88, 89, 90, 91, 92, 93, 94, 95, 96, 97, 98, 99, 100, 101, 2, 4, 102, 103, 104, 105, 106, 107, 108, 109, 110, 153, 154, 155, 156, 157, 158, 159, 160, 161, 162, 163, 164, 165, 168, 169, 170, 171, 172, 173, 174, 166, 167] (by decide +kernel) (by decide +kernel)
set_option maxRecDepth 20000 in
theorem gX6_prefix_X6_freshView : GoodIn wsX6_prefix (wsV RX6 67 RX6 yX6_freshView wsX6_freshView) := goodIn_app (goodIn_of _ (by decide +kernel)) ggX6_prefix_X6_freshView
set_option maxRecDepth 20000 in
theorem ggX6_prefix_X5_leastTable : GoodIn wsX6_prefix wsX5_leastTable := goodIn_r _ [114, 78, 168, 169, 170, 171, 172, 173, 174] (by decide +kernel) (by decide +kernel)
set_option maxRecDepth 20000 in
theorem gX6_prefix_X5_leastTable : GoodIn wsX6_prefix (wsV RX6 71 RX5 yX5_leastTable wsX5_leastTable) := goodIn_app (goodIn_of _ (by decide +kernel)) ggX6_prefix_X5_leastTable
set_option maxRecDepth 20000 in
theorem ggX6_prefix_X5_bestHops : GoodIn wsX6_prefix wsX5_bestHops := goodIn_r _ [118, 72, 2, 3, 4, 168, 169, 170, 171, 172, 173, 174] (by decide +kernel) (by decide +kernel)
set_option maxRecDepth 20000 in
theorem gX6_prefix_X5_bestHops : GoodIn wsX6_prefix (wsV RX6 80 RX5 yX5_bestHops wsX5_bestHops) := goodIn_app (goodIn_of _ (by decide +kernel)) ggX6_prefix_X5_bestHops
set_option maxRecDepth 20000 in
theorem ggX6_prefix_X5_easeOf : GoodIn wsX6_prefix wsX5_easeOf := goodIn_r _ [122, 73, 2, 3, 4, 168, 169, 170, 171, 172, 173, 174] (by decide +kernel) (by decide +kernel)
set_option maxRecDepth 20000 in
theorem gX6_prefix_X5_easeOf : GoodIn wsX6_prefix (wsV RX6 83 RX5 yX5_easeOf wsX5_easeOf) := goodIn_app (goodIn_of _ (by decide +kernel)) ggX6_prefix_X5_easeOf
set_option maxRecDepth 20000 in
theorem ggX6_prefix_X5_hopsBeneath : GoodIn wsX6_prefix wsX5_hopsBeneath := goodIn_r _ [126, 49, 2, 3, 4, 168, 169, 170, 171, 172, 173, 174] (by decide +kernel) (by decide +kernel)
set_option maxRecDepth 20000 in
theorem gX6_prefix_X5_hopsBeneath : GoodIn wsX6_prefix (wsV RX6 86 RX5 yX5_hopsBeneath wsX5_hopsBeneath) := goodIn_app (goodIn_of _ (by decide +kernel)) ggX6_prefix_X5_hopsBeneath
set_option maxRecDepth 20000 in
theorem ggX6_prefix_X3_redundancyOf : GoodIn wsX6_prefix wsX3_redundancyOf := goodIn_r _ [130, 104, 23, 24, 25, 26, 27, 131, 132, 133, 134, 135, 136, 137, 138, 139, 3, 140, 141, 142, 143, 144, 145, 95, 146, 97, 147, 148, 149, 150, 151, 152, 166, 167] (by decide +kernel) (by decide +kernel)
set_option maxRecDepth 20000 in
theorem gX6_prefix_X3_redundancyOf : GoodIn wsX6_prefix (wsV RX6 89 RX3 yX3_redundancyOf wsX3_redundancyOf) := goodIn_app (goodIn_of _ (by decide +kernel)) ggX6_prefix_X3_redundancyOf
theorem dX6_prefix_0 : decode cX6_prefix 0 = .ok (.iload_n 1, 1) := by decide +kernel
theorem dX6_prefix_1 : decode cX6_prefix 1 = .ok (.invokestatic 74, 3) := by decide +kernel
theorem dX6_prefix_4 : decode cX6_prefix 4 = .ok (.ifCond .ne 5, 3) := by decide +kernel
theorem dX6_prefix_7 : decode cX6_prefix 7 = .ok (.iconst (-1), 1) := by decide +kernel
theorem dX6_prefix_8 : decode cX6_prefix 8 = .ok (.ireturn, 1) := by decide +kernel
theorem dX6_prefix_9 : decode cX6_prefix 9 = .ok (.iload_n 2, 1) := by decide +kernel
theorem dX6_prefix_10 : decode cX6_prefix 10 = .ok (.tableswitch 108 0 6 #[42, 51, 60, 72, 81, 90, 99], 42) := by decide +kernel
theorem dX6_prefix_52 : decode cX6_prefix 52 = .ok (.aload_n 0, 1) := by decide +kernel
theorem dX6_prefix_53 : decode cX6_prefix 53 = .ok (.invokevirtual 51, 3) := by decide +kernel
theorem dX6_prefix_56 : decode cX6_prefix 56 = .ok (.iload_n 1, 1) := by decide +kernel
theorem dX6_prefix_57 : decode cX6_prefix 57 = .ok (.invokevirtual 77, 3) := by decide +kernel
theorem dX6_prefix_60 : decode cX6_prefix 60 = .ok (.ireturn, 1) := by decide +kernel
theorem dX6_prefix_61 : decode cX6_prefix 61 = .ok (.aload_n 0, 1) := by decide +kernel
theorem dX6_prefix_62 : decode cX6_prefix 62 = .ok (.invokevirtual 64, 3) := by decide +kernel
theorem dX6_prefix_65 : decode cX6_prefix 65 = .ok (.iload_n 1, 1) := by decide +kernel
theorem dX6_prefix_66 : decode cX6_prefix 66 = .ok (.invokevirtual 77, 3) := by decide +kernel
theorem dX6_prefix_69 : decode cX6_prefix 69 = .ok (.ireturn, 1) := by decide +kernel
theorem dX6_prefix_70 : decode cX6_prefix 70 = .ok (.aload_n 0, 1) := by decide +kernel
theorem dX6_prefix_71 : decode cX6_prefix 71 = .ok (.invokevirtual 67, 3) := by decide +kernel
theorem dX6_prefix_74 : decode cX6_prefix 74 = .ok (.invokevirtual 71, 3) := by decide +kernel
theorem dX6_prefix_77 : decode cX6_prefix 77 = .ok (.iload_n 1, 1) := by decide +kernel
theorem dX6_prefix_78 : decode cX6_prefix 78 = .ok (.invokevirtual 77, 3) := by decide +kernel
theorem dX6_prefix_81 : decode cX6_prefix 81 = .ok (.ireturn, 1) := by decide +kernel
theorem dX6_prefix_82 : decode cX6_prefix 82 = .ok (.aload_n 0, 1) := by decide +kernel
theorem dX6_prefix_83 : decode cX6_prefix 83 = .ok (.invokevirtual 67, 3) := by decide +kernel
theorem dX6_prefix_86 : decode cX6_prefix 86 = .ok (.iload_n 1, 1) := by decide +kernel
theorem dX6_prefix_87 : decode cX6_prefix 87 = .ok (.invokevirtual 80, 3) := by decide +kernel
theorem dX6_prefix_90 : decode cX6_prefix 90 = .ok (.ireturn, 1) := by decide +kernel
theorem dX6_prefix_91 : decode cX6_prefix 91 = .ok (.aload_n 0, 1) := by decide +kernel
theorem dX6_prefix_92 : decode cX6_prefix 92 = .ok (.invokevirtual 67, 3) := by decide +kernel
theorem dX6_prefix_95 : decode cX6_prefix 95 = .ok (.iload_n 1, 1) := by decide +kernel
theorem dX6_prefix_96 : decode cX6_prefix 96 = .ok (.invokevirtual 83, 3) := by decide +kernel
theorem dX6_prefix_99 : decode cX6_prefix 99 = .ok (.ireturn, 1) := by decide +kernel
theorem dX6_prefix_100 : decode cX6_prefix 100 = .ok (.aload_n 0, 1) := by decide +kernel
theorem dX6_prefix_101 : decode cX6_prefix 101 = .ok (.invokevirtual 67, 3) := by decide +kernel
theorem dX6_prefix_104 : decode cX6_prefix 104 = .ok (.iload_n 1, 1) := by decide +kernel
theorem dX6_prefix_105 : decode cX6_prefix 105 = .ok (.invokevirtual 86, 3) := by decide +kernel
theorem dX6_prefix_108 : decode cX6_prefix 108 = .ok (.ireturn, 1) := by decide +kernel
theorem dX6_prefix_109 : decode cX6_prefix 109 = .ok (.aload_n 0, 1) := by decide +kernel
theorem dX6_prefix_110 : decode cX6_prefix 110 = .ok (.invokevirtual 51, 3) := by decide +kernel
theorem dX6_prefix_113 : decode cX6_prefix 113 = .ok (.iload_n 1, 1) := by decide +kernel
theorem dX6_prefix_114 : decode cX6_prefix 114 = .ok (.invokevirtual 89, 3) := by decide +kernel
theorem dX6_prefix_117 : decode cX6_prefix 117 = .ok (.ireturn, 1) := by decide +kernel
theorem dX6_prefix_118 : decode cX6_prefix 118 = .ok (.iconst (-1), 1) := by decide +kernel
theorem dX6_prefix_119 : decode cX6_prefix 119 = .ok (.ireturn, 1) := by decide +kernel
set_option maxRecDepth 20000 in
theorem ggX6_cost_X6_isPrefix : GoodIn wsX6_cost wsX6_isPrefix := goodIn_r _ [4] (by decide +kernel) (by decide +kernel)
set_option maxRecDepth 20000 in
theorem gX6_cost_X6_isPrefix : GoodIn wsX6_cost (va_wsS RX6 74 yX6_isPrefix wsX6_isPrefix) := goodIn_app (goodIn_of _ (by decide +kernel)) ggX6_cost_X6_isPrefix
set_option maxRecDepth 20000 in
theorem ggX6_cost_X6_isHop : GoodIn wsX6_cost wsX6_isHop := goodIn_r _ [7] (by decide +kernel) (by decide +kernel)
set_option maxRecDepth 20000 in
theorem gX6_cost_X6_isHop : GoodIn wsX6_cost (va_wsS RX6 92 yX6_isHop wsX6_isHop) := goodIn_app (goodIn_of _ (by decide +kernel)) ggX6_cost_X6_isHop
set_option maxRecDepth 20000 in
theorem ggX6_cost_X6_freshView : GoodIn wsX6_cost wsX6_freshView := goodIn_r _ [11, 12, 13, 14, 15, 16, 3, 17, 18, 19, 20, 21, 22, 23, 24, 25, 26, 27, 28, 29, 30, 31, 32, 33, 34, 35, 36, 37, 38, 39, 40, 41, 42, 43, 44, 45, 46, 47, 48, 49, 50, 51, 52, 53, 54, 55, 56, 57, 58, 59, 60, 61, 62, 63, 64, 65, 66, 67, 68, 69, 70, 71, 72, 73, 74, 75, 76, 77, 78, 79, 80, 81, 82, 83, 84, 85, 86, 87, 88, 89, 90, 91, 92, 93, 94, 95, 96, 97, 98, 99, 100, 101, 102, 103, 2, 4, 6, 7, 104, 105, 106, 107, 108, 109, 110, 123, 124, 125, 126, 127, 128, 129, 130, 131, 132, 133, 134, 135, 136, 137, 138, 139, 140, 141, 142, 143, 144] (by decide +kernel) (by decide +kernel)
set_option maxRecDepth 20000 in
theorem gX6_cost_X6_freshView : GoodIn wsX6_cost (wsV RX6 67 RX6 yX6_freshView wsX6_freshView) := goodIn_app (goodIn_of _ (by decide +kernel)) ggX6_cost_X6_freshView
set_option maxRecDepth 20000 in
theorem ggX6_cost_X5_costBy : GoodIn wsX6_cost wsX5_costBy := goodIn_r _ [114, 115, 116, 117, 43, 118, 75, 2, 3, 4, 119, 120, 121, 122, 74, 90, 91, 92, 136, 137, 138, 139, 140, 141, 142] (by decide +kernel) (by decide +kernel)
set_option maxRecDepth 20000 in
theorem gX6_cost_X5_costBy : GoodIn wsX6_cost (wsV RX6 95 RX5 yX5_costBy wsX5_costBy) := goodIn_app (goodIn_of _ (by decide +kernel)) ggX6_cost_X5_costBy
theorem dX6_cost_0 : decode cX6_cost 0 = .ok (.iload_n 1, 1) := by decide +kernel
theorem dX6_cost_1 : decode cX6_cost 1 = .ok (.invokestatic 74, 3) := by decide +kernel
theorem dX6_cost_4 : decode cX6_cost 4 = .ok (.ifCond .eq 10, 3) := by decide +kernel
theorem dX6_cost_7 : decode cX6_cost 7 = .ok (.iload_n 2, 1) := by decide +kernel
theorem dX6_cost_8 : decode cX6_cost 8 = .ok (.invokestatic 92, 3) := by decide +kernel
theorem dX6_cost_11 : decode cX6_cost 11 = .ok (.ifCond .ne 5, 3) := by decide +kernel
theorem dX6_cost_14 : decode cX6_cost 14 = .ok (.iconst (-1), 1) := by decide +kernel
theorem dX6_cost_15 : decode cX6_cost 15 = .ok (.ireturn, 1) := by decide +kernel
theorem dX6_cost_16 : decode cX6_cost 16 = .ok (.aload_n 0, 1) := by decide +kernel
theorem dX6_cost_17 : decode cX6_cost 17 = .ok (.invokevirtual 67, 3) := by decide +kernel
theorem dX6_cost_20 : decode cX6_cost 20 = .ok (.iload_n 1, 1) := by decide +kernel
theorem dX6_cost_21 : decode cX6_cost 21 = .ok (.iload_n 2, 1) := by decide +kernel
theorem dX6_cost_22 : decode cX6_cost 22 = .ok (.invokevirtual 95, 3) := by decide +kernel
theorem dX6_cost_25 : decode cX6_cost 25 = .ok (.ireturn, 1) := by decide +kernel
set_option maxRecDepth 20000 in
theorem ggX6_least_X6_freshView : GoodIn wsX6_least wsX6_freshView := goodIn_r _ [5, 6, 7, 8, 9, 10, 4, 11, 12, 13, 14, 15, 16, 17, 18, 19, 20, 21, 22, 23, 24, 25, 26, 27, 28, 29, 30, 31, 32, 33, 34, 35, 36, 37, 38, 39, 40, 41, 42, 43, 44, 45, 46, 47, 48, 49, 50, 51, 52, 53, 54, 55, 56, 57, 58, 59, 60, 61, 62, 63, 64, 65, 66, 67, 68, 69, 70, 71, 72, 73, 74, 75, 76, 77, 78, 79, 80, 81, 82, 83, 84, 85, 86, 87, 88, 89, 90, 91, 92, 93, 94, 95, 96, 97, 98, 99, 100, 101, 102, 103, 104, 105, 106, 107, 108, 118, 119, 120, 121, 122, 123, 124, 125, 126, 127, 128, 129, 130, 131, 132, 133, 134, 135, 136, 137, 138, 139] (by decide +kernel) (by decide +kernel)
set_option maxRecDepth 20000 in
theorem gX6_least_X6_freshView : GoodIn wsX6_least (wsV RX6 67 RX6 yX6_freshView wsX6_freshView) := goodIn_app (goodIn_of _ (by decide +kernel)) ggX6_least_X6_freshView
set_option maxRecDepth 20000 in
theorem ggX6_least_X5_leastTable : GoodIn wsX6_least wsX5_leastTable := goodIn_r _ [112, 74, 131, 132, 133, 134, 135, 136, 137] (by decide +kernel) (by decide +kernel)
set_option maxRecDepth 20000 in
theorem gX6_least_X5_leastTable : GoodIn wsX6_least (wsV RX6 71 RX5 yX5_leastTable wsX5_leastTable) := goodIn_app (goodIn_of _ (by decide +kernel)) ggX6_least_X5_leastTable
set_option maxRecDepth 20000 in
theorem ggX6_least_X3_numberOf : GoodIn wsX6_least wsX3_numberOf := goodIn_r _ [116, 102, 61, 62, 45, 63, 47, 138, 139] (by decide +kernel) (by decide +kernel)
set_option maxRecDepth 20000 in
theorem gX6_least_X3_numberOf : GoodIn wsX6_least (wsV RX6 99 RX3 yX3_numberOf wsX3_numberOf) := goodIn_app (goodIn_of _ (by decide +kernel)) ggX6_least_X3_numberOf
set_option maxRecDepth 20000 in
theorem ggX6_least_X3_hopAt : GoodIn wsX6_least wsX3_hopAt := goodIn_r _ [63, 47, 138, 139] (by decide +kernel) (by decide +kernel)
set_option maxRecDepth 20000 in
theorem gX6_least_X3_hopAt : GoodIn wsX6_least (wsV RX6 77 RX3 yX3_hopAt wsX3_hopAt) := goodIn_app (goodIn_of _ (by decide +kernel)) ggX6_least_X3_hopAt
theorem dX6_least_0 : decode cX6_least 0 = .ok (.iload_n 1, 1) := by decide +kernel
end
section
theorem dX6_least_1 : decode cX6_least 1 = .ok (.ifCond .lt 12, 3) := by decide +kernel
theorem dX6_least_4 : decode cX6_least 4 = .ok (.iload_n 2, 1) := by decide +kernel
theorem dX6_least_5 : decode cX6_least 5 = .ok (.ifCond .lt 8, 3) := by decide +kernel
theorem dX6_least_8 : decode cX6_least 8 = .ok (.iload_n 2, 1) := by decide +kernel
theorem dX6_least_9 : decode cX6_least 9 = .ok (.iconst 1, 1) := by decide +kernel
theorem dX6_least_10 : decode cX6_least 10 = .ok (.if_icmp .le 5, 3) := by decide +kernel
theorem dX6_least_13 : decode cX6_least 13 = .ok (.iconst (-1), 1) := by decide +kernel
theorem dX6_least_14 : decode cX6_least 14 = .ok (.ireturn, 1) := by decide +kernel
theorem dX6_least_15 : decode cX6_least 15 = .ok (.aload_n 0, 1) := by decide +kernel
theorem dX6_least_16 : decode cX6_least 16 = .ok (.invokevirtual 67, 3) := by decide +kernel
theorem dX6_least_19 : decode cX6_least 19 = .ok (.invokevirtual 71, 3) := by decide +kernel
theorem dX6_least_22 : decode cX6_least 22 = .ok (.astore_n 3, 1) := by decide +kernel
theorem dX6_least_23 : decode cX6_least 23 = .ok (.aload_n 3, 1) := by decide +kernel
theorem dX6_least_24 : decode cX6_least 24 = .ok (.iload_n 1, 1) := by decide +kernel
theorem dX6_least_25 : decode cX6_least 25 = .ok (.invokevirtual 99, 3) := by decide +kernel
theorem dX6_least_28 : decode cX6_least 28 = .ok (.istore 4, 2) := by decide +kernel
theorem dX6_least_30 : decode cX6_least 30 = .ok (.iload 4, 2) := by decide +kernel
theorem dX6_least_32 : decode cX6_least 32 = .ok (.bipush (-4), 2) := by decide +kernel
theorem dX6_least_34 : decode cX6_least 34 = .ok (.if_icmp .ne 6, 3) := by decide +kernel
theorem dX6_least_37 : decode cX6_least 37 = .ok (.bipush (-4), 2) := by decide +kernel
theorem dX6_least_39 : decode cX6_least 39 = .ok (.ireturn, 1) := by decide +kernel
theorem dX6_least_40 : decode cX6_least 40 = .ok (.iload_n 2, 1) := by decide +kernel
theorem dX6_least_41 : decode cX6_least 41 = .ok (.ifCond .ne 8, 3) := by decide +kernel
theorem dX6_least_44 : decode cX6_least 44 = .ok (.iload 4, 2) := by decide +kernel
theorem dX6_least_46 : decode cX6_least 46 = .ok (.goto 9, 3) := by decide +kernel
theorem dX6_least_49 : decode cX6_least 49 = .ok (.aload_n 3, 1) := by decide +kernel
theorem dX6_least_50 : decode cX6_least 50 = .ok (.iload 4, 2) := by decide +kernel
theorem dX6_least_52 : decode cX6_least 52 = .ok (.invokevirtual 77, 3) := by decide +kernel
theorem dX6_least_55 : decode cX6_least 55 = .ok (.ireturn, 1) := by decide +kernel
set_option maxRecDepth 20000 in
theorem ggX6_count_X6_table : GoodIn wsX6_count wsX6_table := goodIn_r _ [6, 1, 7, 8, 9, 10, 11, 12, 13, 14, 15, 16, 17, 18, 188, 189, 190, 191, 192, 193, 194, 195, 196, 197, 198, 199, 200] (by decide +kernel) (by decide +kernel)
set_option maxRecDepth 20000 in
theorem gX6_count_X6_table : GoodIn wsX6_count (wsV RX6 51 RX6 yX6_table wsX6_table) := goodIn_app (goodIn_of _ (by decide +kernel)) ggX6_count_X6_table
set_option maxRecDepth 20000 in
theorem ggX6_count_X3_howMany : GoodIn wsX6_count wsX3_howMany := goodIn_r _ [23, 24, 201, 202] (by decide +kernel) (by decide +kernel)
set_option maxRecDepth 20000 in
theorem gX6_count_X3_howMany : GoodIn wsX6_count (wsV RX6 102 RX3 yX3_howMany wsX3_howMany) := goodIn_app (goodIn_of _ (by decide +kernel)) ggX6_count_X3_howMany
set_option maxRecDepth 20000 in
theorem ggX6_count_X6_freshView : GoodIn wsX6_count wsX6_freshView := goodIn_r _ [28, 29, 30, 2, 3, 4, 5, 6, 1, 7, 8, 9, 10, 11, 12, 13, 14, 15, 16, 17, 18, 31, 32, 33, 34, 35, 36, 37, 38, 39, 40, 41, 42, 43, 44, 45, 46, 47, 48, 49, 50, 22, 51, 52, 53, 54, 55, 56, 24, 57, 58, 59, 60, 61, 62, 63, 64, 65, 66, 67, 68, 69, 70, 71, 72, 73, 74, 75, 76, 77, 78, 79, 80, 81, 82, 83, 84, 85, 86, 87, 88, 89, 90, 91, 92, 93, 94, 95, 96, 97, 98, 99, 100, 101, 102, 103, 104, 105, 106, 107, 108, 109, 110, 111, 112, 188, 189, 190, 191, 192, 193, 194, 195, 196, 197, 198, 199, 200, 203, 204, 205, 206, 207, 208, 209, 201, 202] (by decide +kernel) (by decide +kernel)
set_option maxRecDepth 20000 in
theorem gX6_count_X6_freshView : GoodIn wsX6_count (wsV RX6 67 RX6 yX6_freshView wsX6_freshView) := goodIn_app (goodIn_of _ (by decide +kernel)) ggX6_count_X6_freshView
set_option maxRecDepth 20000 in
theorem ggX6_count_X5_leastTable : GoodIn wsX6_count wsX5_leastTable := goodIn_r _ [116, 78, 203, 204, 205, 206, 207, 208, 209] (by decide +kernel) (by decide +kernel)
set_option maxRecDepth 20000 in
theorem gX6_count_X5_leastTable : GoodIn wsX6_count (wsV RX6 71 RX5 yX5_leastTable wsX5_leastTable) := goodIn_app (goodIn_of _ (by decide +kernel)) ggX6_count_X5_leastTable
set_option maxRecDepth 20000 in
theorem ggX6_count_X6_installed : GoodIn wsX6_count wsX6_installed := goodIn_r _ [34, 1, 7, 8, 9, 10, 11, 12, 35, 36, 37, 16, 38, 39, 188, 189, 190, 191, 192, 193, 194, 195, 196, 197, 198, 199, 200] (by decide +kernel) (by decide +kernel)
set_option maxRecDepth 20000 in
theorem gX6_count_X6_installed : GoodIn wsX6_count (wsV RX6 64 RX6 yX6_installed wsX6_installed) := goodIn_app (goodIn_of _ (by decide +kernel)) ggX6_count_X6_installed
set_option maxRecDepth 20000 in
theorem ggX6_count_X5_countChanges : GoodIn wsX6_count wsX5_countChanges := goodIn_r _ [120, 121, 122, 123, 43, 124, 45, 78, 64, 65, 66, 22, 67, 52, 203, 204, 205, 206, 207, 208, 209, 201, 202] (by decide +kernel) (by decide +kernel)
set_option maxRecDepth 20000 in
theorem gX6_count_X5_countChanges : GoodIn wsX6_count (wsV RX6 106 RX5 yX5_countChanges wsX5_countChanges) := goodIn_app (goodIn_of _ (by decide +kernel)) ggX6_count_X5_countChanges
set_option maxRecDepth 20000 in
theorem ggX6_count_X5_countProof : GoodIn wsX6_count wsX5_countProof := goodIn_r _ [128, 129, 130, 131, 43, 132, 133, 134, 135, 136, 46, 102, 5, 103, 137, 138, 139, 140, 95, 141, 142, 143, 144, 145, 146, 147, 148, 47, 149, 150, 151, 152, 153, 154, 155, 156, 97, 203, 204, 205, 206, 207, 208, 209] (by decide +kernel) (by decide +kernel)
set_option maxRecDepth 20000 in
theorem gX6_count_X5_countProof : GoodIn wsX6_count (wsV RX6 109 RX5 yX5_countProof wsX5_countProof) := goodIn_app (goodIn_of _ (by decide +kernel)) ggX6_count_X5_countProof
set_option maxRecDepth 20000 in
theorem ggX6_count_X3_countRedundant : GoodIn wsX6_count wsX3_countRedundant := goodIn_r _ [160, 161, 162, 163, 22, 164, 106, 65, 66, 67, 52, 165, 166, 167, 168, 169, 170, 171, 172, 149, 5, 150, 151, 152, 153, 154, 155, 95, 156, 97, 173, 174, 175, 176, 177, 178, 201, 202] (by decide +kernel) (by decide +kernel)
set_option maxRecDepth 20000 in
theorem gX6_count_X3_countRedundant : GoodIn wsX6_count (wsV RX6 112 RX3 yX3_countRedundant wsX3_countRedundant) := goodIn_app (goodIn_of _ (by decide +kernel)) ggX6_count_X3_countRedundant
set_option maxRecDepth 20000 in
theorem ggX6_count_X5_firstSentElsewhere : GoodIn wsX6_count wsX5_firstSentElsewhere := goodIn_r _ [182, 46, 47, 203, 204, 205, 206, 207, 208, 209] (by decide +kernel) (by decide +kernel)
set_option maxRecDepth 20000 in
theorem gX6_count_X5_firstSentElsewhere : GoodIn wsX6_count (wsV RX6 115 RX5 yX5_firstSentElsewhere wsX5_firstSentElsewhere) := goodIn_app (goodIn_of _ (by decide +kernel)) ggX6_count_X5_firstSentElsewhere
set_option maxRecDepth 20000 in
theorem ggX6_count_X0_howManyKnown : GoodIn wsX6_count wsX0_howManyKnown := goodIn_r _ [186, 187, 195, 196, 197] (by decide +kernel) (by decide +kernel)
set_option maxRecDepth 20000 in
theorem gX6_count_X0_howManyKnown : GoodIn wsX6_count (wsV RX6 118 RX0 yX0_howManyKnown wsX0_howManyKnown) := goodIn_app (goodIn_of _ (by decide +kernel)) ggX6_count_X0_howManyKnown
theorem dX6_count_0 : decode cX6_count 0 = .ok (.iload_n 1, 1) := by decide +kernel
theorem dX6_count_1 : decode cX6_count 1 = .ok (.tableswitch 114 0 7 #[47, 55, 66, 74, 82, 90, 98, 106], 47) := by decide +kernel
theorem dX6_count_48 : decode cX6_count 48 = .ok (.aload_n 0, 1) := by decide +kernel
theorem dX6_count_49 : decode cX6_count 49 = .ok (.invokevirtual 51, 3) := by decide +kernel
theorem dX6_count_52 : decode cX6_count 52 = .ok (.invokevirtual 102, 3) := by decide +kernel
theorem dX6_count_55 : decode cX6_count 55 = .ok (.ireturn, 1) := by decide +kernel
theorem dX6_count_56 : decode cX6_count 56 = .ok (.aload_n 0, 1) := by decide +kernel
theorem dX6_count_57 : decode cX6_count 57 = .ok (.invokevirtual 67, 3) := by decide +kernel
theorem dX6_count_60 : decode cX6_count 60 = .ok (.invokevirtual 71, 3) := by decide +kernel
theorem dX6_count_63 : decode cX6_count 63 = .ok (.invokevirtual 102, 3) := by decide +kernel
theorem dX6_count_66 : decode cX6_count 66 = .ok (.ireturn, 1) := by decide +kernel
theorem dX6_count_67 : decode cX6_count 67 = .ok (.aload_n 0, 1) := by decide +kernel
theorem dX6_count_68 : decode cX6_count 68 = .ok (.invokevirtual 64, 3) := by decide +kernel
theorem dX6_count_71 : decode cX6_count 71 = .ok (.invokevirtual 102, 3) := by decide +kernel
theorem dX6_count_74 : decode cX6_count 74 = .ok (.ireturn, 1) := by decide +kernel
theorem dX6_count_75 : decode cX6_count 75 = .ok (.aload_n 0, 1) := by decide +kernel
theorem dX6_count_76 : decode cX6_count 76 = .ok (.invokevirtual 67, 3) := by decide +kernel
theorem dX6_count_79 : decode cX6_count 79 = .ok (.invokevirtual 106, 3) := by decide +kernel
theorem dX6_count_82 : decode cX6_count 82 = .ok (.ireturn, 1) := by decide +kernel
theorem dX6_count_83 : decode cX6_count 83 = .ok (.aload_n 0, 1) := by decide +kernel
theorem dX6_count_84 : decode cX6_count 84 = .ok (.invokevirtual 67, 3) := by decide +kernel
theorem dX6_count_87 : decode cX6_count 87 = .ok (.invokevirtual 109, 3) := by decide +kernel
theorem dX6_count_90 : decode cX6_count 90 = .ok (.ireturn, 1) := by decide +kernel
theorem dX6_count_91 : decode cX6_count 91 = .ok (.aload_n 0, 1) := by decide +kernel
theorem dX6_count_92 : decode cX6_count 92 = .ok (.invokevirtual 51, 3) := by decide +kernel
theorem dX6_count_95 : decode cX6_count 95 = .ok (.invokevirtual 112, 3) := by decide +kernel
theorem dX6_count_98 : decode cX6_count 98 = .ok (.ireturn, 1) := by decide +kernel
theorem dX6_count_99 : decode cX6_count 99 = .ok (.aload_n 0, 1) := by decide +kernel
theorem dX6_count_100 : decode cX6_count 100 = .ok (.invokevirtual 67, 3) := by decide +kernel
theorem dX6_count_103 : decode cX6_count 103 = .ok (.invokevirtual 115, 3) := by decide +kernel
theorem dX6_count_106 : decode cX6_count 106 = .ok (.ireturn, 1) := by decide +kernel
theorem dX6_count_107 : decode cX6_count 107 = .ok (.aload_n 0, 1) := by decide +kernel
theorem dX6_count_108 : decode cX6_count 108 = .ok (.getfield 10, 3) := by decide +kernel
theorem dX6_count_111 : decode cX6_count 111 = .ok (.invokevirtual 118, 3) := by decide +kernel
theorem dX6_count_114 : decode cX6_count 114 = .ok (.ireturn, 1) := by decide +kernel
theorem dX6_count_115 : decode cX6_count 115 = .ok (.iconst (-1), 1) := by decide +kernel
theorem dX6_count_116 : decode cX6_count 116 = .ok (.ireturn, 1) := by decide +kernel
set_option maxRecDepth 20000 in
theorem ggX6_change_X6_freshView : GoodIn wsX6_change wsX6_freshView := goodIn_r _ [5, 6, 7, 8, 9, 10, 4, 11, 12, 13, 14, 15, 16, 17, 18, 19, 20, 21, 22, 23, 24, 25, 26, 27, 28, 29, 30, 31, 32, 33, 34, 35, 36, 37, 38, 39, 40, 41, 42, 43, 44, 45, 46, 47, 48, 49, 50, 51, 52, 53, 54, 55, 56, 57, 58, 59, 60, 61, 62, 63, 64, 65, 66, 67, 68, 69, 70, 71, 72, 73, 74, 75, 76, 77, 78, 79, 80, 81, 82, 83, 84, 85, 86, 87, 88, 89, 90, 91, 92, 93, 94, 95, 96, 97, 98, 99, 100, 101, 102, 103, 104, 105, 106, 107, 108, 123, 124, 125, 126, 127, 128, 129, 130, 131, 132, 133, 134, 135, 136, 137, 138, 139, 140, 141, 142, 143, 144] (by decide +kernel) (by decide +kernel)
set_option maxRecDepth 20000 in
theorem gX6_change_X6_freshView : GoodIn wsX6_change (wsV RX6 67 RX6 yX6_freshView wsX6_freshView) := goodIn_app (goodIn_of _ (by decide +kernel)) ggX6_change_X6_freshView
set_option maxRecDepth 20000 in
theorem ggX6_change_X5_changeNumber : GoodIn wsX6_change wsX5_changeNumber := goodIn_r _ [112, 113, 114, 115, 37, 116, 39, 74, 60, 61, 62, 45, 63, 47, 136, 137, 138, 139, 140, 141, 142, 143, 144] (by decide +kernel) (by decide +kernel)
set_option maxRecDepth 20000 in
theorem gX6_change_X5_changeNumber : GoodIn wsX6_change (wsV RX6 121 RX5 yX5_changeNumber wsX5_changeNumber) := goodIn_app (goodIn_of _ (by decide +kernel)) ggX6_change_X5_changeNumber
set_option maxRecDepth 20000 in
theorem ggX6_change_X6_installed : GoodIn wsX6_change wsX6_installed := goodIn_r _ [28, 12, 13, 14, 15, 16, 17, 18, 29, 30, 31, 22, 32, 33, 123, 124, 125, 126, 127, 128, 129, 130, 131, 132, 133, 134, 135] (by decide +kernel) (by decide +kernel)
set_option maxRecDepth 20000 in
theorem gX6_change_X6_installed : GoodIn wsX6_change (wsV RX6 64 RX6 yX6_installed wsX6_installed) := goodIn_app (goodIn_of _ (by decide +kernel)) ggX6_change_X6_installed
set_option maxRecDepth 20000 in
theorem ggX6_change_X3_hopAt : GoodIn wsX6_change wsX3_hopAt := goodIn_r _ [63, 47, 143, 144] (by decide +kernel) (by decide +kernel)
set_option maxRecDepth 20000 in
theorem gX6_change_X3_hopAt : GoodIn wsX6_change (wsV RX6 77 RX3 yX3_hopAt wsX3_hopAt) := goodIn_app (goodIn_of _ (by decide +kernel)) ggX6_change_X3_hopAt
set_option maxRecDepth 20000 in
theorem ggX6_change_X5_leastTable : GoodIn wsX6_change wsX5_leastTable := goodIn_r _ [121, 74, 136, 137, 138, 139, 140, 141, 142] (by decide +kernel) (by decide +kernel)
set_option maxRecDepth 20000 in
theorem gX6_change_X5_leastTable : GoodIn wsX6_change (wsV RX6 71 RX5 yX5_leastTable wsX5_leastTable) := goodIn_app (goodIn_of _ (by decide +kernel)) ggX6_change_X5_leastTable
set_option maxRecDepth 20000 in
theorem ggX6_change_X5_kindOfChange : GoodIn wsX6_change wsX5_kindOfChange := goodIn_r _ [116, 39, 74, 60, 61, 62, 45, 63, 47, 136, 137, 138, 139, 140, 141, 142, 143, 144] (by decide +kernel) (by decide +kernel)
set_option maxRecDepth 20000 in
theorem gX6_change_X5_kindOfChange : GoodIn wsX6_change (wsV RX6 124 RX5 yX5_kindOfChange wsX5_kindOfChange) := goodIn_app (goodIn_of _ (by decide +kernel)) ggX6_change_X5_kindOfChange
theorem dX6_change_0 : decode cX6_change 0 = .ok (.iload_n 1, 1) := by decide +kernel
theorem dX6_change_1 : decode cX6_change 1 = .ok (.ifCond .lt 12, 3) := by decide +kernel
theorem dX6_change_4 : decode cX6_change 4 = .ok (.iload_n 2, 1) := by decide +kernel
theorem dX6_change_5 : decode cX6_change 5 = .ok (.ifCond .lt 8, 3) := by decide +kernel
theorem dX6_change_8 : decode cX6_change 8 = .ok (.iload_n 2, 1) := by decide +kernel
theorem dX6_change_9 : decode cX6_change 9 = .ok (.iconst 3, 1) := by decide +kernel
theorem dX6_change_10 : decode cX6_change 10 = .ok (.if_icmp .le 5, 3) := by decide +kernel
theorem dX6_change_13 : decode cX6_change 13 = .ok (.iconst (-1), 1) := by decide +kernel
theorem dX6_change_14 : decode cX6_change 14 = .ok (.ireturn, 1) := by decide +kernel
theorem dX6_change_15 : decode cX6_change 15 = .ok (.aload_n 0, 1) := by decide +kernel
theorem dX6_change_16 : decode cX6_change 16 = .ok (.invokevirtual 67, 3) := by decide +kernel
theorem dX6_change_19 : decode cX6_change 19 = .ok (.astore_n 3, 1) := by decide +kernel
theorem dX6_change_20 : decode cX6_change 20 = .ok (.aload_n 3, 1) := by decide +kernel
theorem dX6_change_21 : decode cX6_change 21 = .ok (.iload_n 1, 1) := by decide +kernel
theorem dX6_change_22 : decode cX6_change 22 = .ok (.invokevirtual 121, 3) := by decide +kernel
theorem dX6_change_25 : decode cX6_change 25 = .ok (.istore 4, 2) := by decide +kernel
theorem dX6_change_27 : decode cX6_change 27 = .ok (.iload 4, 2) := by decide +kernel
theorem dX6_change_29 : decode cX6_change 29 = .ok (.bipush (-4), 2) := by decide +kernel
theorem dX6_change_31 : decode cX6_change 31 = .ok (.if_icmp .ne 6, 3) := by decide +kernel
theorem dX6_change_34 : decode cX6_change 34 = .ok (.bipush (-4), 2) := by decide +kernel
theorem dX6_change_36 : decode cX6_change 36 = .ok (.ireturn, 1) := by decide +kernel
theorem dX6_change_37 : decode cX6_change 37 = .ok (.iload_n 2, 1) := by decide +kernel
theorem dX6_change_38 : decode cX6_change 38 = .ok (.tableswitch 49 0 2 #[26, 29, 39], 26) := by decide +kernel
theorem dX6_change_64 : decode cX6_change 64 = .ok (.iload 4, 2) := by decide +kernel
theorem dX6_change_66 : decode cX6_change 66 = .ok (.ireturn, 1) := by decide +kernel
theorem dX6_change_67 : decode cX6_change 67 = .ok (.aload_n 0, 1) := by decide +kernel
theorem dX6_change_68 : decode cX6_change 68 = .ok (.invokevirtual 64, 3) := by decide +kernel
theorem dX6_change_71 : decode cX6_change 71 = .ok (.iload 4, 2) := by decide +kernel
theorem dX6_change_73 : decode cX6_change 73 = .ok (.invokevirtual 77, 3) := by decide +kernel
theorem dX6_change_76 : decode cX6_change 76 = .ok (.ireturn, 1) := by decide +kernel
theorem dX6_change_77 : decode cX6_change 77 = .ok (.aload_n 3, 1) := by decide +kernel
theorem dX6_change_78 : decode cX6_change 78 = .ok (.invokevirtual 71, 3) := by decide +kernel
theorem dX6_change_81 : decode cX6_change 81 = .ok (.iload 4, 2) := by decide +kernel
theorem dX6_change_83 : decode cX6_change 83 = .ok (.invokevirtual 77, 3) := by decide +kernel
theorem dX6_change_86 : decode cX6_change 86 = .ok (.ireturn, 1) := by decide +kernel
theorem dX6_change_87 : decode cX6_change 87 = .ok (.aload_n 3, 1) := by decide +kernel
theorem dX6_change_88 : decode cX6_change 88 = .ok (.iload 4, 2) := by decide +kernel
theorem dX6_change_90 : decode cX6_change 90 = .ok (.invokevirtual 124, 3) := by decide +kernel
theorem dX6_change_93 : decode cX6_change 93 = .ok (.ireturn, 1) := by decide +kernel
set_option maxRecDepth 20000 in
theorem ggX6_proof_X6_freshView : GoodIn wsX6_proof wsX6_freshView := goodIn_r _ [5, 6, 7, 8, 9, 10, 4, 11, 12, 13, 14, 15, 16, 17, 18, 19, 20, 21, 22, 23, 24, 25, 26, 27, 28, 29, 30, 31, 32, 33, 34, 35, 36, 37, 38, 39, 40, 41, 42, 43, 44, 45, 46, 47, 48, 49, 50, 51, 52, 53, 54, 55, 56, 57, 58, 59, 60, 61, 62, 63, 64, 65, 66, 67, 68, 69, 70, 71, 72, 73, 74, 75, 76, 77, 78, 79, 80, 81, 82, 83, 84, 85, 86, 87, 88, 89, 90, 91, 92, 93, 94, 95, 96, 97, 98, 99, 100, 101, 102, 103, 104, 105, 106, 107, 108, 144, 145, 146, 147, 148, 149, 150, 151, 152, 153, 154, 155, 156, 157, 158, 159, 160, 161, 162, 163, 164, 165] (by decide +kernel) (by decide +kernel)
set_option maxRecDepth 20000 in
theorem gX6_proof_X6_freshView : GoodIn wsX6_proof (wsV RX6 67 RX6 yX6_freshView wsX6_freshView) := goodIn_app (goodIn_of _ (by decide +kernel)) ggX6_proof_X6_freshView
set_option maxRecDepth 20000 in
theorem ggX6_proof_X5_proofNumber : GoodIn wsX6_proof wsX5_proofNumber := goodIn_r _ [112, 113, 114, 115, 37, 116, 117, 118, 119, 120, 40, 98, 4, 99, 121, 122, 123, 124, 91, 125, 126, 127, 128, 129, 130, 131, 132, 41, 133, 134, 135, 136, 137, 138, 139, 140, 93, 157, 158, 159, 160, 161, 162, 163] (by decide +kernel) (by decide +kernel)
set_option maxRecDepth 20000 in
theorem gX6_proof_X5_proofNumber : GoodIn wsX6_proof (wsV RX6 127 RX5 yX5_proofNumber wsX5_proofNumber) := goodIn_app (goodIn_of _ (by decide +kernel)) ggX6_proof_X5_proofNumber
set_option maxRecDepth 20000 in
theorem ggX6_proof_X5_hopsBeneath : GoodIn wsX6_proof wsX5_hopsBeneath := goodIn_r _ [120, 40, 98, 4, 99, 157, 158, 159, 160, 161, 162, 163] (by decide +kernel) (by decide +kernel)
set_option maxRecDepth 20000 in
theorem gX6_proof_X5_hopsBeneath : GoodIn wsX6_proof (wsV RX6 86 RX5 yX5_hopsBeneath wsX5_hopsBeneath) := goodIn_app (goodIn_of _ (by decide +kernel)) ggX6_proof_X5_hopsBeneath
set_option maxRecDepth 20000 in
theorem ggX6_proof_X6_lowestHop : GoodIn wsX6_proof wsX6_lowestHop := goodIn_r _ [88, 89, 90, 91, 92, 93] (by decide +kernel) (by decide +kernel)
set_option maxRecDepth 20000 in
theorem gX6_proof_X6_lowestHop : GoodIn wsX6_proof (va_wsS RX6 130 yX6_lowestHop wsX6_lowestHop) := goodIn_app (goodIn_of _ (by decide +kernel)) ggX6_proof_X6_lowestHop
set_option maxRecDepth 20000 in
theorem ggX6_proof_X5_installedHopsBeneath : GoodIn wsX6_proof wsX5_installedHopsBeneath := goodIn_r _ [132, 41, 98, 4, 99, 157, 158, 159, 160, 161, 162, 163] (by decide +kernel) (by decide +kernel)
set_option maxRecDepth 20000 in
theorem gX6_proof_X5_installedHopsBeneath : GoodIn wsX6_proof (wsV RX6 133 RX5 yX5_installedHopsBeneath wsX5_installedHopsBeneath) := goodIn_app (goodIn_of _ (by decide +kernel)) ggX6_proof_X5_installedHopsBeneath
theorem dX6_proof_0 : decode cX6_proof 0 = .ok (.iload_n 1, 1) := by decide +kernel
theorem dX6_proof_1 : decode cX6_proof 1 = .ok (.ifCond .lt 12, 3) := by decide +kernel
theorem dX6_proof_4 : decode cX6_proof 4 = .ok (.iload_n 2, 1) := by decide +kernel
theorem dX6_proof_5 : decode cX6_proof 5 = .ok (.ifCond .lt 8, 3) := by decide +kernel
theorem dX6_proof_8 : decode cX6_proof 8 = .ok (.iload_n 2, 1) := by decide +kernel
theorem dX6_proof_9 : decode cX6_proof 9 = .ok (.iconst 2, 1) := by decide +kernel
theorem dX6_proof_10 : decode cX6_proof 10 = .ok (.if_icmp .le 5, 3) := by decide +kernel
theorem dX6_proof_13 : decode cX6_proof 13 = .ok (.iconst (-1), 1) := by decide +kernel
theorem dX6_proof_14 : decode cX6_proof 14 = .ok (.ireturn, 1) := by decide +kernel
theorem dX6_proof_15 : decode cX6_proof 15 = .ok (.aload_n 0, 1) := by decide +kernel
theorem dX6_proof_16 : decode cX6_proof 16 = .ok (.invokevirtual 67, 3) := by decide +kernel
theorem dX6_proof_19 : decode cX6_proof 19 = .ok (.astore_n 3, 1) := by decide +kernel
theorem dX6_proof_20 : decode cX6_proof 20 = .ok (.aload_n 3, 1) := by decide +kernel
theorem dX6_proof_21 : decode cX6_proof 21 = .ok (.iload_n 1, 1) := by decide +kernel
theorem dX6_proof_22 : decode cX6_proof 22 = .ok (.invokevirtual 127, 3) := by decide +kernel
theorem dX6_proof_25 : decode cX6_proof 25 = .ok (.istore 4, 2) := by decide +kernel
theorem dX6_proof_27 : decode cX6_proof 27 = .ok (.iload 4, 2) := by decide +kernel
theorem dX6_proof_29 : decode cX6_proof 29 = .ok (.bipush (-4), 2) := by decide +kernel
theorem dX6_proof_31 : decode cX6_proof 31 = .ok (.if_icmp .ne 6, 3) := by decide +kernel
theorem dX6_proof_34 : decode cX6_proof 34 = .ok (.bipush (-4), 2) := by decide +kernel
theorem dX6_proof_36 : decode cX6_proof 36 = .ok (.ireturn, 1) := by decide +kernel
theorem dX6_proof_37 : decode cX6_proof 37 = .ok (.iload_n 2, 1) := by decide +kernel
theorem dX6_proof_38 : decode cX6_proof 38 = .ok (.lookupswitch 39 #[(0, 26), (1, 29)], 26) := by decide +kernel
theorem dX6_proof_64 : decode cX6_proof 64 = .ok (.iload 4, 2) := by decide +kernel
theorem dX6_proof_66 : decode cX6_proof 66 = .ok (.ireturn, 1) := by decide +kernel
theorem dX6_proof_67 : decode cX6_proof 67 = .ok (.aload_n 3, 1) := by decide +kernel
theorem dX6_proof_68 : decode cX6_proof 68 = .ok (.iload 4, 2) := by decide +kernel
theorem dX6_proof_70 : decode cX6_proof 70 = .ok (.invokevirtual 86, 3) := by decide +kernel
theorem dX6_proof_73 : decode cX6_proof 73 = .ok (.invokestatic 130, 3) := by decide +kernel
theorem dX6_proof_76 : decode cX6_proof 76 = .ok (.ireturn, 1) := by decide +kernel
theorem dX6_proof_77 : decode cX6_proof 77 = .ok (.aload_n 3, 1) := by decide +kernel
theorem dX6_proof_78 : decode cX6_proof 78 = .ok (.iload 4, 2) := by decide +kernel
theorem dX6_proof_80 : decode cX6_proof 80 = .ok (.invokevirtual 133, 3) := by decide +kernel
theorem dX6_proof_83 : decode cX6_proof 83 = .ok (.invokestatic 130, 3) := by decide +kernel
theorem dX6_proof_86 : decode cX6_proof 86 = .ok (.ireturn, 1) := by decide +kernel
set_option maxRecDepth 20000 in
theorem ggX6_lost_X6_isAddress : GoodIn wsX6_lost wsX6_isAddress := goodIn_r _ [5] (by decide +kernel) (by decide +kernel)
set_option maxRecDepth 20000 in
theorem gX6_lost_X6_isAddress : GoodIn wsX6_lost (va_wsS RX6 47 yX6_isAddress wsX6_isAddress) := goodIn_app (goodIn_of _ (by decide +kernel)) ggX6_lost_X6_isAddress
set_option maxRecDepth 20000 in
theorem ggX6_lost_X6_table : GoodIn wsX6_lost wsX6_table := goodIn_r _ [9, 10, 11, 12, 13, 14, 15, 16, 17, 18, 19, 20, 21, 22, 41, 42, 43, 44, 45, 46, 47, 48, 49, 50, 51, 52, 53] (by decide +kernel) (by decide +kernel)
set_option maxRecDepth 20000 in
theorem gX6_lost_X6_table : GoodIn wsX6_lost (wsV RX6 51 RX6 yX6_table wsX6_table) := goodIn_app (goodIn_of _ (by decide +kernel)) ggX6_lost_X6_table
set_option maxRecDepth 20000 in
theorem ggX6_lost_X3_hopOfAddress : GoodIn wsX6_lost wsX3_hopOfAddress := goodIn_r _ [27, 28, 29, 30, 26, 31, 32, 33, 34, 35, 36, 54, 55] (by decide +kernel) (by decide +kernel)
set_option maxRecDepth 20000 in
theorem gX6_lost_X3_hopOfAddress : GoodIn wsX6_lost (wsV RX6 55 RX3 yX3_hopOfAddress wsX3_hopOfAddress) := goodIn_app (goodIn_of _ (by decide +kernel)) ggX6_lost_X3_hopOfAddress
set_option maxRecDepth 20000 in
theorem ggX6_lost_X3_hopAt : GoodIn wsX6_lost wsX3_hopAt := goodIn_r _ [35, 36, 54, 55] (by decide +kernel) (by decide +kernel)
set_option maxRecDepth 20000 in
theorem gX6_lost_X3_hopAt : GoodIn wsX6_lost (wsV RX6 77 RX3 yX3_hopAt wsX3_hopAt) := goodIn_app (goodIn_of _ (by decide +kernel)) ggX6_lost_X3_hopAt
set_option maxRecDepth 20000 in
theorem ggX6_lost_X6_greatestDivisor : GoodIn wsX6_lost wsX6_greatestDivisor := goodIn_r _ [40] (by decide +kernel) (by decide +kernel)
set_option maxRecDepth 20000 in
theorem gX6_lost_X6_greatestDivisor : GoodIn wsX6_lost (va_wsS RX6 138 yX6_greatestDivisor wsX6_greatestDivisor) := goodIn_app (goodIn_of _ (by decide +kernel)) ggX6_lost_X6_greatestDivisor
theorem dX6_lost_0 : decode cX6_lost 0 = .ok (.iload_n 1, 1) := by decide +kernel
theorem dX6_lost_1 : decode cX6_lost 1 = .ok (.invokestatic 47, 3) := by decide +kernel
theorem dX6_lost_4 : decode cX6_lost 4 = .ok (.ifCond .eq 22, 3) := by decide +kernel
theorem dX6_lost_7 : decode cX6_lost 7 = .ok (.iload_n 2, 1) := by decide +kernel
theorem dX6_lost_8 : decode cX6_lost 8 = .ok (.ifCond .lt 18, 3) := by decide +kernel
theorem dX6_lost_11 : decode cX6_lost 11 = .ok (.iload_n 2, 1) := by decide +kernel
theorem dX6_lost_12 : decode cX6_lost 12 = .ok (.bipush 10, 2) := by decide +kernel
theorem dX6_lost_14 : decode cX6_lost 14 = .ok (.if_icmp .gt 12, 3) := by decide +kernel
theorem dX6_lost_17 : decode cX6_lost 17 = .ok (.iload_n 3, 1) := by decide +kernel
theorem dX6_lost_18 : decode cX6_lost 18 = .ok (.ifCond .lt 8, 3) := by decide +kernel
theorem dX6_lost_21 : decode cX6_lost 21 = .ok (.iload_n 3, 1) := by decide +kernel
theorem dX6_lost_22 : decode cX6_lost 22 = .ok (.iconst 1, 1) := by decide +kernel
theorem dX6_lost_23 : decode cX6_lost 23 = .ok (.if_icmp .le 5, 3) := by decide +kernel
theorem dX6_lost_26 : decode cX6_lost 26 = .ok (.iconst (-1), 1) := by decide +kernel
theorem dX6_lost_27 : decode cX6_lost 27 = .ok (.ireturn, 1) := by decide +kernel
theorem dX6_lost_28 : decode cX6_lost 28 = .ok (.aload_n 0, 1) := by decide +kernel
theorem dX6_lost_29 : decode cX6_lost 29 = .ok (.invokevirtual 51, 3) := by decide +kernel
theorem dX6_lost_32 : decode cX6_lost 32 = .ok (.iload_n 1, 1) := by decide +kernel
theorem dX6_lost_33 : decode cX6_lost 33 = .ok (.invokevirtual 55, 3) := by decide +kernel
theorem dX6_lost_36 : decode cX6_lost 36 = .ok (.istore 4, 2) := by decide +kernel
theorem dX6_lost_38 : decode cX6_lost 38 = .ok (.iload 4, 2) := by decide +kernel
theorem dX6_lost_40 : decode cX6_lost 40 = .ok (.ifCond .ne 7, 3) := by decide +kernel
theorem dX6_lost_43 : decode cX6_lost 43 = .ok (.lconst 1, 1) := by decide +kernel
theorem dX6_lost_44 : decode cX6_lost 44 = .ok (.goto 4, 3) := by decide +kernel
theorem dX6_lost_47 : decode cX6_lost 47 = .ok (.lconst 0, 1) := by decide +kernel
theorem dX6_lost_48 : decode cX6_lost 48 = .ok (.lstore 5, 2) := by decide +kernel
theorem dX6_lost_50 : decode cX6_lost 50 = .ok (.lconst 1, 1) := by decide +kernel
theorem dX6_lost_51 : decode cX6_lost 51 = .ok (.lstore 7, 2) := by decide +kernel
theorem dX6_lost_53 : decode cX6_lost 53 = .ok (.iconst 0, 1) := by decide +kernel
theorem dX6_lost_54 : decode cX6_lost 54 = .ok (.istore 9, 2) := by decide +kernel
theorem dX6_lost_56 : decode cX6_lost 56 = .ok (.iload 9, 2) := by decide +kernel
theorem dX6_lost_58 : decode cX6_lost 58 = .ok (.bipush 8, 2) := by decide +kernel
theorem dX6_lost_60 : decode cX6_lost 60 = .ok (.if_icmp .gt 71, 3) := by decide +kernel
theorem dX6_lost_63 : decode cX6_lost 63 = .ok (.aload_n 0, 1) := by decide +kernel
theorem dX6_lost_64 : decode cX6_lost 64 = .ok (.invokevirtual 51, 3) := by decide +kernel
theorem dX6_lost_67 : decode cX6_lost 67 = .ok (.sipush 256, 3) := by decide +kernel
theorem dX6_lost_70 : decode cX6_lost 70 = .ok (.iload_n 1, 1) := by decide +kernel
theorem dX6_lost_71 : decode cX6_lost 71 = .ok (.iadd, 1) := by decide +kernel
theorem dX6_lost_72 : decode cX6_lost 72 = .ok (.bipush 8, 2) := by decide +kernel
theorem dX6_lost_74 : decode cX6_lost 74 = .ok (.iload 9, 2) := by decide +kernel
theorem dX6_lost_76 : decode cX6_lost 76 = .ok (.isub, 1) := by decide +kernel
theorem dX6_lost_77 : decode cX6_lost 77 = .ok (.ishr, 1) := by decide +kernel
theorem dX6_lost_78 : decode cX6_lost 78 = .ok (.invokevirtual 77, 3) := by decide +kernel
theorem dX6_lost_81 : decode cX6_lost 81 = .ok (.istore 10, 2) := by decide +kernel
theorem dX6_lost_83 : decode cX6_lost 83 = .ok (.iload 10, 2) := by decide +kernel
theorem dX6_lost_85 : decode cX6_lost 85 = .ok (.bipush (-4), 2) := by decide +kernel
theorem dX6_lost_87 : decode cX6_lost 87 = .ok (.if_icmp .eq 38, 3) := by decide +kernel
theorem dX6_lost_90 : decode cX6_lost 90 = .ok (.iload_n 2, 1) := by decide +kernel
theorem dX6_lost_91 : decode cX6_lost 91 = .ok (.i2l, 1) := by decide +kernel
theorem dX6_lost_92 : decode cX6_lost 92 = .ok (.lload 5, 2) := by decide +kernel
theorem dX6_lost_94 : decode cX6_lost 94 = .ok (.lmul, 1) := by decide +kernel
theorem dX6_lost_95 : decode cX6_lost 95 = .ok (.iload 10, 2) := by decide +kernel
theorem dX6_lost_97 : decode cX6_lost 97 = .ok (.iload 4, 2) := by decide +kernel
theorem dX6_lost_99 : decode cX6_lost 99 = .ok (.if_icmp .ne 14, 3) := by decide +kernel
theorem dX6_lost_102 : decode cX6_lost 102 = .ok (.bipush 10, 2) := by decide +kernel
theorem dX6_lost_104 : decode cX6_lost 104 = .ok (.iload_n 2, 1) := by decide +kernel
theorem dX6_lost_105 : decode cX6_lost 105 = .ok (.isub, 1) := by decide +kernel
theorem dX6_lost_106 : decode cX6_lost 106 = .ok (.i2l, 1) := by decide +kernel
theorem dX6_lost_107 : decode cX6_lost 107 = .ok (.lload 7, 2) := by decide +kernel
theorem dX6_lost_109 : decode cX6_lost 109 = .ok (.lmul, 1) := by decide +kernel
theorem dX6_lost_110 : decode cX6_lost 110 = .ok (.goto 4, 3) := by decide +kernel
theorem dX6_lost_113 : decode cX6_lost 113 = .ok (.lconst 0, 1) := by decide +kernel
theorem dX6_lost_114 : decode cX6_lost 114 = .ok (.ladd, 1) := by decide +kernel
theorem dX6_lost_115 : decode cX6_lost 115 = .ok (.lstore 5, 2) := by decide +kernel
theorem dX6_lost_117 : decode cX6_lost 117 = .ok (.ldc2_w 136, 3) := by decide +kernel
theorem dX6_lost_120 : decode cX6_lost 120 = .ok (.lload 7, 2) := by decide +kernel
theorem dX6_lost_122 : decode cX6_lost 122 = .ok (.lmul, 1) := by decide +kernel
theorem dX6_lost_123 : decode cX6_lost 123 = .ok (.lstore 7, 2) := by decide +kernel
theorem dX6_lost_125 : decode cX6_lost 125 = .ok (.iinc 9 1, 3) := by decide +kernel
theorem dX6_lost_128 : decode cX6_lost 128 = .ok (.goto (-72), 3) := by decide +kernel
theorem dX6_lost_131 : decode cX6_lost 131 = .ok (.lload 5, 2) := by decide +kernel
theorem dX6_lost_133 : decode cX6_lost 133 = .ok (.lload 7, 2) := by decide +kernel
theorem dX6_lost_135 : decode cX6_lost 135 = .ok (.invokestatic 138, 3) := by decide +kernel
theorem dX6_lost_138 : decode cX6_lost 138 = .ok (.lstore 9, 2) := by decide +kernel
theorem dX6_lost_140 : decode cX6_lost 140 = .ok (.lload 9, 2) := by decide +kernel
theorem dX6_lost_142 : decode cX6_lost 142 = .ok (.lconst 0, 1) := by decide +kernel
theorem dX6_lost_143 : decode cX6_lost 143 = .ok (.lcmp, 1) := by decide +kernel
theorem dX6_lost_144 : decode cX6_lost 144 = .ok (.ifCond .gt 5, 3) := by decide +kernel
theorem dX6_lost_147 : decode cX6_lost 147 = .ok (.iconst (-1), 1) := by decide +kernel
theorem dX6_lost_148 : decode cX6_lost 148 = .ok (.ireturn, 1) := by decide +kernel
theorem dX6_lost_149 : decode cX6_lost 149 = .ok (.iload_n 3, 1) := by decide +kernel
theorem dX6_lost_150 : decode cX6_lost 150 = .ok (.ifCond .ne 8, 3) := by decide +kernel
theorem dX6_lost_153 : decode cX6_lost 153 = .ok (.lload 5, 2) := by decide +kernel
theorem dX6_lost_155 : decode cX6_lost 155 = .ok (.goto 5, 3) := by decide +kernel
theorem dX6_lost_158 : decode cX6_lost 158 = .ok (.lload 7, 2) := by decide +kernel
theorem dX6_lost_160 : decode cX6_lost 160 = .ok (.lload 9, 2) := by decide +kernel
theorem dX6_lost_162 : decode cX6_lost 162 = .ok (.ldiv, 1) := by decide +kernel
theorem dX6_lost_163 : decode cX6_lost 163 = .ok (.l2i, 1) := by decide +kernel
theorem dX6_lost_164 : decode cX6_lost 164 = .ok (.ireturn, 1) := by decide +kernel
set_option maxRecDepth 20000 in
theorem ggX6_tell_X6_isPrefix : GoodIn wsX6_tell wsX6_isPrefix := goodIn_r _ [4] (by decide +kernel) (by decide +kernel)
set_option maxRecDepth 20000 in
theorem gX6_tell_X6_isPrefix : GoodIn wsX6_tell (va_wsS RX6 74 yX6_isPrefix wsX6_isPrefix) := goodIn_app (goodIn_of _ (by decide +kernel)) ggX6_tell_X6_isPrefix
set_option maxRecDepth 20000 in
theorem ggX6_tell_X6_isHop : GoodIn wsX6_tell wsX6_isHop := goodIn_r _ [7] (by decide +kernel) (by decide +kernel)
set_option maxRecDepth 20000 in
theorem gX6_tell_X6_isHop : GoodIn wsX6_tell (va_wsS RX6 92 yX6_isHop wsX6_isHop) := goodIn_app (goodIn_of _ (by decide +kernel)) ggX6_tell_X6_isHop
set_option maxRecDepth 20000 in
theorem ggX6_tell_X6_table : GoodIn wsX6_tell wsX6_table := goodIn_r _ [11, 12, 13, 14, 15, 16, 17, 18, 19, 20, 21, 22, 23, 24, 76, 77, 78, 79, 80, 81, 82, 83, 84, 85, 86, 87, 88] (by decide +kernel) (by decide +kernel)
set_option maxRecDepth 20000 in
theorem gX6_tell_X6_table : GoodIn wsX6_tell (wsV RX6 51 RX6 yX6_table wsX6_table) := goodIn_app (goodIn_of _ (by decide +kernel)) ggX6_tell_X6_table
set_option maxRecDepth 20000 in
theorem ggX6_tell_X3_hopAt : GoodIn wsX6_tell wsX3_hopAt := goodIn_r _ [29, 30, 89, 90] (by decide +kernel) (by decide +kernel)
set_option maxRecDepth 20000 in
theorem gX6_tell_X3_hopAt : GoodIn wsX6_tell (wsV RX6 77 RX3 yX3_hopAt wsX3_hopAt) := goodIn_app (goodIn_of _ (by decide +kernel)) ggX6_tell_X3_hopAt
set_option maxRecDepth 20000 in
theorem ggX6_tell_X3_howMany : GoodIn wsX6_tell wsX3_howMany := goodIn_r _ [34, 35, 89, 90] (by decide +kernel) (by decide +kernel)
set_option maxRecDepth 20000 in
theorem gX6_tell_X3_howMany : GoodIn wsX6_tell (wsV RX6 102 RX3 yX3_howMany wsX3_howMany) := goodIn_app (goodIn_of _ (by decide +kernel)) ggX6_tell_X3_howMany
set_option maxRecDepth 20000 in
theorem ggX6_tell_X6_beginStep : GoodIn wsX6_tell wsX6_beginStep := goodIn_r _ [39, 12, 40, 41, 42, 43, 16, 44, 45, 46, 18, 47, 48, 49, 50, 51, 52, 53, 22, 54, 24, 55, 56, 57, 58, 59, 28, 60, 30, 61, 62, 63, 64, 35, 76, 77, 78, 79, 80, 81, 82, 83, 84, 85, 86, 87, 88, 89, 90] (by decide +kernel) (by decide +kernel)
set_option maxRecDepth 20000 in
theorem gX6_tell_X6_beginStep : GoodIn wsX6_tell (wsV RX6 142 RX6 yX6_beginStep wsX6_beginStep) := goodIn_app (goodIn_of _ (by decide +kernel)) ggX6_tell_X6_beginStep
set_option maxRecDepth 20000 in
theorem ggX6_tell_X3_put : GoodIn wsX6_tell wsX3_put := goodIn_r _ [68, 35, 2, 3, 4, 6, 7, 69, 26, 27, 28, 29, 30, 70, 71, 72, 73, 74, 75, 89, 90] (by decide +kernel) (by decide +kernel)
set_option maxRecDepth 20000 in
theorem gX6_tell_X3_put : GoodIn wsX6_tell (wsV RX6 145 RX3 yX3_put wsX3_put) := goodIn_app (goodIn_of _ (by decide +kernel)) ggX6_tell_X3_put
theorem dX6_tell_0 : decode cX6_tell 0 = .ok (.iload_n 1, 1) := by decide +kernel
theorem dX6_tell_1 : decode cX6_tell 1 = .ok (.invokestatic 74, 3) := by decide +kernel
theorem dX6_tell_4 : decode cX6_tell 4 = .ok (.ifCond .eq 10, 3) := by decide +kernel
theorem dX6_tell_7 : decode cX6_tell 7 = .ok (.iload_n 2, 1) := by decide +kernel
theorem dX6_tell_8 : decode cX6_tell 8 = .ok (.invokestatic 92, 3) := by decide +kernel
theorem dX6_tell_11 : decode cX6_tell 11 = .ok (.ifCond .ne 5, 3) := by decide +kernel
theorem dX6_tell_14 : decode cX6_tell 14 = .ok (.iconst (-1), 1) := by decide +kernel
theorem dX6_tell_15 : decode cX6_tell 15 = .ok (.ireturn, 1) := by decide +kernel
theorem dX6_tell_16 : decode cX6_tell 16 = .ok (.aload_n 0, 1) := by decide +kernel
theorem dX6_tell_17 : decode cX6_tell 17 = .ok (.invokevirtual 51, 3) := by decide +kernel
theorem dX6_tell_20 : decode cX6_tell 20 = .ok (.iload_n 1, 1) := by decide +kernel
theorem dX6_tell_21 : decode cX6_tell 21 = .ok (.invokevirtual 77, 3) := by decide +kernel
theorem dX6_tell_24 : decode cX6_tell 24 = .ok (.istore_n 3, 1) := by decide +kernel
theorem dX6_tell_25 : decode cX6_tell 25 = .ok (.iload_n 3, 1) := by decide +kernel
theorem dX6_tell_26 : decode cX6_tell 26 = .ok (.iload_n 2, 1) := by decide +kernel
theorem dX6_tell_27 : decode cX6_tell 27 = .ok (.if_icmp .ne 6, 3) := by decide +kernel
theorem dX6_tell_30 : decode cX6_tell 30 = .ok (.bipush (-2), 2) := by decide +kernel
theorem dX6_tell_32 : decode cX6_tell 32 = .ok (.ireturn, 1) := by decide +kernel
theorem dX6_tell_33 : decode cX6_tell 33 = .ok (.iload_n 3, 1) := by decide +kernel
theorem dX6_tell_34 : decode cX6_tell 34 = .ok (.bipush (-4), 2) := by decide +kernel
theorem dX6_tell_36 : decode cX6_tell 36 = .ok (.if_icmp .ne 18, 3) := by decide +kernel
theorem dX6_tell_39 : decode cX6_tell 39 = .ok (.aload_n 0, 1) := by decide +kernel
theorem dX6_tell_40 : decode cX6_tell 40 = .ok (.invokevirtual 51, 3) := by decide +kernel
theorem dX6_tell_43 : decode cX6_tell 43 = .ok (.invokevirtual 102, 3) := by decide +kernel
theorem dX6_tell_46 : decode cX6_tell 46 = .ok (.bipush 40, 2) := by decide +kernel
theorem dX6_tell_48 : decode cX6_tell 48 = .ok (.if_icmp .lt 6, 3) := by decide +kernel
theorem dX6_tell_51 : decode cX6_tell 51 = .ok (.bipush (-3), 2) := by decide +kernel
theorem dX6_tell_53 : decode cX6_tell 53 = .ok (.ireturn, 1) := by decide +kernel
theorem dX6_tell_54 : decode cX6_tell 54 = .ok (.aload_n 0, 1) := by decide +kernel
theorem dX6_tell_55 : decode cX6_tell 55 = .ok (.invokevirtual 142, 3) := by decide +kernel
theorem dX6_tell_58 : decode cX6_tell 58 = .ok (.aload_n 0, 1) := by decide +kernel
theorem dX6_tell_59 : decode cX6_tell 59 = .ok (.invokevirtual 51, 3) := by decide +kernel
theorem dX6_tell_62 : decode cX6_tell 62 = .ok (.iload_n 1, 1) := by decide +kernel
theorem dX6_tell_63 : decode cX6_tell 63 = .ok (.iload_n 2, 1) := by decide +kernel
theorem dX6_tell_64 : decode cX6_tell 64 = .ok (.invokevirtual 145, 3) := by decide +kernel
theorem dX6_tell_67 : decode cX6_tell 67 = .ok (.iload_n 3, 1) := by decide +kernel
theorem dX6_tell_68 : decode cX6_tell 68 = .ok (.bipush (-4), 2) := by decide +kernel
theorem dX6_tell_70 : decode cX6_tell 70 = .ok (.if_icmp .ne 8, 3) := by decide +kernel
theorem dX6_tell_73 : decode cX6_tell 73 = .ok (.bipush 8, 2) := by decide +kernel
theorem dX6_tell_75 : decode cX6_tell 75 = .ok (.goto 4, 3) := by decide +kernel
theorem dX6_tell_78 : decode cX6_tell 78 = .ok (.iload_n 3, 1) := by decide +kernel
theorem dX6_tell_79 : decode cX6_tell 79 = .ok (.ireturn, 1) := by decide +kernel
set_option maxRecDepth 20000 in
theorem ggX6_out_X6_isPrefix : GoodIn wsX6_out wsX6_isPrefix := goodIn_r _ [4] (by decide +kernel) (by decide +kernel)
set_option maxRecDepth 20000 in
theorem gX6_out_X6_isPrefix : GoodIn wsX6_out (va_wsS RX6 74 yX6_isPrefix wsX6_isPrefix) := goodIn_app (goodIn_of _ (by decide +kernel)) ggX6_out_X6_isPrefix
set_option maxRecDepth 20000 in
theorem ggX6_out_X6_table : GoodIn wsX6_out wsX6_table := goodIn_r _ [8, 9, 10, 11, 12, 13, 14, 15, 16, 17, 18, 19, 20, 21, 69, 70, 71, 72, 73, 74, 75, 76, 77, 78, 79, 80, 81] (by decide +kernel) (by decide +kernel)
set_option maxRecDepth 20000 in
theorem gX6_out_X6_table : GoodIn wsX6_out (wsV RX6 51 RX6 yX6_table wsX6_table) := goodIn_app (goodIn_of _ (by decide +kernel)) ggX6_out_X6_table
set_option maxRecDepth 20000 in
theorem ggX6_out_X3_hopAt : GoodIn wsX6_out wsX3_hopAt := goodIn_r _ [26, 27, 82, 83] (by decide +kernel) (by decide +kernel)
set_option maxRecDepth 20000 in
theorem gX6_out_X3_hopAt : GoodIn wsX6_out (wsV RX6 77 RX3 yX3_hopAt wsX3_hopAt) := goodIn_app (goodIn_of _ (by decide +kernel)) ggX6_out_X3_hopAt
set_option maxRecDepth 20000 in
theorem ggX6_out_X6_beginStep : GoodIn wsX6_out wsX6_beginStep := goodIn_r _ [31, 9, 32, 33, 34, 35, 13, 36, 37, 38, 15, 39, 40, 41, 42, 43, 44, 45, 19, 46, 21, 47, 48, 49, 50, 51, 25, 52, 27, 53, 54, 55, 56, 57, 69, 70, 71, 72, 73, 74, 75, 76, 77, 78, 79, 80, 81, 82, 83] (by decide +kernel) (by decide +kernel)
set_option maxRecDepth 20000 in
theorem gX6_out_X6_beginStep : GoodIn wsX6_out (wsV RX6 142 RX6 yX6_beginStep wsX6_beginStep) := goodIn_app (goodIn_of _ (by decide +kernel)) ggX6_out_X6_beginStep
set_option maxRecDepth 20000 in
theorem ggX6_out_X3_takeOut : GoodIn wsX6_out wsX3_takeOut := goodIn_r _ [61, 57, 62, 23, 24, 25, 26, 27, 63, 64, 65, 66, 67, 68, 82, 83] (by decide +kernel) (by decide +kernel)
set_option maxRecDepth 20000 in
theorem gX6_out_X3_takeOut : GoodIn wsX6_out (wsV RX6 149 RX3 yX3_takeOut wsX3_takeOut) := goodIn_app (goodIn_of _ (by decide +kernel)) ggX6_out_X3_takeOut
theorem dX6_out_0 : decode cX6_out 0 = .ok (.iload_n 1, 1) := by decide +kernel
theorem dX6_out_1 : decode cX6_out 1 = .ok (.invokestatic 74, 3) := by decide +kernel
theorem dX6_out_4 : decode cX6_out 4 = .ok (.ifCond .ne 5, 3) := by decide +kernel
theorem dX6_out_7 : decode cX6_out 7 = .ok (.iconst (-1), 1) := by decide +kernel
theorem dX6_out_8 : decode cX6_out 8 = .ok (.ireturn, 1) := by decide +kernel
theorem dX6_out_9 : decode cX6_out 9 = .ok (.aload_n 0, 1) := by decide +kernel
theorem dX6_out_10 : decode cX6_out 10 = .ok (.invokevirtual 51, 3) := by decide +kernel
theorem dX6_out_13 : decode cX6_out 13 = .ok (.iload_n 1, 1) := by decide +kernel
theorem dX6_out_14 : decode cX6_out 14 = .ok (.invokevirtual 77, 3) := by decide +kernel
theorem dX6_out_17 : decode cX6_out 17 = .ok (.istore_n 2, 1) := by decide +kernel
theorem dX6_out_18 : decode cX6_out 18 = .ok (.iload_n 2, 1) := by decide +kernel
theorem dX6_out_19 : decode cX6_out 19 = .ok (.bipush (-4), 2) := by decide +kernel
theorem dX6_out_21 : decode cX6_out 21 = .ok (.if_icmp .ne 6, 3) := by decide +kernel
theorem dX6_out_24 : decode cX6_out 24 = .ok (.bipush (-4), 2) := by decide +kernel
theorem dX6_out_26 : decode cX6_out 26 = .ok (.ireturn, 1) := by decide +kernel
theorem dX6_out_27 : decode cX6_out 27 = .ok (.aload_n 0, 1) := by decide +kernel
theorem dX6_out_28 : decode cX6_out 28 = .ok (.invokevirtual 142, 3) := by decide +kernel
theorem dX6_out_31 : decode cX6_out 31 = .ok (.aload_n 0, 1) := by decide +kernel
theorem dX6_out_32 : decode cX6_out 32 = .ok (.invokevirtual 51, 3) := by decide +kernel
theorem dX6_out_35 : decode cX6_out 35 = .ok (.iload_n 1, 1) := by decide +kernel
theorem dX6_out_36 : decode cX6_out 36 = .ok (.invokevirtual 149, 3) := by decide +kernel
theorem dX6_out_39 : decode cX6_out 39 = .ok (.iload_n 2, 1) := by decide +kernel
theorem dX6_out_40 : decode cX6_out 40 = .ok (.ireturn, 1) := by decide +kernel
set_option maxRecDepth 20000 in
theorem ggX6_rename_X6_isHop : GoodIn wsX6_rename wsX6_isHop := goodIn_r _ [4] (by decide +kernel) (by decide +kernel)
set_option maxRecDepth 20000 in
theorem gX6_rename_X6_isHop : GoodIn wsX6_rename (va_wsS RX6 92 yX6_isHop wsX6_isHop) := goodIn_app (goodIn_of _ (by decide +kernel)) ggX6_rename_X6_isHop
set_option maxRecDepth 20000 in
theorem ggX6_rename_X6_table : GoodIn wsX6_rename wsX6_table := goodIn_r _ [8, 9, 10, 11, 12, 13, 14, 15, 16, 17, 18, 19, 20, 21, 78, 79, 80, 81, 82, 83, 84, 85, 86, 87, 88, 89, 90] (by decide +kernel) (by decide +kernel)
set_option maxRecDepth 20000 in
theorem gX6_rename_X6_table : GoodIn wsX6_rename (wsV RX6 51 RX6 yX6_table wsX6_table) := goodIn_app (goodIn_of _ (by decide +kernel)) ggX6_rename_X6_table
set_option maxRecDepth 20000 in
theorem ggX6_rename_X3_hasHop : GoodIn wsX6_rename wsX3_hasHop := goodIn_r _ [26, 27, 28, 29, 25, 30, 31, 91, 92] (by decide +kernel) (by decide +kernel)
set_option maxRecDepth 20000 in
theorem gX6_rename_X3_hasHop : GoodIn wsX6_rename (wsV RX6 153 RX3 yX3_hasHop wsX3_hasHop) := goodIn_app (goodIn_of _ (by decide +kernel)) ggX6_rename_X3_hasHop
set_option maxRecDepth 20000 in
theorem ggX6_rename_X6_beginStep : GoodIn wsX6_rename wsX6_beginStep := goodIn_r _ [35, 9, 36, 37, 38, 39, 13, 40, 41, 42, 15, 43, 44, 45, 46, 47, 48, 49, 19, 50, 21, 51, 52, 53, 54, 55, 25, 56, 31, 57, 58, 59, 60, 61, 78, 79, 80, 81, 82, 83, 84, 85, 86, 87, 88, 89, 90, 91, 92] (by decide +kernel) (by decide +kernel)
set_option maxRecDepth 20000 in
theorem gX6_rename_X6_beginStep : GoodIn wsX6_rename (wsV RX6 142 RX6 yX6_beginStep wsX6_beginStep) := goodIn_app (goodIn_of _ (by decide +kernel)) ggX6_rename_X6_beginStep
set_option maxRecDepth 20000 in
theorem ggX6_rename_X3_replaceHop : GoodIn wsX6_rename wsX3_replaceHop := goodIn_r _ [65, 27, 28, 29, 25, 30, 31, 66, 67, 68, 69, 61, 70, 3, 71, 2, 4, 72, 73, 74, 75, 76, 77, 91, 92] (by decide +kernel) (by decide +kernel)
set_option maxRecDepth 20000 in
theorem gX6_rename_X3_replaceHop : GoodIn wsX6_rename (wsV RX6 156 RX3 yX3_replaceHop wsX3_replaceHop) := goodIn_app (goodIn_of _ (by decide +kernel)) ggX6_rename_X3_replaceHop
theorem dX6_rename_0 : decode cX6_rename 0 = .ok (.iload_n 1, 1) := by decide +kernel
theorem dX6_rename_1 : decode cX6_rename 1 = .ok (.invokestatic 92, 3) := by decide +kernel
theorem dX6_rename_4 : decode cX6_rename 4 = .ok (.ifCond .eq 10, 3) := by decide +kernel
theorem dX6_rename_7 : decode cX6_rename 7 = .ok (.iload_n 2, 1) := by decide +kernel
theorem dX6_rename_8 : decode cX6_rename 8 = .ok (.invokestatic 92, 3) := by decide +kernel
theorem dX6_rename_11 : decode cX6_rename 11 = .ok (.ifCond .ne 5, 3) := by decide +kernel
theorem dX6_rename_14 : decode cX6_rename 14 = .ok (.iconst (-1), 1) := by decide +kernel
theorem dX6_rename_15 : decode cX6_rename 15 = .ok (.ireturn, 1) := by decide +kernel
theorem dX6_rename_16 : decode cX6_rename 16 = .ok (.iload_n 1, 1) := by decide +kernel
theorem dX6_rename_17 : decode cX6_rename 17 = .ok (.iload_n 2, 1) := by decide +kernel
theorem dX6_rename_18 : decode cX6_rename 18 = .ok (.if_icmp .ne 6, 3) := by decide +kernel
theorem dX6_rename_21 : decode cX6_rename 21 = .ok (.bipush (-2), 2) := by decide +kernel
theorem dX6_rename_23 : decode cX6_rename 23 = .ok (.ireturn, 1) := by decide +kernel
theorem dX6_rename_24 : decode cX6_rename 24 = .ok (.aload_n 0, 1) := by decide +kernel
theorem dX6_rename_25 : decode cX6_rename 25 = .ok (.invokevirtual 51, 3) := by decide +kernel
theorem dX6_rename_28 : decode cX6_rename 28 = .ok (.iload_n 1, 1) := by decide +kernel
theorem dX6_rename_29 : decode cX6_rename 29 = .ok (.invokevirtual 153, 3) := by decide +kernel
theorem dX6_rename_32 : decode cX6_rename 32 = .ok (.ifCond .ne 6, 3) := by decide +kernel
theorem dX6_rename_35 : decode cX6_rename 35 = .ok (.bipush (-4), 2) := by decide +kernel
theorem dX6_rename_37 : decode cX6_rename 37 = .ok (.ireturn, 1) := by decide +kernel
theorem dX6_rename_38 : decode cX6_rename 38 = .ok (.aload_n 0, 1) := by decide +kernel
theorem dX6_rename_39 : decode cX6_rename 39 = .ok (.invokevirtual 142, 3) := by decide +kernel
theorem dX6_rename_42 : decode cX6_rename 42 = .ok (.aload_n 0, 1) := by decide +kernel
theorem dX6_rename_43 : decode cX6_rename 43 = .ok (.invokevirtual 51, 3) := by decide +kernel
theorem dX6_rename_46 : decode cX6_rename 46 = .ok (.iload_n 1, 1) := by decide +kernel
theorem dX6_rename_47 : decode cX6_rename 47 = .ok (.iload_n 2, 1) := by decide +kernel
theorem dX6_rename_48 : decode cX6_rename 48 = .ok (.invokevirtual 156, 3) := by decide +kernel
theorem dX6_rename_51 : decode cX6_rename 51 = .ok (.ireturn, 1) := by decide +kernel
set_option maxRecDepth 20000 in
theorem ggX6_install_X6_freshView : GoodIn wsX6_install wsX6_freshView := goodIn_r _ [5, 6, 7, 8, 9, 10, 4, 11, 12, 13, 14, 15, 16, 17, 18, 19, 20, 21, 22, 23, 24, 25, 26, 27, 28, 29, 30, 31, 32, 33, 34, 35, 36, 37, 38, 39, 40, 41, 42, 43, 44, 45, 46, 47, 48, 49, 50, 51, 52, 53, 54, 55, 56, 57, 58, 59, 60, 61, 62, 63, 64, 65, 66, 67, 68, 69, 70, 71, 72, 73, 74, 75, 76, 77, 78, 79, 80, 81, 82, 83, 84, 85, 86, 87, 88, 89, 90, 91, 92, 93, 94, 95, 96, 97, 98, 99, 100, 101, 102, 103, 104, 105, 106, 107, 108, 142, 143, 144, 145, 146, 147, 148, 149, 150, 151, 152, 153, 154, 155, 156, 157, 158, 159, 160, 161, 162, 163] (by decide +kernel) (by decide +kernel)
set_option maxRecDepth 20000 in
theorem gX6_install_X6_freshView : GoodIn wsX6_install (wsV RX6 67 RX6 yX6_freshView wsX6_freshView) := goodIn_app (goodIn_of _ (by decide +kernel)) ggX6_install_X6_freshView
set_option maxRecDepth 20000 in
theorem ggX6_install_X5_countChanges : GoodIn wsX6_install wsX5_countChanges := goodIn_r _ [112, 113, 114, 115, 37, 116, 39, 74, 60, 61, 62, 45, 63, 47, 155, 156, 157, 158, 159, 160, 161, 162, 163] (by decide +kernel) (by decide +kernel)
set_option maxRecDepth 20000 in
theorem gX6_install_X5_countChanges : GoodIn wsX6_install (wsV RX6 106 RX5 yX5_countChanges wsX5_countChanges) := goodIn_app (goodIn_of _ (by decide +kernel)) ggX6_install_X5_countChanges
set_option maxRecDepth 20000 in
theorem ggX6_install_X6_beginStep : GoodIn wsX6_install wsX6_beginStep := goodIn_r _ [120, 12, 6, 121, 122, 123, 16, 124, 125, 126, 18, 127, 128, 129, 130, 131, 132, 133, 22, 134, 24, 33, 135, 136, 43, 44, 45, 46, 47, 48, 49, 50, 51, 52, 142, 143, 144, 145, 146, 147, 148, 149, 150, 151, 152, 153, 154, 162, 163] (by decide +kernel) (by decide +kernel)
set_option maxRecDepth 20000 in
theorem gX6_install_X6_beginStep : GoodIn wsX6_install (wsV RX6 142 RX6 yX6_beginStep wsX6_beginStep) := goodIn_app (goodIn_of _ (by decide +kernel)) ggX6_install_X6_beginStep
set_option maxRecDepth 20000 in
theorem ggX6_install_X6_installed : GoodIn wsX6_install wsX6_installed := goodIn_r _ [28, 12, 13, 14, 15, 16, 17, 18, 29, 30, 31, 22, 32, 33, 142, 143, 144, 145, 146, 147, 148, 149, 150, 151, 152, 153, 154] (by decide +kernel) (by decide +kernel)
set_option maxRecDepth 20000 in
theorem gX6_install_X6_installed : GoodIn wsX6_install (wsV RX6 64 RX6 yX6_installed wsX6_installed) := goodIn_app (goodIn_of _ (by decide +kernel)) ggX6_install_X6_installed
set_option maxRecDepth 20000 in
theorem ggX6_install_X5_leastTable : GoodIn wsX6_install wsX5_leastTable := goodIn_r _ [140, 74, 155, 156, 157, 158, 159, 160, 161] (by decide +kernel) (by decide +kernel)
set_option maxRecDepth 20000 in
theorem gX6_install_X5_leastTable : GoodIn wsX6_install (wsV RX6 71 RX5 yX5_leastTable wsX5_leastTable) := goodIn_app (goodIn_of _ (by decide +kernel)) ggX6_install_X5_leastTable
set_option maxRecDepth 20000 in
theorem ggX6_install_X3_takeFrom : GoodIn wsX6_install wsX3_takeFrom := goodIn_r _ [46, 47, 48, 49, 50, 51, 52, 162, 163] (by decide +kernel) (by decide +kernel)
set_option maxRecDepth 20000 in
theorem gX6_install_X3_takeFrom : GoodIn wsX6_install (wsV RX6 159 RX3 yX3_takeFrom wsX3_takeFrom) := goodIn_app (goodIn_of _ (by decide +kernel)) ggX6_install_X3_takeFrom
theorem dX6_install_0 : decode cX6_install 0 = .ok (.aload_n 0, 1) := by decide +kernel
theorem dX6_install_1 : decode cX6_install 1 = .ok (.invokevirtual 67, 3) := by decide +kernel
theorem dX6_install_4 : decode cX6_install 4 = .ok (.astore_n 1, 1) := by decide +kernel
theorem dX6_install_5 : decode cX6_install 5 = .ok (.aload_n 1, 1) := by decide +kernel
theorem dX6_install_6 : decode cX6_install 6 = .ok (.invokevirtual 106, 3) := by decide +kernel
theorem dX6_install_9 : decode cX6_install 9 = .ok (.istore_n 2, 1) := by decide +kernel
theorem dX6_install_10 : decode cX6_install 10 = .ok (.iload_n 2, 1) := by decide +kernel
theorem dX6_install_11 : decode cX6_install 11 = .ok (.ifCond .ne 6, 3) := by decide +kernel
theorem dX6_install_14 : decode cX6_install 14 = .ok (.bipush (-2), 2) := by decide +kernel
theorem dX6_install_16 : decode cX6_install 16 = .ok (.ireturn, 1) := by decide +kernel
theorem dX6_install_17 : decode cX6_install 17 = .ok (.aload_n 0, 1) := by decide +kernel
theorem dX6_install_18 : decode cX6_install 18 = .ok (.invokevirtual 142, 3) := by decide +kernel
theorem dX6_install_21 : decode cX6_install 21 = .ok (.aload_n 0, 1) := by decide +kernel
theorem dX6_install_22 : decode cX6_install 22 = .ok (.invokevirtual 64, 3) := by decide +kernel
theorem dX6_install_25 : decode cX6_install 25 = .ok (.aload_n 1, 1) := by decide +kernel
theorem dX6_install_26 : decode cX6_install 26 = .ok (.invokevirtual 71, 3) := by decide +kernel
theorem dX6_install_29 : decode cX6_install 29 = .ok (.invokevirtual 159, 3) := by decide +kernel
theorem dX6_install_32 : decode cX6_install 32 = .ok (.iload_n 2, 1) := by decide +kernel
theorem dX6_install_33 : decode cX6_install 33 = .ok (.ireturn, 1) := by decide +kernel
set_option maxRecDepth 20000 in
theorem ggX6_type_X4_addLetter : GoodIn wsX6_type wsX4_addLetter := goodIn_r _ [6, 7, 8, 16, 17, 18, 19, 20] (by decide +kernel) (by decide +kernel)
set_option maxRecDepth 20000 in
theorem gX6_type_X4_addLetter : GoodIn wsX6_type (wsV RX6 163 RX4 yX4_addLetter wsX4_addLetter) := goodIn_app (goodIn_of _ (by decide +kernel)) ggX6_type_X4_addLetter
theorem dX6_type_0 : decode cX6_type 0 = .ok (.iload_n 1, 1) := by decide +kernel
theorem dX6_type_1 : decode cX6_type 1 = .ok (.bipush 32, 2) := by decide +kernel
theorem dX6_type_3 : decode cX6_type 3 = .ok (.if_icmp .lt 9, 3) := by decide +kernel
theorem dX6_type_6 : decode cX6_type 6 = .ok (.iload_n 1, 1) := by decide +kernel
theorem dX6_type_7 : decode cX6_type 7 = .ok (.bipush 126, 2) := by decide +kernel
theorem dX6_type_9 : decode cX6_type 9 = .ok (.if_icmp .le 5, 3) := by decide +kernel
theorem dX6_type_12 : decode cX6_type 12 = .ok (.iconst (-1), 1) := by decide +kernel
theorem dX6_type_13 : decode cX6_type 13 = .ok (.ireturn, 1) := by decide +kernel
theorem dX6_type_14 : decode cX6_type 14 = .ok (.aload_n 0, 1) := by decide +kernel
theorem dX6_type_15 : decode cX6_type 15 = .ok (.getfield 29, 3) := by decide +kernel
theorem dX6_type_18 : decode cX6_type 18 = .ok (.iload_n 1, 1) := by decide +kernel
theorem dX6_type_19 : decode cX6_type 19 = .ok (.invokevirtual 163, 3) := by decide +kernel
theorem dX6_type_22 : decode cX6_type 22 = .ok (.ireturn, 1) := by decide +kernel
set_option maxRecDepth 20000 in
theorem ggX6_read_X4_parse : GoodIn wsX6_read wsX4_parse := goodIn_r _ [6, 7, 8, 9, 10, 11, 12, 13, 14, 15, 16, 17, 18, 19, 20, 21, 22, 5, 23, 24, 25, 26, 27, 28, 29, 30, 31, 32, 33, 34, 35, 36, 37, 38, 39, 40, 41, 42, 43, 44, 45, 46, 47, 48, 49, 50, 51, 52, 53, 54, 121, 122, 123, 124, 125, 126, 127] (by decide +kernel) (by decide +kernel)
set_option maxRecDepth 20000 in
theorem gX6_read_X4_parse : GoodIn wsX6_read (wsV RX6 166 RX4 yX4_parse wsX4_parse) := goodIn_app (goodIn_of _ (by decide +kernel)) ggX6_read_X4_parse
set_option maxRecDepth 20000 in
theorem ggX6_read_X4_makeEmpty : GoodIn wsX6_read wsX4_makeEmpty := goodIn_r _ [58, 29, 121, 122, 123, 124, 125] (by decide +kernel) (by decide +kernel)
set_option maxRecDepth 20000 in
theorem gX6_read_X4_makeEmpty : GoodIn wsX6_read (wsV RX6 169 RX4 yX4_makeEmpty wsX4_makeEmpty) := goodIn_app (goodIn_of _ (by decide +kernel)) ggX6_read_X4_makeEmpty
set_option maxRecDepth 20000 in
theorem ggX6_read_X6_beginStep : GoodIn wsX6_read wsX6_beginStep := goodIn_r _ [62, 63, 64, 65, 66, 67, 68, 69, 70, 71, 72, 73, 74, 75, 76, 77, 78, 79, 80, 81, 82, 83, 84, 85, 86, 87, 12, 88, 14, 89, 90, 91, 92, 15, 114, 115, 116, 117, 118, 119, 120, 128, 129, 130, 131, 132, 133, 126, 127] (by decide +kernel) (by decide +kernel)
set_option maxRecDepth 20000 in
theorem gX6_read_X6_beginStep : GoodIn wsX6_read (wsV RX6 142 RX6 yX6_beginStep wsX6_beginStep) := goodIn_app (goodIn_of _ (by decide +kernel)) ggX6_read_X6_beginStep
set_option maxRecDepth 20000 in
theorem ggX6_read_X6_table : GoodIn wsX6_read wsX6_table := goodIn_r _ [96, 63, 97, 98, 99, 68, 100, 72, 101, 102, 103, 80, 104, 82, 114, 115, 116, 117, 118, 119, 120, 128, 129, 130, 131, 132, 133] (by decide +kernel) (by decide +kernel)
set_option maxRecDepth 20000 in
theorem gX6_read_X6_table : GoodIn wsX6_read (wsV RX6 51 RX6 yX6_table wsX6_table) := goodIn_app (goodIn_of _ (by decide +kernel)) ggX6_read_X6_table
set_option maxRecDepth 20000 in
theorem ggX6_read_X4_toldTable : GoodIn wsX6_read wsX4_toldTable := goodIn_r _ [108, 7, 121, 122, 123, 124, 125] (by decide +kernel) (by decide +kernel)
set_option maxRecDepth 20000 in
theorem gX6_read_X4_toldTable : GoodIn wsX6_read (wsV RX6 172 RX4 yX4_toldTable wsX4_toldTable) := goodIn_app (goodIn_of _ (by decide +kernel)) ggX6_read_X4_toldTable
set_option maxRecDepth 20000 in
theorem ggX6_read_X3_takeFrom : GoodIn wsX6_read wsX3_takeFrom := goodIn_r _ [88, 14, 89, 90, 91, 92, 15, 126, 127] (by decide +kernel) (by decide +kernel)
set_option maxRecDepth 20000 in
theorem gX6_read_X3_takeFrom : GoodIn wsX6_read (wsV RX6 159 RX3 yX3_takeFrom wsX3_takeFrom) := goodIn_app (goodIn_of _ (by decide +kernel)) ggX6_read_X3_takeFrom
set_option maxRecDepth 20000 in
theorem ggX6_read_X3_howMany : GoodIn wsX6_read wsX3_howMany := goodIn_r _ [113, 15, 126, 127] (by decide +kernel) (by decide +kernel)
set_option maxRecDepth 20000 in
theorem gX6_read_X3_howMany : GoodIn wsX6_read (wsV RX6 102 RX3 yX3_howMany wsX3_howMany) := goodIn_app (goodIn_of _ (by decide +kernel)) ggX6_read_X3_howMany
theorem dX6_read_0 : decode cX6_read 0 = .ok (.aload_n 0, 1) := by decide +kernel
theorem dX6_read_1 : decode cX6_read 1 = .ok (.getfield 29, 3) := by decide +kernel
theorem dX6_read_4 : decode cX6_read 4 = .ok (.invokevirtual 166, 3) := by decide +kernel
theorem dX6_read_7 : decode cX6_read 7 = .ok (.istore_n 1, 1) := by decide +kernel
theorem dX6_read_8 : decode cX6_read 8 = .ok (.aload_n 0, 1) := by decide +kernel
theorem dX6_read_9 : decode cX6_read 9 = .ok (.getfield 29, 3) := by decide +kernel
theorem dX6_read_12 : decode cX6_read 12 = .ok (.invokevirtual 169, 3) := by decide +kernel
theorem dX6_read_15 : decode cX6_read 15 = .ok (.iload_n 1, 1) := by decide +kernel
theorem dX6_read_16 : decode cX6_read 16 = .ok (.bipush (-4), 2) := by decide +kernel
theorem dX6_read_18 : decode cX6_read 18 = .ok (.if_icmp .eq 8, 3) := by decide +kernel
theorem dX6_read_21 : decode cX6_read 21 = .ok (.bipush (-20), 2) := by decide +kernel
theorem dX6_read_23 : decode cX6_read 23 = .ok (.iload_n 1, 1) := by decide +kernel
theorem dX6_read_24 : decode cX6_read 24 = .ok (.isub, 1) := by decide +kernel
theorem dX6_read_25 : decode cX6_read 25 = .ok (.ireturn, 1) := by decide +kernel
theorem dX6_read_26 : decode cX6_read 26 = .ok (.aload_n 0, 1) := by decide +kernel
theorem dX6_read_27 : decode cX6_read 27 = .ok (.invokevirtual 142, 3) := by decide +kernel
theorem dX6_read_30 : decode cX6_read 30 = .ok (.aload_n 0, 1) := by decide +kernel
theorem dX6_read_31 : decode cX6_read 31 = .ok (.invokevirtual 51, 3) := by decide +kernel
theorem dX6_read_34 : decode cX6_read 34 = .ok (.aload_n 0, 1) := by decide +kernel
theorem dX6_read_35 : decode cX6_read 35 = .ok (.getfield 29, 3) := by decide +kernel
theorem dX6_read_38 : decode cX6_read 38 = .ok (.invokevirtual 172, 3) := by decide +kernel
theorem dX6_read_41 : decode cX6_read 41 = .ok (.invokevirtual 159, 3) := by decide +kernel
theorem dX6_read_44 : decode cX6_read 44 = .ok (.aload_n 0, 1) := by decide +kernel
theorem dX6_read_45 : decode cX6_read 45 = .ok (.invokevirtual 51, 3) := by decide +kernel
theorem dX6_read_48 : decode cX6_read 48 = .ok (.invokevirtual 102, 3) := by decide +kernel
theorem dX6_read_51 : decode cX6_read 51 = .ok (.ireturn, 1) := by decide +kernel
set_option maxRecDepth 20000 in
theorem ggX6_drift_X6_beginStep : GoodIn wsX6_drift wsX6_beginStep := goodIn_r _ [5, 6, 7, 8, 9, 10, 11, 12, 13, 14, 15, 16, 17, 18, 19, 20, 21, 22, 23, 24, 25, 26, 27, 28, 29, 30, 31, 32, 33, 34, 35, 36, 37, 38, 88, 89, 90, 91, 92, 93, 94, 95, 96, 97, 98, 99, 100, 101, 102] (by decide +kernel) (by decide +kernel)
set_option maxRecDepth 20000 in
theorem gX6_drift_X6_beginStep : GoodIn wsX6_drift (wsV RX6 142 RX6 yX6_beginStep wsX6_beginStep) := goodIn_app (goodIn_of _ (by decide +kernel)) ggX6_drift_X6_beginStep
set_option maxRecDepth 20000 in
theorem ggX6_drift_X6_takeTurn : GoodIn wsX6_drift wsX6_takeTurn := goodIn_r _ [42, 6, 43, 44, 45, 11, 46, 15, 47, 48, 49, 23, 50, 27, 51, 52, 53, 54, 55, 4, 56, 57, 58, 59, 60, 25, 61, 62, 63, 31, 64, 33, 65, 66, 67, 68, 38, 69, 70, 71, 72, 73, 74, 75, 76, 77, 78, 79, 80, 81, 82, 83, 84, 85, 86, 87, 88, 89, 90, 91, 92, 93, 94, 95, 96, 97, 98, 99, 100, 101, 102] (by decide +kernel) (by decide +kernel)
set_option maxRecDepth 20000 in
theorem gX6_drift_X6_takeTurn : GoodIn wsX6_drift (wsV RX6 175 RX6 yX6_takeTurn wsX6_takeTurn) := goodIn_app (goodIn_of _ (by decide +kernel)) ggX6_drift_X6_takeTurn
set_option maxRecDepth 20000 in
theorem ggX6_drift_X6_table : GoodIn wsX6_drift wsX6_table := goodIn_r _ [56, 6, 43, 44, 45, 11, 46, 15, 57, 58, 59, 23, 60, 25, 88, 89, 90, 91, 92, 93, 94, 95, 96, 97, 98, 99, 100] (by decide +kernel) (by decide +kernel)
set_option maxRecDepth 20000 in
theorem gX6_drift_X6_table : GoodIn wsX6_drift (wsV RX6 51 RX6 yX6_table wsX6_table) := goodIn_app (goodIn_of _ (by decide +kernel)) ggX6_drift_X6_table
set_option maxRecDepth 20000 in
theorem ggX6_drift_X3_howMany : GoodIn wsX6_drift wsX3_howMany := goodIn_r _ [79, 38, 101, 102] (by decide +kernel) (by decide +kernel)
set_option maxRecDepth 20000 in
theorem gX6_drift_X3_howMany : GoodIn wsX6_drift (wsV RX6 102 RX3 yX3_howMany wsX3_howMany) := goodIn_app (goodIn_of _ (by decide +kernel)) ggX6_drift_X3_howMany
theorem dX6_drift_0 : decode cX6_drift 0 = .ok (.iload_n 1, 1) := by decide +kernel
theorem dX6_drift_1 : decode cX6_drift 1 = .ok (.iconst 1, 1) := by decide +kernel
theorem dX6_drift_2 : decode cX6_drift 2 = .ok (.if_icmp .lt 9, 3) := by decide +kernel
theorem dX6_drift_5 : decode cX6_drift 5 = .ok (.iload_n 1, 1) := by decide +kernel
theorem dX6_drift_6 : decode cX6_drift 6 = .ok (.bipush 40, 2) := by decide +kernel
theorem dX6_drift_8 : decode cX6_drift 8 = .ok (.if_icmp .le 5, 3) := by decide +kernel
theorem dX6_drift_11 : decode cX6_drift 11 = .ok (.iconst (-1), 1) := by decide +kernel
theorem dX6_drift_12 : decode cX6_drift 12 = .ok (.ireturn, 1) := by decide +kernel
theorem dX6_drift_13 : decode cX6_drift 13 = .ok (.iconst 0, 1) := by decide +kernel
theorem dX6_drift_14 : decode cX6_drift 14 = .ok (.istore_n 2, 1) := by decide +kernel
theorem dX6_drift_15 : decode cX6_drift 15 = .ok (.iload_n 2, 1) := by decide +kernel
theorem dX6_drift_16 : decode cX6_drift 16 = .ok (.iload_n 1, 1) := by decide +kernel
theorem dX6_drift_17 : decode cX6_drift 17 = .ok (.if_icmp .ge 17, 3) := by decide +kernel
theorem dX6_drift_20 : decode cX6_drift 20 = .ok (.aload_n 0, 1) := by decide +kernel
theorem dX6_drift_21 : decode cX6_drift 21 = .ok (.invokevirtual 142, 3) := by decide +kernel
theorem dX6_drift_24 : decode cX6_drift 24 = .ok (.aload_n 0, 1) := by decide +kernel
theorem dX6_drift_25 : decode cX6_drift 25 = .ok (.invokevirtual 175, 3) := by decide +kernel
theorem dX6_drift_28 : decode cX6_drift 28 = .ok (.iinc 2 1, 3) := by decide +kernel
theorem dX6_drift_31 : decode cX6_drift 31 = .ok (.goto (-16), 3) := by decide +kernel
theorem dX6_drift_34 : decode cX6_drift 34 = .ok (.aload_n 0, 1) := by decide +kernel
theorem dX6_drift_35 : decode cX6_drift 35 = .ok (.invokevirtual 51, 3) := by decide +kernel
theorem dX6_drift_38 : decode cX6_drift 38 = .ok (.invokevirtual 102, 3) := by decide +kernel
theorem dX6_drift_41 : decode cX6_drift 41 = .ok (.ireturn, 1) := by decide +kernel
set_option maxRecDepth 20000 in
theorem ggX6_undo_X0_howManyKnown : GoodIn wsX6_undo wsX0_howManyKnown := goodIn_r _ [7, 8, 41, 42, 43] (by decide +kernel) (by decide +kernel)
set_option maxRecDepth 20000 in
theorem gX6_undo_X0_howManyKnown : GoodIn wsX6_undo (wsV RX6 118 RX0 yX0_howManyKnown wsX0_howManyKnown) := goodIn_app (goodIn_of _ (by decide +kernel)) ggX6_undo_X0_howManyKnown
set_option maxRecDepth 20000 in
theorem ggX6_undo_X0_goBack : GoodIn wsX6_undo wsX0_goBack := goodIn_r _ [12, 8, 13, 14, 15, 16, 17, 18, 19, 20, 21, 22, 23, 24, 25, 26, 27, 28, 29, 30, 31, 32, 33, 41, 42, 43, 44, 45, 46, 47, 48] (by decide +kernel) (by decide +kernel)
set_option maxRecDepth 20000 in
theorem gX6_undo_X0_goBack : GoodIn wsX6_undo (wsV RX6 178 RX0 yX0_goBack wsX0_goBack) := goodIn_app (goodIn_of _ (by decide +kernel)) ggX6_undo_X0_goBack
theorem dX6_undo_0 : decode cX6_undo 0 = .ok (.aload_n 0, 1) := by decide +kernel
theorem dX6_undo_1 : decode cX6_undo 1 = .ok (.getfield 10, 3) := by decide +kernel
theorem dX6_undo_4 : decode cX6_undo 4 = .ok (.invokevirtual 118, 3) := by decide +kernel
theorem dX6_undo_7 : decode cX6_undo 7 = .ok (.ifCond .ne 6, 3) := by decide +kernel
theorem dX6_undo_10 : decode cX6_undo 10 = .ok (.bipush (-4), 2) := by decide +kernel
theorem dX6_undo_12 : decode cX6_undo 12 = .ok (.ireturn, 1) := by decide +kernel
theorem dX6_undo_13 : decode cX6_undo 13 = .ok (.aload_n 0, 1) := by decide +kernel
theorem dX6_undo_14 : decode cX6_undo 14 = .ok (.iconst 1, 1) := by decide +kernel
theorem dX6_undo_15 : decode cX6_undo 15 = .ok (.putfield 43, 3) := by decide +kernel
theorem dX6_undo_18 : decode cX6_undo 18 = .ok (.aload_n 0, 1) := by decide +kernel
theorem dX6_undo_19 : decode cX6_undo 19 = .ok (.getfield 10, 3) := by decide +kernel
theorem dX6_undo_22 : decode cX6_undo 22 = .ok (.invokevirtual 178, 3) := by decide +kernel
theorem dX6_undo_25 : decode cX6_undo 25 = .ok (.aload_n 0, 1) := by decide +kernel
theorem dX6_undo_26 : decode cX6_undo 26 = .ok (.getfield 10, 3) := by decide +kernel
theorem dX6_undo_29 : decode cX6_undo 29 = .ok (.invokevirtual 118, 3) := by decide +kernel
theorem dX6_undo_32 : decode cX6_undo 32 = .ok (.ireturn, 1) := by decide +kernel
set_option maxRecDepth 20000 in
theorem ggX6_seed_X0_present : GoodIn wsX6_seed wsX0_present := goodIn_r _ [6, 7, 25, 26, 27] (by decide +kernel) (by decide +kernel)
set_option maxRecDepth 20000 in
theorem gX6_seed_X0_present : GoodIn wsX6_seed (wsV RX6 181 RX0 yX0_present wsX0_present) := goodIn_app (goodIn_of _ (by decide +kernel)) ggX6_seed_X0_present
set_option maxRecDepth 20000 in
theorem ggX6_seed_X1_drawNow : GoodIn wsX6_seed wsX1_drawNow := goodIn_r _ [12, 13, 28, 29, 30] (by decide +kernel) (by decide +kernel)
set_option maxRecDepth 20000 in
theorem gX6_seed_X1_drawNow : GoodIn wsX6_seed (wsV RX6 185 RX1 yX1_drawNow wsX1_drawNow) := goodIn_app (goodIn_of _ (by decide +kernel)) ggX6_seed_X1_drawNow
set_option maxRecDepth 20000 in
theorem ggX6_seed_X1_setDraw : GoodIn wsX6_seed wsX1_setDraw := goodIn_r _ [17, 13, 28, 29, 30] (by decide +kernel) (by decide +kernel)
set_option maxRecDepth 20000 in
theorem gX6_seed_X1_setDraw : GoodIn wsX6_seed (wsV RX6 190 RX1 yX1_setDraw wsX1_setDraw) := goodIn_app (goodIn_of _ (by decide +kernel)) ggX6_seed_X1_setDraw
theorem dX6_seed_0 : decode cX6_seed 0 = .ok (.iload_n 1, 1) := by decide +kernel
theorem dX6_seed_1 : decode cX6_seed 1 = .ok (.ifCond .ge 5, 3) := by decide +kernel
theorem dX6_seed_4 : decode cX6_seed 4 = .ok (.iconst (-1), 1) := by decide +kernel
theorem dX6_seed_5 : decode cX6_seed 5 = .ok (.ireturn, 1) := by decide +kernel
theorem dX6_seed_6 : decode cX6_seed 6 = .ok (.aload_n 0, 1) := by decide +kernel
theorem dX6_seed_7 : decode cX6_seed 7 = .ok (.getfield 10, 3) := by decide +kernel
theorem dX6_seed_10 : decode cX6_seed 10 = .ok (.invokevirtual 181, 3) := by decide +kernel
theorem dX6_seed_13 : decode cX6_seed 13 = .ok (.invokevirtual 185, 3) := by decide +kernel
theorem dX6_seed_16 : decode cX6_seed 16 = .ok (.istore_n 2, 1) := by decide +kernel
theorem dX6_seed_17 : decode cX6_seed 17 = .ok (.aload_n 0, 1) := by decide +kernel
theorem dX6_seed_18 : decode cX6_seed 18 = .ok (.getfield 10, 3) := by decide +kernel
theorem dX6_seed_21 : decode cX6_seed 21 = .ok (.invokevirtual 181, 3) := by decide +kernel
theorem dX6_seed_24 : decode cX6_seed 24 = .ok (.iload_n 1, 1) := by decide +kernel
theorem dX6_seed_25 : decode cX6_seed 25 = .ok (.invokevirtual 190, 3) := by decide +kernel
theorem dX6_seed_28 : decode cX6_seed 28 = .ok (.iload_n 2, 1) := by decide +kernel
theorem dX6_seed_29 : decode cX6_seed 29 = .ok (.ireturn, 1) := by decide +kernel
set_option maxRecDepth 20000 in
theorem ggX6_image_X0_takeAllFrom : GoodIn wsX6_image wsX0_takeAllFrom := goodIn_r _ [8, 9, 10, 11, 12, 13, 14, 15, 16, 17, 18, 19, 20, 21, 22, 23, 24, 25, 26, 27, 28, 29, 30, 38, 39, 40, 41, 42, 43, 44, 45] (by decide +kernel) (by decide +kernel)
set_option maxRecDepth 20000 in
theorem gX6_image_X0_takeAllFrom : GoodIn wsX6_image (wsV RX6 193 RX0 yX0_takeAllFrom wsX0_takeAllFrom) := goodIn_app (goodIn_of _ (by decide +kernel)) ggX6_image_X0_takeAllFrom
theorem dX6_image_0 : decode cX6_image 0 = .ok (.aload_n 0, 1) := by decide +kernel
theorem dX6_image_1 : decode cX6_image 1 = .ok (.getfield 16, 3) := by decide +kernel
theorem dX6_image_4 : decode cX6_image 4 = .ok (.aload_n 0, 1) := by decide +kernel
theorem dX6_image_5 : decode cX6_image 5 = .ok (.getfield 10, 3) := by decide +kernel
theorem dX6_image_8 : decode cX6_image 8 = .ok (.invokevirtual 193, 3) := by decide +kernel
theorem dX6_image_11 : decode cX6_image 11 = .ok (.aload_n 0, 1) := by decide +kernel
theorem dX6_image_12 : decode cX6_image 12 = .ok (.iconst 1, 1) := by decide +kernel
theorem dX6_image_13 : decode cX6_image 13 = .ok (.putfield 39, 3) := by decide +kernel
theorem dX6_image_16 : decode cX6_image 16 = .ok (.iconst 1, 1) := by decide +kernel
theorem dX6_image_17 : decode cX6_image 17 = .ok (.ireturn, 1) := by decide +kernel
set_option maxRecDepth 20000 in
theorem ggX6_restore_X0_takeAllFrom : GoodIn wsX6_restore wsX0_takeAllFrom := goodIn_r _ [9, 10, 11, 12, 13, 14, 15, 16, 17, 18, 19, 20, 21, 22, 23, 24, 25, 26, 27, 28, 29, 30, 31, 39, 40, 41, 42, 43, 44, 45, 46] (by decide +kernel) (by decide +kernel)
set_option maxRecDepth 20000 in
theorem gX6_restore_X0_takeAllFrom : GoodIn wsX6_restore (wsV RX6 193 RX0 yX0_takeAllFrom wsX0_takeAllFrom) := goodIn_app (goodIn_of _ (by decide +kernel)) ggX6_restore_X0_takeAllFrom
theorem dX6_restore_0 : decode cX6_restore 0 = .ok (.aload_n 0, 1) := by decide +kernel
theorem dX6_restore_1 : decode cX6_restore 1 = .ok (.getfield 39, 3) := by decide +kernel
theorem dX6_restore_4 : decode cX6_restore 4 = .ok (.ifCond .ne 6, 3) := by decide +kernel
theorem dX6_restore_7 : decode cX6_restore 7 = .ok (.bipush (-4), 2) := by decide +kernel
theorem dX6_restore_9 : decode cX6_restore 9 = .ok (.ireturn, 1) := by decide +kernel
theorem dX6_restore_10 : decode cX6_restore 10 = .ok (.aload_n 0, 1) := by decide +kernel
theorem dX6_restore_11 : decode cX6_restore 11 = .ok (.iconst 1, 1) := by decide +kernel
theorem dX6_restore_12 : decode cX6_restore 12 = .ok (.putfield 43, 3) := by decide +kernel
theorem dX6_restore_15 : decode cX6_restore 15 = .ok (.aload_n 0, 1) := by decide +kernel
theorem dX6_restore_16 : decode cX6_restore 16 = .ok (.getfield 10, 3) := by decide +kernel
theorem dX6_restore_19 : decode cX6_restore 19 = .ok (.aload_n 0, 1) := by decide +kernel
theorem dX6_restore_20 : decode cX6_restore 20 = .ok (.getfield 16, 3) := by decide +kernel
theorem dX6_restore_23 : decode cX6_restore 23 = .ok (.invokevirtual 193, 3) := by decide +kernel
theorem dX6_restore_26 : decode cX6_restore 26 = .ok (.iconst 1, 1) := by decide +kernel
theorem dX6_restore_27 : decode cX6_restore 27 = .ok (.ireturn, 1) := by decide +kernel
set_option maxRecDepth 20000 in
theorem ggX6_lengths_X6_isSheet : GoodIn wsX6_lengths wsX6_isSheet := goodIn_r _ [5] (by decide +kernel) (by decide +kernel)
set_option maxRecDepth 20000 in
theorem gX6_lengths_X6_isSheet : GoodIn wsX6_lengths (va_wsS RX6 197 yX6_isSheet wsX6_isSheet) := goodIn_app (goodIn_of _ (by decide +kernel)) ggX6_lengths_X6_isSheet
set_option maxRecDepth 20000 in
theorem ggX6_lengths_X6_isLane : GoodIn wsX6_lengths wsX6_isLane := goodIn_r _ [8] (by decide +kernel) (by decide +kernel)
set_option maxRecDepth 20000 in
theorem gX6_lengths_X6_isLane : GoodIn wsX6_lengths (va_wsS RX6 200 yX6_isLane wsX6_isLane) := goodIn_app (goodIn_of _ (by decide +kernel)) ggX6_lengths_X6_isLane
set_option maxRecDepth 20000 in
theorem ggX6_lengths_X2_refusal : GoodIn wsX6_lengths wsX2_refusal := goodIn_r _ [13, 14, 15, 16, 17, 12, 18, 19, 20, 21, 22, 23, 42, 43, 44] (by decide +kernel) (by decide +kernel)
set_option maxRecDepth 20000 in
theorem gX6_lengths_X2_refusal : GoodIn wsX6_lengths (wsV RX6 203 RX2 yX2_refusal wsX2_refusal) := goodIn_app (goodIn_of _ (by decide +kernel)) ggX6_lengths_X2_refusal
set_option maxRecDepth 20000 in
theorem ggX6_lengths_X2_holdsPairs : GoodIn wsX6_lengths wsX2_holdsPairs := goodIn_r _ [27, 28, 29, 30, 19, 20, 21, 12, 22, 23, 42, 43, 44] (by decide +kernel) (by decide +kernel)
set_option maxRecDepth 20000 in
theorem gX6_lengths_X2_holdsPairs : GoodIn wsX6_lengths (wsV RX6 207 RX2 yX2_holdsPairs wsX2_holdsPairs) := goodIn_app (goodIn_of _ (by decide +kernel)) ggX6_lengths_X2_holdsPairs
set_option maxRecDepth 20000 in
theorem ggX6_lengths_X2_isToldBy : GoodIn wsX6_lengths wsX2_isToldBy := goodIn_r _ [34, 28, 19, 20, 21, 12, 22, 23, 42, 43, 44] (by decide +kernel) (by decide +kernel)
set_option maxRecDepth 20000 in
theorem gX6_lengths_X2_isToldBy : GoodIn wsX6_lengths (wsV RX6 211 RX2 yX2_isToldBy wsX2_isToldBy) := goodIn_app (goodIn_of _ (by decide +kernel)) ggX6_lengths_X2_isToldBy
theorem dX6_lengths_0 : decode cX6_lengths 0 = .ok (.iload_n 1, 1) := by decide +kernel
theorem dX6_lengths_1 : decode cX6_lengths 1 = .ok (.invokestatic 197, 3) := by decide +kernel
theorem dX6_lengths_4 : decode cX6_lengths 4 = .ok (.ifCond .eq 23, 3) := by decide +kernel
theorem dX6_lengths_7 : decode cX6_lengths 7 = .ok (.iload_n 2, 1) := by decide +kernel
theorem dX6_lengths_8 : decode cX6_lengths 8 = .ok (.invokestatic 200, 3) := by decide +kernel
theorem dX6_lengths_11 : decode cX6_lengths 11 = .ok (.ifCond .eq 16, 3) := by decide +kernel
theorem dX6_lengths_14 : decode cX6_lengths 14 = .ok (.iload 4, 2) := by decide +kernel
theorem dX6_lengths_16 : decode cX6_lengths 16 = .ok (.iconst 1, 1) := by decide +kernel
theorem dX6_lengths_17 : decode cX6_lengths 17 = .ok (.if_icmp .lt 10, 3) := by decide +kernel
theorem dX6_lengths_20 : decode cX6_lengths 20 = .ok (.iload 4, 2) := by decide +kernel
theorem dX6_lengths_22 : decode cX6_lengths 22 = .ok (.bipush 12, 2) := by decide +kernel
theorem dX6_lengths_24 : decode cX6_lengths 24 = .ok (.if_icmp .le 5, 3) := by decide +kernel
theorem dX6_lengths_27 : decode cX6_lengths 27 = .ok (.iconst (-1), 1) := by decide +kernel
theorem dX6_lengths_28 : decode cX6_lengths 28 = .ok (.ireturn, 1) := by decide +kernel
theorem dX6_lengths_29 : decode cX6_lengths 29 = .ok (.aload_n 0, 1) := by decide +kernel
theorem dX6_lengths_30 : decode cX6_lengths 30 = .ok (.getfield 35, 3) := by decide +kernel
theorem dX6_lengths_33 : decode cX6_lengths 33 = .ok (.iload_n 1, 1) := by decide +kernel
theorem dX6_lengths_34 : decode cX6_lengths 34 = .ok (.aaload, 1) := by decide +kernel
theorem dX6_lengths_35 : decode cX6_lengths 35 = .ok (.iload_n 2, 1) := by decide +kernel
theorem dX6_lengths_36 : decode cX6_lengths 36 = .ok (.iload_n 3, 1) := by decide +kernel
theorem dX6_lengths_37 : decode cX6_lengths 37 = .ok (.iconst 2, 1) := by decide +kernel
theorem dX6_lengths_38 : decode cX6_lengths 38 = .ok (.iload 4, 2) := by decide +kernel
theorem dX6_lengths_40 : decode cX6_lengths 40 = .ok (.imul, 1) := by decide +kernel
theorem dX6_lengths_41 : decode cX6_lengths 41 = .ok (.invokevirtual 203, 3) := by decide +kernel
theorem dX6_lengths_44 : decode cX6_lengths 44 = .ok (.istore 5, 2) := by decide +kernel
theorem dX6_lengths_46 : decode cX6_lengths 46 = .ok (.iload 5, 2) := by decide +kernel
theorem dX6_lengths_48 : decode cX6_lengths 48 = .ok (.ifCond .eq 6, 3) := by decide +kernel
theorem dX6_lengths_51 : decode cX6_lengths 51 = .ok (.iload 5, 2) := by decide +kernel
theorem dX6_lengths_53 : decode cX6_lengths 53 = .ok (.ireturn, 1) := by decide +kernel
theorem dX6_lengths_54 : decode cX6_lengths 54 = .ok (.aload_n 0, 1) := by decide +kernel
theorem dX6_lengths_55 : decode cX6_lengths 55 = .ok (.getfield 35, 3) := by decide +kernel
theorem dX6_lengths_58 : decode cX6_lengths 58 = .ok (.iload_n 1, 1) := by decide +kernel
theorem dX6_lengths_59 : decode cX6_lengths 59 = .ok (.aaload, 1) := by decide +kernel
theorem dX6_lengths_60 : decode cX6_lengths 60 = .ok (.iload_n 3, 1) := by decide +kernel
theorem dX6_lengths_61 : decode cX6_lengths 61 = .ok (.iload 4, 2) := by decide +kernel
theorem dX6_lengths_63 : decode cX6_lengths 63 = .ok (.invokevirtual 207, 3) := by decide +kernel
theorem dX6_lengths_66 : decode cX6_lengths 66 = .ok (.ifCond .ne 6, 3) := by decide +kernel
theorem dX6_lengths_69 : decode cX6_lengths 69 = .ok (.bipush (-2), 2) := by decide +kernel
theorem dX6_lengths_71 : decode cX6_lengths 71 = .ok (.ireturn, 1) := by decide +kernel
theorem dX6_lengths_72 : decode cX6_lengths 72 = .ok (.iconst 0, 1) := by decide +kernel
theorem dX6_lengths_73 : decode cX6_lengths 73 = .ok (.istore 6, 2) := by decide +kernel
theorem dX6_lengths_75 : decode cX6_lengths 75 = .ok (.iconst 0, 1) := by decide +kernel
theorem dX6_lengths_76 : decode cX6_lengths 76 = .ok (.istore 7, 2) := by decide +kernel
theorem dX6_lengths_78 : decode cX6_lengths 78 = .ok (.iload 7, 2) := by decide +kernel
theorem dX6_lengths_80 : decode cX6_lengths 80 = .ok (.bipush 8, 2) := by decide +kernel
theorem dX6_lengths_82 : decode cX6_lengths 82 = .ok (.if_icmp .gt 35, 3) := by decide +kernel
theorem dX6_lengths_85 : decode cX6_lengths 85 = .ok (.aload_n 0, 1) := by decide +kernel
theorem dX6_lengths_86 : decode cX6_lengths 86 = .ok (.getfield 35, 3) := by decide +kernel
theorem dX6_lengths_89 : decode cX6_lengths 89 = .ok (.iload_n 1, 1) := by decide +kernel
theorem dX6_lengths_90 : decode cX6_lengths 90 = .ok (.aaload, 1) := by decide +kernel
theorem dX6_lengths_91 : decode cX6_lengths 91 = .ok (.iload 7, 2) := by decide +kernel
theorem dX6_lengths_93 : decode cX6_lengths 93 = .ok (.iload_n 3, 1) := by decide +kernel
theorem dX6_lengths_94 : decode cX6_lengths 94 = .ok (.iload 4, 2) := by decide +kernel
theorem dX6_lengths_96 : decode cX6_lengths 96 = .ok (.invokevirtual 211, 3) := by decide +kernel
theorem dX6_lengths_99 : decode cX6_lengths 99 = .ok (.ifCond .eq 12, 3) := by decide +kernel
theorem dX6_lengths_102 : decode cX6_lengths 102 = .ok (.iload 6, 2) := by decide +kernel
theorem dX6_lengths_104 : decode cX6_lengths 104 = .ok (.iconst 1, 1) := by decide +kernel
theorem dX6_lengths_105 : decode cX6_lengths 105 = .ok (.iload 7, 2) := by decide +kernel
theorem dX6_lengths_107 : decode cX6_lengths 107 = .ok (.ishl, 1) := by decide +kernel
theorem dX6_lengths_108 : decode cX6_lengths 108 = .ok (.ior, 1) := by decide +kernel
theorem dX6_lengths_109 : decode cX6_lengths 109 = .ok (.istore 6, 2) := by decide +kernel
theorem dX6_lengths_111 : decode cX6_lengths 111 = .ok (.iinc 7 1, 3) := by decide +kernel
theorem dX6_lengths_114 : decode cX6_lengths 114 = .ok (.goto (-36), 3) := by decide +kernel
theorem dX6_lengths_117 : decode cX6_lengths 117 = .ok (.iload 6, 2) := by decide +kernel
theorem dX6_lengths_119 : decode cX6_lengths 119 = .ok (.ireturn, 1) := by decide +kernel
set_option maxRecDepth 20000 in
theorem ggX6_film_X6_isSheet : GoodIn wsX6_film wsX6_isSheet := goodIn_r _ [5] (by decide +kernel) (by decide +kernel)
set_option maxRecDepth 20000 in
theorem gX6_film_X6_isSheet : GoodIn wsX6_film (va_wsS RX6 197 yX6_isSheet wsX6_isSheet) := goodIn_app (goodIn_of _ (by decide +kernel)) ggX6_film_X6_isSheet
set_option maxRecDepth 20000 in
theorem ggX6_film_X6_isLane : GoodIn wsX6_film wsX6_isLane := goodIn_r _ [8] (by decide +kernel) (by decide +kernel)
set_option maxRecDepth 20000 in
theorem gX6_film_X6_isLane : GoodIn wsX6_film (va_wsS RX6 200 yX6_isLane wsX6_isLane) := goodIn_app (goodIn_of _ (by decide +kernel)) ggX6_film_X6_isLane
set_option maxRecDepth 20000 in
theorem ggX6_film_X6_freshView : GoodIn wsX6_film wsX6_freshView := goodIn_r _ [12, 13, 14, 15, 16, 17, 4, 18, 19, 20, 21, 22, 23, 24, 25, 26, 27, 28, 29, 30, 31, 32, 33, 34, 35, 36, 37, 38, 39, 40, 41, 42, 43, 44, 45, 46, 47, 48, 49, 50, 51, 52, 53, 54, 55, 56, 57, 58, 59, 60, 61, 62, 63, 64, 65, 66, 67, 68, 69, 70, 71, 72, 73, 74, 75, 76, 77, 78, 79, 80, 81, 82, 83, 84, 85, 86, 87, 88, 89, 90, 91, 92, 93, 94, 95, 96, 97, 98, 99, 100, 101, 102, 103, 104, 105, 106, 107, 108, 109, 110, 111, 112, 113, 114, 115, 153, 154, 155, 156, 157, 158, 159, 160, 161, 162, 163, 164, 165, 166, 167, 168, 169, 170, 171, 172, 173, 174] (by decide +kernel) (by decide +kernel)
set_option maxRecDepth 20000 in
theorem gX6_film_X6_freshView : GoodIn wsX6_film (wsV RX6 67 RX6 yX6_freshView wsX6_freshView) := goodIn_app (goodIn_of _ (by decide +kernel)) ggX6_film_X6_freshView
set_option maxRecDepth 20000 in
theorem ggX6_film_X5_leastTable : GoodIn wsX6_film wsX5_leastTable := goodIn_r _ [119, 81, 166, 167, 168, 169, 170, 171, 172] (by decide +kernel) (by decide +kernel)
set_option maxRecDepth 20000 in
theorem gX6_film_X5_leastTable : GoodIn wsX6_film (wsV RX6 71 RX5 yX5_leastTable wsX5_leastTable) := goodIn_app (goodIn_of _ (by decide +kernel)) ggX6_film_X5_leastTable
set_option maxRecDepth 20000 in
theorem ggX6_film_X3_howMany : GoodIn wsX6_film wsX3_howMany := goodIn_r _ [123, 59, 173, 174] (by decide +kernel) (by decide +kernel)
set_option maxRecDepth 20000 in
theorem gX6_film_X3_howMany : GoodIn wsX6_film (wsV RX6 102 RX3 yX3_howMany wsX3_howMany) := goodIn_app (goodIn_of _ (by decide +kernel)) ggX6_film_X3_howMany
set_option maxRecDepth 20000 in
theorem ggX6_film_X2_refusal : GoodIn wsX6_film wsX2_refusal := goodIn_r _ [128, 129, 130, 131, 132, 127, 133, 134, 135, 136, 137, 138, 175, 176, 177] (by decide +kernel) (by decide +kernel)
set_option maxRecDepth 20000 in
theorem gX6_film_X2_refusal : GoodIn wsX6_film (wsV RX6 203 RX2 yX2_refusal wsX2_refusal) := goodIn_app (goodIn_of _ (by decide +kernel)) ggX6_film_X2_refusal
set_option maxRecDepth 20000 in
theorem ggX6_film_X3_numberOf : GoodIn wsX6_film wsX3_numberOf := goodIn_r _ [142, 109, 68, 69, 52, 70, 54, 173, 174] (by decide +kernel) (by decide +kernel)
set_option maxRecDepth 20000 in
theorem gX6_film_X3_numberOf : GoodIn wsX6_film (wsV RX6 99 RX3 yX3_numberOf wsX3_numberOf) := goodIn_app (goodIn_of _ (by decide +kernel)) ggX6_film_X3_numberOf
set_option maxRecDepth 20000 in
theorem ggX6_film_X2_setItem : GoodIn wsX6_film wsX2_setItem := goodIn_r _ [146, 147, 134, 135, 136, 127, 137, 138, 148, 149, 150, 151, 129, 175, 176, 177] (by decide +kernel) (by decide +kernel)
set_option maxRecDepth 20000 in
theorem gX6_film_X2_setItem : GoodIn wsX6_film (wsV RX6 215 RX2 yX2_setItem wsX2_setItem) := goodIn_app (goodIn_of _ (by decide +kernel)) ggX6_film_X2_setItem
set_option maxRecDepth 20000 in
theorem ggX6_film_X3_hopAt : GoodIn wsX6_film wsX3_hopAt := goodIn_r _ [70, 54, 173, 174] (by decide +kernel) (by decide +kernel)
set_option maxRecDepth 20000 in
theorem gX6_film_X3_hopAt : GoodIn wsX6_film (wsV RX6 77 RX3 yX3_hopAt wsX3_hopAt) := goodIn_app (goodIn_of _ (by decide +kernel)) ggX6_film_X3_hopAt
theorem dX6_film_0 : decode cX6_film 0 = .ok (.iload_n 1, 1) := by decide +kernel
theorem dX6_film_1 : decode cX6_film 1 = .ok (.ifCond .lt 28, 3) := by decide +kernel
theorem dX6_film_4 : decode cX6_film 4 = .ok (.iload_n 2, 1) := by decide +kernel
theorem dX6_film_5 : decode cX6_film 5 = .ok (.ifCond .lt 24, 3) := by decide +kernel
theorem dX6_film_8 : decode cX6_film 8 = .ok (.iload_n 2, 1) := by decide +kernel
theorem dX6_film_9 : decode cX6_film 9 = .ok (.bipush 12, 2) := by decide +kernel
theorem dX6_film_11 : decode cX6_film 11 = .ok (.if_icmp .gt 18, 3) := by decide +kernel
theorem dX6_film_14 : decode cX6_film 14 = .ok (.iload_n 3, 1) := by decide +kernel
theorem dX6_film_15 : decode cX6_film 15 = .ok (.invokestatic 197, 3) := by decide +kernel
theorem dX6_film_18 : decode cX6_film 18 = .ok (.ifCond .eq 11, 3) := by decide +kernel
theorem dX6_film_21 : decode cX6_film 21 = .ok (.iload 4, 2) := by decide +kernel
theorem dX6_film_23 : decode cX6_film 23 = .ok (.invokestatic 200, 3) := by decide +kernel
theorem dX6_film_26 : decode cX6_film 26 = .ok (.ifCond .ne 5, 3) := by decide +kernel
theorem dX6_film_29 : decode cX6_film 29 = .ok (.iconst (-1), 1) := by decide +kernel
theorem dX6_film_30 : decode cX6_film 30 = .ok (.ireturn, 1) := by decide +kernel
theorem dX6_film_31 : decode cX6_film 31 = .ok (.aload_n 0, 1) := by decide +kernel
theorem dX6_film_32 : decode cX6_film 32 = .ok (.invokevirtual 67, 3) := by decide +kernel
theorem dX6_film_35 : decode cX6_film 35 = .ok (.invokevirtual 71, 3) := by decide +kernel
theorem dX6_film_38 : decode cX6_film 38 = .ok (.astore 6, 2) := by decide +kernel
theorem dX6_film_40 : decode cX6_film 40 = .ok (.iload_n 1, 1) := by decide +kernel
theorem dX6_film_41 : decode cX6_film 41 = .ok (.aload 6, 2) := by decide +kernel
theorem dX6_film_43 : decode cX6_film 43 = .ok (.invokevirtual 102, 3) := by decide +kernel
theorem dX6_film_46 : decode cX6_film 46 = .ok (.iload_n 2, 1) := by decide +kernel
theorem dX6_film_47 : decode cX6_film 47 = .ok (.isub, 1) := by decide +kernel
theorem dX6_film_48 : decode cX6_film 48 = .ok (.if_icmp .le 6, 3) := by decide +kernel
theorem dX6_film_51 : decode cX6_film 51 = .ok (.bipush (-2), 2) := by decide +kernel
theorem dX6_film_53 : decode cX6_film 53 = .ok (.ireturn, 1) := by decide +kernel
theorem dX6_film_54 : decode cX6_film 54 = .ok (.aload_n 0, 1) := by decide +kernel
theorem dX6_film_55 : decode cX6_film 55 = .ok (.getfield 35, 3) := by decide +kernel
theorem dX6_film_58 : decode cX6_film 58 = .ok (.iload_n 3, 1) := by decide +kernel
theorem dX6_film_59 : decode cX6_film 59 = .ok (.aaload, 1) := by decide +kernel
theorem dX6_film_60 : decode cX6_film 60 = .ok (.iload 4, 2) := by decide +kernel
theorem dX6_film_62 : decode cX6_film 62 = .ok (.iload 5, 2) := by decide +kernel
theorem dX6_film_64 : decode cX6_film 64 = .ok (.iconst 2, 1) := by decide +kernel
theorem dX6_film_65 : decode cX6_film 65 = .ok (.iload_n 2, 1) := by decide +kernel
theorem dX6_film_66 : decode cX6_film 66 = .ok (.imul, 1) := by decide +kernel
theorem dX6_film_67 : decode cX6_film 67 = .ok (.invokevirtual 203, 3) := by decide +kernel
theorem dX6_film_70 : decode cX6_film 70 = .ok (.istore 7, 2) := by decide +kernel
theorem dX6_film_72 : decode cX6_film 72 = .ok (.iload 7, 2) := by decide +kernel
theorem dX6_film_74 : decode cX6_film 74 = .ok (.ifCond .eq 6, 3) := by decide +kernel
theorem dX6_film_77 : decode cX6_film 77 = .ok (.iload 7, 2) := by decide +kernel
theorem dX6_film_79 : decode cX6_film 79 = .ok (.ireturn, 1) := by decide +kernel
theorem dX6_film_80 : decode cX6_film 80 = .ok (.iconst 0, 1) := by decide +kernel
theorem dX6_film_81 : decode cX6_film 81 = .ok (.istore 8, 2) := by decide +kernel
theorem dX6_film_83 : decode cX6_film 83 = .ok (.iload 8, 2) := by decide +kernel
theorem dX6_film_85 : decode cX6_film 85 = .ok (.iload_n 2, 1) := by decide +kernel
theorem dX6_film_86 : decode cX6_film 86 = .ok (.if_icmp .ge 65, 3) := by decide +kernel
theorem dX6_film_89 : decode cX6_film 89 = .ok (.aload 6, 2) := by decide +kernel
theorem dX6_film_91 : decode cX6_film 91 = .ok (.iload_n 1, 1) := by decide +kernel
theorem dX6_film_92 : decode cX6_film 92 = .ok (.iload 8, 2) := by decide +kernel
theorem dX6_film_94 : decode cX6_film 94 = .ok (.iadd, 1) := by decide +kernel
theorem dX6_film_95 : decode cX6_film 95 = .ok (.invokevirtual 99, 3) := by decide +kernel
theorem dX6_film_98 : decode cX6_film 98 = .ok (.istore 9, 2) := by decide +kernel
theorem dX6_film_100 : decode cX6_film 100 = .ok (.aload_n 0, 1) := by decide +kernel
theorem dX6_film_101 : decode cX6_film 101 = .ok (.getfield 35, 3) := by decide +kernel
theorem dX6_film_104 : decode cX6_film 104 = .ok (.iload_n 3, 1) := by decide +kernel
theorem dX6_film_105 : decode cX6_film 105 = .ok (.aaload, 1) := by decide +kernel
theorem dX6_film_106 : decode cX6_film 106 = .ok (.iload 5, 2) := by decide +kernel
theorem dX6_film_108 : decode cX6_film 108 = .ok (.iconst 2, 1) := by decide +kernel
theorem dX6_film_109 : decode cX6_film 109 = .ok (.iload 8, 2) := by decide +kernel
theorem dX6_film_111 : decode cX6_film 111 = .ok (.imul, 1) := by decide +kernel
theorem dX6_film_112 : decode cX6_film 112 = .ok (.iadd, 1) := by decide +kernel
theorem dX6_film_113 : decode cX6_film 113 = .ok (.iload 9, 2) := by decide +kernel
theorem dX6_film_115 : decode cX6_film 115 = .ok (.i2l, 1) := by decide +kernel
theorem dX6_film_116 : decode cX6_film 116 = .ok (.invokevirtual 215, 3) := by decide +kernel
theorem dX6_film_119 : decode cX6_film 119 = .ok (.aload_n 0, 1) := by decide +kernel
theorem dX6_film_120 : decode cX6_film 120 = .ok (.getfield 35, 3) := by decide +kernel
theorem dX6_film_123 : decode cX6_film 123 = .ok (.iload_n 3, 1) := by decide +kernel
theorem dX6_film_124 : decode cX6_film 124 = .ok (.aaload, 1) := by decide +kernel
theorem dX6_film_125 : decode cX6_film 125 = .ok (.iload 5, 2) := by decide +kernel
theorem dX6_film_127 : decode cX6_film 127 = .ok (.iconst 2, 1) := by decide +kernel
theorem dX6_film_128 : decode cX6_film 128 = .ok (.iload 8, 2) := by decide +kernel
theorem dX6_film_130 : decode cX6_film 130 = .ok (.imul, 1) := by decide +kernel
theorem dX6_film_131 : decode cX6_film 131 = .ok (.iadd, 1) := by decide +kernel
theorem dX6_film_132 : decode cX6_film 132 = .ok (.iconst 1, 1) := by decide +kernel
theorem dX6_film_133 : decode cX6_film 133 = .ok (.iadd, 1) := by decide +kernel
theorem dX6_film_134 : decode cX6_film 134 = .ok (.aload 6, 2) := by decide +kernel
theorem dX6_film_136 : decode cX6_film 136 = .ok (.iload 9, 2) := by decide +kernel
theorem dX6_film_138 : decode cX6_film 138 = .ok (.invokevirtual 77, 3) := by decide +kernel
theorem dX6_film_141 : decode cX6_film 141 = .ok (.i2l, 1) := by decide +kernel
theorem dX6_film_142 : decode cX6_film 142 = .ok (.invokevirtual 215, 3) := by decide +kernel
theorem dX6_film_145 : decode cX6_film 145 = .ok (.iinc 8 1, 3) := by decide +kernel
theorem dX6_film_148 : decode cX6_film 148 = .ok (.goto (-65), 3) := by decide +kernel
theorem dX6_film_151 : decode cX6_film 151 = .ok (.iconst 2, 1) := by decide +kernel
theorem dX6_film_152 : decode cX6_film 152 = .ok (.iload_n 2, 1) := by decide +kernel
theorem dX6_film_153 : decode cX6_film 153 = .ok (.imul, 1) := by decide +kernel
theorem dX6_film_154 : decode cX6_film 154 = .ok (.ireturn, 1) := by decide +kernel
set_option maxRecDepth 20000 in
theorem ggX6_sheet_X6_isSheet : GoodIn wsX6_sheet wsX6_isSheet := goodIn_r _ [5] (by decide +kernel) (by decide +kernel)
set_option maxRecDepth 20000 in
theorem gX6_sheet_X6_isSheet : GoodIn wsX6_sheet (va_wsS RX6 197 yX6_isSheet wsX6_isSheet) := goodIn_app (goodIn_of _ (by decide +kernel)) ggX6_sheet_X6_isSheet
set_option maxRecDepth 20000 in
theorem ggX6_sheet_X6_isLane : GoodIn wsX6_sheet wsX6_isLane := goodIn_r _ [8] (by decide +kernel) (by decide +kernel)
set_option maxRecDepth 20000 in
theorem gX6_sheet_X6_isLane : GoodIn wsX6_sheet (va_wsS RX6 200 yX6_isLane wsX6_isLane) := goodIn_app (goodIn_of _ (by decide +kernel)) ggX6_sheet_X6_isLane
set_option maxRecDepth 20000 in
theorem ggX6_sheet_X2_startRow : GoodIn wsX6_sheet wsX2_startRow := goodIn_r _ [13, 14, 15, 16, 17, 18, 19, 20, 28, 29, 30] (by decide +kernel) (by decide +kernel)
set_option maxRecDepth 20000 in
theorem gX6_sheet_X2_startRow : GoodIn wsX6_sheet (wsV RX6 219 RX2 yX2_startRow wsX2_startRow) := goodIn_app (goodIn_of _ (by decide +kernel)) ggX6_sheet_X2_startRow
theorem dX6_sheet_0 : decode cX6_sheet 0 = .ok (.iload_n 1, 1) := by decide +kernel
theorem dX6_sheet_1 : decode cX6_sheet 1 = .ok (.invokestatic 197, 3) := by decide +kernel
theorem dX6_sheet_4 : decode cX6_sheet 4 = .ok (.ifCond .eq 16, 3) := by decide +kernel
theorem dX6_sheet_7 : decode cX6_sheet 7 = .ok (.iload_n 2, 1) := by decide +kernel
theorem dX6_sheet_8 : decode cX6_sheet 8 = .ok (.invokestatic 200, 3) := by decide +kernel
theorem dX6_sheet_11 : decode cX6_sheet 11 = .ok (.ifCond .eq 9, 3) := by decide +kernel
theorem dX6_sheet_14 : decode cX6_sheet 14 = .ok (.iload_n 3, 1) := by decide +kernel
theorem dX6_sheet_15 : decode cX6_sheet 15 = .ok (.bipush 30, 2) := by decide +kernel
theorem dX6_sheet_17 : decode cX6_sheet 17 = .ok (.if_icmp .le 5, 3) := by decide +kernel
theorem dX6_sheet_20 : decode cX6_sheet 20 = .ok (.iconst (-1), 1) := by decide +kernel
theorem dX6_sheet_21 : decode cX6_sheet 21 = .ok (.ireturn, 1) := by decide +kernel
theorem dX6_sheet_22 : decode cX6_sheet 22 = .ok (.iload_n 3, 1) := by decide +kernel
theorem dX6_sheet_23 : decode cX6_sheet 23 = .ok (.ifCond .ge 6, 3) := by decide +kernel
theorem dX6_sheet_26 : decode cX6_sheet 26 = .ok (.bipush (-14), 2) := by decide +kernel
theorem dX6_sheet_28 : decode cX6_sheet 28 = .ok (.ireturn, 1) := by decide +kernel
theorem dX6_sheet_29 : decode cX6_sheet 29 = .ok (.aload_n 0, 1) := by decide +kernel
theorem dX6_sheet_30 : decode cX6_sheet 30 = .ok (.getfield 35, 3) := by decide +kernel
theorem dX6_sheet_33 : decode cX6_sheet 33 = .ok (.iload_n 1, 1) := by decide +kernel
theorem dX6_sheet_34 : decode cX6_sheet 34 = .ok (.aaload, 1) := by decide +kernel
theorem dX6_sheet_35 : decode cX6_sheet 35 = .ok (.iload_n 2, 1) := by decide +kernel
theorem dX6_sheet_36 : decode cX6_sheet 36 = .ok (.iload_n 3, 1) := by decide +kernel
theorem dX6_sheet_37 : decode cX6_sheet 37 = .ok (.invokevirtual 219, 3) := by decide +kernel
theorem dX6_sheet_40 : decode cX6_sheet 40 = .ok (.iload_n 3, 1) := by decide +kernel
theorem dX6_sheet_41 : decode cX6_sheet 41 = .ok (.ireturn, 1) := by decide +kernel
set_option maxRecDepth 20000 in
theorem ggX6_drop_X6_isSheet : GoodIn wsX6_drop wsX6_isSheet := goodIn_r _ [5] (by decide +kernel) (by decide +kernel)
set_option maxRecDepth 20000 in
theorem gX6_drop_X6_isSheet : GoodIn wsX6_drop (va_wsS RX6 197 yX6_isSheet wsX6_isSheet) := goodIn_app (goodIn_of _ (by decide +kernel)) ggX6_drop_X6_isSheet
set_option maxRecDepth 20000 in
theorem ggX6_drop_X2_holdsNothing : GoodIn wsX6_drop wsX2_holdsNothing := goodIn_r _ [10, 11, 24, 25, 26] (by decide +kernel) (by decide +kernel)
set_option maxRecDepth 20000 in
theorem gX6_drop_X2_holdsNothing : GoodIn wsX6_drop (wsV RX6 222 RX2 yX2_holdsNothing wsX2_holdsNothing) := goodIn_app (goodIn_of _ (by decide +kernel)) ggX6_drop_X2_holdsNothing
set_option maxRecDepth 20000 in
theorem ggX6_drop_X2_makeNothing : GoodIn wsX6_drop wsX2_makeNothing := goodIn_r _ [15, 16, 11, 24, 25, 26] (by decide +kernel) (by decide +kernel)
set_option maxRecDepth 20000 in
theorem gX6_drop_X2_makeNothing : GoodIn wsX6_drop (wsV RX6 226 RX2 yX2_makeNothing wsX2_makeNothing) := goodIn_app (goodIn_of _ (by decide +kernel)) ggX6_drop_X2_makeNothing
theorem dX6_drop_0 : decode cX6_drop 0 = .ok (.iload_n 1, 1) := by decide +kernel
theorem dX6_drop_1 : decode cX6_drop 1 = .ok (.invokestatic 197, 3) := by decide +kernel
theorem dX6_drop_4 : decode cX6_drop 4 = .ok (.ifCond .ne 5, 3) := by decide +kernel
theorem dX6_drop_7 : decode cX6_drop 7 = .ok (.iconst (-1), 1) := by decide +kernel
theorem dX6_drop_8 : decode cX6_drop 8 = .ok (.ireturn, 1) := by decide +kernel
theorem dX6_drop_9 : decode cX6_drop 9 = .ok (.aload_n 0, 1) := by decide +kernel
theorem dX6_drop_10 : decode cX6_drop 10 = .ok (.getfield 35, 3) := by decide +kernel
theorem dX6_drop_13 : decode cX6_drop 13 = .ok (.iload_n 1, 1) := by decide +kernel
theorem dX6_drop_14 : decode cX6_drop 14 = .ok (.aaload, 1) := by decide +kernel
theorem dX6_drop_15 : decode cX6_drop 15 = .ok (.invokevirtual 222, 3) := by decide +kernel
theorem dX6_drop_18 : decode cX6_drop 18 = .ok (.ifCond .eq 6, 3) := by decide +kernel
theorem dX6_drop_21 : decode cX6_drop 21 = .ok (.bipush (-11), 2) := by decide +kernel
theorem dX6_drop_23 : decode cX6_drop 23 = .ok (.ireturn, 1) := by decide +kernel
theorem dX6_drop_24 : decode cX6_drop 24 = .ok (.aload_n 0, 1) := by decide +kernel
theorem dX6_drop_25 : decode cX6_drop 25 = .ok (.getfield 35, 3) := by decide +kernel
theorem dX6_drop_28 : decode cX6_drop 28 = .ok (.iload_n 1, 1) := by decide +kernel
theorem dX6_drop_29 : decode cX6_drop 29 = .ok (.aaload, 1) := by decide +kernel
theorem dX6_drop_30 : decode cX6_drop 30 = .ok (.invokevirtual 226, 3) := by decide +kernel
theorem dX6_drop_33 : decode cX6_drop 33 = .ok (.ireturn, 1) := by decide +kernel
set_option maxRecDepth 20000 in
theorem ggX6_item_X6_isSheet : GoodIn wsX6_item wsX6_isSheet := goodIn_r _ [5] (by decide +kernel) (by decide +kernel)
set_option maxRecDepth 20000 in
theorem gX6_item_X6_isSheet : GoodIn wsX6_item (va_wsS RX6 197 yX6_isSheet wsX6_isSheet) := goodIn_app (goodIn_of _ (by decide +kernel)) ggX6_item_X6_isSheet
set_option maxRecDepth 20000 in
theorem ggX6_item_X6_isLane : GoodIn wsX6_item wsX6_isLane := goodIn_r _ [8] (by decide +kernel) (by decide +kernel)
set_option maxRecDepth 20000 in
theorem gX6_item_X6_isLane : GoodIn wsX6_item (va_wsS RX6 200 yX6_isLane wsX6_isLane) := goodIn_app (goodIn_of _ (by decide +kernel)) ggX6_item_X6_isLane
set_option maxRecDepth 20000 in
theorem ggX6_item_X2_refusal : GoodIn wsX6_item wsX2_refusal := goodIn_r _ [13, 14, 15, 16, 17, 12, 18, 19, 20, 21, 22, 23, 40, 41, 42] (by decide +kernel) (by decide +kernel)
set_option maxRecDepth 20000 in
theorem gX6_item_X2_refusal : GoodIn wsX6_item (wsV RX6 203 RX2 yX2_refusal wsX2_refusal) := goodIn_app (goodIn_of _ (by decide +kernel)) ggX6_item_X2_refusal
set_option maxRecDepth 20000 in
theorem ggX6_item_X2_setItem : GoodIn wsX6_item wsX2_setItem := goodIn_r _ [27, 28, 19, 20, 21, 12, 22, 23, 29, 30, 31, 32, 14, 40, 41, 42] (by decide +kernel) (by decide +kernel)
set_option maxRecDepth 20000 in
theorem gX6_item_X2_setItem : GoodIn wsX6_item (wsV RX6 215 RX2 yX2_setItem wsX2_setItem) := goodIn_app (goodIn_of _ (by decide +kernel)) ggX6_item_X2_setItem
theorem dX6_item_0 : decode cX6_item 0 = .ok (.iload_n 1, 1) := by decide +kernel
theorem dX6_item_1 : decode cX6_item 1 = .ok (.invokestatic 197, 3) := by decide +kernel
theorem dX6_item_4 : decode cX6_item 4 = .ok (.ifCond .eq 10, 3) := by decide +kernel
theorem dX6_item_7 : decode cX6_item 7 = .ok (.iload_n 2, 1) := by decide +kernel
theorem dX6_item_8 : decode cX6_item 8 = .ok (.invokestatic 200, 3) := by decide +kernel
theorem dX6_item_11 : decode cX6_item 11 = .ok (.ifCond .ne 5, 3) := by decide +kernel
theorem dX6_item_14 : decode cX6_item 14 = .ok (.iconst (-1), 1) := by decide +kernel
theorem dX6_item_15 : decode cX6_item 15 = .ok (.ireturn, 1) := by decide +kernel
theorem dX6_item_16 : decode cX6_item 16 = .ok (.aload_n 0, 1) := by decide +kernel
theorem dX6_item_17 : decode cX6_item 17 = .ok (.getfield 35, 3) := by decide +kernel
theorem dX6_item_20 : decode cX6_item 20 = .ok (.iload_n 1, 1) := by decide +kernel
theorem dX6_item_21 : decode cX6_item 21 = .ok (.aaload, 1) := by decide +kernel
theorem dX6_item_22 : decode cX6_item 22 = .ok (.iload_n 2, 1) := by decide +kernel
theorem dX6_item_23 : decode cX6_item 23 = .ok (.iload_n 3, 1) := by decide +kernel
theorem dX6_item_24 : decode cX6_item 24 = .ok (.iconst 1, 1) := by decide +kernel
theorem dX6_item_25 : decode cX6_item 25 = .ok (.invokevirtual 203, 3) := by decide +kernel
theorem dX6_item_28 : decode cX6_item 28 = .ok (.istore 6, 2) := by decide +kernel
theorem dX6_item_30 : decode cX6_item 30 = .ok (.iload 6, 2) := by decide +kernel
theorem dX6_item_32 : decode cX6_item 32 = .ok (.ifCond .eq 6, 3) := by decide +kernel
theorem dX6_item_35 : decode cX6_item 35 = .ok (.iload 6, 2) := by decide +kernel
theorem dX6_item_37 : decode cX6_item 37 = .ok (.ireturn, 1) := by decide +kernel
theorem dX6_item_38 : decode cX6_item 38 = .ok (.aload_n 0, 1) := by decide +kernel
theorem dX6_item_39 : decode cX6_item 39 = .ok (.getfield 35, 3) := by decide +kernel
theorem dX6_item_42 : decode cX6_item 42 = .ok (.iload_n 1, 1) := by decide +kernel
theorem dX6_item_43 : decode cX6_item 43 = .ok (.aaload, 1) := by decide +kernel
theorem dX6_item_44 : decode cX6_item 44 = .ok (.iload_n 3, 1) := by decide +kernel
theorem dX6_item_45 : decode cX6_item 45 = .ok (.lload 4, 2) := by decide +kernel
theorem dX6_item_47 : decode cX6_item 47 = .ok (.invokevirtual 215, 3) := by decide +kernel
theorem dX6_item_50 : decode cX6_item 50 = .ok (.iconst 1, 1) := by decide +kernel
theorem dX6_item_51 : decode cX6_item 51 = .ok (.ireturn, 1) := by decide +kernel
set_option maxRecDepth 20000 in
theorem ggX6_copy_X6_isSheet : GoodIn wsX6_copy wsX6_isSheet := goodIn_r _ [5] (by decide +kernel) (by decide +kernel)
set_option maxRecDepth 20000 in
theorem gX6_copy_X6_isSheet : GoodIn wsX6_copy (va_wsS RX6 197 yX6_isSheet wsX6_isSheet) := goodIn_app (goodIn_of _ (by decide +kernel)) ggX6_copy_X6_isSheet
set_option maxRecDepth 20000 in
theorem ggX6_copy_X2_holdsNothing : GoodIn wsX6_copy wsX2_holdsNothing := goodIn_r _ [10, 11, 38, 39, 40] (by decide +kernel) (by decide +kernel)
set_option maxRecDepth 20000 in
theorem gX6_copy_X2_holdsNothing : GoodIn wsX6_copy (wsV RX6 222 RX2 yX2_holdsNothing wsX2_holdsNothing) := goodIn_app (goodIn_of _ (by decide +kernel)) ggX6_copy_X2_holdsNothing
set_option maxRecDepth 20000 in
theorem ggX6_copy_X2_hasLaneOf : GoodIn wsX6_copy wsX2_hasLaneOf := goodIn_r _ [15, 11, 38, 39, 40] (by decide +kernel) (by decide +kernel)
set_option maxRecDepth 20000 in
theorem gX6_copy_X2_hasLaneOf : GoodIn wsX6_copy (wsV RX6 229 RX2 yX2_hasLaneOf wsX2_hasLaneOf) := goodIn_app (goodIn_of _ (by decide +kernel)) ggX6_copy_X2_hasLaneOf
set_option maxRecDepth 20000 in
theorem ggX6_copy_X2_hasItems : GoodIn wsX6_copy wsX2_hasItems := goodIn_r _ [19, 20, 38, 39, 40] (by decide +kernel) (by decide +kernel)
set_option maxRecDepth 20000 in
theorem gX6_copy_X2_hasItems : GoodIn wsX6_copy (wsV RX6 233 RX2 yX2_hasItems wsX2_hasItems) := goodIn_app (goodIn_of _ (by decide +kernel)) ggX6_copy_X2_hasItems
set_option maxRecDepth 20000 in
theorem ggX6_copy_X2_takeItems : GoodIn wsX6_copy wsX2_takeItems := goodIn_r _ [24, 25, 26, 27, 28, 29, 30, 17, 18, 9, 19, 20, 38, 39, 40] (by decide +kernel) (by decide +kernel)
set_option maxRecDepth 20000 in
theorem gX6_copy_X2_takeItems : GoodIn wsX6_copy (wsV RX6 236 RX2 yX2_takeItems wsX2_takeItems) := goodIn_app (goodIn_of _ (by decide +kernel)) ggX6_copy_X2_takeItems
theorem dX6_copy_0 : decode cX6_copy 0 = .ok (.iload_n 1, 1) := by decide +kernel
theorem dX6_copy_1 : decode cX6_copy 1 = .ok (.invokestatic 197, 3) := by decide +kernel
theorem dX6_copy_4 : decode cX6_copy 4 = .ok (.ifCond .eq 10, 3) := by decide +kernel
theorem dX6_copy_7 : decode cX6_copy 7 = .ok (.iload_n 3, 1) := by decide +kernel
theorem dX6_copy_8 : decode cX6_copy 8 = .ok (.invokestatic 197, 3) := by decide +kernel
theorem dX6_copy_11 : decode cX6_copy 11 = .ok (.ifCond .ne 5, 3) := by decide +kernel
theorem dX6_copy_14 : decode cX6_copy 14 = .ok (.iconst (-1), 1) := by decide +kernel
theorem dX6_copy_15 : decode cX6_copy 15 = .ok (.ireturn, 1) := by decide +kernel
theorem dX6_copy_16 : decode cX6_copy 16 = .ok (.aload_n 0, 1) := by decide +kernel
theorem dX6_copy_17 : decode cX6_copy 17 = .ok (.getfield 35, 3) := by decide +kernel
theorem dX6_copy_20 : decode cX6_copy 20 = .ok (.iload_n 1, 1) := by decide +kernel
theorem dX6_copy_21 : decode cX6_copy 21 = .ok (.aaload, 1) := by decide +kernel
theorem dX6_copy_22 : decode cX6_copy 22 = .ok (.astore 6, 2) := by decide +kernel
theorem dX6_copy_24 : decode cX6_copy 24 = .ok (.aload_n 0, 1) := by decide +kernel
theorem dX6_copy_25 : decode cX6_copy 25 = .ok (.getfield 35, 3) := by decide +kernel
theorem dX6_copy_28 : decode cX6_copy 28 = .ok (.iload_n 3, 1) := by decide +kernel
theorem dX6_copy_29 : decode cX6_copy 29 = .ok (.aaload, 1) := by decide +kernel
theorem dX6_copy_30 : decode cX6_copy 30 = .ok (.astore 7, 2) := by decide +kernel
theorem dX6_copy_32 : decode cX6_copy 32 = .ok (.aload 6, 2) := by decide +kernel
theorem dX6_copy_34 : decode cX6_copy 34 = .ok (.invokevirtual 222, 3) := by decide +kernel
theorem dX6_copy_37 : decode cX6_copy 37 = .ok (.ifCond .ne 11, 3) := by decide +kernel
theorem dX6_copy_40 : decode cX6_copy 40 = .ok (.aload 7, 2) := by decide +kernel
theorem dX6_copy_42 : decode cX6_copy 42 = .ok (.invokevirtual 222, 3) := by decide +kernel
theorem dX6_copy_45 : decode cX6_copy 45 = .ok (.ifCond .eq 6, 3) := by decide +kernel
theorem dX6_copy_48 : decode cX6_copy 48 = .ok (.bipush (-11), 2) := by decide +kernel
theorem dX6_copy_50 : decode cX6_copy 50 = .ok (.ireturn, 1) := by decide +kernel
theorem dX6_copy_51 : decode cX6_copy 51 = .ok (.aload 7, 2) := by decide +kernel
theorem dX6_copy_53 : decode cX6_copy 53 = .ok (.aload 6, 2) := by decide +kernel
theorem dX6_copy_55 : decode cX6_copy 55 = .ok (.invokevirtual 229, 3) := by decide +kernel
theorem dX6_copy_58 : decode cX6_copy 58 = .ok (.ifCond .ne 6, 3) := by decide +kernel
theorem dX6_copy_61 : decode cX6_copy 61 = .ok (.bipush (-12), 2) := by decide +kernel
theorem dX6_copy_63 : decode cX6_copy 63 = .ok (.ireturn, 1) := by decide +kernel
theorem dX6_copy_64 : decode cX6_copy 64 = .ok (.aload 6, 2) := by decide +kernel
theorem dX6_copy_66 : decode cX6_copy 66 = .ok (.iload_n 2, 1) := by decide +kernel
theorem dX6_copy_67 : decode cX6_copy 67 = .ok (.iload 5, 2) := by decide +kernel
theorem dX6_copy_69 : decode cX6_copy 69 = .ok (.invokevirtual 233, 3) := by decide +kernel
theorem dX6_copy_72 : decode cX6_copy 72 = .ok (.ifCond .eq 15, 3) := by decide +kernel
theorem dX6_copy_75 : decode cX6_copy 75 = .ok (.aload 7, 2) := by decide +kernel
theorem dX6_copy_77 : decode cX6_copy 77 = .ok (.iload 4, 2) := by decide +kernel
theorem dX6_copy_79 : decode cX6_copy 79 = .ok (.iload 5, 2) := by decide +kernel
theorem dX6_copy_81 : decode cX6_copy 81 = .ok (.invokevirtual 233, 3) := by decide +kernel
theorem dX6_copy_84 : decode cX6_copy 84 = .ok (.ifCond .ne 6, 3) := by decide +kernel
theorem dX6_copy_87 : decode cX6_copy 87 = .ok (.bipush (-13), 2) := by decide +kernel
theorem dX6_copy_89 : decode cX6_copy 89 = .ok (.ireturn, 1) := by decide +kernel
theorem dX6_copy_90 : decode cX6_copy 90 = .ok (.aload 7, 2) := by decide +kernel
theorem dX6_copy_92 : decode cX6_copy 92 = .ok (.iload 4, 2) := by decide +kernel
theorem dX6_copy_94 : decode cX6_copy 94 = .ok (.aload 6, 2) := by decide +kernel
theorem dX6_copy_96 : decode cX6_copy 96 = .ok (.iload_n 2, 1) := by decide +kernel
theorem dX6_copy_97 : decode cX6_copy 97 = .ok (.iload 5, 2) := by decide +kernel
theorem dX6_copy_99 : decode cX6_copy 99 = .ok (.invokevirtual 236, 3) := by decide +kernel
theorem dX6_copy_102 : decode cX6_copy 102 = .ok (.iload 5, 2) := by decide +kernel
theorem dX6_copy_104 : decode cX6_copy 104 = .ok (.ireturn, 1) := by decide +kernel
theorem dX6_isAddress_0 : decode cX6_isAddress 0 = .ok (.iload_n 0, 1) := by decide +kernel
theorem dX6_isAddress_1 : decode cX6_isAddress 1 = .ok (.ifCond .lt 14, 3) := by decide +kernel
theorem dX6_isAddress_4 : decode cX6_isAddress 4 = .ok (.iload_n 0, 1) := by decide +kernel
theorem dX6_isAddress_5 : decode cX6_isAddress 5 = .ok (.sipush 256, 3) := by decide +kernel
theorem dX6_isAddress_8 : decode cX6_isAddress 8 = .ok (.if_icmp .ge 7, 3) := by decide +kernel
theorem dX6_isAddress_11 : decode cX6_isAddress 11 = .ok (.iconst 1, 1) := by decide +kernel
theorem dX6_isAddress_12 : decode cX6_isAddress 12 = .ok (.goto 4, 3) := by decide +kernel
theorem dX6_isAddress_15 : decode cX6_isAddress 15 = .ok (.iconst 0, 1) := by decide +kernel
theorem dX6_isAddress_16 : decode cX6_isAddress 16 = .ok (.ireturn, 1) := by decide +kernel
theorem dX6_isPrefix_0 : decode cX6_isPrefix 0 = .ok (.iload_n 0, 1) := by decide +kernel
theorem dX6_isPrefix_1 : decode cX6_isPrefix 1 = .ok (.iconst 1, 1) := by decide +kernel
theorem dX6_isPrefix_2 : decode cX6_isPrefix 2 = .ok (.if_icmp .lt 14, 3) := by decide +kernel
theorem dX6_isPrefix_5 : decode cX6_isPrefix 5 = .ok (.iload_n 0, 1) := by decide +kernel
theorem dX6_isPrefix_6 : decode cX6_isPrefix 6 = .ok (.sipush 512, 3) := by decide +kernel
theorem dX6_isPrefix_9 : decode cX6_isPrefix 9 = .ok (.if_icmp .ge 7, 3) := by decide +kernel
theorem dX6_isPrefix_12 : decode cX6_isPrefix 12 = .ok (.iconst 1, 1) := by decide +kernel
theorem dX6_isPrefix_13 : decode cX6_isPrefix 13 = .ok (.goto 4, 3) := by decide +kernel
theorem dX6_isPrefix_16 : decode cX6_isPrefix 16 = .ok (.iconst 0, 1) := by decide +kernel
theorem dX6_isPrefix_17 : decode cX6_isPrefix 17 = .ok (.ireturn, 1) := by decide +kernel
theorem dX6_isHop_0 : decode cX6_isHop 0 = .ok (.iload_n 0, 1) := by decide +kernel
theorem dX6_isHop_1 : decode cX6_isHop 1 = .ok (.ifCond .lt 13, 3) := by decide +kernel
theorem dX6_isHop_4 : decode cX6_isHop 4 = .ok (.iload_n 0, 1) := by decide +kernel
theorem dX6_isHop_5 : decode cX6_isHop 5 = .ok (.bipush 8, 2) := by decide +kernel
theorem dX6_isHop_7 : decode cX6_isHop 7 = .ok (.if_icmp .ge 7, 3) := by decide +kernel
theorem dX6_isHop_10 : decode cX6_isHop 10 = .ok (.iconst 1, 1) := by decide +kernel
theorem dX6_isHop_11 : decode cX6_isHop 11 = .ok (.goto 4, 3) := by decide +kernel
theorem dX6_isHop_14 : decode cX6_isHop 14 = .ok (.iconst 0, 1) := by decide +kernel
theorem dX6_isHop_15 : decode cX6_isHop 15 = .ok (.ireturn, 1) := by decide +kernel
theorem dX6_isSheet_0 : decode cX6_isSheet 0 = .ok (.iload_n 0, 1) := by decide +kernel
theorem dX6_isSheet_1 : decode cX6_isSheet 1 = .ok (.ifCond .lt 12, 3) := by decide +kernel
theorem dX6_isSheet_4 : decode cX6_isSheet 4 = .ok (.iload_n 0, 1) := by decide +kernel
theorem dX6_isSheet_5 : decode cX6_isSheet 5 = .ok (.iconst 4, 1) := by decide +kernel
theorem dX6_isSheet_6 : decode cX6_isSheet 6 = .ok (.if_icmp .ge 7, 3) := by decide +kernel
theorem dX6_isSheet_9 : decode cX6_isSheet 9 = .ok (.iconst 1, 1) := by decide +kernel
theorem dX6_isSheet_10 : decode cX6_isSheet 10 = .ok (.goto 4, 3) := by decide +kernel
theorem dX6_isSheet_13 : decode cX6_isSheet 13 = .ok (.iconst 0, 1) := by decide +kernel
theorem dX6_isSheet_14 : decode cX6_isSheet 14 = .ok (.ireturn, 1) := by decide +kernel
theorem dX6_isLane_0 : decode cX6_isLane 0 = .ok (.iload_n 0, 1) := by decide +kernel
theorem dX6_isLane_1 : decode cX6_isLane 1 = .ok (.ifCond .lt 12, 3) := by decide +kernel
theorem dX6_isLane_4 : decode cX6_isLane 4 = .ok (.iload_n 0, 1) := by decide +kernel
theorem dX6_isLane_5 : decode cX6_isLane 5 = .ok (.iconst 4, 1) := by decide +kernel
theorem dX6_isLane_6 : decode cX6_isLane 6 = .ok (.if_icmp .ge 7, 3) := by decide +kernel
theorem dX6_isLane_9 : decode cX6_isLane 9 = .ok (.iconst 1, 1) := by decide +kernel
theorem dX6_isLane_10 : decode cX6_isLane 10 = .ok (.goto 4, 3) := by decide +kernel
theorem dX6_isLane_13 : decode cX6_isLane 13 = .ok (.iconst 0, 1) := by decide +kernel
theorem dX6_isLane_14 : decode cX6_isLane 14 = .ok (.ireturn, 1) := by decide +kernel
set_option maxRecDepth 20000 in
theorem ggX6_lowestHop_J6_numberOfTrailingZeros_0f7a4 : GoodIn wsX6_lowestHop wsJ6_numberOfTrailingZeros_0f7a4 := goodIn_r _ [4, 5] (by decide +kernel) (by decide +kernel)
set_option maxRecDepth 20000 in
theorem gX6_lowestHop_J6_numberOfTrailingZeros_0f7a4 : GoodIn wsX6_lowestHop (va_wsS RX6 240 yJ6_numberOfTrailingZeros_0f7a4 wsJ6_numberOfTrailingZeros_0f7a4) := goodIn_app (goodIn_of _ (by decide +kernel)) ggX6_lowestHop_J6_numberOfTrailingZeros_0f7a4
theorem dX6_lowestHop_0 : decode cX6_lowestHop 0 = .ok (.iload_n 0, 1) := by decide +kernel
theorem dX6_lowestHop_1 : decode cX6_lowestHop 1 = .ok (.ifCond .ne 8, 3) := by decide +kernel
theorem dX6_lowestHop_4 : decode cX6_lowestHop 4 = .ok (.bipush (-4), 2) := by decide +kernel
theorem dX6_lowestHop_6 : decode cX6_lowestHop 6 = .ok (.goto 7, 3) := by decide +kernel
theorem dX6_lowestHop_9 : decode cX6_lowestHop 9 = .ok (.iload_n 0, 1) := by decide +kernel
theorem dX6_lowestHop_10 : decode cX6_lowestHop 10 = .ok (.invokestatic 240, 3) := by decide +kernel
theorem dX6_lowestHop_13 : decode cX6_lowestHop 13 = .ok (.ireturn, 1) := by decide +kernel
set_option maxRecDepth 20000 in
theorem ggX6_isOneHop_J6_bitCount_0f7a4 : GoodIn wsX6_isOneHop wsJ6_bitCount_0f7a4 := goodIn_r _ [4, 5, 6, 7] (by decide +kernel) (by decide +kernel)
set_option maxRecDepth 20000 in
theorem gX6_isOneHop_J6_bitCount_0f7a4 : GoodIn wsX6_isOneHop (va_wsS RX6 245 yJ6_bitCount_0f7a4 wsJ6_bitCount_0f7a4) := goodIn_app (goodIn_of _ (by decide +kernel)) ggX6_isOneHop_J6_bitCount_0f7a4
theorem dX6_isOneHop_0 : decode cX6_isOneHop 0 = .ok (.iload_n 0, 1) := by decide +kernel
theorem dX6_isOneHop_1 : decode cX6_isOneHop 1 = .ok (.invokestatic 245, 3) := by decide +kernel
theorem dX6_isOneHop_4 : decode cX6_isOneHop 4 = .ok (.iconst 1, 1) := by decide +kernel
theorem dX6_isOneHop_5 : decode cX6_isOneHop 5 = .ok (.if_icmp .ne 7, 3) := by decide +kernel
theorem dX6_isOneHop_8 : decode cX6_isOneHop 8 = .ok (.iconst 1, 1) := by decide +kernel
theorem dX6_isOneHop_9 : decode cX6_isOneHop 9 = .ok (.goto 4, 3) := by decide +kernel
theorem dX6_isOneHop_12 : decode cX6_isOneHop 12 = .ok (.iconst 0, 1) := by decide +kernel
theorem dX6_isOneHop_13 : decode cX6_isOneHop 13 = .ok (.ireturn, 1) := by decide +kernel
set_option maxRecDepth 20000 in
theorem ggX6_bitsOf_J6_numberOfLeadingZeros_0f7a4 : GoodIn wsX6_bitsOf wsJ6_numberOfLeadingZeros_0f7a4 := goodIn_r _ [4, 5] (by decide +kernel) (by decide +kernel)
set_option maxRecDepth 20000 in
theorem gX6_bitsOf_J6_numberOfLeadingZeros_0f7a4 : GoodIn wsX6_bitsOf (va_wsS RX6 248 yJ6_numberOfLeadingZeros_0f7a4 wsJ6_numberOfLeadingZeros_0f7a4) := goodIn_app (goodIn_of _ (by decide +kernel)) ggX6_bitsOf_J6_numberOfLeadingZeros_0f7a4
theorem dX6_bitsOf_0 : decode cX6_bitsOf 0 = .ok (.bipush 31, 2) := by decide +kernel
theorem dX6_bitsOf_2 : decode cX6_bitsOf 2 = .ok (.iload_n 0, 1) := by decide +kernel
theorem dX6_bitsOf_3 : decode cX6_bitsOf 3 = .ok (.invokestatic 248, 3) := by decide +kernel
theorem dX6_bitsOf_6 : decode cX6_bitsOf 6 = .ok (.isub, 1) := by decide +kernel
theorem dX6_bitsOf_7 : decode cX6_bitsOf 7 = .ok (.ireturn, 1) := by decide +kernel
set_option maxRecDepth 20000 in
theorem ggX6_firstAddress_X6_bitsOf : GoodIn wsX6_firstAddress wsX6_bitsOf := goodIn_r _ [4, 5, 6, 7, 8, 9] (by decide +kernel) (by decide +kernel)
set_option maxRecDepth 20000 in
theorem gX6_firstAddress_X6_bitsOf : GoodIn wsX6_firstAddress (va_wsS RX6 251 yX6_bitsOf wsX6_bitsOf) := goodIn_app (goodIn_of _ (by decide +kernel)) ggX6_firstAddress_X6_bitsOf
theorem dX6_firstAddress_0 : decode cX6_firstAddress 0 = .ok (.iload_n 0, 1) := by decide +kernel
theorem dX6_firstAddress_1 : decode cX6_firstAddress 1 = .ok (.bipush 8, 2) := by decide +kernel
theorem dX6_firstAddress_3 : decode cX6_firstAddress 3 = .ok (.iload_n 0, 1) := by decide +kernel
theorem dX6_firstAddress_4 : decode cX6_firstAddress 4 = .ok (.invokestatic 251, 3) := by decide +kernel
theorem dX6_firstAddress_7 : decode cX6_firstAddress 7 = .ok (.isub, 1) := by decide +kernel
theorem dX6_firstAddress_8 : decode cX6_firstAddress 8 = .ok (.ishl, 1) := by decide +kernel
theorem dX6_firstAddress_9 : decode cX6_firstAddress 9 = .ok (.sipush 256, 3) := by decide +kernel
theorem dX6_firstAddress_12 : decode cX6_firstAddress 12 = .ok (.isub, 1) := by decide +kernel
theorem dX6_firstAddress_13 : decode cX6_firstAddress 13 = .ok (.ireturn, 1) := by decide +kernel
set_option maxRecDepth 20000 in
theorem ggX6_howManyAddresses_X6_bitsOf : GoodIn wsX6_howManyAddresses wsX6_bitsOf := goodIn_r _ [4, 5, 6, 7, 8, 9] (by decide +kernel) (by decide +kernel)
set_option maxRecDepth 20000 in
theorem gX6_howManyAddresses_X6_bitsOf : GoodIn wsX6_howManyAddresses (va_wsS RX6 251 yX6_bitsOf wsX6_bitsOf) := goodIn_app (goodIn_of _ (by decide +kernel)) ggX6_howManyAddresses_X6_bitsOf
theorem dX6_howManyAddresses_0 : decode cX6_howManyAddresses 0 = .ok (.iconst 1, 1) := by decide +kernel
theorem dX6_howManyAddresses_1 : decode cX6_howManyAddresses 1 = .ok (.bipush 8, 2) := by decide +kernel
theorem dX6_howManyAddresses_3 : decode cX6_howManyAddresses 3 = .ok (.iload_n 0, 1) := by decide +kernel
theorem dX6_howManyAddresses_4 : decode cX6_howManyAddresses 4 = .ok (.invokestatic 251, 3) := by decide +kernel
theorem dX6_howManyAddresses_7 : decode cX6_howManyAddresses 7 = .ok (.isub, 1) := by decide +kernel
theorem dX6_howManyAddresses_8 : decode cX6_howManyAddresses 8 = .ok (.ishl, 1) := by decide +kernel
theorem dX6_howManyAddresses_9 : decode cX6_howManyAddresses 9 = .ok (.ireturn, 1) := by decide +kernel
theorem dX6_greatestDivisor_0 : decode cX6_greatestDivisor 0 = .ok (.lload_n 0, 1) := by decide +kernel
theorem dX6_greatestDivisor_1 : decode cX6_greatestDivisor 1 = .ok (.lstore 4, 2) := by decide +kernel
theorem dX6_greatestDivisor_3 : decode cX6_greatestDivisor 3 = .ok (.lload_n 2, 1) := by decide +kernel
theorem dX6_greatestDivisor_4 : decode cX6_greatestDivisor 4 = .ok (.lstore 6, 2) := by decide +kernel
theorem dX6_greatestDivisor_6 : decode cX6_greatestDivisor 6 = .ok (.iconst 0, 1) := by decide +kernel
theorem dX6_greatestDivisor_7 : decode cX6_greatestDivisor 7 = .ok (.istore 8, 2) := by decide +kernel
theorem dX6_greatestDivisor_9 : decode cX6_greatestDivisor 9 = .ok (.iload 8, 2) := by decide +kernel
theorem dX6_greatestDivisor_11 : decode cX6_greatestDivisor 11 = .ok (.bipush 100, 2) := by decide +kernel
theorem dX6_greatestDivisor_13 : decode cX6_greatestDivisor 13 = .ok (.if_icmp .ge 31, 3) := by decide +kernel
theorem dX6_greatestDivisor_16 : decode cX6_greatestDivisor 16 = .ok (.lload 6, 2) := by decide +kernel
theorem dX6_greatestDivisor_18 : decode cX6_greatestDivisor 18 = .ok (.lconst 0, 1) := by decide +kernel
theorem dX6_greatestDivisor_19 : decode cX6_greatestDivisor 19 = .ok (.lcmp, 1) := by decide +kernel
theorem dX6_greatestDivisor_20 : decode cX6_greatestDivisor 20 = .ok (.ifCond .eq 24, 3) := by decide +kernel
theorem dX6_greatestDivisor_23 : decode cX6_greatestDivisor 23 = .ok (.lload 4, 2) := by decide +kernel
theorem dX6_greatestDivisor_25 : decode cX6_greatestDivisor 25 = .ok (.lload 6, 2) := by decide +kernel
theorem dX6_greatestDivisor_27 : decode cX6_greatestDivisor 27 = .ok (.lrem, 1) := by decide +kernel
theorem dX6_greatestDivisor_28 : decode cX6_greatestDivisor 28 = .ok (.lstore 9, 2) := by decide +kernel
theorem dX6_greatestDivisor_30 : decode cX6_greatestDivisor 30 = .ok (.lload 6, 2) := by decide +kernel
theorem dX6_greatestDivisor_32 : decode cX6_greatestDivisor 32 = .ok (.lstore 4, 2) := by decide +kernel
theorem dX6_greatestDivisor_34 : decode cX6_greatestDivisor 34 = .ok (.lload 9, 2) := by decide +kernel
theorem dX6_greatestDivisor_36 : decode cX6_greatestDivisor 36 = .ok (.lstore 6, 2) := by decide +kernel
theorem dX6_greatestDivisor_38 : decode cX6_greatestDivisor 38 = .ok (.iinc 8 1, 3) := by decide +kernel
theorem dX6_greatestDivisor_41 : decode cX6_greatestDivisor 41 = .ok (.goto (-32), 3) := by decide +kernel
theorem dX6_greatestDivisor_44 : decode cX6_greatestDivisor 44 = .ok (.lload 4, 2) := by decide +kernel
theorem dX6_greatestDivisor_46 : decode cX6_greatestDivisor 46 = .ok (.lreturn, 1) := by decide +kernel
set_option maxRecDepth 20000 in
theorem ggX6_table_X0_present : GoodIn wsX6_table wsX0_present := goodIn_r _ [6, 7, 21, 22, 23] (by decide +kernel) (by decide +kernel)
set_option maxRecDepth 20000 in
theorem gX6_table_X0_present : GoodIn wsX6_table (wsV RX6 181 RX0 yX0_present wsX0_present) := goodIn_app (goodIn_of _ (by decide +kernel)) ggX6_table_X0_present
set_option maxRecDepth 20000 in
theorem ggX6_table_X1_tableNow : GoodIn wsX6_table wsX1_tableNow := goodIn_r _ [12, 13, 24, 25, 26] (by decide +kernel) (by decide +kernel)
set_option maxRecDepth 20000 in
theorem gX6_table_X1_tableNow : GoodIn wsX6_table (wsV RX6 254 RX1 yX1_tableNow wsX1_tableNow) := goodIn_app (goodIn_of _ (by decide +kernel)) ggX6_table_X1_tableNow
theorem dX6_table_0 : decode cX6_table 0 = .ok (.aload_n 0, 1) := by decide +kernel
theorem dX6_table_1 : decode cX6_table 1 = .ok (.getfield 10, 3) := by decide +kernel
theorem dX6_table_4 : decode cX6_table 4 = .ok (.invokevirtual 181, 3) := by decide +kernel
theorem dX6_table_7 : decode cX6_table 7 = .ok (.invokevirtual 254, 3) := by decide +kernel
theorem dX6_table_10 : decode cX6_table 10 = .ok (.areturn, 1) := by decide +kernel
set_option maxRecDepth 20000 in
theorem ggX6_installed_X0_present : GoodIn wsX6_installed wsX0_present := goodIn_r _ [6, 7, 21, 22, 23] (by decide +kernel) (by decide +kernel)
set_option maxRecDepth 20000 in
theorem gX6_installed_X0_present : GoodIn wsX6_installed (wsV RX6 181 RX0 yX0_present wsX0_present) := goodIn_app (goodIn_of _ (by decide +kernel)) ggX6_installed_X0_present
set_option maxRecDepth 20000 in
theorem ggX6_installed_X1_installedNow : GoodIn wsX6_installed wsX1_installedNow := goodIn_r _ [12, 13, 24, 25, 26] (by decide +kernel) (by decide +kernel)
set_option maxRecDepth 20000 in
theorem gX6_installed_X1_installedNow : GoodIn wsX6_installed (wsV RX6 257 RX1 yX1_installedNow wsX1_installedNow) := goodIn_app (goodIn_of _ (by decide +kernel)) ggX6_installed_X1_installedNow
theorem dX6_installed_0 : decode cX6_installed 0 = .ok (.aload_n 0, 1) := by decide +kernel
theorem dX6_installed_1 : decode cX6_installed 1 = .ok (.getfield 10, 3) := by decide +kernel
theorem dX6_installed_4 : decode cX6_installed 4 = .ok (.invokevirtual 181, 3) := by decide +kernel
theorem dX6_installed_7 : decode cX6_installed 7 = .ok (.invokevirtual 257, 3) := by decide +kernel
theorem dX6_installed_10 : decode cX6_installed 10 = .ok (.areturn, 1) := by decide +kernel
set_option maxRecDepth 20000 in
theorem ggX6_freshView_X6_table : GoodIn wsX6_freshView wsX6_table := goodIn_r _ [7, 8, 9, 10, 11, 12, 13, 14, 15, 16, 17, 18, 19, 20, 105, 106, 107, 108, 109, 110, 111, 112, 113, 114, 115, 116, 117] (by decide +kernel) (by decide +kernel)
set_option maxRecDepth 20000 in
theorem gX6_freshView_X6_table : GoodIn wsX6_freshView (wsV RX6 51 RX6 yX6_table wsX6_table) := goodIn_app (goodIn_of _ (by decide +kernel)) ggX6_freshView_X6_table
set_option maxRecDepth 20000 in
theorem ggX6_freshView_X6_installed : GoodIn wsX6_freshView wsX6_installed := goodIn_r _ [24, 8, 9, 10, 11, 12, 13, 14, 25, 26, 27, 18, 28, 29, 105, 106, 107, 108, 109, 110, 111, 112, 113, 114, 115, 116, 117] (by decide +kernel) (by decide +kernel)
set_option maxRecDepth 20000 in
theorem gX6_freshView_X6_installed : GoodIn wsX6_freshView (wsV RX6 64 RX6 yX6_installed wsX6_installed) := goodIn_app (goodIn_of _ (by decide +kernel)) ggX6_freshView_X6_installed
set_option maxRecDepth 20000 in
theorem ggX6_freshView_X5_make : GoodIn wsX6_freshView wsX5_make := goodIn_r _ [34, 35, 36, 37, 38, 39, 40, 41, 42, 43, 44, 45, 46, 47, 48, 49, 50, 33, 51, 52, 53, 54, 55, 56, 57, 58, 59, 60, 61, 62, 63, 64, 65, 66, 67, 68, 69, 70, 71, 72, 73, 74, 75, 76, 77, 78, 79, 80, 81, 82, 83, 6, 84, 85, 86, 87, 88, 89, 90, 91, 92, 93, 94, 95, 96, 97, 98, 99, 100, 101, 102, 103, 104, 118, 119, 120, 121, 122, 123, 124, 125, 126] (by decide +kernel) (by decide +kernel)
set_option maxRecDepth 20000 in
theorem gX6_freshView_X5_make : GoodIn wsX6_freshView (wsV RX6 260 RX5 yX5_make wsX5_make) := goodIn_app (goodIn_of _ (by decide +kernel)) ggX6_freshView_X5_make
theorem dX6_freshView_0 : decode cX6_freshView 0 = .ok (.aload_n 0, 1) := by decide +kernel
theorem dX6_freshView_1 : decode cX6_freshView 1 = .ok (.getfield 43, 3) := by decide +kernel
theorem dX6_freshView_4 : decode cX6_freshView 4 = .ok (.ifCond .eq 23, 3) := by decide +kernel
theorem dX6_freshView_7 : decode cX6_freshView 7 = .ok (.aload_n 0, 1) := by decide +kernel
theorem dX6_freshView_8 : decode cX6_freshView 8 = .ok (.getfield 22, 3) := by decide +kernel
theorem dX6_freshView_11 : decode cX6_freshView 11 = .ok (.aload_n 0, 1) := by decide +kernel
theorem dX6_freshView_12 : decode cX6_freshView 12 = .ok (.invokevirtual 51, 3) := by decide +kernel
theorem dX6_freshView_15 : decode cX6_freshView 15 = .ok (.aload_n 0, 1) := by decide +kernel
theorem dX6_freshView_16 : decode cX6_freshView 16 = .ok (.invokevirtual 64, 3) := by decide +kernel
theorem dX6_freshView_19 : decode cX6_freshView 19 = .ok (.invokevirtual 260, 3) := by decide +kernel
theorem dX6_freshView_22 : decode cX6_freshView 22 = .ok (.aload_n 0, 1) := by decide +kernel
theorem dX6_freshView_23 : decode cX6_freshView 23 = .ok (.iconst 0, 1) := by decide +kernel
theorem dX6_freshView_24 : decode cX6_freshView 24 = .ok (.putfield 43, 3) := by decide +kernel
theorem dX6_freshView_27 : decode cX6_freshView 27 = .ok (.aload_n 0, 1) := by decide +kernel
theorem dX6_freshView_28 : decode cX6_freshView 28 = .ok (.getfield 22, 3) := by decide +kernel
theorem dX6_freshView_31 : decode cX6_freshView 31 = .ok (.areturn, 1) := by decide +kernel
set_option maxRecDepth 20000 in
theorem ggX6_beginStep_X0_remember : GoodIn wsX6_beginStep wsX0_remember := goodIn_r _ [7, 8, 9, 10, 11, 12, 13, 6, 14, 15, 16, 17, 18, 19, 20, 21, 22, 23, 24, 25, 26, 27, 28, 29, 30, 31, 32, 33, 41, 42, 43, 44, 45, 46, 47, 48] (by decide +kernel) (by decide +kernel)
set_option maxRecDepth 20000 in
theorem gX6_beginStep_X0_remember : GoodIn wsX6_beginStep (wsV RX6 264 RX0 yX0_remember wsX0_remember) := goodIn_app (goodIn_of _ (by decide +kernel)) ggX6_beginStep_X0_remember
theorem dX6_beginStep_0 : decode cX6_beginStep 0 = .ok (.aload_n 0, 1) := by decide +kernel
theorem dX6_beginStep_1 : decode cX6_beginStep 1 = .ok (.getfield 10, 3) := by decide +kernel
theorem dX6_beginStep_4 : decode cX6_beginStep 4 = .ok (.invokevirtual 264, 3) := by decide +kernel
theorem dX6_beginStep_7 : decode cX6_beginStep 7 = .ok (.aload_n 0, 1) := by decide +kernel
theorem dX6_beginStep_8 : decode cX6_beginStep 8 = .ok (.iconst 1, 1) := by decide +kernel
theorem dX6_beginStep_9 : decode cX6_beginStep 9 = .ok (.putfield 43, 3) := by decide +kernel
theorem dX6_beginStep_12 : decode cX6_beginStep 12 = .ok (.return_, 1) := by decide +kernel
set_option maxRecDepth 20000 in
theorem ggX6_takeTurn_X0_present : GoodIn wsX6_takeTurn wsX0_present := goodIn_r _ [6, 7, 63, 64, 65] (by decide +kernel) (by decide +kernel)
set_option maxRecDepth 20000 in
theorem gX6_takeTurn_X0_present : GoodIn wsX6_takeTurn (wsV RX6 181 RX0 yX0_present wsX0_present) := goodIn_app (goodIn_of _ (by decide +kernel)) ggX6_takeTurn_X0_present
set_option maxRecDepth 20000 in
theorem ggX6_takeTurn_X1_nextDraw : GoodIn wsX6_takeTurn wsX1_nextDraw := goodIn_r _ [12, 13, 14, 15, 66, 67, 68] (by decide +kernel) (by decide +kernel)
set_option maxRecDepth 20000 in
theorem gX6_takeTurn_X1_nextDraw : GoodIn wsX6_takeTurn (wsV RX6 267 RX1 yX1_nextDraw wsX1_nextDraw) := goodIn_app (goodIn_of _ (by decide +kernel)) ggX6_takeTurn_X1_nextDraw
set_option maxRecDepth 20000 in
theorem ggX6_takeTurn_X6_table : GoodIn wsX6_takeTurn wsX6_table := goodIn_r _ [20, 1, 2, 3, 4, 5, 6, 7, 21, 22, 23, 11, 24, 25, 56, 57, 58, 59, 60, 61, 62, 63, 64, 65, 66, 67, 68] (by decide +kernel) (by decide +kernel)
set_option maxRecDepth 20000 in
theorem gX6_takeTurn_X6_table : GoodIn wsX6_takeTurn (wsV RX6 51 RX6 yX6_table wsX6_table) := goodIn_app (goodIn_of _ (by decide +kernel)) ggX6_takeTurn_X6_table
set_option maxRecDepth 20000 in
theorem ggX6_takeTurn_X3_hopAt : GoodIn wsX6_takeTurn wsX3_hopAt := goodIn_r _ [30, 31, 69, 70] (by decide +kernel) (by decide +kernel)
set_option maxRecDepth 20000 in
theorem gX6_takeTurn_X3_hopAt : GoodIn wsX6_takeTurn (wsV RX6 77 RX3 yX3_hopAt wsX3_hopAt) := goodIn_app (goodIn_of _ (by decide +kernel)) ggX6_takeTurn_X3_hopAt
set_option maxRecDepth 20000 in
theorem ggX6_takeTurn_X3_takeOut : GoodIn wsX6_takeTurn wsX3_takeOut := goodIn_r _ [35, 36, 37, 27, 28, 29, 30, 31, 38, 39, 40, 41, 42, 43, 69, 70] (by decide +kernel) (by decide +kernel)
set_option maxRecDepth 20000 in
theorem gX6_takeTurn_X3_takeOut : GoodIn wsX6_takeTurn (wsV RX6 149 RX3 yX3_takeOut wsX3_takeOut) := goodIn_app (goodIn_of _ (by decide +kernel)) ggX6_takeTurn_X3_takeOut
set_option maxRecDepth 20000 in
theorem ggX6_takeTurn_X3_howMany : GoodIn wsX6_takeTurn wsX3_howMany := goodIn_r _ [47, 36, 69, 70] (by decide +kernel) (by decide +kernel)
set_option maxRecDepth 20000 in
theorem gX6_takeTurn_X3_howMany : GoodIn wsX6_takeTurn (wsV RX6 102 RX3 yX3_howMany wsX3_howMany) := goodIn_app (goodIn_of _ (by decide +kernel)) ggX6_takeTurn_X3_howMany
set_option maxRecDepth 20000 in
theorem ggX6_takeTurn_X3_put : GoodIn wsX6_takeTurn wsX3_put := goodIn_r _ [51, 36, 52, 19, 53, 54, 55, 37, 27, 28, 29, 30, 31, 38, 39, 40, 41, 42, 43, 69, 70] (by decide +kernel) (by decide +kernel)
set_option maxRecDepth 20000 in
theorem gX6_takeTurn_X3_put : GoodIn wsX6_takeTurn (wsV RX6 145 RX3 yX3_put wsX3_put) := goodIn_app (goodIn_of _ (by decide +kernel)) ggX6_takeTurn_X3_put
theorem dX6_takeTurn_0 : decode cX6_takeTurn 0 = .ok (.aload_n 0, 1) := by decide +kernel
theorem dX6_takeTurn_1 : decode cX6_takeTurn 1 = .ok (.getfield 10, 3) := by decide +kernel
theorem dX6_takeTurn_4 : decode cX6_takeTurn 4 = .ok (.invokevirtual 181, 3) := by decide +kernel
theorem dX6_takeTurn_7 : decode cX6_takeTurn 7 = .ok (.invokevirtual 267, 3) := by decide +kernel
theorem dX6_takeTurn_10 : decode cX6_takeTurn 10 = .ok (.bipush 16, 2) := by decide +kernel
theorem dX6_takeTurn_12 : decode cX6_takeTurn 12 = .ok (.ishr, 1) := by decide +kernel
theorem dX6_takeTurn_13 : decode cX6_takeTurn 13 = .ok (.istore_n 1, 1) := by decide +kernel
theorem dX6_takeTurn_14 : decode cX6_takeTurn 14 = .ok (.iload_n 1, 1) := by decide +kernel
theorem dX6_takeTurn_15 : decode cX6_takeTurn 15 = .ok (.bipush 9, 2) := by decide +kernel
theorem dX6_takeTurn_17 : decode cX6_takeTurn 17 = .ok (.irem, 1) := by decide +kernel
theorem dX6_takeTurn_18 : decode cX6_takeTurn 18 = .ok (.istore_n 2, 1) := by decide +kernel
theorem dX6_takeTurn_19 : decode cX6_takeTurn 19 = .ok (.iconst 1, 1) := by decide +kernel
theorem dX6_takeTurn_20 : decode cX6_takeTurn 20 = .ok (.iload_n 2, 1) := by decide +kernel
theorem dX6_takeTurn_21 : decode cX6_takeTurn 21 = .ok (.ishl, 1) := by decide +kernel
theorem dX6_takeTurn_22 : decode cX6_takeTurn 22 = .ok (.iload_n 1, 1) := by decide +kernel
theorem dX6_takeTurn_23 : decode cX6_takeTurn 23 = .ok (.iconst 4, 1) := by decide +kernel
theorem dX6_takeTurn_24 : decode cX6_takeTurn 24 = .ok (.ishr, 1) := by decide +kernel
theorem dX6_takeTurn_25 : decode cX6_takeTurn 25 = .ok (.iconst 1, 1) := by decide +kernel
theorem dX6_takeTurn_26 : decode cX6_takeTurn 26 = .ok (.iload_n 2, 1) := by decide +kernel
theorem dX6_takeTurn_27 : decode cX6_takeTurn 27 = .ok (.ishl, 1) := by decide +kernel
theorem dX6_takeTurn_28 : decode cX6_takeTurn 28 = .ok (.iconst 1, 1) := by decide +kernel
theorem dX6_takeTurn_29 : decode cX6_takeTurn 29 = .ok (.isub, 1) := by decide +kernel
theorem dX6_takeTurn_30 : decode cX6_takeTurn 30 = .ok (.iand, 1) := by decide +kernel
theorem dX6_takeTurn_31 : decode cX6_takeTurn 31 = .ok (.ior, 1) := by decide +kernel
theorem dX6_takeTurn_32 : decode cX6_takeTurn 32 = .ok (.istore_n 3, 1) := by decide +kernel
theorem dX6_takeTurn_33 : decode cX6_takeTurn 33 = .ok (.iload_n 1, 1) := by decide +kernel
theorem dX6_takeTurn_34 : decode cX6_takeTurn 34 = .ok (.bipush 12, 2) := by decide +kernel
theorem dX6_takeTurn_36 : decode cX6_takeTurn 36 = .ok (.ishr, 1) := by decide +kernel
theorem dX6_takeTurn_37 : decode cX6_takeTurn 37 = .ok (.istore 4, 2) := by decide +kernel
theorem dX6_takeTurn_39 : decode cX6_takeTurn 39 = .ok (.aload_n 0, 1) := by decide +kernel
theorem dX6_takeTurn_40 : decode cX6_takeTurn 40 = .ok (.invokevirtual 51, 3) := by decide +kernel
theorem dX6_takeTurn_43 : decode cX6_takeTurn 43 = .ok (.iload_n 3, 1) := by decide +kernel
theorem dX6_takeTurn_44 : decode cX6_takeTurn 44 = .ok (.invokevirtual 77, 3) := by decide +kernel
theorem dX6_takeTurn_47 : decode cX6_takeTurn 47 = .ok (.istore 5, 2) := by decide +kernel
theorem dX6_takeTurn_49 : decode cX6_takeTurn 49 = .ok (.iload 5, 2) := by decide +kernel
theorem dX6_takeTurn_51 : decode cX6_takeTurn 51 = .ok (.iload 4, 2) := by decide +kernel
theorem dX6_takeTurn_53 : decode cX6_takeTurn 53 = .ok (.if_icmp .ne 14, 3) := by decide +kernel
theorem dX6_takeTurn_56 : decode cX6_takeTurn 56 = .ok (.aload_n 0, 1) := by decide +kernel
theorem dX6_takeTurn_57 : decode cX6_takeTurn 57 = .ok (.invokevirtual 51, 3) := by decide +kernel
theorem dX6_takeTurn_60 : decode cX6_takeTurn 60 = .ok (.iload_n 3, 1) := by decide +kernel
theorem dX6_takeTurn_61 : decode cX6_takeTurn 61 = .ok (.invokevirtual 149, 3) := by decide +kernel
theorem dX6_takeTurn_64 : decode cX6_takeTurn 64 = .ok (.goto 32, 3) := by decide +kernel
theorem dX6_takeTurn_67 : decode cX6_takeTurn 67 = .ok (.iload 5, 2) := by decide +kernel
theorem dX6_takeTurn_69 : decode cX6_takeTurn 69 = .ok (.bipush (-4), 2) := by decide +kernel
theorem dX6_takeTurn_71 : decode cX6_takeTurn 71 = .ok (.if_icmp .ne 15, 3) := by decide +kernel
theorem dX6_takeTurn_74 : decode cX6_takeTurn 74 = .ok (.aload_n 0, 1) := by decide +kernel
theorem dX6_takeTurn_75 : decode cX6_takeTurn 75 = .ok (.invokevirtual 51, 3) := by decide +kernel
theorem dX6_takeTurn_78 : decode cX6_takeTurn 78 = .ok (.invokevirtual 102, 3) := by decide +kernel
theorem dX6_takeTurn_81 : decode cX6_takeTurn 81 = .ok (.bipush 40, 2) := by decide +kernel
theorem dX6_takeTurn_83 : decode cX6_takeTurn 83 = .ok (.if_icmp .ge 13, 3) := by decide +kernel
theorem dX6_takeTurn_86 : decode cX6_takeTurn 86 = .ok (.aload_n 0, 1) := by decide +kernel
theorem dX6_takeTurn_87 : decode cX6_takeTurn 87 = .ok (.invokevirtual 51, 3) := by decide +kernel
theorem dX6_takeTurn_90 : decode cX6_takeTurn 90 = .ok (.iload_n 3, 1) := by decide +kernel
theorem dX6_takeTurn_91 : decode cX6_takeTurn 91 = .ok (.iload 4, 2) := by decide +kernel
theorem dX6_takeTurn_93 : decode cX6_takeTurn 93 = .ok (.invokevirtual 145, 3) := by decide +kernel
theorem dX6_takeTurn_96 : decode cX6_takeTurn 96 = .ok (.return_, 1) := by decide +kernel
end
section
theorem dX7_init_0 : decode cX7_init 0 = .ok (.aload_n 0, 1) := by decide +kernel
theorem dX7_init_1 : decode cX7_init 1 = .ok (.invokespecial 1, 3) := by decide +kernel
theorem dX7_init_4 : decode cX7_init 4 = .ok (.aload_n 0, 1) := by decide +kernel
theorem dX7_init_5 : decode cX7_init 5 = .ok (.sipush 1025, 3) := by decide +kernel
theorem dX7_init_8 : decode cX7_init 8 = .ok (.newarray .int, 2) := by decide +kernel
theorem dX7_init_10 : decode cX7_init 10 = .ok (.putfield 7, 3) := by decide +kernel
theorem dX7_init_13 : decode cX7_init 13 = .ok (.aload_n 0, 1) := by decide +kernel
theorem dX7_init_14 : decode cX7_init 14 = .ok (.sipush 6150, 3) := by decide +kernel
theorem dX7_init_17 : decode cX7_init 17 = .ok (.newarray .int, 2) := by decide +kernel
theorem dX7_init_19 : decode cX7_init 19 = .ok (.putfield 13, 3) := by decide +kernel
theorem dX7_init_22 : decode cX7_init 22 = .ok (.aload_n 0, 1) := by decide +kernel
theorem dX7_init_23 : decode cX7_init 23 = .ok (.sipush 1025, 3) := by decide +kernel
theorem dX7_init_26 : decode cX7_init 26 = .ok (.newarray .int, 2) := by decide +kernel
theorem dX7_init_28 : decode cX7_init 28 = .ok (.putfield 16, 3) := by decide +kernel
theorem dX7_init_31 : decode cX7_init 31 = .ok (.aload_n 0, 1) := by decide +kernel
theorem dX7_init_32 : decode cX7_init 32 = .ok (.sipush 6150, 3) := by decide +kernel
theorem dX7_init_35 : decode cX7_init 35 = .ok (.newarray .int, 2) := by decide +kernel
theorem dX7_init_37 : decode cX7_init 37 = .ok (.putfield 19, 3) := by decide +kernel
theorem dX7_init_40 : decode cX7_init 40 = .ok (.aload_n 0, 1) := by decide +kernel
theorem dX7_init_41 : decode cX7_init 41 = .ok (.iconst (-1), 1) := by decide +kernel
theorem dX7_init_42 : decode cX7_init 42 = .ok (.putfield 22, 3) := by decide +kernel
theorem dX7_init_45 : decode cX7_init 45 = .ok (.aload_n 0, 1) := by decide +kernel
theorem dX7_init_46 : decode cX7_init 46 = .ok (.bipush 100, 2) := by decide +kernel
theorem dX7_init_48 : decode cX7_init 48 = .ok (.newarray .int, 2) := by decide +kernel
theorem dX7_init_50 : decode cX7_init 50 = .ok (.putfield 26, 3) := by decide +kernel
theorem dX7_init_53 : decode cX7_init 53 = .ok (.aload_n 0, 1) := by decide +kernel
theorem dX7_init_54 : decode cX7_init 54 = .ok (.iconst 4, 1) := by decide +kernel
theorem dX7_init_55 : decode cX7_init 55 = .ok (.newarray .int, 2) := by decide +kernel
theorem dX7_init_57 : decode cX7_init 57 = .ok (.putfield 29, 3) := by decide +kernel
theorem dX7_init_60 : decode cX7_init 60 = .ok (.aload_n 0, 1) := by decide +kernel
theorem dX7_init_61 : decode cX7_init 61 = .ok (.iconst 4, 1) := by decide +kernel
theorem dX7_init_62 : decode cX7_init 62 = .ok (.newarray .int, 2) := by decide +kernel
theorem dX7_init_64 : decode cX7_init 64 = .ok (.putfield 32, 3) := by decide +kernel
theorem dX7_init_67 : decode cX7_init 67 = .ok (.aload_n 0, 1) := by decide +kernel
theorem dX7_init_68 : decode cX7_init 68 = .ok (.bipush 120, 2) := by decide +kernel
theorem dX7_init_70 : decode cX7_init 70 = .ok (.newarray .long, 2) := by decide +kernel
theorem dX7_init_72 : decode cX7_init 72 = .ok (.putfield 35, 3) := by decide +kernel
theorem dX7_init_75 : decode cX7_init 75 = .ok (.aload_n 0, 1) := by decide +kernel
theorem dX7_init_76 : decode cX7_init 76 = .ok (.sipush 512, 3) := by decide +kernel
theorem dX7_init_79 : decode cX7_init 79 = .ok (.newarray .int, 2) := by decide +kernel
theorem dX7_init_81 : decode cX7_init 81 = .ok (.putfield 39, 3) := by decide +kernel
theorem dX7_init_84 : decode cX7_init 84 = .ok (.aload_n 0, 1) := by decide +kernel
theorem dX7_init_85 : decode cX7_init 85 = .ok (.sipush 4096, 3) := by decide +kernel
theorem dX7_init_88 : decode cX7_init 88 = .ok (.newarray .int, 2) := by decide +kernel
theorem dX7_init_90 : decode cX7_init 90 = .ok (.putfield 42, 3) := by decide +kernel
theorem dX7_init_93 : decode cX7_init 93 = .ok (.aload_n 0, 1) := by decide +kernel
theorem dX7_init_94 : decode cX7_init 94 = .ok (.sipush 512, 3) := by decide +kernel
theorem dX7_init_97 : decode cX7_init 97 = .ok (.newarray .int, 2) := by decide +kernel
theorem dX7_init_99 : decode cX7_init 99 = .ok (.putfield 45, 3) := by decide +kernel
theorem dX7_init_102 : decode cX7_init 102 = .ok (.aload_n 0, 1) := by decide +kernel
theorem dX7_init_103 : decode cX7_init 103 = .ok (.sipush 1024, 3) := by decide +kernel
theorem dX7_init_106 : decode cX7_init 106 = .ok (.newarray .int, 2) := by decide +kernel
theorem dX7_init_108 : decode cX7_init 108 = .ok (.putfield 48, 3) := by decide +kernel
theorem dX7_init_111 : decode cX7_init 111 = .ok (.aload_n 0, 1) := by decide +kernel
theorem dX7_init_112 : decode cX7_init 112 = .ok (.bipush 9, 2) := by decide +kernel
theorem dX7_init_114 : decode cX7_init 114 = .ok (.newarray .int, 2) := by decide +kernel
theorem dX7_init_116 : decode cX7_init 116 = .ok (.putfield 51, 3) := by decide +kernel
theorem dX7_init_119 : decode cX7_init 119 = .ok (.aload_n 0, 1) := by decide +kernel
theorem dX7_init_120 : decode cX7_init 120 = .ok (.sipush 512, 3) := by decide +kernel
theorem dX7_init_123 : decode cX7_init 123 = .ok (.newarray .int, 2) := by decide +kernel
theorem dX7_init_125 : decode cX7_init 125 = .ok (.putfield 54, 3) := by decide +kernel
theorem dX7_init_128 : decode cX7_init 128 = .ok (.iconst 0, 1) := by decide +kernel
theorem dX7_init_129 : decode cX7_init 129 = .ok (.istore_n 1, 1) := by decide +kernel
theorem dX7_init_130 : decode cX7_init 130 = .ok (.iload_n 1, 1) := by decide +kernel
theorem dX7_init_131 : decode cX7_init 131 = .ok (.sipush 1024, 3) := by decide +kernel
theorem dX7_init_134 : decode cX7_init 134 = .ok (.if_icmp .ge 17, 3) := by decide +kernel
theorem dX7_init_137 : decode cX7_init 137 = .ok (.aload_n 0, 1) := by decide +kernel
theorem dX7_init_138 : decode cX7_init 138 = .ok (.getfield 7, 3) := by decide +kernel
theorem dX7_init_141 : decode cX7_init 141 = .ok (.iload_n 1, 1) := by decide +kernel
theorem dX7_init_142 : decode cX7_init 142 = .ok (.bipush 8, 2) := by decide +kernel
theorem dX7_init_144 : decode cX7_init 144 = .ok (.iastore, 1) := by decide +kernel
theorem dX7_init_145 : decode cX7_init 145 = .ok (.iinc 1 1, 3) := by decide +kernel
theorem dX7_init_148 : decode cX7_init 148 = .ok (.goto (-18), 3) := by decide +kernel
theorem dX7_init_151 : decode cX7_init 151 = .ok (.aload_n 0, 1) := by decide +kernel
theorem dX7_init_152 : decode cX7_init 152 = .ok (.getfield 7, 3) := by decide +kernel
theorem dX7_init_155 : decode cX7_init 155 = .ok (.sipush 1024, 3) := by decide +kernel
theorem dX7_init_158 : decode cX7_init 158 = .ok (.iconst 1, 1) := by decide +kernel
theorem dX7_init_159 : decode cX7_init 159 = .ok (.iastore, 1) := by decide +kernel
theorem dX7_init_160 : decode cX7_init 160 = .ok (.iconst 0, 1) := by decide +kernel
theorem dX7_init_161 : decode cX7_init 161 = .ok (.istore_n 1, 1) := by decide +kernel
theorem dX7_init_162 : decode cX7_init 162 = .ok (.iload_n 1, 1) := by decide +kernel
theorem dX7_init_163 : decode cX7_init 163 = .ok (.iconst 4, 1) := by decide +kernel
theorem dX7_init_164 : decode cX7_init 164 = .ok (.if_icmp .ge 17, 3) := by decide +kernel
theorem dX7_init_167 : decode cX7_init 167 = .ok (.aload_n 0, 1) := by decide +kernel
theorem dX7_init_168 : decode cX7_init 168 = .ok (.getfield 29, 3) := by decide +kernel
theorem dX7_init_171 : decode cX7_init 171 = .ok (.iload_n 1, 1) := by decide +kernel
theorem dX7_init_172 : decode cX7_init 172 = .ok (.bipush (-4), 2) := by decide +kernel
theorem dX7_init_174 : decode cX7_init 174 = .ok (.iastore, 1) := by decide +kernel
theorem dX7_init_175 : decode cX7_init 175 = .ok (.iinc 1 1, 3) := by decide +kernel
theorem dX7_init_178 : decode cX7_init 178 = .ok (.goto (-16), 3) := by decide +kernel
theorem dX7_init_181 : decode cX7_init 181 = .ok (.return_, 1) := by decide +kernel
theorem dX7_in_0 : decode cX7_in 0 = .ok (.lload_n 0, 1) := by decide +kernel
theorem dX7_in_1 : decode cX7_in 1 = .ok (.lload_n 2, 1) := by decide +kernel
theorem dX7_in_2 : decode cX7_in 2 = .ok (.lcmp, 1) := by decide +kernel
theorem dX7_in_3 : decode cX7_in 3 = .ok (.ifCond .lt 14, 3) := by decide +kernel
theorem dX7_in_6 : decode cX7_in 6 = .ok (.lload_n 0, 1) := by decide +kernel
theorem dX7_in_7 : decode cX7_in 7 = .ok (.lload 4, 2) := by decide +kernel
theorem dX7_in_9 : decode cX7_in 9 = .ok (.lcmp, 1) := by decide +kernel
theorem dX7_in_10 : decode cX7_in 10 = .ok (.ifCond .gt 7, 3) := by decide +kernel
theorem dX7_in_13 : decode cX7_in 13 = .ok (.iconst 1, 1) := by decide +kernel
theorem dX7_in_14 : decode cX7_in 14 = .ok (.goto 4, 3) := by decide +kernel
theorem dX7_in_17 : decode cX7_in 17 = .ok (.iconst 0, 1) := by decide +kernel
theorem dX7_in_18 : decode cX7_in 18 = .ok (.ireturn, 1) := by decide +kernel
theorem dX7_bring_0 : decode cX7_bring 0 = .ok (.iconst 0, 1) := by decide +kernel
theorem dX7_bring_1 : decode cX7_bring 1 = .ok (.istore 5, 2) := by decide +kernel
theorem dX7_bring_3 : decode cX7_bring 3 = .ok (.iload 5, 2) := by decide +kernel
theorem dX7_bring_5 : decode cX7_bring 5 = .ok (.iload 4, 2) := by decide +kernel
theorem dX7_bring_7 : decode cX7_bring 7 = .ok (.if_icmp .ge 21, 3) := by decide +kernel
theorem dX7_bring_10 : decode cX7_bring 10 = .ok (.aload_n 2, 1) := by decide +kernel
theorem dX7_bring_11 : decode cX7_bring 11 = .ok (.iload_n 3, 1) := by decide +kernel
theorem dX7_bring_12 : decode cX7_bring 12 = .ok (.iload 5, 2) := by decide +kernel
theorem dX7_bring_14 : decode cX7_bring 14 = .ok (.iadd, 1) := by decide +kernel
theorem dX7_bring_15 : decode cX7_bring 15 = .ok (.aload_n 0, 1) := by decide +kernel
theorem dX7_bring_16 : decode cX7_bring 16 = .ok (.iload_n 1, 1) := by decide +kernel
theorem dX7_bring_17 : decode cX7_bring 17 = .ok (.iload 5, 2) := by decide +kernel
theorem dX7_bring_19 : decode cX7_bring 19 = .ok (.iadd, 1) := by decide +kernel
theorem dX7_bring_20 : decode cX7_bring 20 = .ok (.iaload, 1) := by decide +kernel
theorem dX7_bring_21 : decode cX7_bring 21 = .ok (.iastore, 1) := by decide +kernel
theorem dX7_bring_22 : decode cX7_bring 22 = .ok (.iinc 5 1, 3) := by decide +kernel
theorem dX7_bring_25 : decode cX7_bring 25 = .ok (.goto (-22), 3) := by decide +kernel
theorem dX7_bring_28 : decode cX7_bring 28 = .ok (.return_, 1) := by decide +kernel
theorem dX7_decides_0 : decode cX7_decides 0 = .ok (.sipush 256, 3) := by decide +kernel
theorem dX7_decides_3 : decode cX7_decides 3 = .ok (.iload_n 2, 1) := by decide +kernel
theorem dX7_decides_4 : decode cX7_decides 4 = .ok (.iadd, 1) := by decide +kernel
theorem dX7_decides_5 : decode cX7_decides 5 = .ok (.istore 4, 2) := by decide +kernel
theorem dX7_decides_7 : decode cX7_decides 7 = .ok (.iload 4, 2) := by decide +kernel
theorem dX7_decides_9 : decode cX7_decides 9 = .ok (.ifCond .le 32, 3) := by decide +kernel
theorem dX7_decides_12 : decode cX7_decides 12 = .ok (.aload_n 0, 1) := by decide +kernel
theorem dX7_decides_13 : decode cX7_decides 13 = .ok (.iload_n 1, 1) := by decide +kernel
theorem dX7_decides_14 : decode cX7_decides 14 = .ok (.iload 4, 2) := by decide +kernel
theorem dX7_decides_16 : decode cX7_decides 16 = .ok (.iadd, 1) := by decide +kernel
theorem dX7_decides_17 : decode cX7_decides 17 = .ok (.iaload, 1) := by decide +kernel
theorem dX7_decides_18 : decode cX7_decides 18 = .ok (.bipush 8, 2) := by decide +kernel
theorem dX7_decides_20 : decode cX7_decides 20 = .ok (.if_icmp .eq 12, 3) := by decide +kernel
theorem dX7_decides_23 : decode cX7_decides 23 = .ok (.iload 4, 2) := by decide +kernel
theorem dX7_decides_25 : decode cX7_decides 25 = .ok (.iload_n 3, 1) := by decide +kernel
theorem dX7_decides_26 : decode cX7_decides 26 = .ok (.if_icmp .eq 6, 3) := by decide +kernel
theorem dX7_decides_29 : decode cX7_decides 29 = .ok (.iload 4, 2) := by decide +kernel
theorem dX7_decides_31 : decode cX7_decides 31 = .ok (.ireturn, 1) := by decide +kernel
theorem dX7_decides_32 : decode cX7_decides 32 = .ok (.iload 4, 2) := by decide +kernel
theorem dX7_decides_34 : decode cX7_decides 34 = .ok (.iconst 2, 1) := by decide +kernel
theorem dX7_decides_35 : decode cX7_decides 35 = .ok (.idiv, 1) := by decide +kernel
theorem dX7_decides_36 : decode cX7_decides 36 = .ok (.istore 4, 2) := by decide +kernel
theorem dX7_decides_38 : decode cX7_decides 38 = .ok (.goto (-31), 3) := by decide +kernel
theorem dX7_decides_41 : decode cX7_decides 41 = .ok (.bipush (-4), 2) := by decide +kernel
theorem dX7_decides_43 : decode cX7_decides 43 = .ok (.ireturn, 1) := by decide +kernel
set_option maxRecDepth 20000 in
theorem ggX7_hopBy_X7_decides : GoodIn wsX7_hopBy wsX7_decides := goodIn_r _ [4] (by decide +kernel) (by decide +kernel)
set_option maxRecDepth 20000 in
theorem gX7_hopBy_X7_decides : GoodIn wsX7_hopBy (va_wsS RX7 57 yX7_decides wsX7_decides) := goodIn_app (goodIn_of _ (by decide +kernel)) ggX7_hopBy_X7_decides
theorem dX7_hopBy_0 : decode cX7_hopBy 0 = .ok (.aload_n 0, 1) := by decide +kernel
theorem dX7_hopBy_1 : decode cX7_hopBy 1 = .ok (.iload_n 1, 1) := by decide +kernel
theorem dX7_hopBy_2 : decode cX7_hopBy 2 = .ok (.iload_n 2, 1) := by decide +kernel
theorem dX7_hopBy_3 : decode cX7_hopBy 3 = .ok (.iload_n 3, 1) := by decide +kernel
theorem dX7_hopBy_4 : decode cX7_hopBy 4 = .ok (.invokestatic 57, 3) := by decide +kernel
theorem dX7_hopBy_7 : decode cX7_hopBy 7 = .ok (.istore 4, 2) := by decide +kernel
theorem dX7_hopBy_9 : decode cX7_hopBy 9 = .ok (.iload 4, 2) := by decide +kernel
theorem dX7_hopBy_11 : decode cX7_hopBy 11 = .ok (.bipush (-4), 2) := by decide +kernel
theorem dX7_hopBy_13 : decode cX7_hopBy 13 = .ok (.if_icmp .ne 7, 3) := by decide +kernel
theorem dX7_hopBy_16 : decode cX7_hopBy 16 = .ok (.iconst 0, 1) := by decide +kernel
theorem dX7_hopBy_17 : decode cX7_hopBy 17 = .ok (.goto 9, 3) := by decide +kernel
theorem dX7_hopBy_20 : decode cX7_hopBy 20 = .ok (.aload_n 0, 1) := by decide +kernel
theorem dX7_hopBy_21 : decode cX7_hopBy 21 = .ok (.iload_n 1, 1) := by decide +kernel
theorem dX7_hopBy_22 : decode cX7_hopBy 22 = .ok (.iload 4, 2) := by decide +kernel
theorem dX7_hopBy_24 : decode cX7_hopBy 24 = .ok (.iadd, 1) := by decide +kernel
theorem dX7_hopBy_25 : decode cX7_hopBy 25 = .ok (.iaload, 1) := by decide +kernel
theorem dX7_hopBy_26 : decode cX7_hopBy 26 = .ok (.ireturn, 1) := by decide +kernel
theorem dX7_lesser_0 : decode cX7_lesser 0 = .ok (.iload_n 0, 1) := by decide +kernel
theorem dX7_lesser_1 : decode cX7_lesser 1 = .ok (.iload_n 1, 1) := by decide +kernel
theorem dX7_lesser_2 : decode cX7_lesser 2 = .ok (.if_icmp .ge 7, 3) := by decide +kernel
theorem dX7_lesser_5 : decode cX7_lesser 5 = .ok (.iload_n 0, 1) := by decide +kernel
theorem dX7_lesser_6 : decode cX7_lesser 6 = .ok (.goto 4, 3) := by decide +kernel
theorem dX7_lesser_9 : decode cX7_lesser 9 = .ok (.iload_n 1, 1) := by decide +kernel
theorem dX7_lesser_10 : decode cX7_lesser 10 = .ok (.ireturn, 1) := by decide +kernel
set_option maxRecDepth 20000 in
theorem ggX7_laysCosts_X7_lesser : GoodIn wsX7_laysCosts wsX7_lesser := goodIn_r _ [6] (by decide +kernel) (by decide +kernel)
set_option maxRecDepth 20000 in
theorem gX7_laysCosts_X7_lesser : GoodIn wsX7_laysCosts (va_wsS RX7 61 yX7_lesser wsX7_lesser) := goodIn_app (goodIn_of _ (by decide +kernel)) ggX7_laysCosts_X7_lesser
theorem dX7_laysCosts_0 : decode cX7_laysCosts 0 = .ok (.sipush 511, 3) := by decide +kernel
theorem dX7_laysCosts_3 : decode cX7_laysCosts 3 = .ok (.istore_n 1, 1) := by decide +kernel
theorem dX7_laysCosts_4 : decode cX7_laysCosts 4 = .ok (.iload_n 1, 1) := by decide +kernel
theorem dX7_laysCosts_5 : decode cX7_laysCosts 5 = .ok (.ifCond .le 168, 3) := by decide +kernel
theorem dX7_laysCosts_8 : decode cX7_laysCosts 8 = .ok (.iconst 1, 1) := by decide +kernel
theorem dX7_laysCosts_9 : decode cX7_laysCosts 9 = .ok (.istore_n 2, 1) := by decide +kernel
theorem dX7_laysCosts_10 : decode cX7_laysCosts 10 = .ok (.iconst 0, 1) := by decide +kernel
theorem dX7_laysCosts_11 : decode cX7_laysCosts 11 = .ok (.istore_n 3, 1) := by decide +kernel
theorem dX7_laysCosts_12 : decode cX7_laysCosts 12 = .ok (.iload_n 3, 1) := by decide +kernel
theorem dX7_laysCosts_13 : decode cX7_laysCosts 13 = .ok (.bipush 8, 2) := by decide +kernel
theorem dX7_laysCosts_15 : decode cX7_laysCosts 15 = .ok (.if_icmp .ge 64, 3) := by decide +kernel
theorem dX7_laysCosts_18 : decode cX7_laysCosts 18 = .ok (.iload_n 1, 1) := by decide +kernel
theorem dX7_laysCosts_19 : decode cX7_laysCosts 19 = .ok (.sipush 256, 3) := by decide +kernel
theorem dX7_laysCosts_22 : decode cX7_laysCosts 22 = .ok (.if_icmp .ge 57, 3) := by decide +kernel
theorem dX7_laysCosts_25 : decode cX7_laysCosts 25 = .ok (.aload_n 0, 1) := by decide +kernel
theorem dX7_laysCosts_26 : decode cX7_laysCosts 26 = .ok (.getfield 42, 3) := by decide +kernel
theorem dX7_laysCosts_29 : decode cX7_laysCosts 29 = .ok (.bipush 16, 2) := by decide +kernel
theorem dX7_laysCosts_31 : decode cX7_laysCosts 31 = .ok (.iload_n 1, 1) := by decide +kernel
theorem dX7_laysCosts_32 : decode cX7_laysCosts 32 = .ok (.imul, 1) := by decide +kernel
theorem dX7_laysCosts_33 : decode cX7_laysCosts 33 = .ok (.iload_n 3, 1) := by decide +kernel
theorem dX7_laysCosts_34 : decode cX7_laysCosts 34 = .ok (.iadd, 1) := by decide +kernel
theorem dX7_laysCosts_35 : decode cX7_laysCosts 35 = .ok (.iaload, 1) := by decide +kernel
theorem dX7_laysCosts_36 : decode cX7_laysCosts 36 = .ok (.aload_n 0, 1) := by decide +kernel
theorem dX7_laysCosts_37 : decode cX7_laysCosts 37 = .ok (.getfield 42, 3) := by decide +kernel
theorem dX7_laysCosts_40 : decode cX7_laysCosts 40 = .ok (.bipush 16, 2) := by decide +kernel
theorem dX7_laysCosts_42 : decode cX7_laysCosts 42 = .ok (.iload_n 1, 1) := by decide +kernel
theorem dX7_laysCosts_43 : decode cX7_laysCosts 43 = .ok (.imul, 1) := by decide +kernel
theorem dX7_laysCosts_44 : decode cX7_laysCosts 44 = .ok (.bipush 8, 2) := by decide +kernel
theorem dX7_laysCosts_46 : decode cX7_laysCosts 46 = .ok (.iadd, 1) := by decide +kernel
theorem dX7_laysCosts_47 : decode cX7_laysCosts 47 = .ok (.iload_n 3, 1) := by decide +kernel
theorem dX7_laysCosts_48 : decode cX7_laysCosts 48 = .ok (.iadd, 1) := by decide +kernel
theorem dX7_laysCosts_49 : decode cX7_laysCosts 49 = .ok (.iaload, 1) := by decide +kernel
theorem dX7_laysCosts_50 : decode cX7_laysCosts 50 = .ok (.iadd, 1) := by decide +kernel
theorem dX7_laysCosts_51 : decode cX7_laysCosts 51 = .ok (.istore 4, 2) := by decide +kernel
theorem dX7_laysCosts_53 : decode cX7_laysCosts 53 = .ok (.iload_n 3, 1) := by decide +kernel
theorem dX7_laysCosts_54 : decode cX7_laysCosts 54 = .ok (.ifCond .ne 10, 3) := by decide +kernel
theorem dX7_laysCosts_57 : decode cX7_laysCosts 57 = .ok (.iload 4, 2) := by decide +kernel
theorem dX7_laysCosts_59 : decode cX7_laysCosts 59 = .ok (.iconst 1, 1) := by decide +kernel
theorem dX7_laysCosts_60 : decode cX7_laysCosts 60 = .ok (.iadd, 1) := by decide +kernel
theorem dX7_laysCosts_61 : decode cX7_laysCosts 61 = .ok (.goto 11, 3) := by decide +kernel
theorem dX7_laysCosts_64 : decode cX7_laysCosts 64 = .ok (.iload_n 2, 1) := by decide +kernel
theorem dX7_laysCosts_65 : decode cX7_laysCosts 65 = .ok (.iload 4, 2) := by decide +kernel
theorem dX7_laysCosts_67 : decode cX7_laysCosts 67 = .ok (.iconst 1, 1) := by decide +kernel
theorem dX7_laysCosts_68 : decode cX7_laysCosts 68 = .ok (.iadd, 1) := by decide +kernel
theorem dX7_laysCosts_69 : decode cX7_laysCosts 69 = .ok (.invokestatic 61, 3) := by decide +kernel
theorem dX7_laysCosts_72 : decode cX7_laysCosts 72 = .ok (.istore_n 2, 1) := by decide +kernel
theorem dX7_laysCosts_73 : decode cX7_laysCosts 73 = .ok (.iinc 3 1, 3) := by decide +kernel
theorem dX7_laysCosts_76 : decode cX7_laysCosts 76 = .ok (.goto (-64), 3) := by decide +kernel
theorem dX7_laysCosts_79 : decode cX7_laysCosts 79 = .ok (.iconst 0, 1) := by decide +kernel
theorem dX7_laysCosts_80 : decode cX7_laysCosts 80 = .ok (.istore_n 3, 1) := by decide +kernel
theorem dX7_laysCosts_81 : decode cX7_laysCosts 81 = .ok (.iload_n 3, 1) := by decide +kernel
theorem dX7_laysCosts_82 : decode cX7_laysCosts 82 = .ok (.bipush 8, 2) := by decide +kernel
theorem dX7_laysCosts_84 : decode cX7_laysCosts 84 = .ok (.if_icmp .ge 83, 3) := by decide +kernel
theorem dX7_laysCosts_87 : decode cX7_laysCosts 87 = .ok (.iload_n 1, 1) := by decide +kernel
theorem dX7_laysCosts_88 : decode cX7_laysCosts 88 = .ok (.sipush 256, 3) := by decide +kernel
theorem dX7_laysCosts_91 : decode cX7_laysCosts 91 = .ok (.if_icmp .lt 25, 3) := by decide +kernel
theorem dX7_laysCosts_94 : decode cX7_laysCosts 94 = .ok (.aload_n 0, 1) := by decide +kernel
theorem dX7_laysCosts_95 : decode cX7_laysCosts 95 = .ok (.getfield 45, 3) := by decide +kernel
theorem dX7_laysCosts_98 : decode cX7_laysCosts 98 = .ok (.iload_n 1, 1) := by decide +kernel
theorem dX7_laysCosts_99 : decode cX7_laysCosts 99 = .ok (.sipush 256, 3) := by decide +kernel
theorem dX7_laysCosts_102 : decode cX7_laysCosts 102 = .ok (.isub, 1) := by decide +kernel
theorem dX7_laysCosts_103 : decode cX7_laysCosts 103 = .ok (.iaload, 1) := by decide +kernel
theorem dX7_laysCosts_104 : decode cX7_laysCosts 104 = .ok (.iload_n 3, 1) := by decide +kernel
theorem dX7_laysCosts_105 : decode cX7_laysCosts 105 = .ok (.if_icmp .ne 7, 3) := by decide +kernel
theorem dX7_laysCosts_108 : decode cX7_laysCosts 108 = .ok (.iconst 0, 1) := by decide +kernel
theorem dX7_laysCosts_109 : decode cX7_laysCosts 109 = .ok (.goto 33, 3) := by decide +kernel
theorem dX7_laysCosts_112 : decode cX7_laysCosts 112 = .ok (.iconst 1, 1) := by decide +kernel
theorem dX7_laysCosts_113 : decode cX7_laysCosts 113 = .ok (.goto 29, 3) := by decide +kernel
theorem dX7_laysCosts_116 : decode cX7_laysCosts 116 = .ok (.aload_n 0, 1) := by decide +kernel
theorem dX7_laysCosts_117 : decode cX7_laysCosts 117 = .ok (.getfield 42, 3) := by decide +kernel
theorem dX7_laysCosts_120 : decode cX7_laysCosts 120 = .ok (.bipush 16, 2) := by decide +kernel
theorem dX7_laysCosts_122 : decode cX7_laysCosts 122 = .ok (.iload_n 1, 1) := by decide +kernel
theorem dX7_laysCosts_123 : decode cX7_laysCosts 123 = .ok (.imul, 1) := by decide +kernel
theorem dX7_laysCosts_124 : decode cX7_laysCosts 124 = .ok (.iload_n 3, 1) := by decide +kernel
theorem dX7_laysCosts_125 : decode cX7_laysCosts 125 = .ok (.iadd, 1) := by decide +kernel
theorem dX7_laysCosts_126 : decode cX7_laysCosts 126 = .ok (.iaload, 1) := by decide +kernel
theorem dX7_laysCosts_127 : decode cX7_laysCosts 127 = .ok (.aload_n 0, 1) := by decide +kernel
theorem dX7_laysCosts_128 : decode cX7_laysCosts 128 = .ok (.getfield 42, 3) := by decide +kernel
theorem dX7_laysCosts_131 : decode cX7_laysCosts 131 = .ok (.bipush 16, 2) := by decide +kernel
theorem dX7_laysCosts_133 : decode cX7_laysCosts 133 = .ok (.iload_n 1, 1) := by decide +kernel
theorem dX7_laysCosts_134 : decode cX7_laysCosts 134 = .ok (.imul, 1) := by decide +kernel
theorem dX7_laysCosts_135 : decode cX7_laysCosts 135 = .ok (.bipush 8, 2) := by decide +kernel
theorem dX7_laysCosts_137 : decode cX7_laysCosts 137 = .ok (.iadd, 1) := by decide +kernel
theorem dX7_laysCosts_138 : decode cX7_laysCosts 138 = .ok (.iload_n 3, 1) := by decide +kernel
theorem dX7_laysCosts_139 : decode cX7_laysCosts 139 = .ok (.iadd, 1) := by decide +kernel
theorem dX7_laysCosts_140 : decode cX7_laysCosts 140 = .ok (.iaload, 1) := by decide +kernel
theorem dX7_laysCosts_141 : decode cX7_laysCosts 141 = .ok (.iadd, 1) := by decide +kernel
theorem dX7_laysCosts_142 : decode cX7_laysCosts 142 = .ok (.istore 4, 2) := by decide +kernel
theorem dX7_laysCosts_144 : decode cX7_laysCosts 144 = .ok (.aload_n 0, 1) := by decide +kernel
theorem dX7_laysCosts_145 : decode cX7_laysCosts 145 = .ok (.getfield 42, 3) := by decide +kernel
theorem dX7_laysCosts_148 : decode cX7_laysCosts 148 = .ok (.bipush 8, 2) := by decide +kernel
theorem dX7_laysCosts_150 : decode cX7_laysCosts 150 = .ok (.iload_n 1, 1) := by decide +kernel
theorem dX7_laysCosts_151 : decode cX7_laysCosts 151 = .ok (.imul, 1) := by decide +kernel
theorem dX7_laysCosts_152 : decode cX7_laysCosts 152 = .ok (.iload_n 3, 1) := by decide +kernel
theorem dX7_laysCosts_153 : decode cX7_laysCosts 153 = .ok (.iadd, 1) := by decide +kernel
theorem dX7_laysCosts_154 : decode cX7_laysCosts 154 = .ok (.iload 4, 2) := by decide +kernel
theorem dX7_laysCosts_156 : decode cX7_laysCosts 156 = .ok (.iload_n 2, 1) := by decide +kernel
theorem dX7_laysCosts_157 : decode cX7_laysCosts 157 = .ok (.invokestatic 61, 3) := by decide +kernel
theorem dX7_laysCosts_160 : decode cX7_laysCosts 160 = .ok (.iastore, 1) := by decide +kernel
theorem dX7_laysCosts_161 : decode cX7_laysCosts 161 = .ok (.iinc 3 1, 3) := by decide +kernel
theorem dX7_laysCosts_164 : decode cX7_laysCosts 164 = .ok (.goto (-83), 3) := by decide +kernel
theorem dX7_laysCosts_167 : decode cX7_laysCosts 167 = .ok (.iinc 1 (-1), 3) := by decide +kernel
theorem dX7_laysCosts_170 : decode cX7_laysCosts 170 = .ok (.goto (-166), 3) := by decide +kernel
theorem dX7_laysCosts_173 : decode cX7_laysCosts 173 = .ok (.return_, 1) := by decide +kernel
set_option maxRecDepth 20000 in
theorem ggX7_ease_X7_lesser : GoodIn wsX7_ease wsX7_lesser := goodIn_r _ [5] (by decide +kernel) (by decide +kernel)
set_option maxRecDepth 20000 in
theorem gX7_ease_X7_lesser : GoodIn wsX7_ease (va_wsS RX7 61 yX7_lesser wsX7_lesser) := goodIn_app (goodIn_of _ (by decide +kernel)) ggX7_ease_X7_lesser
theorem dX7_ease_0 : decode cX7_ease 0 = .ok (.aload_n 0, 1) := by decide +kernel
theorem dX7_ease_1 : decode cX7_ease 1 = .ok (.getfield 42, 3) := by decide +kernel
theorem dX7_ease_4 : decode cX7_ease 4 = .ok (.bipush 8, 2) := by decide +kernel
theorem dX7_ease_6 : decode cX7_ease 6 = .ok (.iload_n 1, 1) := by decide +kernel
theorem dX7_ease_7 : decode cX7_ease 7 = .ok (.imul, 1) := by decide +kernel
theorem dX7_ease_8 : decode cX7_ease 8 = .ok (.iaload, 1) := by decide +kernel
theorem dX7_ease_9 : decode cX7_ease 9 = .ok (.istore_n 2, 1) := by decide +kernel
theorem dX7_ease_10 : decode cX7_ease 10 = .ok (.iconst 1, 1) := by decide +kernel
theorem dX7_ease_11 : decode cX7_ease 11 = .ok (.istore_n 3, 1) := by decide +kernel
theorem dX7_ease_12 : decode cX7_ease 12 = .ok (.iload_n 3, 1) := by decide +kernel
theorem dX7_ease_13 : decode cX7_ease 13 = .ok (.bipush 8, 2) := by decide +kernel
theorem dX7_ease_15 : decode cX7_ease 15 = .ok (.if_icmp .ge 25, 3) := by decide +kernel
theorem dX7_ease_18 : decode cX7_ease 18 = .ok (.iload_n 2, 1) := by decide +kernel
theorem dX7_ease_19 : decode cX7_ease 19 = .ok (.aload_n 0, 1) := by decide +kernel
theorem dX7_ease_20 : decode cX7_ease 20 = .ok (.getfield 42, 3) := by decide +kernel
theorem dX7_ease_23 : decode cX7_ease 23 = .ok (.bipush 8, 2) := by decide +kernel
theorem dX7_ease_25 : decode cX7_ease 25 = .ok (.iload_n 1, 1) := by decide +kernel
theorem dX7_ease_26 : decode cX7_ease 26 = .ok (.imul, 1) := by decide +kernel
theorem dX7_ease_27 : decode cX7_ease 27 = .ok (.iload_n 3, 1) := by decide +kernel
theorem dX7_ease_28 : decode cX7_ease 28 = .ok (.iadd, 1) := by decide +kernel
theorem dX7_ease_29 : decode cX7_ease 29 = .ok (.iaload, 1) := by decide +kernel
theorem dX7_ease_30 : decode cX7_ease 30 = .ok (.invokestatic 61, 3) := by decide +kernel
theorem dX7_ease_33 : decode cX7_ease 33 = .ok (.istore_n 2, 1) := by decide +kernel
theorem dX7_ease_34 : decode cX7_ease 34 = .ok (.iinc 3 1, 3) := by decide +kernel
theorem dX7_ease_37 : decode cX7_ease 37 = .ok (.goto (-25), 3) := by decide +kernel
theorem dX7_ease_40 : decode cX7_ease 40 = .ok (.iload_n 2, 1) := by decide +kernel
theorem dX7_ease_41 : decode cX7_ease 41 = .ok (.ireturn, 1) := by decide +kernel
set_option maxRecDepth 20000 in
theorem ggX7_setOf_X7_ease : GoodIn wsX7_setOf wsX7_ease := goodIn_r _ [6, 1, 7, 8, 5, 9, 10, 11, 12, 13, 14, 15, 16, 17, 18, 19, 20, 21, 22, 23, 24, 25, 26, 27] (by decide +kernel) (by decide +kernel)
set_option maxRecDepth 20000 in
theorem gX7_setOf_X7_ease : GoodIn wsX7_setOf (wsV RX7 65 RX7 yX7_ease wsX7_ease) := goodIn_app (goodIn_of _ (by decide +kernel)) ggX7_setOf_X7_ease
theorem dX7_setOf_0 : decode cX7_setOf 0 = .ok (.iconst 0, 1) := by decide +kernel
theorem dX7_setOf_1 : decode cX7_setOf 1 = .ok (.istore_n 2, 1) := by decide +kernel
theorem dX7_setOf_2 : decode cX7_setOf 2 = .ok (.iconst 0, 1) := by decide +kernel
theorem dX7_setOf_3 : decode cX7_setOf 3 = .ok (.istore_n 3, 1) := by decide +kernel
theorem dX7_setOf_4 : decode cX7_setOf 4 = .ok (.iload_n 3, 1) := by decide +kernel
theorem dX7_setOf_5 : decode cX7_setOf 5 = .ok (.bipush 8, 2) := by decide +kernel
theorem dX7_setOf_7 : decode cX7_setOf 7 = .ok (.if_icmp .ge 38, 3) := by decide +kernel
theorem dX7_setOf_10 : decode cX7_setOf 10 = .ok (.iload_n 2, 1) := by decide +kernel
theorem dX7_setOf_11 : decode cX7_setOf 11 = .ok (.aload_n 0, 1) := by decide +kernel
theorem dX7_setOf_12 : decode cX7_setOf 12 = .ok (.getfield 42, 3) := by decide +kernel
theorem dX7_setOf_15 : decode cX7_setOf 15 = .ok (.bipush 8, 2) := by decide +kernel
theorem dX7_setOf_17 : decode cX7_setOf 17 = .ok (.iload_n 1, 1) := by decide +kernel
theorem dX7_setOf_18 : decode cX7_setOf 18 = .ok (.imul, 1) := by decide +kernel
theorem dX7_setOf_19 : decode cX7_setOf 19 = .ok (.iload_n 3, 1) := by decide +kernel
theorem dX7_setOf_20 : decode cX7_setOf 20 = .ok (.iadd, 1) := by decide +kernel
theorem dX7_setOf_21 : decode cX7_setOf 21 = .ok (.iaload, 1) := by decide +kernel
theorem dX7_setOf_22 : decode cX7_setOf 22 = .ok (.aload_n 0, 1) := by decide +kernel
theorem dX7_setOf_23 : decode cX7_setOf 23 = .ok (.iload_n 1, 1) := by decide +kernel
theorem dX7_setOf_24 : decode cX7_setOf 24 = .ok (.invokevirtual 65, 3) := by decide +kernel
theorem dX7_setOf_27 : decode cX7_setOf 27 = .ok (.if_icmp .ne 9, 3) := by decide +kernel
theorem dX7_setOf_30 : decode cX7_setOf 30 = .ok (.iconst 1, 1) := by decide +kernel
theorem dX7_setOf_31 : decode cX7_setOf 31 = .ok (.iload_n 3, 1) := by decide +kernel
theorem dX7_setOf_32 : decode cX7_setOf 32 = .ok (.ishl, 1) := by decide +kernel
theorem dX7_setOf_33 : decode cX7_setOf 33 = .ok (.goto 4, 3) := by decide +kernel
theorem dX7_setOf_36 : decode cX7_setOf 36 = .ok (.iconst 0, 1) := by decide +kernel
theorem dX7_setOf_37 : decode cX7_setOf 37 = .ok (.ior, 1) := by decide +kernel
theorem dX7_setOf_38 : decode cX7_setOf 38 = .ok (.istore_n 2, 1) := by decide +kernel
theorem dX7_setOf_39 : decode cX7_setOf 39 = .ok (.iinc 3 1, 3) := by decide +kernel
theorem dX7_setOf_42 : decode cX7_setOf 42 = .ok (.goto (-38), 3) := by decide +kernel
theorem dX7_setOf_45 : decode cX7_setOf 45 = .ok (.iload_n 2, 1) := by decide +kernel
theorem dX7_setOf_46 : decode cX7_setOf 46 = .ok (.ireturn, 1) := by decide +kernel
set_option maxRecDepth 20000 in
theorem ggX7_laysLeast_X7_setOf : GoodIn wsX7_laysLeast wsX7_setOf := goodIn_r _ [7, 8, 9, 10, 11, 6, 12, 13, 14, 15, 16, 17, 18, 19, 20, 21, 22, 23, 24, 25, 26, 27, 28, 29, 30, 31, 32, 33] (by decide +kernel) (by decide +kernel)
set_option maxRecDepth 20000 in
theorem gX7_laysLeast_X7_setOf : GoodIn wsX7_laysLeast (wsV RX7 69 RX7 yX7_setOf wsX7_setOf) := goodIn_app (goodIn_of _ (by decide +kernel)) ggX7_laysLeast_X7_setOf
theorem dX7_laysLeast_0 : decode cX7_laysLeast 0 = .ok (.aload_n 0, 1) := by decide +kernel
theorem dX7_laysLeast_1 : decode cX7_laysLeast 1 = .ok (.getfield 48, 3) := by decide +kernel
theorem dX7_laysLeast_4 : decode cX7_laysLeast 4 = .ok (.iconst 1, 1) := by decide +kernel
theorem dX7_laysLeast_5 : decode cX7_laysLeast 5 = .ok (.iconst 0, 1) := by decide +kernel
theorem dX7_laysLeast_6 : decode cX7_laysLeast 6 = .ok (.iastore, 1) := by decide +kernel
theorem dX7_laysLeast_7 : decode cX7_laysLeast 7 = .ok (.iconst 1, 1) := by decide +kernel
theorem dX7_laysLeast_8 : decode cX7_laysLeast 8 = .ok (.istore_n 1, 1) := by decide +kernel
theorem dX7_laysLeast_9 : decode cX7_laysLeast 9 = .ok (.iload_n 1, 1) := by decide +kernel
theorem dX7_laysLeast_10 : decode cX7_laysLeast 10 = .ok (.sipush 512, 3) := by decide +kernel
theorem dX7_laysLeast_13 : decode cX7_laysLeast 13 = .ok (.if_icmp .ge 96, 3) := by decide +kernel
theorem dX7_laysLeast_16 : decode cX7_laysLeast 16 = .ok (.aload_n 0, 1) := by decide +kernel
theorem dX7_laysLeast_17 : decode cX7_laysLeast 17 = .ok (.iload_n 1, 1) := by decide +kernel
theorem dX7_laysLeast_18 : decode cX7_laysLeast 18 = .ok (.invokevirtual 69, 3) := by decide +kernel
theorem dX7_laysLeast_21 : decode cX7_laysLeast 21 = .ok (.istore_n 2, 1) := by decide +kernel
theorem dX7_laysLeast_22 : decode cX7_laysLeast 22 = .ok (.aload_n 0, 1) := by decide +kernel
theorem dX7_laysLeast_23 : decode cX7_laysLeast 23 = .ok (.getfield 39, 3) := by decide +kernel
theorem dX7_laysLeast_26 : decode cX7_laysLeast 26 = .ok (.iload_n 1, 1) := by decide +kernel
theorem dX7_laysLeast_27 : decode cX7_laysLeast 27 = .ok (.bipush 8, 2) := by decide +kernel
theorem dX7_laysLeast_29 : decode cX7_laysLeast 29 = .ok (.iastore, 1) := by decide +kernel
theorem dX7_laysLeast_30 : decode cX7_laysLeast 30 = .ok (.iload_n 2, 1) := by decide +kernel
theorem dX7_laysLeast_31 : decode cX7_laysLeast 31 = .ok (.aload_n 0, 1) := by decide +kernel
theorem dX7_laysLeast_32 : decode cX7_laysLeast 32 = .ok (.getfield 48, 3) := by decide +kernel
theorem dX7_laysLeast_35 : decode cX7_laysLeast 35 = .ok (.iload_n 1, 1) := by decide +kernel
theorem dX7_laysLeast_36 : decode cX7_laysLeast 36 = .ok (.iaload, 1) := by decide +kernel
theorem dX7_laysLeast_37 : decode cX7_laysLeast 37 = .ok (.ishr, 1) := by decide +kernel
theorem dX7_laysLeast_38 : decode cX7_laysLeast 38 = .ok (.iconst 1, 1) := by decide +kernel
theorem dX7_laysLeast_39 : decode cX7_laysLeast 39 = .ok (.iand, 1) := by decide +kernel
theorem dX7_laysLeast_40 : decode cX7_laysLeast 40 = .ok (.ifCond .ne 33, 3) := by decide +kernel
theorem dX7_laysLeast_43 : decode cX7_laysLeast 43 = .ok (.iconst 0, 1) := by decide +kernel
theorem dX7_laysLeast_44 : decode cX7_laysLeast 44 = .ok (.istore_n 3, 1) := by decide +kernel
theorem dX7_laysLeast_45 : decode cX7_laysLeast 45 = .ok (.iload_n 2, 1) := by decide +kernel
theorem dX7_laysLeast_46 : decode cX7_laysLeast 46 = .ok (.iload_n 3, 1) := by decide +kernel
theorem dX7_laysLeast_47 : decode cX7_laysLeast 47 = .ok (.ishr, 1) := by decide +kernel
theorem dX7_laysLeast_48 : decode cX7_laysLeast 48 = .ok (.iconst 1, 1) := by decide +kernel
theorem dX7_laysLeast_49 : decode cX7_laysLeast 49 = .ok (.iand, 1) := by decide +kernel
theorem dX7_laysLeast_50 : decode cX7_laysLeast 50 = .ok (.ifCond .ne 9, 3) := by decide +kernel
theorem dX7_laysLeast_53 : decode cX7_laysLeast 53 = .ok (.iinc 3 1, 3) := by decide +kernel
theorem dX7_laysLeast_56 : decode cX7_laysLeast 56 = .ok (.goto (-11), 3) := by decide +kernel
theorem dX7_laysLeast_59 : decode cX7_laysLeast 59 = .ok (.aload_n 0, 1) := by decide +kernel
theorem dX7_laysLeast_60 : decode cX7_laysLeast 60 = .ok (.getfield 39, 3) := by decide +kernel
theorem dX7_laysLeast_63 : decode cX7_laysLeast 63 = .ok (.iload_n 1, 1) := by decide +kernel
theorem dX7_laysLeast_64 : decode cX7_laysLeast 64 = .ok (.iload_n 3, 1) := by decide +kernel
theorem dX7_laysLeast_65 : decode cX7_laysLeast 65 = .ok (.iastore, 1) := by decide +kernel
theorem dX7_laysLeast_66 : decode cX7_laysLeast 66 = .ok (.aload_n 0, 1) := by decide +kernel
theorem dX7_laysLeast_67 : decode cX7_laysLeast 67 = .ok (.getfield 48, 3) := by decide +kernel
theorem dX7_laysLeast_70 : decode cX7_laysLeast 70 = .ok (.iload_n 1, 1) := by decide +kernel
theorem dX7_laysLeast_71 : decode cX7_laysLeast 71 = .ok (.iload_n 3, 1) := by decide +kernel
theorem dX7_laysLeast_72 : decode cX7_laysLeast 72 = .ok (.iastore, 1) := by decide +kernel
theorem dX7_laysLeast_73 : decode cX7_laysLeast 73 = .ok (.aload_n 0, 1) := by decide +kernel
theorem dX7_laysLeast_74 : decode cX7_laysLeast 74 = .ok (.getfield 48, 3) := by decide +kernel
theorem dX7_laysLeast_77 : decode cX7_laysLeast 77 = .ok (.iconst 2, 1) := by decide +kernel
theorem dX7_laysLeast_78 : decode cX7_laysLeast 78 = .ok (.iload_n 1, 1) := by decide +kernel
theorem dX7_laysLeast_79 : decode cX7_laysLeast 79 = .ok (.imul, 1) := by decide +kernel
theorem dX7_laysLeast_80 : decode cX7_laysLeast 80 = .ok (.aload_n 0, 1) := by decide +kernel
theorem dX7_laysLeast_81 : decode cX7_laysLeast 81 = .ok (.getfield 48, 3) := by decide +kernel
theorem dX7_laysLeast_84 : decode cX7_laysLeast 84 = .ok (.iload_n 1, 1) := by decide +kernel
theorem dX7_laysLeast_85 : decode cX7_laysLeast 85 = .ok (.iaload, 1) := by decide +kernel
theorem dX7_laysLeast_86 : decode cX7_laysLeast 86 = .ok (.iastore, 1) := by decide +kernel
theorem dX7_laysLeast_87 : decode cX7_laysLeast 87 = .ok (.aload_n 0, 1) := by decide +kernel
theorem dX7_laysLeast_88 : decode cX7_laysLeast 88 = .ok (.getfield 48, 3) := by decide +kernel
theorem dX7_laysLeast_91 : decode cX7_laysLeast 91 = .ok (.iconst 2, 1) := by decide +kernel
theorem dX7_laysLeast_92 : decode cX7_laysLeast 92 = .ok (.iload_n 1, 1) := by decide +kernel
theorem dX7_laysLeast_93 : decode cX7_laysLeast 93 = .ok (.imul, 1) := by decide +kernel
theorem dX7_laysLeast_94 : decode cX7_laysLeast 94 = .ok (.iconst 1, 1) := by decide +kernel
theorem dX7_laysLeast_95 : decode cX7_laysLeast 95 = .ok (.iadd, 1) := by decide +kernel
theorem dX7_laysLeast_96 : decode cX7_laysLeast 96 = .ok (.aload_n 0, 1) := by decide +kernel
theorem dX7_laysLeast_97 : decode cX7_laysLeast 97 = .ok (.getfield 48, 3) := by decide +kernel
theorem dX7_laysLeast_100 : decode cX7_laysLeast 100 = .ok (.iload_n 1, 1) := by decide +kernel
theorem dX7_laysLeast_101 : decode cX7_laysLeast 101 = .ok (.iaload, 1) := by decide +kernel
theorem dX7_laysLeast_102 : decode cX7_laysLeast 102 = .ok (.iastore, 1) := by decide +kernel
theorem dX7_laysLeast_103 : decode cX7_laysLeast 103 = .ok (.iinc 1 1, 3) := by decide +kernel
theorem dX7_laysLeast_106 : decode cX7_laysLeast 106 = .ok (.goto (-97), 3) := by decide +kernel
theorem dX7_laysLeast_109 : decode cX7_laysLeast 109 = .ok (.return_, 1) := by decide +kernel
set_option maxRecDepth 20000 in
theorem ggX7_laysHops_X7_hopBy : GoodIn wsX7_laysHops wsX7_hopBy := goodIn_r _ [6, 7, 8, 5, 9] (by decide +kernel) (by decide +kernel)
set_option maxRecDepth 20000 in
theorem gX7_laysHops_X7_hopBy : GoodIn wsX7_laysHops (va_wsS RX7 72 yX7_hopBy wsX7_hopBy) := goodIn_app (goodIn_of _ (by decide +kernel)) ggX7_laysHops_X7_hopBy
theorem dX7_laysHops_0 : decode cX7_laysHops 0 = .ok (.iconst 0, 1) := by decide +kernel
theorem dX7_laysHops_1 : decode cX7_laysHops 1 = .ok (.istore_n 1, 1) := by decide +kernel
theorem dX7_laysHops_2 : decode cX7_laysHops 2 = .ok (.iload_n 1, 1) := by decide +kernel
theorem dX7_laysHops_3 : decode cX7_laysHops 3 = .ok (.sipush 256, 3) := by decide +kernel
theorem dX7_laysHops_6 : decode cX7_laysHops 6 = .ok (.if_icmp .ge 47, 3) := by decide +kernel
theorem dX7_laysHops_9 : decode cX7_laysHops 9 = .ok (.aload_n 0, 1) := by decide +kernel
theorem dX7_laysHops_10 : decode cX7_laysHops 10 = .ok (.getfield 45, 3) := by decide +kernel
theorem dX7_laysHops_13 : decode cX7_laysHops 13 = .ok (.iload_n 1, 1) := by decide +kernel
theorem dX7_laysHops_14 : decode cX7_laysHops 14 = .ok (.aload_n 0, 1) := by decide +kernel
theorem dX7_laysHops_15 : decode cX7_laysHops 15 = .ok (.getfield 7, 3) := by decide +kernel
theorem dX7_laysHops_18 : decode cX7_laysHops 18 = .ok (.iconst 0, 1) := by decide +kernel
theorem dX7_laysHops_19 : decode cX7_laysHops 19 = .ok (.iload_n 1, 1) := by decide +kernel
theorem dX7_laysHops_20 : decode cX7_laysHops 20 = .ok (.iconst 0, 1) := by decide +kernel
theorem dX7_laysHops_21 : decode cX7_laysHops 21 = .ok (.invokestatic 72, 3) := by decide +kernel
theorem dX7_laysHops_24 : decode cX7_laysHops 24 = .ok (.iastore, 1) := by decide +kernel
theorem dX7_laysHops_25 : decode cX7_laysHops 25 = .ok (.aload_n 0, 1) := by decide +kernel
theorem dX7_laysHops_26 : decode cX7_laysHops 26 = .ok (.getfield 45, 3) := by decide +kernel
theorem dX7_laysHops_29 : decode cX7_laysHops 29 = .ok (.sipush 256, 3) := by decide +kernel
theorem dX7_laysHops_32 : decode cX7_laysHops 32 = .ok (.iload_n 1, 1) := by decide +kernel
theorem dX7_laysHops_33 : decode cX7_laysHops 33 = .ok (.iadd, 1) := by decide +kernel
theorem dX7_laysHops_34 : decode cX7_laysHops 34 = .ok (.aload_n 0, 1) := by decide +kernel
theorem dX7_laysHops_35 : decode cX7_laysHops 35 = .ok (.getfield 7, 3) := by decide +kernel
theorem dX7_laysHops_38 : decode cX7_laysHops 38 = .ok (.sipush 512, 3) := by decide +kernel
theorem dX7_laysHops_41 : decode cX7_laysHops 41 = .ok (.iload_n 1, 1) := by decide +kernel
theorem dX7_laysHops_42 : decode cX7_laysHops 42 = .ok (.iconst 0, 1) := by decide +kernel
theorem dX7_laysHops_43 : decode cX7_laysHops 43 = .ok (.invokestatic 72, 3) := by decide +kernel
theorem dX7_laysHops_46 : decode cX7_laysHops 46 = .ok (.iastore, 1) := by decide +kernel
theorem dX7_laysHops_47 : decode cX7_laysHops 47 = .ok (.iinc 1 1, 3) := by decide +kernel
theorem dX7_laysHops_50 : decode cX7_laysHops 50 = .ok (.goto (-48), 3) := by decide +kernel
theorem dX7_laysHops_53 : decode cX7_laysHops 53 = .ok (.return_, 1) := by decide +kernel
set_option maxRecDepth 20000 in
theorem ggX7_lays_X7_laysHops : GoodIn wsX7_lays wsX7_laysHops := goodIn_r _ [5, 6, 7, 8, 9, 4, 10, 11, 12, 13, 36, 37, 38, 39, 40, 41, 42, 43, 44, 45, 46, 47, 48, 49, 50, 51, 52, 53] (by decide +kernel) (by decide +kernel)
set_option maxRecDepth 20000 in
theorem gX7_lays_X7_laysHops : GoodIn wsX7_lays (wsV RX7 75 RX7 yX7_laysHops wsX7_laysHops) := goodIn_app (goodIn_of _ (by decide +kernel)) ggX7_lays_X7_laysHops
set_option maxRecDepth 20000 in
theorem ggX7_lays_X7_laysCosts : GoodIn wsX7_lays wsX7_laysCosts := goodIn_r _ [17, 18, 6, 19, 20, 4, 21, 36, 37, 38, 39, 40, 41, 42, 43, 44, 45, 46, 47, 48, 49, 50, 51, 52, 53] (by decide +kernel) (by decide +kernel)
set_option maxRecDepth 20000 in
theorem gX7_lays_X7_laysCosts : GoodIn wsX7_lays (wsV RX7 78 RX7 yX7_laysCosts wsX7_laysCosts) := goodIn_app (goodIn_of _ (by decide +kernel)) ggX7_lays_X7_laysCosts
set_option maxRecDepth 20000 in
theorem ggX7_lays_X7_laysLeast : GoodIn wsX7_lays wsX7_laysLeast := goodIn_r _ [25, 26, 27, 28, 29, 30, 4, 31, 18, 32, 33, 34, 35, 19, 20, 21, 36, 37, 38, 39, 40, 41, 42, 43, 44, 45, 46, 47, 48, 49, 50, 51, 52, 53] (by decide +kernel) (by decide +kernel)
set_option maxRecDepth 20000 in
theorem gX7_lays_X7_laysLeast : GoodIn wsX7_lays (wsV RX7 81 RX7 yX7_laysLeast wsX7_laysLeast) := goodIn_app (goodIn_of _ (by decide +kernel)) ggX7_lays_X7_laysLeast
theorem dX7_lays_0 : decode cX7_lays 0 = .ok (.aload_n 0, 1) := by decide +kernel
theorem dX7_lays_1 : decode cX7_lays 1 = .ok (.invokevirtual 75, 3) := by decide +kernel
theorem dX7_lays_4 : decode cX7_lays 4 = .ok (.aload_n 0, 1) := by decide +kernel
theorem dX7_lays_5 : decode cX7_lays 5 = .ok (.invokevirtual 78, 3) := by decide +kernel
theorem dX7_lays_8 : decode cX7_lays 8 = .ok (.aload_n 0, 1) := by decide +kernel
theorem dX7_lays_9 : decode cX7_lays 9 = .ok (.invokevirtual 81, 3) := by decide +kernel
theorem dX7_lays_12 : decode cX7_lays 12 = .ok (.return_, 1) := by decide +kernel
theorem dX7_has_0 : decode cX7_has 0 = .ok (.sipush 256, 3) := by decide +kernel
theorem dX7_has_3 : decode cX7_has 3 = .ok (.iload_n 0, 1) := by decide +kernel
theorem dX7_has_4 : decode cX7_has 4 = .ok (.iadd, 1) := by decide +kernel
theorem dX7_has_5 : decode cX7_has 5 = .ok (.istore_n 2, 1) := by decide +kernel
theorem dX7_has_6 : decode cX7_has 6 = .ok (.iload_n 2, 1) := by decide +kernel
theorem dX7_has_7 : decode cX7_has 7 = .ok (.iload_n 1, 1) := by decide +kernel
theorem dX7_has_8 : decode cX7_has 8 = .ok (.if_icmp .le 10, 3) := by decide +kernel
theorem dX7_has_11 : decode cX7_has 11 = .ok (.iload_n 2, 1) := by decide +kernel
theorem dX7_has_12 : decode cX7_has 12 = .ok (.iconst 2, 1) := by decide +kernel
theorem dX7_has_13 : decode cX7_has 13 = .ok (.idiv, 1) := by decide +kernel
theorem dX7_has_14 : decode cX7_has 14 = .ok (.istore_n 2, 1) := by decide +kernel
theorem dX7_has_15 : decode cX7_has 15 = .ok (.goto (-9), 3) := by decide +kernel
theorem dX7_has_18 : decode cX7_has 18 = .ok (.iload_n 2, 1) := by decide +kernel
theorem dX7_has_19 : decode cX7_has 19 = .ok (.iload_n 1, 1) := by decide +kernel
theorem dX7_has_20 : decode cX7_has 20 = .ok (.if_icmp .ne 7, 3) := by decide +kernel
theorem dX7_has_23 : decode cX7_has 23 = .ok (.iconst 1, 1) := by decide +kernel
theorem dX7_has_24 : decode cX7_has 24 = .ok (.goto 4, 3) := by decide +kernel
theorem dX7_has_27 : decode cX7_has 27 = .ok (.iconst 0, 1) := by decide +kernel
theorem dX7_has_28 : decode cX7_has 28 = .ok (.ireturn, 1) := by decide +kernel
set_option maxRecDepth 20000 in
theorem ggX7_hopsIn_X7_has : GoodIn wsX7_hopsIn wsX7_has := goodIn_r _ [5] (by decide +kernel) (by decide +kernel)
set_option maxRecDepth 20000 in
theorem gX7_hopsIn_X7_has : GoodIn wsX7_hopsIn (va_wsS RX7 84 yX7_has wsX7_has) := goodIn_app (goodIn_of _ (by decide +kernel)) ggX7_hopsIn_X7_has
theorem dX7_hopsIn_0 : decode cX7_hopsIn 0 = .ok (.iconst 0, 1) := by decide +kernel
theorem dX7_hopsIn_1 : decode cX7_hopsIn 1 = .ok (.istore_n 2, 1) := by decide +kernel
theorem dX7_hopsIn_2 : decode cX7_hopsIn 2 = .ok (.iconst 0, 1) := by decide +kernel
theorem dX7_hopsIn_3 : decode cX7_hopsIn 3 = .ok (.istore_n 3, 1) := by decide +kernel
theorem dX7_hopsIn_4 : decode cX7_hopsIn 4 = .ok (.iload_n 3, 1) := by decide +kernel
theorem dX7_hopsIn_5 : decode cX7_hopsIn 5 = .ok (.sipush 256, 3) := by decide +kernel
theorem dX7_hopsIn_8 : decode cX7_hopsIn 8 = .ok (.if_icmp .ge 32, 3) := by decide +kernel
theorem dX7_hopsIn_11 : decode cX7_hopsIn 11 = .ok (.iload_n 2, 1) := by decide +kernel
theorem dX7_hopsIn_12 : decode cX7_hopsIn 12 = .ok (.iload_n 3, 1) := by decide +kernel
theorem dX7_hopsIn_13 : decode cX7_hopsIn 13 = .ok (.iload_n 1, 1) := by decide +kernel
theorem dX7_hopsIn_14 : decode cX7_hopsIn 14 = .ok (.invokestatic 84, 3) := by decide +kernel
theorem dX7_hopsIn_17 : decode cX7_hopsIn 17 = .ok (.ifCond .eq 14, 3) := by decide +kernel
theorem dX7_hopsIn_20 : decode cX7_hopsIn 20 = .ok (.iconst 1, 1) := by decide +kernel
theorem dX7_hopsIn_21 : decode cX7_hopsIn 21 = .ok (.aload_n 0, 1) := by decide +kernel
theorem dX7_hopsIn_22 : decode cX7_hopsIn 22 = .ok (.getfield 45, 3) := by decide +kernel
theorem dX7_hopsIn_25 : decode cX7_hopsIn 25 = .ok (.iload_n 3, 1) := by decide +kernel
theorem dX7_hopsIn_26 : decode cX7_hopsIn 26 = .ok (.iaload, 1) := by decide +kernel
theorem dX7_hopsIn_27 : decode cX7_hopsIn 27 = .ok (.ishl, 1) := by decide +kernel
theorem dX7_hopsIn_28 : decode cX7_hopsIn 28 = .ok (.goto 4, 3) := by decide +kernel
theorem dX7_hopsIn_31 : decode cX7_hopsIn 31 = .ok (.iconst 0, 1) := by decide +kernel
theorem dX7_hopsIn_32 : decode cX7_hopsIn 32 = .ok (.ior, 1) := by decide +kernel
theorem dX7_hopsIn_33 : decode cX7_hopsIn 33 = .ok (.istore_n 2, 1) := by decide +kernel
theorem dX7_hopsIn_34 : decode cX7_hopsIn 34 = .ok (.iinc 3 1, 3) := by decide +kernel
theorem dX7_hopsIn_37 : decode cX7_hopsIn 37 = .ok (.goto (-33), 3) := by decide +kernel
theorem dX7_hopsIn_40 : decode cX7_hopsIn 40 = .ok (.iload_n 2, 1) := by decide +kernel
theorem dX7_hopsIn_41 : decode cX7_hopsIn 41 = .ok (.ireturn, 1) := by decide +kernel
set_option maxRecDepth 20000 in
theorem ggX7_isRedundant_X7_hopBy : GoodIn wsX7_isRedundant wsX7_hopBy := goodIn_r _ [6, 7, 8, 5, 9] (by decide +kernel) (by decide +kernel)
set_option maxRecDepth 20000 in
theorem gX7_isRedundant_X7_hopBy : GoodIn wsX7_isRedundant (va_wsS RX7 72 yX7_hopBy wsX7_hopBy) := goodIn_app (goodIn_of _ (by decide +kernel)) ggX7_isRedundant_X7_hopBy
theorem dX7_isRedundant_0 : decode cX7_isRedundant 0 = .ok (.iconst 1, 1) := by decide +kernel
theorem dX7_isRedundant_1 : decode cX7_isRedundant 1 = .ok (.istore_n 2, 1) := by decide +kernel
theorem dX7_isRedundant_2 : decode cX7_isRedundant 2 = .ok (.iconst 0, 1) := by decide +kernel
theorem dX7_isRedundant_3 : decode cX7_isRedundant 3 = .ok (.istore_n 3, 1) := by decide +kernel
theorem dX7_isRedundant_4 : decode cX7_isRedundant 4 = .ok (.iload_n 3, 1) := by decide +kernel
theorem dX7_isRedundant_5 : decode cX7_isRedundant 5 = .ok (.sipush 256, 3) := by decide +kernel
theorem dX7_isRedundant_8 : decode cX7_isRedundant 8 = .ok (.if_icmp .ge 38, 3) := by decide +kernel
theorem dX7_isRedundant_11 : decode cX7_isRedundant 11 = .ok (.iload_n 2, 1) := by decide +kernel
theorem dX7_isRedundant_12 : decode cX7_isRedundant 12 = .ok (.ifCond .eq 34, 3) := by decide +kernel
theorem dX7_isRedundant_15 : decode cX7_isRedundant 15 = .ok (.aload_n 0, 1) := by decide +kernel
theorem dX7_isRedundant_16 : decode cX7_isRedundant 16 = .ok (.getfield 7, 3) := by decide +kernel
theorem dX7_isRedundant_19 : decode cX7_isRedundant 19 = .ok (.iconst 0, 1) := by decide +kernel
theorem dX7_isRedundant_20 : decode cX7_isRedundant 20 = .ok (.iload_n 3, 1) := by decide +kernel
theorem dX7_isRedundant_21 : decode cX7_isRedundant 21 = .ok (.iload_n 1, 1) := by decide +kernel
theorem dX7_isRedundant_22 : decode cX7_isRedundant 22 = .ok (.invokestatic 72, 3) := by decide +kernel
theorem dX7_isRedundant_25 : decode cX7_isRedundant 25 = .ok (.aload_n 0, 1) := by decide +kernel
theorem dX7_isRedundant_26 : decode cX7_isRedundant 26 = .ok (.getfield 45, 3) := by decide +kernel
theorem dX7_isRedundant_29 : decode cX7_isRedundant 29 = .ok (.iload_n 3, 1) := by decide +kernel
theorem dX7_isRedundant_30 : decode cX7_isRedundant 30 = .ok (.iaload, 1) := by decide +kernel
theorem dX7_isRedundant_31 : decode cX7_isRedundant 31 = .ok (.if_icmp .ne 7, 3) := by decide +kernel
theorem dX7_isRedundant_34 : decode cX7_isRedundant 34 = .ok (.iconst 1, 1) := by decide +kernel
theorem dX7_isRedundant_35 : decode cX7_isRedundant 35 = .ok (.goto 4, 3) := by decide +kernel
theorem dX7_isRedundant_38 : decode cX7_isRedundant 38 = .ok (.iconst 0, 1) := by decide +kernel
theorem dX7_isRedundant_39 : decode cX7_isRedundant 39 = .ok (.istore_n 2, 1) := by decide +kernel
theorem dX7_isRedundant_40 : decode cX7_isRedundant 40 = .ok (.iinc 3 1, 3) := by decide +kernel
theorem dX7_isRedundant_43 : decode cX7_isRedundant 43 = .ok (.goto (-39), 3) := by decide +kernel
theorem dX7_isRedundant_46 : decode cX7_isRedundant 46 = .ok (.iload_n 2, 1) := by decide +kernel
theorem dX7_isRedundant_47 : decode cX7_isRedundant 47 = .ok (.ireturn, 1) := by decide +kernel
theorem dX7_toldOf_0 : decode cX7_toldOf 0 = .ok (.iload_n 0, 1) := by decide +kernel
theorem dX7_toldOf_1 : decode cX7_toldOf 1 = .ok (.bipush 8, 2) := by decide +kernel
theorem dX7_toldOf_3 : decode cX7_toldOf 3 = .ok (.if_icmp .ne 8, 3) := by decide +kernel
theorem dX7_toldOf_6 : decode cX7_toldOf 6 = .ok (.bipush (-4), 2) := by decide +kernel
theorem dX7_toldOf_8 : decode cX7_toldOf 8 = .ok (.goto 4, 3) := by decide +kernel
theorem dX7_toldOf_11 : decode cX7_toldOf 11 = .ok (.iload_n 0, 1) := by decide +kernel
theorem dX7_toldOf_12 : decode cX7_toldOf 12 = .ok (.ireturn, 1) := by decide +kernel
set_option maxRecDepth 20000 in
theorem ggX7_look_X7_in : GoodIn wsX7_look wsX7_in := goodIn_r _ [9] (by decide +kernel) (by decide +kernel)
set_option maxRecDepth 20000 in
theorem gX7_look_X7_in : GoodIn wsX7_look (va_wsS RX7 90 yX7_in wsX7_in) := goodIn_app (goodIn_of _ (by decide +kernel)) ggX7_look_X7_in
set_option maxRecDepth 20000 in
theorem ggX7_look_X7_lays : GoodIn wsX7_look wsX7_lays := goodIn_r _ [13, 14, 15, 16, 8, 17, 3, 4, 18, 19, 20, 21, 22, 23, 24, 25, 26, 27, 28, 29, 30, 31, 32, 33, 34, 35, 36, 5, 37, 38, 39, 40, 41, 42, 43, 44, 45, 46, 47, 48, 49, 50, 51, 52, 53, 54, 55, 56, 57, 58, 59, 60, 61, 62] (by decide +kernel) (by decide +kernel)
set_option maxRecDepth 20000 in
theorem gX7_look_X7_lays : GoodIn wsX7_look (wsV RX7 96 RX7 yX7_lays wsX7_lays) := goodIn_app (goodIn_of _ (by decide +kernel)) ggX7_look_X7_lays
set_option maxRecDepth 20000 in
theorem ggX7_look_X7_decides : GoodIn wsX7_look wsX7_decides := goodIn_r _ [23] (by decide +kernel) (by decide +kernel)
set_option maxRecDepth 20000 in
theorem gX7_look_X7_decides : GoodIn wsX7_look (va_wsS RX7 57 yX7_decides wsX7_decides) := goodIn_app (goodIn_of _ (by decide +kernel)) ggX7_look_X7_decides
set_option maxRecDepth 20000 in
theorem ggX7_look_X7_hopBy : GoodIn wsX7_look wsX7_hopBy := goodIn_r _ [20, 21, 22, 8, 23] (by decide +kernel) (by decide +kernel)
set_option maxRecDepth 20000 in
theorem gX7_look_X7_hopBy : GoodIn wsX7_look (va_wsS RX7 72 yX7_hopBy wsX7_hopBy) := goodIn_app (goodIn_of _ (by decide +kernel)) ggX7_look_X7_hopBy
theorem dX7_look_0 : decode cX7_look 0 = .ok (.iload_n 1, 1) := by decide +kernel
theorem dX7_look_1 : decode cX7_look 1 = .ok (.i2l, 1) := by decide +kernel
theorem dX7_look_2 : decode cX7_look 2 = .ok (.lconst 0, 1) := by decide +kernel
theorem dX7_look_3 : decode cX7_look 3 = .ok (.ldc2_w 88, 3) := by decide +kernel
theorem dX7_look_6 : decode cX7_look 6 = .ok (.invokestatic 90, 3) := by decide +kernel
theorem dX7_look_9 : decode cX7_look 9 = .ok (.ifCond .eq 15, 3) := by decide +kernel
theorem dX7_look_12 : decode cX7_look 12 = .ok (.iload_n 2, 1) := by decide +kernel
theorem dX7_look_13 : decode cX7_look 13 = .ok (.i2l, 1) := by decide +kernel
theorem dX7_look_14 : decode cX7_look 14 = .ok (.lconst 0, 1) := by decide +kernel
theorem dX7_look_15 : decode cX7_look 15 = .ok (.ldc2_w 94, 3) := by decide +kernel
theorem dX7_look_18 : decode cX7_look 18 = .ok (.invokestatic 90, 3) := by decide +kernel
theorem dX7_look_21 : decode cX7_look 21 = .ok (.ifCond .ne 5, 3) := by decide +kernel
theorem dX7_look_24 : decode cX7_look 24 = .ok (.iconst (-1), 1) := by decide +kernel
theorem dX7_look_25 : decode cX7_look 25 = .ok (.ireturn, 1) := by decide +kernel
theorem dX7_look_26 : decode cX7_look 26 = .ok (.aload_n 0, 1) := by decide +kernel
theorem dX7_look_27 : decode cX7_look 27 = .ok (.invokevirtual 96, 3) := by decide +kernel
theorem dX7_look_30 : decode cX7_look 30 = .ok (.iload_n 2, 1) := by decide +kernel
theorem dX7_look_31 : decode cX7_look 31 = .ok (.tableswitch 54 0 2 #[25, 32, 43], 25) := by decide +kernel
theorem dX7_look_56 : decode cX7_look 56 = .ok (.aload_n 0, 1) := by decide +kernel
theorem dX7_look_57 : decode cX7_look 57 = .ok (.getfield 45, 3) := by decide +kernel
theorem dX7_look_60 : decode cX7_look 60 = .ok (.iload_n 1, 1) := by decide +kernel
theorem dX7_look_61 : decode cX7_look 61 = .ok (.iaload, 1) := by decide +kernel
theorem dX7_look_62 : decode cX7_look 62 = .ok (.ireturn, 1) := by decide +kernel
theorem dX7_look_63 : decode cX7_look 63 = .ok (.aload_n 0, 1) := by decide +kernel
theorem dX7_look_64 : decode cX7_look 64 = .ok (.getfield 7, 3) := by decide +kernel
theorem dX7_look_67 : decode cX7_look 67 = .ok (.iconst 0, 1) := by decide +kernel
theorem dX7_look_68 : decode cX7_look 68 = .ok (.iload_n 1, 1) := by decide +kernel
theorem dX7_look_69 : decode cX7_look 69 = .ok (.iconst 0, 1) := by decide +kernel
theorem dX7_look_70 : decode cX7_look 70 = .ok (.invokestatic 57, 3) := by decide +kernel
theorem dX7_look_73 : decode cX7_look 73 = .ok (.ireturn, 1) := by decide +kernel
theorem dX7_look_74 : decode cX7_look 74 = .ok (.aload_n 0, 1) := by decide +kernel
theorem dX7_look_75 : decode cX7_look 75 = .ok (.getfield 45, 3) := by decide +kernel
theorem dX7_look_78 : decode cX7_look 78 = .ok (.sipush 256, 3) := by decide +kernel
theorem dX7_look_81 : decode cX7_look 81 = .ok (.iload_n 1, 1) := by decide +kernel
theorem dX7_look_82 : decode cX7_look 82 = .ok (.iadd, 1) := by decide +kernel
theorem dX7_look_83 : decode cX7_look 83 = .ok (.iaload, 1) := by decide +kernel
theorem dX7_look_84 : decode cX7_look 84 = .ok (.ireturn, 1) := by decide +kernel
theorem dX7_look_85 : decode cX7_look 85 = .ok (.aload_n 0, 1) := by decide +kernel
theorem dX7_look_86 : decode cX7_look 86 = .ok (.getfield 39, 3) := by decide +kernel
theorem dX7_look_89 : decode cX7_look 89 = .ok (.iconst 0, 1) := by decide +kernel
theorem dX7_look_90 : decode cX7_look 90 = .ok (.iload_n 1, 1) := by decide +kernel
theorem dX7_look_91 : decode cX7_look 91 = .ok (.iconst 0, 1) := by decide +kernel
theorem dX7_look_92 : decode cX7_look 92 = .ok (.invokestatic 72, 3) := by decide +kernel
theorem dX7_look_95 : decode cX7_look 95 = .ok (.ireturn, 1) := by decide +kernel
set_option maxRecDepth 20000 in
theorem ggX7_isPrefix_X7_in : GoodIn wsX7_isPrefix wsX7_in := goodIn_r _ [5] (by decide +kernel) (by decide +kernel)
set_option maxRecDepth 20000 in
theorem gX7_isPrefix_X7_in : GoodIn wsX7_isPrefix (va_wsS RX7 90 yX7_in wsX7_in) := goodIn_app (goodIn_of _ (by decide +kernel)) ggX7_isPrefix_X7_in
theorem dX7_isPrefix_0 : decode cX7_isPrefix 0 = .ok (.iload_n 0, 1) := by decide +kernel
theorem dX7_isPrefix_1 : decode cX7_isPrefix 1 = .ok (.i2l, 1) := by decide +kernel
theorem dX7_isPrefix_2 : decode cX7_isPrefix 2 = .ok (.lconst 1, 1) := by decide +kernel
theorem dX7_isPrefix_3 : decode cX7_isPrefix 3 = .ok (.ldc2_w 99, 3) := by decide +kernel
theorem dX7_isPrefix_6 : decode cX7_isPrefix 6 = .ok (.invokestatic 90, 3) := by decide +kernel
theorem dX7_isPrefix_9 : decode cX7_isPrefix 9 = .ok (.ireturn, 1) := by decide +kernel
set_option maxRecDepth 20000 in
theorem ggX7_prefix_X7_isPrefix : GoodIn wsX7_prefix wsX7_isPrefix := goodIn_r _ [7, 8, 9, 10, 6, 11] (by decide +kernel) (by decide +kernel)
set_option maxRecDepth 20000 in
theorem gX7_prefix_X7_isPrefix : GoodIn wsX7_prefix (va_wsS RX7 101 yX7_isPrefix wsX7_isPrefix) := goodIn_app (goodIn_of _ (by decide +kernel)) ggX7_prefix_X7_isPrefix
set_option maxRecDepth 20000 in
theorem ggX7_prefix_X7_in : GoodIn wsX7_prefix wsX7_in := goodIn_r _ [11] (by decide +kernel) (by decide +kernel)
set_option maxRecDepth 20000 in
theorem gX7_prefix_X7_in : GoodIn wsX7_prefix (va_wsS RX7 90 yX7_in wsX7_in) := goodIn_app (goodIn_of _ (by decide +kernel)) ggX7_prefix_X7_in
set_option maxRecDepth 20000 in
theorem ggX7_prefix_X7_lays : GoodIn wsX7_prefix wsX7_lays := goodIn_r _ [15, 16, 17, 18, 6, 19, 20, 2, 21, 22, 23, 24, 25, 26, 27, 28, 29, 30, 31, 32, 33, 34, 35, 36, 37, 38, 39, 3, 40, 41, 42, 43, 44, 45, 46, 47, 62, 63, 64, 65, 66, 67, 68, 69, 70, 71, 72, 73, 74, 75, 76, 77, 78, 79] (by decide +kernel) (by decide +kernel)
set_option maxRecDepth 20000 in
theorem gX7_prefix_X7_lays : GoodIn wsX7_prefix (wsV RX7 96 RX7 yX7_lays wsX7_lays) := goodIn_app (goodIn_of _ (by decide +kernel)) ggX7_prefix_X7_lays
set_option maxRecDepth 20000 in
theorem ggX7_prefix_X7_toldOf : GoodIn wsX7_prefix wsX7_toldOf := goodIn_r _ [50] (by decide +kernel) (by decide +kernel)
set_option maxRecDepth 20000 in
theorem gX7_prefix_X7_toldOf : GoodIn wsX7_prefix (va_wsS RX7 107 yX7_toldOf wsX7_toldOf) := goodIn_app (goodIn_of _ (by decide +kernel)) ggX7_prefix_X7_toldOf
set_option maxRecDepth 20000 in
theorem ggX7_prefix_X7_setOf : GoodIn wsX7_prefix wsX7_setOf := goodIn_r _ [43, 31, 44, 45, 46, 6, 47, 32, 33, 34, 62, 63, 64, 65, 66, 67, 68, 69, 70, 71, 72, 73, 74, 75, 76, 77, 78, 79] (by decide +kernel) (by decide +kernel)
set_option maxRecDepth 20000 in
theorem gX7_prefix_X7_setOf : GoodIn wsX7_prefix (wsV RX7 69 RX7 yX7_setOf wsX7_setOf) := goodIn_app (goodIn_of _ (by decide +kernel)) ggX7_prefix_X7_setOf
set_option maxRecDepth 20000 in
theorem ggX7_prefix_X7_ease : GoodIn wsX7_prefix wsX7_ease := goodIn_r _ [47, 31, 32, 33, 6, 34, 62, 63, 64, 65, 66, 67, 68, 69, 70, 71, 72, 73, 74, 75, 76, 77, 78, 79] (by decide +kernel) (by decide +kernel)
set_option maxRecDepth 20000 in
theorem gX7_prefix_X7_ease : GoodIn wsX7_prefix (wsV RX7 65 RX7 yX7_ease wsX7_ease) := goodIn_app (goodIn_of _ (by decide +kernel)) ggX7_prefix_X7_ease
set_option maxRecDepth 20000 in
theorem ggX7_prefix_X7_hopsIn : GoodIn wsX7_prefix wsX7_hopsIn := goodIn_r _ [54, 20, 55, 56, 6, 57, 62, 63, 64, 65, 66, 67, 68, 69, 70, 71, 72, 73, 74, 75, 76, 77, 78, 79] (by decide +kernel) (by decide +kernel)
set_option maxRecDepth 20000 in
theorem gX7_prefix_X7_hopsIn : GoodIn wsX7_prefix (wsV RX7 110 RX7 yX7_hopsIn wsX7_hopsIn) := goodIn_app (goodIn_of _ (by decide +kernel)) ggX7_prefix_X7_hopsIn
set_option maxRecDepth 20000 in
theorem ggX7_prefix_X7_isRedundant : GoodIn wsX7_prefix wsX7_isRedundant := goodIn_r _ [61, 2, 20, 21, 22, 6, 23, 24, 25, 26, 62, 63, 64, 65, 66, 67, 68, 69, 70, 71, 72, 73, 74, 75, 76, 77, 78, 79] (by decide +kernel) (by decide +kernel)
set_option maxRecDepth 20000 in
theorem gX7_prefix_X7_isRedundant : GoodIn wsX7_prefix (wsV RX7 113 RX7 yX7_isRedundant wsX7_isRedundant) := goodIn_app (goodIn_of _ (by decide +kernel)) ggX7_prefix_X7_isRedundant
theorem dX7_prefix_0 : decode cX7_prefix 0 = .ok (.iload_n 1, 1) := by decide +kernel
theorem dX7_prefix_1 : decode cX7_prefix 1 = .ok (.invokestatic 101, 3) := by decide +kernel
theorem dX7_prefix_4 : decode cX7_prefix 4 = .ok (.ifCond .eq 15, 3) := by decide +kernel
theorem dX7_prefix_7 : decode cX7_prefix 7 = .ok (.iload_n 2, 1) := by decide +kernel
theorem dX7_prefix_8 : decode cX7_prefix 8 = .ok (.i2l, 1) := by decide +kernel
theorem dX7_prefix_9 : decode cX7_prefix 9 = .ok (.lconst 0, 1) := by decide +kernel
theorem dX7_prefix_10 : decode cX7_prefix 10 = .ok (.ldc2_w 105, 3) := by decide +kernel
theorem dX7_prefix_13 : decode cX7_prefix 13 = .ok (.invokestatic 90, 3) := by decide +kernel
theorem dX7_prefix_16 : decode cX7_prefix 16 = .ok (.ifCond .ne 5, 3) := by decide +kernel
theorem dX7_prefix_19 : decode cX7_prefix 19 = .ok (.iconst (-1), 1) := by decide +kernel
theorem dX7_prefix_20 : decode cX7_prefix 20 = .ok (.ireturn, 1) := by decide +kernel
theorem dX7_prefix_21 : decode cX7_prefix 21 = .ok (.aload_n 0, 1) := by decide +kernel
theorem dX7_prefix_22 : decode cX7_prefix 22 = .ok (.invokevirtual 96, 3) := by decide +kernel
theorem dX7_prefix_25 : decode cX7_prefix 25 = .ok (.iload_n 2, 1) := by decide +kernel
theorem dX7_prefix_26 : decode cX7_prefix 26 = .ok (.tableswitch 82 0 5 #[38, 38, 54, 64, 70, 76], 38) := by decide +kernel
theorem dX7_prefix_64 : decode cX7_prefix 64 = .ok (.aload_n 0, 1) := by decide +kernel
theorem dX7_prefix_65 : decode cX7_prefix 65 = .ok (.getfield 7, 3) := by decide +kernel
theorem dX7_prefix_68 : decode cX7_prefix 68 = .ok (.sipush 512, 3) := by decide +kernel
theorem dX7_prefix_71 : decode cX7_prefix 71 = .ok (.iload_n 2, 1) := by decide +kernel
theorem dX7_prefix_72 : decode cX7_prefix 72 = .ok (.imul, 1) := by decide +kernel
theorem dX7_prefix_73 : decode cX7_prefix 73 = .ok (.iload_n 1, 1) := by decide +kernel
theorem dX7_prefix_74 : decode cX7_prefix 74 = .ok (.iadd, 1) := by decide +kernel
theorem dX7_prefix_75 : decode cX7_prefix 75 = .ok (.iaload, 1) := by decide +kernel
theorem dX7_prefix_76 : decode cX7_prefix 76 = .ok (.invokestatic 107, 3) := by decide +kernel
theorem dX7_prefix_79 : decode cX7_prefix 79 = .ok (.ireturn, 1) := by decide +kernel
theorem dX7_prefix_80 : decode cX7_prefix 80 = .ok (.aload_n 0, 1) := by decide +kernel
theorem dX7_prefix_81 : decode cX7_prefix 81 = .ok (.getfield 39, 3) := by decide +kernel
theorem dX7_prefix_84 : decode cX7_prefix 84 = .ok (.iload_n 1, 1) := by decide +kernel
theorem dX7_prefix_85 : decode cX7_prefix 85 = .ok (.iaload, 1) := by decide +kernel
theorem dX7_prefix_86 : decode cX7_prefix 86 = .ok (.invokestatic 107, 3) := by decide +kernel
theorem dX7_prefix_89 : decode cX7_prefix 89 = .ok (.ireturn, 1) := by decide +kernel
theorem dX7_prefix_90 : decode cX7_prefix 90 = .ok (.aload_n 0, 1) := by decide +kernel
theorem dX7_prefix_91 : decode cX7_prefix 91 = .ok (.iload_n 1, 1) := by decide +kernel
theorem dX7_prefix_92 : decode cX7_prefix 92 = .ok (.invokevirtual 69, 3) := by decide +kernel
theorem dX7_prefix_95 : decode cX7_prefix 95 = .ok (.ireturn, 1) := by decide +kernel
theorem dX7_prefix_96 : decode cX7_prefix 96 = .ok (.aload_n 0, 1) := by decide +kernel
theorem dX7_prefix_97 : decode cX7_prefix 97 = .ok (.iload_n 1, 1) := by decide +kernel
theorem dX7_prefix_98 : decode cX7_prefix 98 = .ok (.invokevirtual 65, 3) := by decide +kernel
theorem dX7_prefix_101 : decode cX7_prefix 101 = .ok (.ireturn, 1) := by decide +kernel
theorem dX7_prefix_102 : decode cX7_prefix 102 = .ok (.aload_n 0, 1) := by decide +kernel
theorem dX7_prefix_103 : decode cX7_prefix 103 = .ok (.iload_n 1, 1) := by decide +kernel
theorem dX7_prefix_104 : decode cX7_prefix 104 = .ok (.invokevirtual 110, 3) := by decide +kernel
theorem dX7_prefix_107 : decode cX7_prefix 107 = .ok (.ireturn, 1) := by decide +kernel
theorem dX7_prefix_108 : decode cX7_prefix 108 = .ok (.aload_n 0, 1) := by decide +kernel
theorem dX7_prefix_109 : decode cX7_prefix 109 = .ok (.getfield 7, 3) := by decide +kernel
theorem dX7_prefix_112 : decode cX7_prefix 112 = .ok (.iconst 0, 1) := by decide +kernel
theorem dX7_prefix_113 : decode cX7_prefix 113 = .ok (.iload_n 1, 1) := by decide +kernel
theorem dX7_prefix_114 : decode cX7_prefix 114 = .ok (.iadd, 1) := by decide +kernel
theorem dX7_prefix_115 : decode cX7_prefix 115 = .ok (.iaload, 1) := by decide +kernel
theorem dX7_prefix_116 : decode cX7_prefix 116 = .ok (.bipush 8, 2) := by decide +kernel
theorem dX7_prefix_118 : decode cX7_prefix 118 = .ok (.if_icmp .ne 8, 3) := by decide +kernel
theorem dX7_prefix_121 : decode cX7_prefix 121 = .ok (.bipush (-4), 2) := by decide +kernel
theorem dX7_prefix_123 : decode cX7_prefix 123 = .ok (.goto 16, 3) := by decide +kernel
theorem dX7_prefix_126 : decode cX7_prefix 126 = .ok (.aload_n 0, 1) := by decide +kernel
theorem dX7_prefix_127 : decode cX7_prefix 127 = .ok (.iload_n 1, 1) := by decide +kernel
theorem dX7_prefix_128 : decode cX7_prefix 128 = .ok (.invokevirtual 113, 3) := by decide +kernel
theorem dX7_prefix_131 : decode cX7_prefix 131 = .ok (.ifCond .eq 7, 3) := by decide +kernel
theorem dX7_prefix_134 : decode cX7_prefix 134 = .ok (.iconst 1, 1) := by decide +kernel
theorem dX7_prefix_135 : decode cX7_prefix 135 = .ok (.goto 4, 3) := by decide +kernel
theorem dX7_prefix_138 : decode cX7_prefix 138 = .ok (.iconst 0, 1) := by decide +kernel
theorem dX7_prefix_139 : decode cX7_prefix 139 = .ok (.ireturn, 1) := by decide +kernel
set_option maxRecDepth 20000 in
theorem ggX7_cost_X7_isPrefix : GoodIn wsX7_cost wsX7_isPrefix := goodIn_r _ [6, 7, 8, 9, 5, 10] (by decide +kernel) (by decide +kernel)
set_option maxRecDepth 20000 in
theorem gX7_cost_X7_isPrefix : GoodIn wsX7_cost (va_wsS RX7 101 yX7_isPrefix wsX7_isPrefix) := goodIn_app (goodIn_of _ (by decide +kernel)) ggX7_cost_X7_isPrefix
set_option maxRecDepth 20000 in
theorem ggX7_cost_X7_in : GoodIn wsX7_cost wsX7_in := goodIn_r _ [10] (by decide +kernel) (by decide +kernel)
set_option maxRecDepth 20000 in
theorem gX7_cost_X7_in : GoodIn wsX7_cost (va_wsS RX7 90 yX7_in wsX7_in) := goodIn_app (goodIn_of _ (by decide +kernel)) ggX7_cost_X7_in
set_option maxRecDepth 20000 in
theorem ggX7_cost_X7_lays : GoodIn wsX7_cost wsX7_lays := goodIn_r _ [14, 15, 16, 17, 5, 18, 19, 20, 21, 22, 23, 24, 25, 26, 27, 28, 29, 30, 2, 31, 32, 33, 34, 35, 36, 37, 38, 39, 40, 41, 42, 43, 44, 45, 46, 47, 48, 49, 50, 51, 52, 53, 54, 55, 56, 57, 58, 59, 60, 61, 62, 63, 64, 65] (by decide +kernel) (by decide +kernel)
set_option maxRecDepth 20000 in
theorem gX7_cost_X7_lays : GoodIn wsX7_cost (wsV RX7 96 RX7 yX7_lays wsX7_lays) := goodIn_app (goodIn_of _ (by decide +kernel)) ggX7_cost_X7_lays
theorem dX7_cost_0 : decode cX7_cost 0 = .ok (.iload_n 1, 1) := by decide +kernel
theorem dX7_cost_1 : decode cX7_cost 1 = .ok (.invokestatic 101, 3) := by decide +kernel
theorem dX7_cost_4 : decode cX7_cost 4 = .ok (.ifCond .eq 15, 3) := by decide +kernel
theorem dX7_cost_7 : decode cX7_cost 7 = .ok (.iload_n 2, 1) := by decide +kernel
theorem dX7_cost_8 : decode cX7_cost 8 = .ok (.i2l, 1) := by decide +kernel
theorem dX7_cost_9 : decode cX7_cost 9 = .ok (.lconst 0, 1) := by decide +kernel
theorem dX7_cost_10 : decode cX7_cost 10 = .ok (.ldc2_w 116, 3) := by decide +kernel
theorem dX7_cost_13 : decode cX7_cost 13 = .ok (.invokestatic 90, 3) := by decide +kernel
theorem dX7_cost_16 : decode cX7_cost 16 = .ok (.ifCond .ne 5, 3) := by decide +kernel
theorem dX7_cost_19 : decode cX7_cost 19 = .ok (.iconst (-1), 1) := by decide +kernel
theorem dX7_cost_20 : decode cX7_cost 20 = .ok (.ireturn, 1) := by decide +kernel
theorem dX7_cost_21 : decode cX7_cost 21 = .ok (.aload_n 0, 1) := by decide +kernel
theorem dX7_cost_22 : decode cX7_cost 22 = .ok (.invokevirtual 96, 3) := by decide +kernel
theorem dX7_cost_25 : decode cX7_cost 25 = .ok (.aload_n 0, 1) := by decide +kernel
theorem dX7_cost_26 : decode cX7_cost 26 = .ok (.getfield 42, 3) := by decide +kernel
theorem dX7_cost_29 : decode cX7_cost 29 = .ok (.bipush 8, 2) := by decide +kernel
theorem dX7_cost_31 : decode cX7_cost 31 = .ok (.iload_n 1, 1) := by decide +kernel
theorem dX7_cost_32 : decode cX7_cost 32 = .ok (.imul, 1) := by decide +kernel
theorem dX7_cost_33 : decode cX7_cost 33 = .ok (.iload_n 2, 1) := by decide +kernel
theorem dX7_cost_34 : decode cX7_cost 34 = .ok (.iadd, 1) := by decide +kernel
theorem dX7_cost_35 : decode cX7_cost 35 = .ok (.iaload, 1) := by decide +kernel
theorem dX7_cost_36 : decode cX7_cost 36 = .ok (.ireturn, 1) := by decide +kernel
theorem dX7_many_0 : decode cX7_many 0 = .ok (.iconst 0, 1) := by decide +kernel
theorem dX7_many_1 : decode cX7_many 1 = .ok (.istore_n 2, 1) := by decide +kernel
theorem dX7_many_2 : decode cX7_many 2 = .ok (.iconst 1, 1) := by decide +kernel
theorem dX7_many_3 : decode cX7_many 3 = .ok (.istore_n 3, 1) := by decide +kernel
theorem dX7_many_4 : decode cX7_many 4 = .ok (.iload_n 3, 1) := by decide +kernel
theorem dX7_many_5 : decode cX7_many 5 = .ok (.sipush 512, 3) := by decide +kernel
theorem dX7_many_8 : decode cX7_many 8 = .ok (.if_icmp .ge 27, 3) := by decide +kernel
theorem dX7_many_11 : decode cX7_many 11 = .ok (.iload_n 2, 1) := by decide +kernel
theorem dX7_many_12 : decode cX7_many 12 = .ok (.aload_n 0, 1) := by decide +kernel
theorem dX7_many_13 : decode cX7_many 13 = .ok (.iload_n 1, 1) := by decide +kernel
theorem dX7_many_14 : decode cX7_many 14 = .ok (.iload_n 3, 1) := by decide +kernel
theorem dX7_many_15 : decode cX7_many 15 = .ok (.iadd, 1) := by decide +kernel
theorem dX7_many_16 : decode cX7_many 16 = .ok (.iaload, 1) := by decide +kernel
theorem dX7_many_17 : decode cX7_many 17 = .ok (.bipush 8, 2) := by decide +kernel
theorem dX7_many_19 : decode cX7_many 19 = .ok (.if_icmp .ne 7, 3) := by decide +kernel
theorem dX7_many_22 : decode cX7_many 22 = .ok (.iconst 0, 1) := by decide +kernel
theorem dX7_many_23 : decode cX7_many 23 = .ok (.goto 4, 3) := by decide +kernel
theorem dX7_many_26 : decode cX7_many 26 = .ok (.iconst 1, 1) := by decide +kernel
theorem dX7_many_27 : decode cX7_many 27 = .ok (.iadd, 1) := by decide +kernel
theorem dX7_many_28 : decode cX7_many 28 = .ok (.istore_n 2, 1) := by decide +kernel
theorem dX7_many_29 : decode cX7_many 29 = .ok (.iinc 3 1, 3) := by decide +kernel
theorem dX7_many_32 : decode cX7_many 32 = .ok (.goto (-28), 3) := by decide +kernel
theorem dX7_many_35 : decode cX7_many 35 = .ok (.iload_n 2, 1) := by decide +kernel
theorem dX7_many_36 : decode cX7_many 36 = .ok (.ireturn, 1) := by decide +kernel
theorem dX7_leastAt_0 : decode cX7_leastAt 0 = .ok (.iload_n 1, 1) := by decide +kernel
theorem dX7_leastAt_1 : decode cX7_leastAt 1 = .ok (.istore_n 2, 1) := by decide +kernel
theorem dX7_leastAt_2 : decode cX7_leastAt 2 = .ok (.iconst 1, 1) := by decide +kernel
theorem dX7_leastAt_3 : decode cX7_leastAt 3 = .ok (.istore_n 3, 1) := by decide +kernel
theorem dX7_leastAt_4 : decode cX7_leastAt 4 = .ok (.iload_n 3, 1) := by decide +kernel
theorem dX7_leastAt_5 : decode cX7_leastAt 5 = .ok (.sipush 512, 3) := by decide +kernel
theorem dX7_leastAt_8 : decode cX7_leastAt 8 = .ok (.if_icmp .ge 29, 3) := by decide +kernel
theorem dX7_leastAt_11 : decode cX7_leastAt 11 = .ok (.aload_n 0, 1) := by decide +kernel
theorem dX7_leastAt_12 : decode cX7_leastAt 12 = .ok (.getfield 39, 3) := by decide +kernel
theorem dX7_leastAt_15 : decode cX7_leastAt 15 = .ok (.iload_n 3, 1) := by decide +kernel
theorem dX7_leastAt_16 : decode cX7_leastAt 16 = .ok (.iaload, 1) := by decide +kernel
theorem dX7_leastAt_17 : decode cX7_leastAt 17 = .ok (.bipush 8, 2) := by decide +kernel
theorem dX7_leastAt_19 : decode cX7_leastAt 19 = .ok (.if_icmp .eq 12, 3) := by decide +kernel
theorem dX7_leastAt_22 : decode cX7_leastAt 22 = .ok (.iload_n 2, 1) := by decide +kernel
theorem dX7_leastAt_23 : decode cX7_leastAt 23 = .ok (.ifCond .ne 5, 3) := by decide +kernel
theorem dX7_leastAt_26 : decode cX7_leastAt 26 = .ok (.iload_n 3, 1) := by decide +kernel
theorem dX7_leastAt_27 : decode cX7_leastAt 27 = .ok (.ireturn, 1) := by decide +kernel
theorem dX7_leastAt_28 : decode cX7_leastAt 28 = .ok (.iinc 2 (-1), 3) := by decide +kernel
theorem dX7_leastAt_31 : decode cX7_leastAt 31 = .ok (.iinc 3 1, 3) := by decide +kernel
theorem dX7_leastAt_34 : decode cX7_leastAt 34 = .ok (.goto (-30), 3) := by decide +kernel
theorem dX7_leastAt_37 : decode cX7_leastAt 37 = .ok (.bipush (-4), 2) := by decide +kernel
theorem dX7_leastAt_39 : decode cX7_leastAt 39 = .ok (.ireturn, 1) := by decide +kernel
set_option maxRecDepth 20000 in
theorem ggX7_least_X7_in : GoodIn wsX7_least wsX7_in := goodIn_r _ [5] (by decide +kernel) (by decide +kernel)
set_option maxRecDepth 20000 in
theorem gX7_least_X7_in : GoodIn wsX7_least (va_wsS RX7 90 yX7_in wsX7_in) := goodIn_app (goodIn_of _ (by decide +kernel)) ggX7_least_X7_in
set_option maxRecDepth 20000 in
theorem ggX7_least_X7_lays : GoodIn wsX7_least wsX7_lays := goodIn_r _ [9, 10, 11, 12, 4, 13, 14, 15, 16, 17, 18, 19, 20, 21, 22, 23, 24, 25, 26, 27, 28, 29, 30, 31, 32, 33, 34, 1, 35, 36, 37, 38, 39, 40, 41, 42, 47, 48, 49, 50, 51, 52, 53, 54, 55, 56, 57, 58, 59, 60, 61, 62, 63, 64] (by decide +kernel) (by decide +kernel)
set_option maxRecDepth 20000 in
theorem gX7_least_X7_lays : GoodIn wsX7_least (wsV RX7 96 RX7 yX7_lays wsX7_lays) := goodIn_app (goodIn_of _ (by decide +kernel)) ggX7_least_X7_lays
set_option maxRecDepth 20000 in
theorem ggX7_least_X7_leastAt : GoodIn wsX7_least wsX7_leastAt := goodIn_r _ [46, 1, 47, 48, 49, 50, 51, 52, 53, 54, 55, 56, 57, 58, 59, 60, 61, 62, 63, 64] (by decide +kernel) (by decide +kernel)
set_option maxRecDepth 20000 in
theorem gX7_least_X7_leastAt : GoodIn wsX7_least (wsV RX7 118 RX7 yX7_leastAt wsX7_leastAt) := goodIn_app (goodIn_of _ (by decide +kernel)) ggX7_least_X7_leastAt
theorem dX7_least_0 : decode cX7_least 0 = .ok (.iload_n 1, 1) := by decide +kernel
theorem dX7_least_1 : decode cX7_least 1 = .ok (.ifCond .lt 13, 3) := by decide +kernel
theorem dX7_least_4 : decode cX7_least 4 = .ok (.iload_n 2, 1) := by decide +kernel
theorem dX7_least_5 : decode cX7_least 5 = .ok (.i2l, 1) := by decide +kernel
theorem dX7_least_6 : decode cX7_least 6 = .ok (.lconst 0, 1) := by decide +kernel
theorem dX7_least_7 : decode cX7_least 7 = .ok (.lconst 1, 1) := by decide +kernel
theorem dX7_least_8 : decode cX7_least 8 = .ok (.invokestatic 90, 3) := by decide +kernel
theorem dX7_least_11 : decode cX7_least 11 = .ok (.ifCond .ne 5, 3) := by decide +kernel
theorem dX7_least_14 : decode cX7_least 14 = .ok (.iconst (-1), 1) := by decide +kernel
theorem dX7_least_15 : decode cX7_least 15 = .ok (.ireturn, 1) := by decide +kernel
theorem dX7_least_16 : decode cX7_least 16 = .ok (.aload_n 0, 1) := by decide +kernel
theorem dX7_least_17 : decode cX7_least 17 = .ok (.invokevirtual 96, 3) := by decide +kernel
theorem dX7_least_20 : decode cX7_least 20 = .ok (.aload_n 0, 1) := by decide +kernel
theorem dX7_least_21 : decode cX7_least 21 = .ok (.iload_n 1, 1) := by decide +kernel
theorem dX7_least_22 : decode cX7_least 22 = .ok (.invokevirtual 118, 3) := by decide +kernel
theorem dX7_least_25 : decode cX7_least 25 = .ok (.istore_n 3, 1) := by decide +kernel
theorem dX7_least_26 : decode cX7_least 26 = .ok (.iload_n 3, 1) := by decide +kernel
theorem dX7_least_27 : decode cX7_least 27 = .ok (.bipush (-4), 2) := by decide +kernel
theorem dX7_least_29 : decode cX7_least 29 = .ok (.if_icmp .eq 7, 3) := by decide +kernel
theorem dX7_least_32 : decode cX7_least 32 = .ok (.iload_n 2, 1) := by decide +kernel
theorem dX7_least_33 : decode cX7_least 33 = .ok (.ifCond .ne 7, 3) := by decide +kernel
theorem dX7_least_36 : decode cX7_least 36 = .ok (.iload_n 3, 1) := by decide +kernel
theorem dX7_least_37 : decode cX7_least 37 = .ok (.goto 9, 3) := by decide +kernel
theorem dX7_least_40 : decode cX7_least 40 = .ok (.aload_n 0, 1) := by decide +kernel
theorem dX7_least_41 : decode cX7_least 41 = .ok (.getfield 39, 3) := by decide +kernel
theorem dX7_least_44 : decode cX7_least 44 = .ok (.iload_n 3, 1) := by decide +kernel
theorem dX7_least_45 : decode cX7_least 45 = .ok (.iaload, 1) := by decide +kernel
theorem dX7_least_46 : decode cX7_least 46 = .ok (.ireturn, 1) := by decide +kernel
theorem dX7_changeAt_0 : decode cX7_changeAt 0 = .ok (.iload_n 1, 1) := by decide +kernel
theorem dX7_changeAt_1 : decode cX7_changeAt 1 = .ok (.istore_n 2, 1) := by decide +kernel
theorem dX7_changeAt_2 : decode cX7_changeAt 2 = .ok (.iconst 1, 1) := by decide +kernel
theorem dX7_changeAt_3 : decode cX7_changeAt 3 = .ok (.istore_n 3, 1) := by decide +kernel
theorem dX7_changeAt_4 : decode cX7_changeAt 4 = .ok (.iload_n 3, 1) := by decide +kernel
theorem dX7_changeAt_5 : decode cX7_changeAt 5 = .ok (.sipush 512, 3) := by decide +kernel
theorem dX7_changeAt_8 : decode cX7_changeAt 8 = .ok (.if_icmp .ge 37, 3) := by decide +kernel
theorem dX7_changeAt_11 : decode cX7_changeAt 11 = .ok (.aload_n 0, 1) := by decide +kernel
theorem dX7_changeAt_12 : decode cX7_changeAt 12 = .ok (.getfield 39, 3) := by decide +kernel
theorem dX7_changeAt_15 : decode cX7_changeAt 15 = .ok (.iload_n 3, 1) := by decide +kernel
theorem dX7_changeAt_16 : decode cX7_changeAt 16 = .ok (.iaload, 1) := by decide +kernel
theorem dX7_changeAt_17 : decode cX7_changeAt 17 = .ok (.aload_n 0, 1) := by decide +kernel
theorem dX7_changeAt_18 : decode cX7_changeAt 18 = .ok (.getfield 7, 3) := by decide +kernel
theorem dX7_changeAt_21 : decode cX7_changeAt 21 = .ok (.sipush 512, 3) := by decide +kernel
theorem dX7_changeAt_24 : decode cX7_changeAt 24 = .ok (.iload_n 3, 1) := by decide +kernel
theorem dX7_changeAt_25 : decode cX7_changeAt 25 = .ok (.iadd, 1) := by decide +kernel
theorem dX7_changeAt_26 : decode cX7_changeAt 26 = .ok (.iaload, 1) := by decide +kernel
theorem dX7_changeAt_27 : decode cX7_changeAt 27 = .ok (.if_icmp .eq 12, 3) := by decide +kernel
theorem dX7_changeAt_30 : decode cX7_changeAt 30 = .ok (.iload_n 2, 1) := by decide +kernel
theorem dX7_changeAt_31 : decode cX7_changeAt 31 = .ok (.ifCond .ne 5, 3) := by decide +kernel
theorem dX7_changeAt_34 : decode cX7_changeAt 34 = .ok (.iload_n 3, 1) := by decide +kernel
theorem dX7_changeAt_35 : decode cX7_changeAt 35 = .ok (.ireturn, 1) := by decide +kernel
theorem dX7_changeAt_36 : decode cX7_changeAt 36 = .ok (.iinc 2 (-1), 3) := by decide +kernel
theorem dX7_changeAt_39 : decode cX7_changeAt 39 = .ok (.iinc 3 1, 3) := by decide +kernel
theorem dX7_changeAt_42 : decode cX7_changeAt 42 = .ok (.goto (-38), 3) := by decide +kernel
theorem dX7_changeAt_45 : decode cX7_changeAt 45 = .ok (.bipush (-4), 2) := by decide +kernel
theorem dX7_changeAt_47 : decode cX7_changeAt 47 = .ok (.ireturn, 1) := by decide +kernel
theorem dX7_changes_0 : decode cX7_changes 0 = .ok (.iconst 0, 1) := by decide +kernel
theorem dX7_changes_1 : decode cX7_changes 1 = .ok (.istore_n 1, 1) := by decide +kernel
theorem dX7_changes_2 : decode cX7_changes 2 = .ok (.iconst 1, 1) := by decide +kernel
theorem dX7_changes_3 : decode cX7_changes 3 = .ok (.istore_n 2, 1) := by decide +kernel
theorem dX7_changes_4 : decode cX7_changes 4 = .ok (.iload_n 2, 1) := by decide +kernel
theorem dX7_changes_5 : decode cX7_changes 5 = .ok (.sipush 512, 3) := by decide +kernel
theorem dX7_changes_8 : decode cX7_changes 8 = .ok (.if_icmp .ge 36, 3) := by decide +kernel
theorem dX7_changes_11 : decode cX7_changes 11 = .ok (.iload_n 1, 1) := by decide +kernel
theorem dX7_changes_12 : decode cX7_changes 12 = .ok (.aload_n 0, 1) := by decide +kernel
theorem dX7_changes_13 : decode cX7_changes 13 = .ok (.getfield 39, 3) := by decide +kernel
theorem dX7_changes_16 : decode cX7_changes 16 = .ok (.iload_n 2, 1) := by decide +kernel
theorem dX7_changes_17 : decode cX7_changes 17 = .ok (.iaload, 1) := by decide +kernel
theorem dX7_changes_18 : decode cX7_changes 18 = .ok (.aload_n 0, 1) := by decide +kernel
theorem dX7_changes_19 : decode cX7_changes 19 = .ok (.getfield 7, 3) := by decide +kernel
theorem dX7_changes_22 : decode cX7_changes 22 = .ok (.sipush 512, 3) := by decide +kernel
theorem dX7_changes_25 : decode cX7_changes 25 = .ok (.iload_n 2, 1) := by decide +kernel
theorem dX7_changes_26 : decode cX7_changes 26 = .ok (.iadd, 1) := by decide +kernel
theorem dX7_changes_27 : decode cX7_changes 27 = .ok (.iaload, 1) := by decide +kernel
theorem dX7_changes_28 : decode cX7_changes 28 = .ok (.if_icmp .eq 7, 3) := by decide +kernel
theorem dX7_changes_31 : decode cX7_changes 31 = .ok (.iconst 1, 1) := by decide +kernel
theorem dX7_changes_32 : decode cX7_changes 32 = .ok (.goto 4, 3) := by decide +kernel
theorem dX7_changes_35 : decode cX7_changes 35 = .ok (.iconst 0, 1) := by decide +kernel
theorem dX7_changes_36 : decode cX7_changes 36 = .ok (.iadd, 1) := by decide +kernel
theorem dX7_changes_37 : decode cX7_changes 37 = .ok (.istore_n 1, 1) := by decide +kernel
theorem dX7_changes_38 : decode cX7_changes 38 = .ok (.iinc 2 1, 3) := by decide +kernel
theorem dX7_changes_41 : decode cX7_changes 41 = .ok (.goto (-37), 3) := by decide +kernel
theorem dX7_changes_44 : decode cX7_changes 44 = .ok (.iload_n 1, 1) := by decide +kernel
theorem dX7_changes_45 : decode cX7_changes 45 = .ok (.ireturn, 1) := by decide +kernel
set_option maxRecDepth 20000 in
theorem ggX7_change_X7_in : GoodIn wsX7_change wsX7_in := goodIn_r _ [7] (by decide +kernel) (by decide +kernel)
set_option maxRecDepth 20000 in
theorem gX7_change_X7_in : GoodIn wsX7_change (va_wsS RX7 90 yX7_in wsX7_in) := goodIn_app (goodIn_of _ (by decide +kernel)) ggX7_change_X7_in
set_option maxRecDepth 20000 in
theorem ggX7_change_X7_lays : GoodIn wsX7_change wsX7_lays := goodIn_r _ [11, 12, 13, 14, 6, 15, 16, 2, 17, 18, 19, 20, 21, 22, 23, 24, 25, 26, 27, 28, 29, 30, 31, 32, 33, 34, 35, 3, 36, 37, 38, 39, 40, 41, 42, 43, 51, 52, 53, 54, 55, 56, 57, 58, 59, 60, 61, 62, 63, 64, 65, 66, 67, 68] (by decide +kernel) (by decide +kernel)
set_option maxRecDepth 20000 in
theorem gX7_change_X7_lays : GoodIn wsX7_change (wsV RX7 96 RX7 yX7_lays wsX7_lays) := goodIn_app (goodIn_of _ (by decide +kernel)) ggX7_change_X7_lays
set_option maxRecDepth 20000 in
theorem ggX7_change_X7_changeAt : GoodIn wsX7_change wsX7_changeAt := goodIn_r _ [47, 3, 2, 51, 52, 53, 54, 55, 56, 57, 58, 59, 60, 61, 62, 63, 64, 65, 66, 67, 68] (by decide +kernel) (by decide +kernel)
set_option maxRecDepth 20000 in
theorem gX7_change_X7_changeAt : GoodIn wsX7_change (wsV RX7 121 RX7 yX7_changeAt wsX7_changeAt) := goodIn_app (goodIn_of _ (by decide +kernel)) ggX7_change_X7_changeAt
set_option maxRecDepth 20000 in
theorem ggX7_change_X7_toldOf : GoodIn wsX7_change wsX7_toldOf := goodIn_r _ [50] (by decide +kernel) (by decide +kernel)
set_option maxRecDepth 20000 in
theorem gX7_change_X7_toldOf : GoodIn wsX7_change (va_wsS RX7 107 yX7_toldOf wsX7_toldOf) := goodIn_app (goodIn_of _ (by decide +kernel)) ggX7_change_X7_toldOf
theorem dX7_change_0 : decode cX7_change 0 = .ok (.iload_n 1, 1) := by decide +kernel
theorem dX7_change_1 : decode cX7_change 1 = .ok (.ifCond .lt 15, 3) := by decide +kernel
theorem dX7_change_4 : decode cX7_change 4 = .ok (.iload_n 2, 1) := by decide +kernel
theorem dX7_change_5 : decode cX7_change 5 = .ok (.i2l, 1) := by decide +kernel
theorem dX7_change_6 : decode cX7_change 6 = .ok (.lconst 0, 1) := by decide +kernel
theorem dX7_change_7 : decode cX7_change 7 = .ok (.ldc2_w 94, 3) := by decide +kernel
theorem dX7_change_10 : decode cX7_change 10 = .ok (.invokestatic 90, 3) := by decide +kernel
theorem dX7_change_13 : decode cX7_change 13 = .ok (.ifCond .ne 5, 3) := by decide +kernel
theorem dX7_change_16 : decode cX7_change 16 = .ok (.iconst (-1), 1) := by decide +kernel
theorem dX7_change_17 : decode cX7_change 17 = .ok (.ireturn, 1) := by decide +kernel
theorem dX7_change_18 : decode cX7_change 18 = .ok (.aload_n 0, 1) := by decide +kernel
theorem dX7_change_19 : decode cX7_change 19 = .ok (.invokevirtual 96, 3) := by decide +kernel
theorem dX7_change_22 : decode cX7_change 22 = .ok (.aload_n 0, 1) := by decide +kernel
theorem dX7_change_23 : decode cX7_change 23 = .ok (.iload_n 1, 1) := by decide +kernel
theorem dX7_change_24 : decode cX7_change 24 = .ok (.invokevirtual 121, 3) := by decide +kernel
theorem dX7_change_27 : decode cX7_change 27 = .ok (.istore_n 3, 1) := by decide +kernel
theorem dX7_change_28 : decode cX7_change 28 = .ok (.iload_n 3, 1) := by decide +kernel
theorem dX7_change_29 : decode cX7_change 29 = .ok (.bipush (-4), 2) := by decide +kernel
theorem dX7_change_31 : decode cX7_change 31 = .ok (.if_icmp .ne 6, 3) := by decide +kernel
theorem dX7_change_34 : decode cX7_change 34 = .ok (.bipush (-4), 2) := by decide +kernel
theorem dX7_change_36 : decode cX7_change 36 = .ok (.ireturn, 1) := by decide +kernel
theorem dX7_change_37 : decode cX7_change 37 = .ok (.aload_n 0, 1) := by decide +kernel
theorem dX7_change_38 : decode cX7_change 38 = .ok (.getfield 7, 3) := by decide +kernel
theorem dX7_change_41 : decode cX7_change 41 = .ok (.sipush 512, 3) := by decide +kernel
theorem dX7_change_44 : decode cX7_change 44 = .ok (.iload_n 3, 1) := by decide +kernel
theorem dX7_change_45 : decode cX7_change 45 = .ok (.iadd, 1) := by decide +kernel
theorem dX7_change_46 : decode cX7_change 46 = .ok (.iaload, 1) := by decide +kernel
theorem dX7_change_47 : decode cX7_change 47 = .ok (.istore 4, 2) := by decide +kernel
theorem dX7_change_49 : decode cX7_change 49 = .ok (.iload_n 2, 1) := by decide +kernel
theorem dX7_change_50 : decode cX7_change 50 = .ok (.tableswitch 44 0 2 #[26, 28, 34], 26) := by decide +kernel
theorem dX7_change_76 : decode cX7_change 76 = .ok (.iload_n 3, 1) := by decide +kernel
theorem dX7_change_77 : decode cX7_change 77 = .ok (.ireturn, 1) := by decide +kernel
theorem dX7_change_78 : decode cX7_change 78 = .ok (.iload 4, 2) := by decide +kernel
theorem dX7_change_80 : decode cX7_change 80 = .ok (.invokestatic 107, 3) := by decide +kernel
theorem dX7_change_83 : decode cX7_change 83 = .ok (.ireturn, 1) := by decide +kernel
theorem dX7_change_84 : decode cX7_change 84 = .ok (.aload_n 0, 1) := by decide +kernel
theorem dX7_change_85 : decode cX7_change 85 = .ok (.getfield 39, 3) := by decide +kernel
theorem dX7_change_88 : decode cX7_change 88 = .ok (.iload_n 3, 1) := by decide +kernel
theorem dX7_change_89 : decode cX7_change 89 = .ok (.iaload, 1) := by decide +kernel
theorem dX7_change_90 : decode cX7_change 90 = .ok (.invokestatic 107, 3) := by decide +kernel
theorem dX7_change_93 : decode cX7_change 93 = .ok (.ireturn, 1) := by decide +kernel
theorem dX7_change_94 : decode cX7_change 94 = .ok (.aload_n 0, 1) := by decide +kernel
theorem dX7_change_95 : decode cX7_change 95 = .ok (.getfield 39, 3) := by decide +kernel
theorem dX7_change_98 : decode cX7_change 98 = .ok (.iload_n 3, 1) := by decide +kernel
theorem dX7_change_99 : decode cX7_change 99 = .ok (.iaload, 1) := by decide +kernel
theorem dX7_change_100 : decode cX7_change 100 = .ok (.bipush 8, 2) := by decide +kernel
theorem dX7_change_102 : decode cX7_change 102 = .ok (.if_icmp .ne 7, 3) := by decide +kernel
theorem dX7_change_105 : decode cX7_change 105 = .ok (.iconst 0, 1) := by decide +kernel
theorem dX7_change_106 : decode cX7_change 106 = .ok (.goto 15, 3) := by decide +kernel
theorem dX7_change_109 : decode cX7_change 109 = .ok (.iload 4, 2) := by decide +kernel
theorem dX7_change_111 : decode cX7_change 111 = .ok (.bipush 8, 2) := by decide +kernel
theorem dX7_change_113 : decode cX7_change 113 = .ok (.if_icmp .ne 7, 3) := by decide +kernel
theorem dX7_change_116 : decode cX7_change 116 = .ok (.iconst 1, 1) := by decide +kernel
theorem dX7_change_117 : decode cX7_change 117 = .ok (.goto 4, 3) := by decide +kernel
theorem dX7_change_120 : decode cX7_change 120 = .ok (.iconst 2, 1) := by decide +kernel
theorem dX7_change_121 : decode cX7_change 121 = .ok (.ireturn, 1) := by decide +kernel
set_option maxRecDepth 20000 in
theorem ggX7_isOne_X7_has : GoodIn wsX7_isOne wsX7_has := goodIn_r _ [5] (by decide +kernel) (by decide +kernel)
set_option maxRecDepth 20000 in
theorem gX7_isOne_X7_has : GoodIn wsX7_isOne (va_wsS RX7 84 yX7_has wsX7_has) := goodIn_app (goodIn_of _ (by decide +kernel)) ggX7_isOne_X7_has
theorem dX7_isOne_0 : decode cX7_isOne 0 = .ok (.bipush (-4), 2) := by decide +kernel
theorem dX7_isOne_2 : decode cX7_isOne 2 = .ok (.istore_n 2, 1) := by decide +kernel
theorem dX7_isOne_3 : decode cX7_isOne 3 = .ok (.iconst 1, 1) := by decide +kernel
theorem dX7_isOne_4 : decode cX7_isOne 4 = .ok (.istore_n 3, 1) := by decide +kernel
theorem dX7_isOne_5 : decode cX7_isOne 5 = .ok (.iconst 0, 1) := by decide +kernel
theorem dX7_isOne_6 : decode cX7_isOne 6 = .ok (.istore 4, 2) := by decide +kernel
theorem dX7_isOne_8 : decode cX7_isOne 8 = .ok (.iload 4, 2) := by decide +kernel
theorem dX7_isOne_10 : decode cX7_isOne 10 = .ok (.sipush 256, 3) := by decide +kernel
theorem dX7_isOne_13 : decode cX7_isOne 13 = .ok (.if_icmp .ge 67, 3) := by decide +kernel
theorem dX7_isOne_16 : decode cX7_isOne 16 = .ok (.iload 4, 2) := by decide +kernel
theorem dX7_isOne_18 : decode cX7_isOne 18 = .ok (.iload_n 1, 1) := by decide +kernel
theorem dX7_isOne_19 : decode cX7_isOne 19 = .ok (.invokestatic 84, 3) := by decide +kernel
theorem dX7_isOne_22 : decode cX7_isOne 22 = .ok (.ifCond .eq 52, 3) := by decide +kernel
theorem dX7_isOne_25 : decode cX7_isOne 25 = .ok (.bipush 8, 2) := by decide +kernel
theorem dX7_isOne_27 : decode cX7_isOne 27 = .ok (.aload_n 0, 1) := by decide +kernel
theorem dX7_isOne_28 : decode cX7_isOne 28 = .ok (.getfield 45, 3) := by decide +kernel
theorem dX7_isOne_31 : decode cX7_isOne 31 = .ok (.iload 4, 2) := by decide +kernel
theorem dX7_isOne_33 : decode cX7_isOne 33 = .ok (.iaload, 1) := by decide +kernel
theorem dX7_isOne_34 : decode cX7_isOne 34 = .ok (.imul, 1) := by decide +kernel
theorem dX7_isOne_35 : decode cX7_isOne 35 = .ok (.aload_n 0, 1) := by decide +kernel
theorem dX7_isOne_36 : decode cX7_isOne 36 = .ok (.getfield 45, 3) := by decide +kernel
theorem dX7_isOne_39 : decode cX7_isOne 39 = .ok (.sipush 256, 3) := by decide +kernel
theorem dX7_isOne_42 : decode cX7_isOne 42 = .ok (.iload 4, 2) := by decide +kernel
theorem dX7_isOne_44 : decode cX7_isOne 44 = .ok (.iadd, 1) := by decide +kernel
theorem dX7_isOne_45 : decode cX7_isOne 45 = .ok (.iaload, 1) := by decide +kernel
theorem dX7_isOne_46 : decode cX7_isOne 46 = .ok (.iadd, 1) := by decide +kernel
theorem dX7_isOne_47 : decode cX7_isOne 47 = .ok (.istore 5, 2) := by decide +kernel
theorem dX7_isOne_49 : decode cX7_isOne 49 = .ok (.iload_n 3, 1) := by decide +kernel
theorem dX7_isOne_50 : decode cX7_isOne 50 = .ok (.ifCond .eq 19, 3) := by decide +kernel
theorem dX7_isOne_53 : decode cX7_isOne 53 = .ok (.iload_n 2, 1) := by decide +kernel
theorem dX7_isOne_54 : decode cX7_isOne 54 = .ok (.bipush (-4), 2) := by decide +kernel
theorem dX7_isOne_56 : decode cX7_isOne 56 = .ok (.if_icmp .eq 9, 3) := by decide +kernel
theorem dX7_isOne_59 : decode cX7_isOne 59 = .ok (.iload_n 2, 1) := by decide +kernel
theorem dX7_isOne_60 : decode cX7_isOne 60 = .ok (.iload 5, 2) := by decide +kernel
theorem dX7_isOne_62 : decode cX7_isOne 62 = .ok (.if_icmp .ne 7, 3) := by decide +kernel
theorem dX7_isOne_65 : decode cX7_isOne 65 = .ok (.iconst 1, 1) := by decide +kernel
theorem dX7_isOne_66 : decode cX7_isOne 66 = .ok (.goto 4, 3) := by decide +kernel
theorem dX7_isOne_69 : decode cX7_isOne 69 = .ok (.iconst 0, 1) := by decide +kernel
theorem dX7_isOne_70 : decode cX7_isOne 70 = .ok (.istore_n 3, 1) := by decide +kernel
theorem dX7_isOne_71 : decode cX7_isOne 71 = .ok (.iload 5, 2) := by decide +kernel
theorem dX7_isOne_73 : decode cX7_isOne 73 = .ok (.istore_n 2, 1) := by decide +kernel
theorem dX7_isOne_74 : decode cX7_isOne 74 = .ok (.iinc 4 1, 3) := by decide +kernel
theorem dX7_isOne_77 : decode cX7_isOne 77 = .ok (.goto (-69), 3) := by decide +kernel
theorem dX7_isOne_80 : decode cX7_isOne 80 = .ok (.iload_n 3, 1) := by decide +kernel
theorem dX7_isOne_81 : decode cX7_isOne 81 = .ok (.ireturn, 1) := by decide +kernel
set_option maxRecDepth 20000 in
theorem ggX7_proofOf_X7_isOne : GoodIn wsX7_proofOf wsX7_isOne := goodIn_r _ [5, 6, 7, 8, 4, 9, 10, 11, 12, 13, 14, 15, 16, 17, 18, 19, 20, 21, 22, 23, 24, 25, 26, 27] (by decide +kernel) (by decide +kernel)
set_option maxRecDepth 20000 in
theorem gX7_proofOf_X7_isOne : GoodIn wsX7_proofOf (wsV RX7 124 RX7 yX7_isOne wsX7_isOne) := goodIn_app (goodIn_of _ (by decide +kernel)) ggX7_proofOf_X7_isOne
theorem dX7_proofOf_0 : decode cX7_proofOf 0 = .ok (.bipush (-4), 2) := by decide +kernel
theorem dX7_proofOf_2 : decode cX7_proofOf 2 = .ok (.istore_n 2, 1) := by decide +kernel
theorem dX7_proofOf_3 : decode cX7_proofOf 3 = .ok (.sipush 256, 3) := by decide +kernel
theorem dX7_proofOf_6 : decode cX7_proofOf 6 = .ok (.iload_n 1, 1) := by decide +kernel
theorem dX7_proofOf_7 : decode cX7_proofOf 7 = .ok (.iadd, 1) := by decide +kernel
theorem dX7_proofOf_8 : decode cX7_proofOf 8 = .ok (.istore_n 3, 1) := by decide +kernel
theorem dX7_proofOf_9 : decode cX7_proofOf 9 = .ok (.iload_n 3, 1) := by decide +kernel
theorem dX7_proofOf_10 : decode cX7_proofOf 10 = .ok (.ifCond .le 24, 3) := by decide +kernel
theorem dX7_proofOf_13 : decode cX7_proofOf 13 = .ok (.aload_n 0, 1) := by decide +kernel
theorem dX7_proofOf_14 : decode cX7_proofOf 14 = .ok (.iload_n 3, 1) := by decide +kernel
theorem dX7_proofOf_15 : decode cX7_proofOf 15 = .ok (.invokevirtual 124, 3) := by decide +kernel
theorem dX7_proofOf_18 : decode cX7_proofOf 18 = .ok (.ifCond .eq 7, 3) := by decide +kernel
theorem dX7_proofOf_21 : decode cX7_proofOf 21 = .ok (.iload_n 3, 1) := by decide +kernel
theorem dX7_proofOf_22 : decode cX7_proofOf 22 = .ok (.goto 4, 3) := by decide +kernel
theorem dX7_proofOf_25 : decode cX7_proofOf 25 = .ok (.iload_n 2, 1) := by decide +kernel
theorem dX7_proofOf_26 : decode cX7_proofOf 26 = .ok (.istore_n 2, 1) := by decide +kernel
theorem dX7_proofOf_27 : decode cX7_proofOf 27 = .ok (.iload_n 3, 1) := by decide +kernel
theorem dX7_proofOf_28 : decode cX7_proofOf 28 = .ok (.iconst 2, 1) := by decide +kernel
theorem dX7_proofOf_29 : decode cX7_proofOf 29 = .ok (.idiv, 1) := by decide +kernel
theorem dX7_proofOf_30 : decode cX7_proofOf 30 = .ok (.istore_n 3, 1) := by decide +kernel
theorem dX7_proofOf_31 : decode cX7_proofOf 31 = .ok (.goto (-22), 3) := by decide +kernel
theorem dX7_proofOf_34 : decode cX7_proofOf 34 = .ok (.iload_n 2, 1) := by decide +kernel
theorem dX7_proofOf_35 : decode cX7_proofOf 35 = .ok (.ireturn, 1) := by decide +kernel
theorem dX7_wide_0 : decode cX7_wide 0 = .ok (.iconst 1, 1) := by decide +kernel
theorem dX7_wide_1 : decode cX7_wide 1 = .ok (.istore_n 1, 1) := by decide +kernel
theorem dX7_wide_2 : decode cX7_wide 2 = .ok (.iload_n 0, 1) := by decide +kernel
theorem dX7_wide_3 : decode cX7_wide 3 = .ok (.istore_n 2, 1) := by decide +kernel
theorem dX7_wide_4 : decode cX7_wide 4 = .ok (.iload_n 2, 1) := by decide +kernel
theorem dX7_wide_5 : decode cX7_wide 5 = .ok (.sipush 256, 3) := by decide +kernel
theorem dX7_wide_8 : decode cX7_wide 8 = .ok (.if_icmp .ge 14, 3) := by decide +kernel
theorem dX7_wide_11 : decode cX7_wide 11 = .ok (.iload_n 1, 1) := by decide +kernel
theorem dX7_wide_12 : decode cX7_wide 12 = .ok (.iconst 2, 1) := by decide +kernel
theorem dX7_wide_13 : decode cX7_wide 13 = .ok (.imul, 1) := by decide +kernel
theorem dX7_wide_14 : decode cX7_wide 14 = .ok (.istore_n 1, 1) := by decide +kernel
theorem dX7_wide_15 : decode cX7_wide 15 = .ok (.iload_n 2, 1) := by decide +kernel
theorem dX7_wide_16 : decode cX7_wide 16 = .ok (.iconst 2, 1) := by decide +kernel
theorem dX7_wide_17 : decode cX7_wide 17 = .ok (.imul, 1) := by decide +kernel
theorem dX7_wide_18 : decode cX7_wide 18 = .ok (.istore_n 2, 1) := by decide +kernel
theorem dX7_wide_19 : decode cX7_wide 19 = .ok (.goto (-15), 3) := by decide +kernel
theorem dX7_wide_22 : decode cX7_wide 22 = .ok (.iload_n 1, 1) := by decide +kernel
theorem dX7_wide_23 : decode cX7_wide 23 = .ok (.ireturn, 1) := by decide +kernel
set_option maxRecDepth 20000 in
theorem ggX7_proofAt_X7_proofOf : GoodIn wsX7_proofAt wsX7_proofOf := goodIn_r _ [5, 6, 7, 8, 4, 9, 10, 11, 12, 13, 17, 18, 19, 20, 21, 22, 23, 24, 25, 26, 27, 28, 29, 30, 31, 32, 33, 34] (by decide +kernel) (by decide +kernel)
set_option maxRecDepth 20000 in
theorem gX7_proofAt_X7_proofOf : GoodIn wsX7_proofAt (wsV RX7 127 RX7 yX7_proofOf wsX7_proofOf) := goodIn_app (goodIn_of _ (by decide +kernel)) ggX7_proofAt_X7_proofOf
set_option maxRecDepth 20000 in
theorem ggX7_proofAt_X7_wide : GoodIn wsX7_proofAt wsX7_wide := goodIn_r _ [16] (by decide +kernel) (by decide +kernel)
set_option maxRecDepth 20000 in
theorem gX7_proofAt_X7_wide : GoodIn wsX7_proofAt (va_wsS RX7 130 yX7_wide wsX7_wide) := goodIn_app (goodIn_of _ (by decide +kernel)) ggX7_proofAt_X7_wide
theorem dX7_proofAt_0 : decode cX7_proofAt 0 = .ok (.iconst 0, 1) := by decide +kernel
theorem dX7_proofAt_1 : decode cX7_proofAt 1 = .ok (.istore_n 2, 1) := by decide +kernel
theorem dX7_proofAt_2 : decode cX7_proofAt 2 = .ok (.iconst 0, 1) := by decide +kernel
theorem dX7_proofAt_3 : decode cX7_proofAt 3 = .ok (.istore_n 3, 1) := by decide +kernel
theorem dX7_proofAt_4 : decode cX7_proofAt 4 = .ok (.iload_n 3, 1) := by decide +kernel
theorem dX7_proofAt_5 : decode cX7_proofAt 5 = .ok (.sipush 256, 3) := by decide +kernel
theorem dX7_proofAt_8 : decode cX7_proofAt 8 = .ok (.if_icmp .ge 27, 3) := by decide +kernel
theorem dX7_proofAt_11 : decode cX7_proofAt 11 = .ok (.iload_n 2, 1) := by decide +kernel
theorem dX7_proofAt_12 : decode cX7_proofAt 12 = .ok (.iload_n 1, 1) := by decide +kernel
theorem dX7_proofAt_13 : decode cX7_proofAt 13 = .ok (.if_icmp .ne 5, 3) := by decide +kernel
theorem dX7_proofAt_16 : decode cX7_proofAt 16 = .ok (.iload_n 3, 1) := by decide +kernel
theorem dX7_proofAt_17 : decode cX7_proofAt 17 = .ok (.ireturn, 1) := by decide +kernel
theorem dX7_proofAt_18 : decode cX7_proofAt 18 = .ok (.iload_n 3, 1) := by decide +kernel
theorem dX7_proofAt_19 : decode cX7_proofAt 19 = .ok (.aload_n 0, 1) := by decide +kernel
theorem dX7_proofAt_20 : decode cX7_proofAt 20 = .ok (.iload_n 3, 1) := by decide +kernel
theorem dX7_proofAt_21 : decode cX7_proofAt 21 = .ok (.invokevirtual 127, 3) := by decide +kernel
theorem dX7_proofAt_24 : decode cX7_proofAt 24 = .ok (.invokestatic 130, 3) := by decide +kernel
theorem dX7_proofAt_27 : decode cX7_proofAt 27 = .ok (.iadd, 1) := by decide +kernel
theorem dX7_proofAt_28 : decode cX7_proofAt 28 = .ok (.istore_n 3, 1) := by decide +kernel
theorem dX7_proofAt_29 : decode cX7_proofAt 29 = .ok (.iinc 2 1, 3) := by decide +kernel
theorem dX7_proofAt_32 : decode cX7_proofAt 32 = .ok (.goto (-28), 3) := by decide +kernel
theorem dX7_proofAt_35 : decode cX7_proofAt 35 = .ok (.iload_n 1, 1) := by decide +kernel
theorem dX7_proofAt_36 : decode cX7_proofAt 36 = .ok (.ifCond .ge 7, 3) := by decide +kernel
theorem dX7_proofAt_39 : decode cX7_proofAt 39 = .ok (.iload_n 2, 1) := by decide +kernel
theorem dX7_proofAt_40 : decode cX7_proofAt 40 = .ok (.goto 5, 3) := by decide +kernel
theorem dX7_proofAt_43 : decode cX7_proofAt 43 = .ok (.bipush (-4), 2) := by decide +kernel
theorem dX7_proofAt_45 : decode cX7_proofAt 45 = .ok (.ireturn, 1) := by decide +kernel
set_option maxRecDepth 20000 in
theorem ggX7_proof_X7_in : GoodIn wsX7_proof wsX7_in := goodIn_r _ [6] (by decide +kernel) (by decide +kernel)
set_option maxRecDepth 20000 in
theorem gX7_proof_X7_in : GoodIn wsX7_proof (va_wsS RX7 90 yX7_in wsX7_in) := goodIn_app (goodIn_of _ (by decide +kernel)) ggX7_proof_X7_in
set_option maxRecDepth 20000 in
theorem ggX7_proof_X7_laysHops : GoodIn wsX7_proof wsX7_laysHops := goodIn_r _ [10, 2, 11, 12, 13, 5, 14, 15, 16, 17, 36, 37, 38, 39, 40, 41, 42, 43, 44, 45, 46, 47, 48, 49, 50, 51, 52, 53] (by decide +kernel) (by decide +kernel)
set_option maxRecDepth 20000 in
theorem gX7_proof_X7_laysHops : GoodIn wsX7_proof (wsV RX7 75 RX7 yX7_laysHops wsX7_laysHops) := goodIn_app (goodIn_of _ (by decide +kernel)) ggX7_proof_X7_laysHops
set_option maxRecDepth 20000 in
theorem ggX7_proof_X7_proofAt : GoodIn wsX7_proof wsX7_proofAt := goodIn_r _ [21, 22, 23, 24, 5, 25, 26, 27, 28, 29, 2, 30, 31, 32, 33, 34, 35, 36, 37, 38, 39, 40, 41, 42, 43, 44, 45, 46, 47, 48, 49, 50, 51, 52, 53] (by decide +kernel) (by decide +kernel)
set_option maxRecDepth 20000 in
theorem gX7_proof_X7_proofAt : GoodIn wsX7_proof (wsV RX7 135 RX7 yX7_proofAt wsX7_proofAt) := goodIn_app (goodIn_of _ (by decide +kernel)) ggX7_proof_X7_proofAt
set_option maxRecDepth 20000 in
theorem ggX7_proof_X7_proofOf : GoodIn wsX7_proof wsX7_proofOf := goodIn_r _ [25, 26, 27, 28, 5, 29, 2, 30, 31, 32, 36, 37, 38, 39, 40, 41, 42, 43, 44, 45, 46, 47, 48, 49, 50, 51, 52, 53] (by decide +kernel) (by decide +kernel)
set_option maxRecDepth 20000 in
theorem gX7_proof_X7_proofOf : GoodIn wsX7_proof (wsV RX7 127 RX7 yX7_proofOf wsX7_proofOf) := goodIn_app (goodIn_of _ (by decide +kernel)) ggX7_proof_X7_proofOf
theorem dX7_proof_0 : decode cX7_proof 0 = .ok (.iload_n 1, 1) := by decide +kernel
theorem dX7_proof_1 : decode cX7_proof 1 = .ok (.ifCond .lt 15, 3) := by decide +kernel
theorem dX7_proof_4 : decode cX7_proof 4 = .ok (.iload_n 2, 1) := by decide +kernel
theorem dX7_proof_5 : decode cX7_proof 5 = .ok (.i2l, 1) := by decide +kernel
theorem dX7_proof_6 : decode cX7_proof 6 = .ok (.lconst 0, 1) := by decide +kernel
theorem dX7_proof_7 : decode cX7_proof 7 = .ok (.ldc2_w 133, 3) := by decide +kernel
theorem dX7_proof_10 : decode cX7_proof 10 = .ok (.invokestatic 90, 3) := by decide +kernel
theorem dX7_proof_13 : decode cX7_proof 13 = .ok (.ifCond .ne 5, 3) := by decide +kernel
theorem dX7_proof_16 : decode cX7_proof 16 = .ok (.iconst (-1), 1) := by decide +kernel
theorem dX7_proof_17 : decode cX7_proof 17 = .ok (.ireturn, 1) := by decide +kernel
theorem dX7_proof_18 : decode cX7_proof 18 = .ok (.aload_n 0, 1) := by decide +kernel
theorem dX7_proof_19 : decode cX7_proof 19 = .ok (.invokevirtual 75, 3) := by decide +kernel
theorem dX7_proof_22 : decode cX7_proof 22 = .ok (.aload_n 0, 1) := by decide +kernel
theorem dX7_proof_23 : decode cX7_proof 23 = .ok (.iload_n 1, 1) := by decide +kernel
theorem dX7_proof_24 : decode cX7_proof 24 = .ok (.invokevirtual 135, 3) := by decide +kernel
theorem dX7_proof_27 : decode cX7_proof 27 = .ok (.istore_n 3, 1) := by decide +kernel
theorem dX7_proof_28 : decode cX7_proof 28 = .ok (.iload_n 3, 1) := by decide +kernel
theorem dX7_proof_29 : decode cX7_proof 29 = .ok (.bipush (-4), 2) := by decide +kernel
theorem dX7_proof_31 : decode cX7_proof 31 = .ok (.if_icmp .ne 6, 3) := by decide +kernel
theorem dX7_proof_34 : decode cX7_proof 34 = .ok (.bipush (-4), 2) := by decide +kernel
theorem dX7_proof_36 : decode cX7_proof 36 = .ok (.ireturn, 1) := by decide +kernel
theorem dX7_proof_37 : decode cX7_proof 37 = .ok (.iload_n 2, 1) := by decide +kernel
theorem dX7_proof_38 : decode cX7_proof 38 = .ok (.ifCond .ne 11, 3) := by decide +kernel
theorem dX7_proof_41 : decode cX7_proof 41 = .ok (.aload_n 0, 1) := by decide +kernel
theorem dX7_proof_42 : decode cX7_proof 42 = .ok (.iload_n 3, 1) := by decide +kernel
theorem dX7_proof_43 : decode cX7_proof 43 = .ok (.invokevirtual 127, 3) := by decide +kernel
theorem dX7_proof_46 : decode cX7_proof 46 = .ok (.goto 27, 3) := by decide +kernel
theorem dX7_proof_49 : decode cX7_proof 49 = .ok (.iload_n 2, 1) := by decide +kernel
theorem dX7_proof_50 : decode cX7_proof 50 = .ok (.iconst 1, 1) := by decide +kernel
theorem dX7_proof_51 : decode cX7_proof 51 = .ok (.if_icmp .ne 12, 3) := by decide +kernel
theorem dX7_proof_54 : decode cX7_proof 54 = .ok (.aload_n 0, 1) := by decide +kernel
theorem dX7_proof_55 : decode cX7_proof 55 = .ok (.getfield 45, 3) := by decide +kernel
theorem dX7_proof_58 : decode cX7_proof 58 = .ok (.iload_n 3, 1) := by decide +kernel
theorem dX7_proof_59 : decode cX7_proof 59 = .ok (.iaload, 1) := by decide +kernel
theorem dX7_proof_60 : decode cX7_proof 60 = .ok (.goto 13, 3) := by decide +kernel
theorem dX7_proof_63 : decode cX7_proof 63 = .ok (.aload_n 0, 1) := by decide +kernel
theorem dX7_proof_64 : decode cX7_proof 64 = .ok (.getfield 45, 3) := by decide +kernel
theorem dX7_proof_67 : decode cX7_proof 67 = .ok (.sipush 256, 3) := by decide +kernel
theorem dX7_proof_70 : decode cX7_proof 70 = .ok (.iload_n 3, 1) := by decide +kernel
theorem dX7_proof_71 : decode cX7_proof 71 = .ok (.iadd, 1) := by decide +kernel
theorem dX7_proof_72 : decode cX7_proof 72 = .ok (.iaload, 1) := by decide +kernel
theorem dX7_proof_73 : decode cX7_proof 73 = .ok (.ireturn, 1) := by decide +kernel
set_option maxRecDepth 20000 in
theorem ggX7_redundant_X7_isRedundant : GoodIn wsX7_redundant wsX7_isRedundant := goodIn_r _ [6, 1, 7, 8, 9, 5, 10, 11, 12, 13, 14, 15, 16, 17, 18, 19, 20, 21, 22, 23, 24, 25, 26, 27, 28, 29, 30, 31] (by decide +kernel) (by decide +kernel)
set_option maxRecDepth 20000 in
theorem gX7_redundant_X7_isRedundant : GoodIn wsX7_redundant (wsV RX7 113 RX7 yX7_isRedundant wsX7_isRedundant) := goodIn_app (goodIn_of _ (by decide +kernel)) ggX7_redundant_X7_isRedundant
theorem dX7_redundant_0 : decode cX7_redundant 0 = .ok (.iconst 0, 1) := by decide +kernel
theorem dX7_redundant_1 : decode cX7_redundant 1 = .ok (.istore_n 1, 1) := by decide +kernel
theorem dX7_redundant_2 : decode cX7_redundant 2 = .ok (.iconst 1, 1) := by decide +kernel
theorem dX7_redundant_3 : decode cX7_redundant 3 = .ok (.istore_n 2, 1) := by decide +kernel
theorem dX7_redundant_4 : decode cX7_redundant 4 = .ok (.iload_n 2, 1) := by decide +kernel
theorem dX7_redundant_5 : decode cX7_redundant 5 = .ok (.sipush 512, 3) := by decide +kernel
theorem dX7_redundant_8 : decode cX7_redundant 8 = .ok (.if_icmp .ge 38, 3) := by decide +kernel
theorem dX7_redundant_11 : decode cX7_redundant 11 = .ok (.iload_n 1, 1) := by decide +kernel
theorem dX7_redundant_12 : decode cX7_redundant 12 = .ok (.aload_n 0, 1) := by decide +kernel
theorem dX7_redundant_13 : decode cX7_redundant 13 = .ok (.getfield 7, 3) := by decide +kernel
theorem dX7_redundant_16 : decode cX7_redundant 16 = .ok (.iconst 0, 1) := by decide +kernel
theorem dX7_redundant_17 : decode cX7_redundant 17 = .ok (.iload_n 2, 1) := by decide +kernel
theorem dX7_redundant_18 : decode cX7_redundant 18 = .ok (.iadd, 1) := by decide +kernel
theorem dX7_redundant_19 : decode cX7_redundant 19 = .ok (.iaload, 1) := by decide +kernel
theorem dX7_redundant_20 : decode cX7_redundant 20 = .ok (.bipush 8, 2) := by decide +kernel
theorem dX7_redundant_22 : decode cX7_redundant 22 = .ok (.if_icmp .eq 15, 3) := by decide +kernel
theorem dX7_redundant_25 : decode cX7_redundant 25 = .ok (.aload_n 0, 1) := by decide +kernel
theorem dX7_redundant_26 : decode cX7_redundant 26 = .ok (.iload_n 2, 1) := by decide +kernel
theorem dX7_redundant_27 : decode cX7_redundant 27 = .ok (.invokevirtual 113, 3) := by decide +kernel
theorem dX7_redundant_30 : decode cX7_redundant 30 = .ok (.ifCond .eq 7, 3) := by decide +kernel
theorem dX7_redundant_33 : decode cX7_redundant 33 = .ok (.iconst 1, 1) := by decide +kernel
theorem dX7_redundant_34 : decode cX7_redundant 34 = .ok (.goto 4, 3) := by decide +kernel
theorem dX7_redundant_37 : decode cX7_redundant 37 = .ok (.iconst 0, 1) := by decide +kernel
theorem dX7_redundant_38 : decode cX7_redundant 38 = .ok (.iadd, 1) := by decide +kernel
theorem dX7_redundant_39 : decode cX7_redundant 39 = .ok (.istore_n 1, 1) := by decide +kernel
theorem dX7_redundant_40 : decode cX7_redundant 40 = .ok (.iinc 2 1, 3) := by decide +kernel
theorem dX7_redundant_43 : decode cX7_redundant 43 = .ok (.goto (-39), 3) := by decide +kernel
theorem dX7_redundant_46 : decode cX7_redundant 46 = .ok (.iload_n 1, 1) := by decide +kernel
theorem dX7_redundant_47 : decode cX7_redundant 47 = .ok (.ireturn, 1) := by decide +kernel
theorem dX7_firstUnlike_0 : decode cX7_firstUnlike 0 = .ok (.iconst 0, 1) := by decide +kernel
theorem dX7_firstUnlike_1 : decode cX7_firstUnlike 1 = .ok (.istore_n 1, 1) := by decide +kernel
theorem dX7_firstUnlike_2 : decode cX7_firstUnlike 2 = .ok (.iload_n 1, 1) := by decide +kernel
theorem dX7_firstUnlike_3 : decode cX7_firstUnlike 3 = .ok (.sipush 256, 3) := by decide +kernel
theorem dX7_firstUnlike_6 : decode cX7_firstUnlike 6 = .ok (.if_icmp .ge 28, 3) := by decide +kernel
theorem dX7_firstUnlike_9 : decode cX7_firstUnlike 9 = .ok (.aload_n 0, 1) := by decide +kernel
theorem dX7_firstUnlike_10 : decode cX7_firstUnlike 10 = .ok (.getfield 45, 3) := by decide +kernel
theorem dX7_firstUnlike_13 : decode cX7_firstUnlike 13 = .ok (.iload_n 1, 1) := by decide +kernel
theorem dX7_firstUnlike_14 : decode cX7_firstUnlike 14 = .ok (.iaload, 1) := by decide +kernel
theorem dX7_firstUnlike_15 : decode cX7_firstUnlike 15 = .ok (.aload_n 0, 1) := by decide +kernel
theorem dX7_firstUnlike_16 : decode cX7_firstUnlike 16 = .ok (.getfield 45, 3) := by decide +kernel
theorem dX7_firstUnlike_19 : decode cX7_firstUnlike 19 = .ok (.sipush 256, 3) := by decide +kernel
theorem dX7_firstUnlike_22 : decode cX7_firstUnlike 22 = .ok (.iload_n 1, 1) := by decide +kernel
theorem dX7_firstUnlike_23 : decode cX7_firstUnlike 23 = .ok (.iadd, 1) := by decide +kernel
theorem dX7_firstUnlike_24 : decode cX7_firstUnlike 24 = .ok (.iaload, 1) := by decide +kernel
theorem dX7_firstUnlike_25 : decode cX7_firstUnlike 25 = .ok (.if_icmp .ne 9, 3) := by decide +kernel
theorem dX7_firstUnlike_28 : decode cX7_firstUnlike 28 = .ok (.iinc 1 1, 3) := by decide +kernel
theorem dX7_firstUnlike_31 : decode cX7_firstUnlike 31 = .ok (.goto (-29), 3) := by decide +kernel
theorem dX7_firstUnlike_34 : decode cX7_firstUnlike 34 = .ok (.iload_n 1, 1) := by decide +kernel
theorem dX7_firstUnlike_35 : decode cX7_firstUnlike 35 = .ok (.sipush 256, 3) := by decide +kernel
theorem dX7_firstUnlike_38 : decode cX7_firstUnlike 38 = .ok (.if_icmp .ge 7, 3) := by decide +kernel
theorem dX7_firstUnlike_41 : decode cX7_firstUnlike 41 = .ok (.iload_n 1, 1) := by decide +kernel
theorem dX7_firstUnlike_42 : decode cX7_firstUnlike 42 = .ok (.goto 5, 3) := by decide +kernel
theorem dX7_firstUnlike_45 : decode cX7_firstUnlike 45 = .ok (.bipush (-4), 2) := by decide +kernel
theorem dX7_firstUnlike_47 : decode cX7_firstUnlike 47 = .ok (.ireturn, 1) := by decide +kernel
set_option maxRecDepth 20000 in
theorem ggX7_count_X7_lays : GoodIn wsX7_count wsX7_lays := goodIn_r _ [8, 9, 10, 11, 7, 12, 13, 1, 14, 15, 16, 17, 18, 19, 20, 21, 22, 23, 24, 25, 26, 27, 28, 29, 30, 31, 32, 2, 33, 34, 35, 36, 37, 38, 39, 40, 78, 79, 80, 81, 82, 83, 84, 85, 86, 87, 88, 89, 90, 91, 92, 93, 94, 95] (by decide +kernel) (by decide +kernel)
set_option maxRecDepth 20000 in
theorem gX7_count_X7_lays : GoodIn wsX7_count (wsV RX7 96 RX7 yX7_lays wsX7_lays) := goodIn_app (goodIn_of _ (by decide +kernel)) ggX7_count_X7_lays
set_option maxRecDepth 20000 in
theorem ggX7_count_X7_many : GoodIn wsX7_count wsX7_many := goodIn_r _ [43] (by decide +kernel) (by decide +kernel)
set_option maxRecDepth 20000 in
theorem gX7_count_X7_many : GoodIn wsX7_count (va_wsS RX7 138 yX7_many wsX7_many) := goodIn_app (goodIn_of _ (by decide +kernel)) ggX7_count_X7_many
set_option maxRecDepth 20000 in
theorem ggX7_count_X7_changes : GoodIn wsX7_count wsX7_changes := goodIn_r _ [47, 2, 1, 78, 79, 80, 81, 82, 83, 84, 85, 86, 87, 88, 89, 90, 91, 92, 93, 94, 95] (by decide +kernel) (by decide +kernel)
set_option maxRecDepth 20000 in
theorem gX7_count_X7_changes : GoodIn wsX7_count (wsV RX7 142 RX7 yX7_changes wsX7_changes) := goodIn_app (goodIn_of _ (by decide +kernel)) ggX7_count_X7_changes
set_option maxRecDepth 20000 in
theorem ggX7_count_X7_proofAt : GoodIn wsX7_count wsX7_proofAt := goodIn_r _ [51, 52, 53, 54, 7, 55, 56, 57, 58, 59, 13, 60, 61, 62, 63, 64, 65, 78, 79, 80, 81, 82, 83, 84, 85, 86, 87, 88, 89, 90, 91, 92, 93, 94, 95] (by decide +kernel) (by decide +kernel)
set_option maxRecDepth 20000 in
theorem gX7_count_X7_proofAt : GoodIn wsX7_count (wsV RX7 135 RX7 yX7_proofAt wsX7_proofAt) := goodIn_app (goodIn_of _ (by decide +kernel)) ggX7_count_X7_proofAt
set_option maxRecDepth 20000 in
theorem ggX7_count_X7_redundant : GoodIn wsX7_count wsX7_redundant := goodIn_r _ [69, 1, 70, 71, 72, 7, 73, 13, 14, 15, 16, 17, 18, 19, 78, 79, 80, 81, 82, 83, 84, 85, 86, 87, 88, 89, 90, 91, 92, 93, 94, 95] (by decide +kernel) (by decide +kernel)
set_option maxRecDepth 20000 in
theorem gX7_count_X7_redundant : GoodIn wsX7_count (wsV RX7 146 RX7 yX7_redundant wsX7_redundant) := goodIn_app (goodIn_of _ (by decide +kernel)) ggX7_count_X7_redundant
set_option maxRecDepth 20000 in
theorem ggX7_count_X7_firstUnlike : GoodIn wsX7_count wsX7_firstUnlike := goodIn_r _ [77, 13, 78, 79, 80, 81, 82, 83, 84, 85, 86, 87, 88, 89, 90, 91, 92, 93, 94, 95] (by decide +kernel) (by decide +kernel)
set_option maxRecDepth 20000 in
theorem gX7_count_X7_firstUnlike : GoodIn wsX7_count (wsV RX7 149 RX7 yX7_firstUnlike wsX7_firstUnlike) := goodIn_app (goodIn_of _ (by decide +kernel)) ggX7_count_X7_firstUnlike
theorem dX7_count_0 : decode cX7_count 0 = .ok (.aload_n 0, 1) := by decide +kernel
theorem dX7_count_1 : decode cX7_count 1 = .ok (.invokevirtual 96, 3) := by decide +kernel
theorem dX7_count_4 : decode cX7_count 4 = .ok (.iload_n 1, 1) := by decide +kernel
theorem dX7_count_5 : decode cX7_count 5 = .ok (.tableswitch 102 0 7 #[47, 56, 65, 76, 81, 87, 92, 97], 47) := by decide +kernel
theorem dX7_count_52 : decode cX7_count 52 = .ok (.aload_n 0, 1) := by decide +kernel
theorem dX7_count_53 : decode cX7_count 53 = .ok (.getfield 7, 3) := by decide +kernel
theorem dX7_count_56 : decode cX7_count 56 = .ok (.iconst 0, 1) := by decide +kernel
theorem dX7_count_57 : decode cX7_count 57 = .ok (.invokestatic 138, 3) := by decide +kernel
theorem dX7_count_60 : decode cX7_count 60 = .ok (.ireturn, 1) := by decide +kernel
theorem dX7_count_61 : decode cX7_count 61 = .ok (.aload_n 0, 1) := by decide +kernel
theorem dX7_count_62 : decode cX7_count 62 = .ok (.getfield 39, 3) := by decide +kernel
theorem dX7_count_65 : decode cX7_count 65 = .ok (.iconst 0, 1) := by decide +kernel
theorem dX7_count_66 : decode cX7_count 66 = .ok (.invokestatic 138, 3) := by decide +kernel
theorem dX7_count_69 : decode cX7_count 69 = .ok (.ireturn, 1) := by decide +kernel
theorem dX7_count_70 : decode cX7_count 70 = .ok (.aload_n 0, 1) := by decide +kernel
theorem dX7_count_71 : decode cX7_count 71 = .ok (.getfield 7, 3) := by decide +kernel
theorem dX7_count_74 : decode cX7_count 74 = .ok (.sipush 512, 3) := by decide +kernel
theorem dX7_count_77 : decode cX7_count 77 = .ok (.invokestatic 138, 3) := by decide +kernel
theorem dX7_count_80 : decode cX7_count 80 = .ok (.ireturn, 1) := by decide +kernel
theorem dX7_count_81 : decode cX7_count 81 = .ok (.aload_n 0, 1) := by decide +kernel
theorem dX7_count_82 : decode cX7_count 82 = .ok (.invokevirtual 142, 3) := by decide +kernel
theorem dX7_count_85 : decode cX7_count 85 = .ok (.ireturn, 1) := by decide +kernel
theorem dX7_count_86 : decode cX7_count 86 = .ok (.aload_n 0, 1) := by decide +kernel
theorem dX7_count_87 : decode cX7_count 87 = .ok (.iconst (-1), 1) := by decide +kernel
theorem dX7_count_88 : decode cX7_count 88 = .ok (.invokevirtual 135, 3) := by decide +kernel
theorem dX7_count_91 : decode cX7_count 91 = .ok (.ireturn, 1) := by decide +kernel
theorem dX7_count_92 : decode cX7_count 92 = .ok (.aload_n 0, 1) := by decide +kernel
theorem dX7_count_93 : decode cX7_count 93 = .ok (.invokevirtual 146, 3) := by decide +kernel
theorem dX7_count_96 : decode cX7_count 96 = .ok (.ireturn, 1) := by decide +kernel
theorem dX7_count_97 : decode cX7_count 97 = .ok (.aload_n 0, 1) := by decide +kernel
theorem dX7_count_98 : decode cX7_count 98 = .ok (.invokevirtual 149, 3) := by decide +kernel
theorem dX7_count_101 : decode cX7_count 101 = .ok (.ireturn, 1) := by decide +kernel
theorem dX7_count_102 : decode cX7_count 102 = .ok (.aload_n 0, 1) := by decide +kernel
theorem dX7_count_103 : decode cX7_count 103 = .ok (.getfield 152, 3) := by decide +kernel
theorem dX7_count_106 : decode cX7_count 106 = .ok (.ireturn, 1) := by decide +kernel
theorem dX7_count_107 : decode cX7_count 107 = .ok (.iconst (-1), 1) := by decide +kernel
theorem dX7_count_108 : decode cX7_count 108 = .ok (.ireturn, 1) := by decide +kernel
set_option maxRecDepth 20000 in
theorem ggX7_chances_X7_hopBy : GoodIn wsX7_chances wsX7_hopBy := goodIn_r _ [6, 7, 8, 5, 9] (by decide +kernel) (by decide +kernel)
set_option maxRecDepth 20000 in
theorem gX7_chances_X7_hopBy : GoodIn wsX7_chances (va_wsS RX7 72 yX7_hopBy wsX7_hopBy) := goodIn_app (goodIn_of _ (by decide +kernel)) ggX7_chances_X7_hopBy
theorem dX7_chances_0 : decode cX7_chances 0 = .ok (.aload_n 0, 1) := by decide +kernel
theorem dX7_chances_1 : decode cX7_chances 1 = .ok (.getfield 7, 3) := by decide +kernel
theorem dX7_chances_4 : decode cX7_chances 4 = .ok (.iconst 0, 1) := by decide +kernel
theorem dX7_chances_5 : decode cX7_chances 5 = .ok (.iload_n 1, 1) := by decide +kernel
theorem dX7_chances_6 : decode cX7_chances 6 = .ok (.iconst 0, 1) := by decide +kernel
theorem dX7_chances_7 : decode cX7_chances 7 = .ok (.invokestatic 72, 3) := by decide +kernel
theorem dX7_chances_10 : decode cX7_chances 10 = .ok (.istore 4, 2) := by decide +kernel
theorem dX7_chances_12 : decode cX7_chances 12 = .ok (.iconst 0, 1) := by decide +kernel
theorem dX7_chances_13 : decode cX7_chances 13 = .ok (.istore 5, 2) := by decide +kernel
theorem dX7_chances_15 : decode cX7_chances 15 = .ok (.iconst 0, 1) := by decide +kernel
theorem dX7_chances_16 : decode cX7_chances 16 = .ok (.istore 6, 2) := by decide +kernel
theorem dX7_chances_18 : decode cX7_chances 18 = .ok (.iload 6, 2) := by decide +kernel
theorem dX7_chances_20 : decode cX7_chances 20 = .ok (.iconst 1, 1) := by decide +kernel
theorem dX7_chances_21 : decode cX7_chances 21 = .ok (.iload_n 3, 1) := by decide +kernel
theorem dX7_chances_22 : decode cX7_chances 22 = .ok (.ishl, 1) := by decide +kernel
theorem dX7_chances_23 : decode cX7_chances 23 = .ok (.if_icmp .ge 135, 3) := by decide +kernel
theorem dX7_chances_26 : decode cX7_chances 26 = .ok (.iconst 1, 1) := by decide +kernel
theorem dX7_chances_27 : decode cX7_chances 27 = .ok (.istore 7, 2) := by decide +kernel
theorem dX7_chances_29 : decode cX7_chances 29 = .ok (.iconst 0, 1) := by decide +kernel
theorem dX7_chances_30 : decode cX7_chances 30 = .ok (.istore 8, 2) := by decide +kernel
theorem dX7_chances_32 : decode cX7_chances 32 = .ok (.iconst 0, 1) := by decide +kernel
theorem dX7_chances_33 : decode cX7_chances 33 = .ok (.istore 9, 2) := by decide +kernel
theorem dX7_chances_35 : decode cX7_chances 35 = .ok (.iconst 0, 1) := by decide +kernel
theorem dX7_chances_36 : decode cX7_chances 36 = .ok (.istore 10, 2) := by decide +kernel
theorem dX7_chances_38 : decode cX7_chances 38 = .ok (.iload 10, 2) := by decide +kernel
theorem dX7_chances_40 : decode cX7_chances 40 = .ok (.iload_n 3, 1) := by decide +kernel
theorem dX7_chances_41 : decode cX7_chances 41 = .ok (.if_icmp .ge 93, 3) := by decide +kernel
theorem dX7_chances_44 : decode cX7_chances 44 = .ok (.iload 6, 2) := by decide +kernel
theorem dX7_chances_46 : decode cX7_chances 46 = .ok (.iload 10, 2) := by decide +kernel
theorem dX7_chances_48 : decode cX7_chances 48 = .ok (.ishr, 1) := by decide +kernel
theorem dX7_chances_49 : decode cX7_chances 49 = .ok (.iconst 1, 1) := by decide +kernel
theorem dX7_chances_50 : decode cX7_chances 50 = .ok (.iand, 1) := by decide +kernel
theorem dX7_chances_51 : decode cX7_chances 51 = .ok (.iconst 1, 1) := by decide +kernel
theorem dX7_chances_52 : decode cX7_chances 52 = .ok (.if_icmp .ne 7, 3) := by decide +kernel
theorem dX7_chances_55 : decode cX7_chances 55 = .ok (.iconst 1, 1) := by decide +kernel
theorem dX7_chances_56 : decode cX7_chances 56 = .ok (.goto 4, 3) := by decide +kernel
theorem dX7_chances_59 : decode cX7_chances 59 = .ok (.iconst 0, 1) := by decide +kernel
theorem dX7_chances_60 : decode cX7_chances 60 = .ok (.istore 11, 2) := by decide +kernel
theorem dX7_chances_62 : decode cX7_chances 62 = .ok (.iload 7, 2) := by decide +kernel
theorem dX7_chances_64 : decode cX7_chances 64 = .ok (.iload 11, 2) := by decide +kernel
theorem dX7_chances_66 : decode cX7_chances 66 = .ok (.ifCond .eq 10, 3) := by decide +kernel
theorem dX7_chances_69 : decode cX7_chances 69 = .ok (.bipush 10, 2) := by decide +kernel
theorem dX7_chances_71 : decode cX7_chances 71 = .ok (.iload_n 2, 1) := by decide +kernel
theorem dX7_chances_72 : decode cX7_chances 72 = .ok (.isub, 1) := by decide +kernel
theorem dX7_chances_73 : decode cX7_chances 73 = .ok (.goto 4, 3) := by decide +kernel
theorem dX7_chances_76 : decode cX7_chances 76 = .ok (.iload_n 2, 1) := by decide +kernel
theorem dX7_chances_77 : decode cX7_chances 77 = .ok (.imul, 1) := by decide +kernel
theorem dX7_chances_78 : decode cX7_chances 78 = .ok (.istore 7, 2) := by decide +kernel
theorem dX7_chances_80 : decode cX7_chances 80 = .ok (.iload 11, 2) := by decide +kernel
theorem dX7_chances_82 : decode cX7_chances 82 = .ok (.ifCond .eq 25, 3) := by decide +kernel
theorem dX7_chances_85 : decode cX7_chances 85 = .ok (.iload 9, 2) := by decide +kernel
theorem dX7_chances_87 : decode cX7_chances 87 = .ok (.ifCond .ne 20, 3) := by decide +kernel
theorem dX7_chances_90 : decode cX7_chances 90 = .ok (.aload_n 0, 1) := by decide +kernel
theorem dX7_chances_91 : decode cX7_chances 91 = .ok (.getfield 7, 3) := by decide +kernel
theorem dX7_chances_94 : decode cX7_chances 94 = .ok (.iconst 0, 1) := by decide +kernel
theorem dX7_chances_95 : decode cX7_chances 95 = .ok (.aload_n 0, 1) := by decide +kernel
theorem dX7_chances_96 : decode cX7_chances 96 = .ok (.getfield 51, 3) := by decide +kernel
theorem dX7_chances_99 : decode cX7_chances 99 = .ok (.iload 10, 2) := by decide +kernel
theorem dX7_chances_101 : decode cX7_chances 101 = .ok (.iaload, 1) := by decide +kernel
theorem dX7_chances_102 : decode cX7_chances 102 = .ok (.iadd, 1) := by decide +kernel
theorem dX7_chances_103 : decode cX7_chances 103 = .ok (.iaload, 1) := by decide +kernel
theorem dX7_chances_104 : decode cX7_chances 104 = .ok (.goto 5, 3) := by decide +kernel
theorem dX7_chances_107 : decode cX7_chances 107 = .ok (.iload 8, 2) := by decide +kernel
theorem dX7_chances_109 : decode cX7_chances 109 = .ok (.istore 8, 2) := by decide +kernel
theorem dX7_chances_111 : decode cX7_chances 111 = .ok (.iload 9, 2) := by decide +kernel
theorem dX7_chances_113 : decode cX7_chances 113 = .ok (.ifCond .ne 8, 3) := by decide +kernel
theorem dX7_chances_116 : decode cX7_chances 116 = .ok (.iload 11, 2) := by decide +kernel
theorem dX7_chances_118 : decode cX7_chances 118 = .ok (.ifCond .eq 7, 3) := by decide +kernel
theorem dX7_chances_121 : decode cX7_chances 121 = .ok (.iconst 1, 1) := by decide +kernel
theorem dX7_chances_122 : decode cX7_chances 122 = .ok (.goto 4, 3) := by decide +kernel
theorem dX7_chances_125 : decode cX7_chances 125 = .ok (.iconst 0, 1) := by decide +kernel
theorem dX7_chances_126 : decode cX7_chances 126 = .ok (.istore 9, 2) := by decide +kernel
theorem dX7_chances_128 : decode cX7_chances 128 = .ok (.iinc 10 1, 3) := by decide +kernel
theorem dX7_chances_131 : decode cX7_chances 131 = .ok (.goto (-93), 3) := by decide +kernel
theorem dX7_chances_134 : decode cX7_chances 134 = .ok (.iload 5, 2) := by decide +kernel
theorem dX7_chances_136 : decode cX7_chances 136 = .ok (.iload 8, 2) := by decide +kernel
theorem dX7_chances_138 : decode cX7_chances 138 = .ok (.iload 4, 2) := by decide +kernel
theorem dX7_chances_140 : decode cX7_chances 140 = .ok (.if_icmp .ne 8, 3) := by decide +kernel
theorem dX7_chances_143 : decode cX7_chances 143 = .ok (.iload 7, 2) := by decide +kernel
theorem dX7_chances_145 : decode cX7_chances 145 = .ok (.goto 4, 3) := by decide +kernel
theorem dX7_chances_148 : decode cX7_chances 148 = .ok (.iconst 0, 1) := by decide +kernel
theorem dX7_chances_149 : decode cX7_chances 149 = .ok (.iadd, 1) := by decide +kernel
theorem dX7_chances_150 : decode cX7_chances 150 = .ok (.istore 5, 2) := by decide +kernel
theorem dX7_chances_152 : decode cX7_chances 152 = .ok (.iinc 6 1, 3) := by decide +kernel
theorem dX7_chances_155 : decode cX7_chances 155 = .ok (.goto (-137), 3) := by decide +kernel
theorem dX7_chances_158 : decode cX7_chances 158 = .ok (.iload 5, 2) := by decide +kernel
theorem dX7_chances_160 : decode cX7_chances 160 = .ok (.ireturn, 1) := by decide +kernel
set_option maxRecDepth 20000 in
theorem ggX7_lost_X7_in : GoodIn wsX7_lost wsX7_in := goodIn_r _ [8] (by decide +kernel) (by decide +kernel)
set_option maxRecDepth 20000 in
theorem gX7_lost_X7_in : GoodIn wsX7_lost (va_wsS RX7 90 yX7_in wsX7_in) := goodIn_app (goodIn_of _ (by decide +kernel)) ggX7_lost_X7_in
set_option maxRecDepth 20000 in
theorem ggX7_lost_X7_chances : GoodIn wsX7_lost wsX7_chances := goodIn_r _ [12, 3, 4, 13, 14, 7, 15, 16, 17, 18, 19, 20, 21, 22, 23, 24, 25, 26, 27, 28, 29, 30, 31, 32, 33, 34, 35, 36] (by decide +kernel) (by decide +kernel)
set_option maxRecDepth 20000 in
theorem gX7_lost_X7_chances : GoodIn wsX7_lost (wsV RX7 157 RX7 yX7_chances wsX7_chances) := goodIn_app (goodIn_of _ (by decide +kernel)) ggX7_lost_X7_chances
theorem dX7_lost_0 : decode cX7_lost 0 = .ok (.iload_n 1, 1) := by decide +kernel
theorem dX7_lost_1 : decode cX7_lost 1 = .ok (.i2l, 1) := by decide +kernel
theorem dX7_lost_2 : decode cX7_lost 2 = .ok (.lconst 0, 1) := by decide +kernel
theorem dX7_lost_3 : decode cX7_lost 3 = .ok (.ldc2_w 88, 3) := by decide +kernel
theorem dX7_lost_6 : decode cX7_lost 6 = .ok (.invokestatic 90, 3) := by decide +kernel
theorem dX7_lost_9 : decode cX7_lost 9 = .ok (.ifCond .eq 25, 3) := by decide +kernel
theorem dX7_lost_12 : decode cX7_lost 12 = .ok (.iload_n 2, 1) := by decide +kernel
theorem dX7_lost_13 : decode cX7_lost 13 = .ok (.i2l, 1) := by decide +kernel
theorem dX7_lost_14 : decode cX7_lost 14 = .ok (.lconst 0, 1) := by decide +kernel
theorem dX7_lost_15 : decode cX7_lost 15 = .ok (.ldc2_w 155, 3) := by decide +kernel
theorem dX7_lost_18 : decode cX7_lost 18 = .ok (.invokestatic 90, 3) := by decide +kernel
theorem dX7_lost_21 : decode cX7_lost 21 = .ok (.ifCond .eq 13, 3) := by decide +kernel
theorem dX7_lost_24 : decode cX7_lost 24 = .ok (.iload_n 3, 1) := by decide +kernel
theorem dX7_lost_25 : decode cX7_lost 25 = .ok (.i2l, 1) := by decide +kernel
theorem dX7_lost_26 : decode cX7_lost 26 = .ok (.lconst 0, 1) := by decide +kernel
theorem dX7_lost_27 : decode cX7_lost 27 = .ok (.lconst 1, 1) := by decide +kernel
theorem dX7_lost_28 : decode cX7_lost 28 = .ok (.invokestatic 90, 3) := by decide +kernel
theorem dX7_lost_31 : decode cX7_lost 31 = .ok (.ifCond .ne 5, 3) := by decide +kernel
theorem dX7_lost_34 : decode cX7_lost 34 = .ok (.iconst (-1), 1) := by decide +kernel
theorem dX7_lost_35 : decode cX7_lost 35 = .ok (.ireturn, 1) := by decide +kernel
theorem dX7_lost_36 : decode cX7_lost 36 = .ok (.iconst 0, 1) := by decide +kernel
theorem dX7_lost_37 : decode cX7_lost 37 = .ok (.istore 4, 2) := by decide +kernel
theorem dX7_lost_39 : decode cX7_lost 39 = .ok (.iconst 1, 1) := by decide +kernel
theorem dX7_lost_40 : decode cX7_lost 40 = .ok (.istore 5, 2) := by decide +kernel
theorem dX7_lost_42 : decode cX7_lost 42 = .ok (.sipush 256, 3) := by decide +kernel
theorem dX7_lost_45 : decode cX7_lost 45 = .ok (.iload_n 1, 1) := by decide +kernel
theorem dX7_lost_46 : decode cX7_lost 46 = .ok (.iadd, 1) := by decide +kernel
theorem dX7_lost_47 : decode cX7_lost 47 = .ok (.istore 6, 2) := by decide +kernel
theorem dX7_lost_49 : decode cX7_lost 49 = .ok (.iload 6, 2) := by decide +kernel
theorem dX7_lost_51 : decode cX7_lost 51 = .ok (.ifCond .le 45, 3) := by decide +kernel
theorem dX7_lost_54 : decode cX7_lost 54 = .ok (.aload_n 0, 1) := by decide +kernel
theorem dX7_lost_55 : decode cX7_lost 55 = .ok (.getfield 7, 3) := by decide +kernel
theorem dX7_lost_58 : decode cX7_lost 58 = .ok (.iconst 0, 1) := by decide +kernel
theorem dX7_lost_59 : decode cX7_lost 59 = .ok (.iload 6, 2) := by decide +kernel
theorem dX7_lost_61 : decode cX7_lost 61 = .ok (.iadd, 1) := by decide +kernel
theorem dX7_lost_62 : decode cX7_lost 62 = .ok (.iaload, 1) := by decide +kernel
theorem dX7_lost_63 : decode cX7_lost 63 = .ok (.bipush 8, 2) := by decide +kernel
theorem dX7_lost_65 : decode cX7_lost 65 = .ok (.if_icmp .eq 22, 3) := by decide +kernel
theorem dX7_lost_68 : decode cX7_lost 68 = .ok (.aload_n 0, 1) := by decide +kernel
theorem dX7_lost_69 : decode cX7_lost 69 = .ok (.getfield 51, 3) := by decide +kernel
theorem dX7_lost_72 : decode cX7_lost 72 = .ok (.iload 4, 2) := by decide +kernel
theorem dX7_lost_74 : decode cX7_lost 74 = .ok (.iload 6, 2) := by decide +kernel
theorem dX7_lost_76 : decode cX7_lost 76 = .ok (.iastore, 1) := by decide +kernel
theorem dX7_lost_77 : decode cX7_lost 77 = .ok (.iinc 4 1, 3) := by decide +kernel
theorem dX7_lost_80 : decode cX7_lost 80 = .ok (.iload 5, 2) := by decide +kernel
theorem dX7_lost_82 : decode cX7_lost 82 = .ok (.bipush 10, 2) := by decide +kernel
theorem dX7_lost_84 : decode cX7_lost 84 = .ok (.imul, 1) := by decide +kernel
theorem dX7_lost_85 : decode cX7_lost 85 = .ok (.istore 5, 2) := by decide +kernel
theorem dX7_lost_87 : decode cX7_lost 87 = .ok (.iload 6, 2) := by decide +kernel
theorem dX7_lost_89 : decode cX7_lost 89 = .ok (.iconst 2, 1) := by decide +kernel
theorem dX7_lost_90 : decode cX7_lost 90 = .ok (.idiv, 1) := by decide +kernel
theorem dX7_lost_91 : decode cX7_lost 91 = .ok (.istore 6, 2) := by decide +kernel
theorem dX7_lost_93 : decode cX7_lost 93 = .ok (.goto (-44), 3) := by decide +kernel
theorem dX7_lost_96 : decode cX7_lost 96 = .ok (.aload_n 0, 1) := by decide +kernel
theorem dX7_lost_97 : decode cX7_lost 97 = .ok (.iload_n 1, 1) := by decide +kernel
theorem dX7_lost_98 : decode cX7_lost 98 = .ok (.iload_n 2, 1) := by decide +kernel
theorem dX7_lost_99 : decode cX7_lost 99 = .ok (.iload 4, 2) := by decide +kernel
theorem dX7_lost_101 : decode cX7_lost 101 = .ok (.invokevirtual 157, 3) := by decide +kernel
theorem dX7_lost_104 : decode cX7_lost 104 = .ok (.istore 6, 2) := by decide +kernel
theorem dX7_lost_106 : decode cX7_lost 106 = .ok (.iload 6, 2) := by decide +kernel
theorem dX7_lost_108 : decode cX7_lost 108 = .ok (.istore 7, 2) := by decide +kernel
theorem dX7_lost_110 : decode cX7_lost 110 = .ok (.iload 5, 2) := by decide +kernel
theorem dX7_lost_112 : decode cX7_lost 112 = .ok (.istore 8, 2) := by decide +kernel
theorem dX7_lost_114 : decode cX7_lost 114 = .ok (.iload 8, 2) := by decide +kernel
theorem dX7_lost_116 : decode cX7_lost 116 = .ok (.ifCond .eq 21, 3) := by decide +kernel
theorem dX7_lost_119 : decode cX7_lost 119 = .ok (.iload 7, 2) := by decide +kernel
theorem dX7_lost_121 : decode cX7_lost 121 = .ok (.iload 8, 2) := by decide +kernel
theorem dX7_lost_123 : decode cX7_lost 123 = .ok (.irem, 1) := by decide +kernel
theorem dX7_lost_124 : decode cX7_lost 124 = .ok (.istore 9, 2) := by decide +kernel
theorem dX7_lost_126 : decode cX7_lost 126 = .ok (.iload 8, 2) := by decide +kernel
theorem dX7_lost_128 : decode cX7_lost 128 = .ok (.istore 7, 2) := by decide +kernel
theorem dX7_lost_130 : decode cX7_lost 130 = .ok (.iload 9, 2) := by decide +kernel
theorem dX7_lost_132 : decode cX7_lost 132 = .ok (.istore 8, 2) := by decide +kernel
theorem dX7_lost_134 : decode cX7_lost 134 = .ok (.goto (-20), 3) := by decide +kernel
theorem dX7_lost_137 : decode cX7_lost 137 = .ok (.iload_n 3, 1) := by decide +kernel
theorem dX7_lost_138 : decode cX7_lost 138 = .ok (.ifCond .ne 11, 3) := by decide +kernel
theorem dX7_lost_141 : decode cX7_lost 141 = .ok (.iload 6, 2) := by decide +kernel
theorem dX7_lost_143 : decode cX7_lost 143 = .ok (.iload 7, 2) := by decide +kernel
theorem dX7_lost_145 : decode cX7_lost 145 = .ok (.idiv, 1) := by decide +kernel
theorem dX7_lost_146 : decode cX7_lost 146 = .ok (.goto 8, 3) := by decide +kernel
theorem dX7_lost_149 : decode cX7_lost 149 = .ok (.iload 5, 2) := by decide +kernel
theorem dX7_lost_151 : decode cX7_lost 151 = .ok (.iload 7, 2) := by decide +kernel
theorem dX7_lost_153 : decode cX7_lost 153 = .ok (.idiv, 1) := by decide +kernel
theorem dX7_lost_154 : decode cX7_lost 154 = .ok (.ireturn, 1) := by decide +kernel
set_option maxRecDepth 20000 in
theorem ggX7_notes_X7_bring : GoodIn wsX7_notes wsX7_bring := goodIn_r _ [7] (by decide +kernel) (by decide +kernel)
set_option maxRecDepth 20000 in
theorem gX7_notes_X7_bring : GoodIn wsX7_notes (va_wsS RX7 161 yX7_bring wsX7_bring) := goodIn_app (goodIn_of _ (by decide +kernel)) ggX7_notes_X7_bring
theorem dX7_notes_0 : decode cX7_notes 0 = .ok (.aload_n 0, 1) := by decide +kernel
theorem dX7_notes_1 : decode cX7_notes 1 = .ok (.getfield 152, 3) := by decide +kernel
theorem dX7_notes_4 : decode cX7_notes 4 = .ok (.bipush 6, 2) := by decide +kernel
theorem dX7_notes_6 : decode cX7_notes 6 = .ok (.if_icmp .ne 31, 3) := by decide +kernel
theorem dX7_notes_9 : decode cX7_notes 9 = .ok (.aload_n 0, 1) := by decide +kernel
theorem dX7_notes_10 : decode cX7_notes 10 = .ok (.getfield 13, 3) := by decide +kernel
theorem dX7_notes_13 : decode cX7_notes 13 = .ok (.sipush 1025, 3) := by decide +kernel
theorem dX7_notes_16 : decode cX7_notes 16 = .ok (.aload_n 0, 1) := by decide +kernel
theorem dX7_notes_17 : decode cX7_notes 17 = .ok (.getfield 13, 3) := by decide +kernel
theorem dX7_notes_20 : decode cX7_notes 20 = .ok (.iconst 0, 1) := by decide +kernel
theorem dX7_notes_21 : decode cX7_notes 21 = .ok (.sipush 5125, 3) := by decide +kernel
theorem dX7_notes_24 : decode cX7_notes 24 = .ok (.invokestatic 161, 3) := by decide +kernel
theorem dX7_notes_27 : decode cX7_notes 27 = .ok (.aload_n 0, 1) := by decide +kernel
theorem dX7_notes_28 : decode cX7_notes 28 = .ok (.dup, 1) := by decide +kernel
theorem dX7_notes_29 : decode cX7_notes 29 = .ok (.getfield 152, 3) := by decide +kernel
theorem dX7_notes_32 : decode cX7_notes 32 = .ok (.iconst 1, 1) := by decide +kernel
theorem dX7_notes_33 : decode cX7_notes 33 = .ok (.isub, 1) := by decide +kernel
theorem dX7_notes_34 : decode cX7_notes 34 = .ok (.putfield 152, 3) := by decide +kernel
theorem dX7_notes_37 : decode cX7_notes 37 = .ok (.aload_n 0, 1) := by decide +kernel
theorem dX7_notes_38 : decode cX7_notes 38 = .ok (.getfield 7, 3) := by decide +kernel
theorem dX7_notes_41 : decode cX7_notes 41 = .ok (.iconst 0, 1) := by decide +kernel
theorem dX7_notes_42 : decode cX7_notes 42 = .ok (.aload_n 0, 1) := by decide +kernel
theorem dX7_notes_43 : decode cX7_notes 43 = .ok (.getfield 13, 3) := by decide +kernel
theorem dX7_notes_46 : decode cX7_notes 46 = .ok (.sipush 1025, 3) := by decide +kernel
theorem dX7_notes_49 : decode cX7_notes 49 = .ok (.aload_n 0, 1) := by decide +kernel
theorem dX7_notes_50 : decode cX7_notes 50 = .ok (.getfield 152, 3) := by decide +kernel
theorem dX7_notes_53 : decode cX7_notes 53 = .ok (.imul, 1) := by decide +kernel
theorem dX7_notes_54 : decode cX7_notes 54 = .ok (.sipush 1025, 3) := by decide +kernel
theorem dX7_notes_57 : decode cX7_notes 57 = .ok (.invokestatic 161, 3) := by decide +kernel
theorem dX7_notes_60 : decode cX7_notes 60 = .ok (.aload_n 0, 1) := by decide +kernel
theorem dX7_notes_61 : decode cX7_notes 61 = .ok (.dup, 1) := by decide +kernel
theorem dX7_notes_62 : decode cX7_notes 62 = .ok (.getfield 152, 3) := by decide +kernel
theorem dX7_notes_65 : decode cX7_notes 65 = .ok (.iconst 1, 1) := by decide +kernel
theorem dX7_notes_66 : decode cX7_notes 66 = .ok (.iadd, 1) := by decide +kernel
theorem dX7_notes_67 : decode cX7_notes 67 = .ok (.putfield 152, 3) := by decide +kernel
theorem dX7_notes_70 : decode cX7_notes 70 = .ok (.return_, 1) := by decide +kernel
end
section
set_option maxRecDepth 20000 in
theorem ggX7_tell_X7_isPrefix : GoodIn wsX7_tell wsX7_isPrefix := goodIn_r _ [6, 7, 8, 9, 5, 10] (by decide +kernel) (by decide +kernel)
set_option maxRecDepth 20000 in
theorem gX7_tell_X7_isPrefix : GoodIn wsX7_tell (va_wsS RX7 101 yX7_isPrefix wsX7_isPrefix) := goodIn_app (goodIn_of _ (by decide +kernel)) ggX7_tell_X7_isPrefix
set_option maxRecDepth 20000 in
theorem ggX7_tell_X7_in : GoodIn wsX7_tell wsX7_in := goodIn_r _ [10] (by decide +kernel) (by decide +kernel)
set_option maxRecDepth 20000 in
theorem gX7_tell_X7_in : GoodIn wsX7_tell (va_wsS RX7 90 yX7_in wsX7_in) := goodIn_app (goodIn_of _ (by decide +kernel)) ggX7_tell_X7_in
set_option maxRecDepth 20000 in
theorem ggX7_tell_X7_many : GoodIn wsX7_tell wsX7_many := goodIn_r _ [13] (by decide +kernel) (by decide +kernel)
set_option maxRecDepth 20000 in
theorem gX7_tell_X7_many : GoodIn wsX7_tell (va_wsS RX7 138 yX7_many wsX7_many) := goodIn_app (goodIn_of _ (by decide +kernel)) ggX7_tell_X7_many
set_option maxRecDepth 20000 in
theorem ggX7_tell_X7_notes : GoodIn wsX7_tell wsX7_notes := goodIn_r _ [17, 18, 19, 2, 20, 21, 5, 22, 23, 24, 25, 26, 27, 28, 29, 30, 31, 32, 33, 34, 35, 36, 37, 38, 39, 40] (by decide +kernel) (by decide +kernel)
set_option maxRecDepth 20000 in
theorem gX7_tell_X7_notes : GoodIn wsX7_tell (wsV RX7 165 RX7 yX7_notes wsX7_notes) := goodIn_app (goodIn_of _ (by decide +kernel)) ggX7_tell_X7_notes
theorem dX7_tell_0 : decode cX7_tell 0 = .ok (.iload_n 1, 1) := by decide +kernel
theorem dX7_tell_1 : decode cX7_tell 1 = .ok (.invokestatic 101, 3) := by decide +kernel
theorem dX7_tell_4 : decode cX7_tell 4 = .ok (.ifCond .eq 15, 3) := by decide +kernel
theorem dX7_tell_7 : decode cX7_tell 7 = .ok (.iload_n 2, 1) := by decide +kernel
theorem dX7_tell_8 : decode cX7_tell 8 = .ok (.i2l, 1) := by decide +kernel
theorem dX7_tell_9 : decode cX7_tell 9 = .ok (.lconst 0, 1) := by decide +kernel
theorem dX7_tell_10 : decode cX7_tell 10 = .ok (.ldc2_w 116, 3) := by decide +kernel
theorem dX7_tell_13 : decode cX7_tell 13 = .ok (.invokestatic 90, 3) := by decide +kernel
theorem dX7_tell_16 : decode cX7_tell 16 = .ok (.ifCond .ne 5, 3) := by decide +kernel
theorem dX7_tell_19 : decode cX7_tell 19 = .ok (.iconst (-1), 1) := by decide +kernel
theorem dX7_tell_20 : decode cX7_tell 20 = .ok (.ireturn, 1) := by decide +kernel
theorem dX7_tell_21 : decode cX7_tell 21 = .ok (.aload_n 0, 1) := by decide +kernel
theorem dX7_tell_22 : decode cX7_tell 22 = .ok (.getfield 7, 3) := by decide +kernel
theorem dX7_tell_25 : decode cX7_tell 25 = .ok (.iconst 0, 1) := by decide +kernel
theorem dX7_tell_26 : decode cX7_tell 26 = .ok (.iload_n 1, 1) := by decide +kernel
theorem dX7_tell_27 : decode cX7_tell 27 = .ok (.iadd, 1) := by decide +kernel
theorem dX7_tell_28 : decode cX7_tell 28 = .ok (.iaload, 1) := by decide +kernel
theorem dX7_tell_29 : decode cX7_tell 29 = .ok (.istore_n 3, 1) := by decide +kernel
theorem dX7_tell_30 : decode cX7_tell 30 = .ok (.iload_n 3, 1) := by decide +kernel
theorem dX7_tell_31 : decode cX7_tell 31 = .ok (.iload_n 2, 1) := by decide +kernel
theorem dX7_tell_32 : decode cX7_tell 32 = .ok (.if_icmp .ne 6, 3) := by decide +kernel
theorem dX7_tell_35 : decode cX7_tell 35 = .ok (.bipush (-2), 2) := by decide +kernel
theorem dX7_tell_37 : decode cX7_tell 37 = .ok (.ireturn, 1) := by decide +kernel
theorem dX7_tell_38 : decode cX7_tell 38 = .ok (.iload_n 3, 1) := by decide +kernel
theorem dX7_tell_39 : decode cX7_tell 39 = .ok (.bipush 8, 2) := by decide +kernel
theorem dX7_tell_41 : decode cX7_tell 41 = .ok (.if_icmp .ne 19, 3) := by decide +kernel
theorem dX7_tell_44 : decode cX7_tell 44 = .ok (.aload_n 0, 1) := by decide +kernel
theorem dX7_tell_45 : decode cX7_tell 45 = .ok (.getfield 7, 3) := by decide +kernel
theorem dX7_tell_48 : decode cX7_tell 48 = .ok (.iconst 0, 1) := by decide +kernel
theorem dX7_tell_49 : decode cX7_tell 49 = .ok (.invokestatic 138, 3) := by decide +kernel
theorem dX7_tell_52 : decode cX7_tell 52 = .ok (.bipush 40, 2) := by decide +kernel
theorem dX7_tell_54 : decode cX7_tell 54 = .ok (.if_icmp .ne 6, 3) := by decide +kernel
theorem dX7_tell_57 : decode cX7_tell 57 = .ok (.bipush (-3), 2) := by decide +kernel
theorem dX7_tell_59 : decode cX7_tell 59 = .ok (.ireturn, 1) := by decide +kernel
theorem dX7_tell_60 : decode cX7_tell 60 = .ok (.aload_n 0, 1) := by decide +kernel
theorem dX7_tell_61 : decode cX7_tell 61 = .ok (.invokevirtual 165, 3) := by decide +kernel
theorem dX7_tell_64 : decode cX7_tell 64 = .ok (.aload_n 0, 1) := by decide +kernel
theorem dX7_tell_65 : decode cX7_tell 65 = .ok (.getfield 7, 3) := by decide +kernel
theorem dX7_tell_68 : decode cX7_tell 68 = .ok (.iconst 0, 1) := by decide +kernel
theorem dX7_tell_69 : decode cX7_tell 69 = .ok (.iload_n 1, 1) := by decide +kernel
theorem dX7_tell_70 : decode cX7_tell 70 = .ok (.iadd, 1) := by decide +kernel
theorem dX7_tell_71 : decode cX7_tell 71 = .ok (.iload_n 2, 1) := by decide +kernel
theorem dX7_tell_72 : decode cX7_tell 72 = .ok (.iastore, 1) := by decide +kernel
theorem dX7_tell_73 : decode cX7_tell 73 = .ok (.iload_n 3, 1) := by decide +kernel
theorem dX7_tell_74 : decode cX7_tell 74 = .ok (.ireturn, 1) := by decide +kernel
set_option maxRecDepth 20000 in
theorem ggX7_out_X7_isPrefix : GoodIn wsX7_out wsX7_isPrefix := goodIn_r _ [5, 6, 7, 8, 4, 9] (by decide +kernel) (by decide +kernel)
set_option maxRecDepth 20000 in
theorem gX7_out_X7_isPrefix : GoodIn wsX7_out (va_wsS RX7 101 yX7_isPrefix wsX7_isPrefix) := goodIn_app (goodIn_of _ (by decide +kernel)) ggX7_out_X7_isPrefix
set_option maxRecDepth 20000 in
theorem ggX7_out_X7_notes : GoodIn wsX7_out wsX7_notes := goodIn_r _ [13, 14, 15, 1, 16, 17, 4, 18, 19, 20, 21, 22, 23, 24, 25, 26, 27, 28, 29, 30, 31, 32, 33, 34, 35, 36] (by decide +kernel) (by decide +kernel)
set_option maxRecDepth 20000 in
theorem gX7_out_X7_notes : GoodIn wsX7_out (wsV RX7 165 RX7 yX7_notes wsX7_notes) := goodIn_app (goodIn_of _ (by decide +kernel)) ggX7_out_X7_notes
theorem dX7_out_0 : decode cX7_out 0 = .ok (.iload_n 1, 1) := by decide +kernel
theorem dX7_out_1 : decode cX7_out 1 = .ok (.invokestatic 101, 3) := by decide +kernel
theorem dX7_out_4 : decode cX7_out 4 = .ok (.ifCond .ne 5, 3) := by decide +kernel
theorem dX7_out_7 : decode cX7_out 7 = .ok (.iconst (-1), 1) := by decide +kernel
theorem dX7_out_8 : decode cX7_out 8 = .ok (.ireturn, 1) := by decide +kernel
theorem dX7_out_9 : decode cX7_out 9 = .ok (.aload_n 0, 1) := by decide +kernel
theorem dX7_out_10 : decode cX7_out 10 = .ok (.getfield 7, 3) := by decide +kernel
theorem dX7_out_13 : decode cX7_out 13 = .ok (.iconst 0, 1) := by decide +kernel
theorem dX7_out_14 : decode cX7_out 14 = .ok (.iload_n 1, 1) := by decide +kernel
theorem dX7_out_15 : decode cX7_out 15 = .ok (.iadd, 1) := by decide +kernel
theorem dX7_out_16 : decode cX7_out 16 = .ok (.iaload, 1) := by decide +kernel
theorem dX7_out_17 : decode cX7_out 17 = .ok (.istore_n 2, 1) := by decide +kernel
theorem dX7_out_18 : decode cX7_out 18 = .ok (.iload_n 2, 1) := by decide +kernel
theorem dX7_out_19 : decode cX7_out 19 = .ok (.bipush 8, 2) := by decide +kernel
theorem dX7_out_21 : decode cX7_out 21 = .ok (.if_icmp .ne 6, 3) := by decide +kernel
theorem dX7_out_24 : decode cX7_out 24 = .ok (.bipush (-4), 2) := by decide +kernel
theorem dX7_out_26 : decode cX7_out 26 = .ok (.ireturn, 1) := by decide +kernel
theorem dX7_out_27 : decode cX7_out 27 = .ok (.aload_n 0, 1) := by decide +kernel
theorem dX7_out_28 : decode cX7_out 28 = .ok (.invokevirtual 165, 3) := by decide +kernel
theorem dX7_out_31 : decode cX7_out 31 = .ok (.aload_n 0, 1) := by decide +kernel
theorem dX7_out_32 : decode cX7_out 32 = .ok (.getfield 7, 3) := by decide +kernel
theorem dX7_out_35 : decode cX7_out 35 = .ok (.iconst 0, 1) := by decide +kernel
theorem dX7_out_36 : decode cX7_out 36 = .ok (.iload_n 1, 1) := by decide +kernel
theorem dX7_out_37 : decode cX7_out 37 = .ok (.iadd, 1) := by decide +kernel
theorem dX7_out_38 : decode cX7_out 38 = .ok (.bipush 8, 2) := by decide +kernel
theorem dX7_out_40 : decode cX7_out 40 = .ok (.iastore, 1) := by decide +kernel
theorem dX7_out_41 : decode cX7_out 41 = .ok (.iload_n 2, 1) := by decide +kernel
theorem dX7_out_42 : decode cX7_out 42 = .ok (.ireturn, 1) := by decide +kernel
set_option maxRecDepth 20000 in
theorem ggX7_rename_X7_in : GoodIn wsX7_rename wsX7_in := goodIn_r _ [6] (by decide +kernel) (by decide +kernel)
set_option maxRecDepth 20000 in
theorem gX7_rename_X7_in : GoodIn wsX7_rename (va_wsS RX7 90 yX7_in wsX7_in) := goodIn_app (goodIn_of _ (by decide +kernel)) ggX7_rename_X7_in
set_option maxRecDepth 20000 in
theorem ggX7_rename_X7_notes : GoodIn wsX7_rename wsX7_notes := goodIn_r _ [10, 11, 12, 2, 13, 14, 5, 15, 16, 17, 18, 19, 20, 21, 22, 23, 24, 25, 26, 27, 28, 29, 30, 31, 32, 33] (by decide +kernel) (by decide +kernel)
set_option maxRecDepth 20000 in
theorem gX7_rename_X7_notes : GoodIn wsX7_rename (wsV RX7 165 RX7 yX7_notes wsX7_notes) := goodIn_app (goodIn_of _ (by decide +kernel)) ggX7_rename_X7_notes
theorem dX7_rename_0 : decode cX7_rename 0 = .ok (.iload_n 1, 1) := by decide +kernel
theorem dX7_rename_1 : decode cX7_rename 1 = .ok (.i2l, 1) := by decide +kernel
theorem dX7_rename_2 : decode cX7_rename 2 = .ok (.lconst 0, 1) := by decide +kernel
theorem dX7_rename_3 : decode cX7_rename 3 = .ok (.ldc2_w 116, 3) := by decide +kernel
theorem dX7_rename_6 : decode cX7_rename 6 = .ok (.invokestatic 90, 3) := by decide +kernel
theorem dX7_rename_9 : decode cX7_rename 9 = .ok (.ifCond .eq 15, 3) := by decide +kernel
theorem dX7_rename_12 : decode cX7_rename 12 = .ok (.iload_n 2, 1) := by decide +kernel
theorem dX7_rename_13 : decode cX7_rename 13 = .ok (.i2l, 1) := by decide +kernel
theorem dX7_rename_14 : decode cX7_rename 14 = .ok (.lconst 0, 1) := by decide +kernel
theorem dX7_rename_15 : decode cX7_rename 15 = .ok (.ldc2_w 116, 3) := by decide +kernel
theorem dX7_rename_18 : decode cX7_rename 18 = .ok (.invokestatic 90, 3) := by decide +kernel
theorem dX7_rename_21 : decode cX7_rename 21 = .ok (.ifCond .ne 5, 3) := by decide +kernel
theorem dX7_rename_24 : decode cX7_rename 24 = .ok (.iconst (-1), 1) := by decide +kernel
theorem dX7_rename_25 : decode cX7_rename 25 = .ok (.ireturn, 1) := by decide +kernel
theorem dX7_rename_26 : decode cX7_rename 26 = .ok (.iload_n 1, 1) := by decide +kernel
theorem dX7_rename_27 : decode cX7_rename 27 = .ok (.iload_n 2, 1) := by decide +kernel
theorem dX7_rename_28 : decode cX7_rename 28 = .ok (.if_icmp .ne 6, 3) := by decide +kernel
theorem dX7_rename_31 : decode cX7_rename 31 = .ok (.bipush (-2), 2) := by decide +kernel
theorem dX7_rename_33 : decode cX7_rename 33 = .ok (.ireturn, 1) := by decide +kernel
theorem dX7_rename_34 : decode cX7_rename 34 = .ok (.iconst 0, 1) := by decide +kernel
theorem dX7_rename_35 : decode cX7_rename 35 = .ok (.istore_n 3, 1) := by decide +kernel
theorem dX7_rename_36 : decode cX7_rename 36 = .ok (.iconst 1, 1) := by decide +kernel
theorem dX7_rename_37 : decode cX7_rename 37 = .ok (.istore 4, 2) := by decide +kernel
theorem dX7_rename_39 : decode cX7_rename 39 = .ok (.iload 4, 2) := by decide +kernel
theorem dX7_rename_41 : decode cX7_rename 41 = .ok (.sipush 512, 3) := by decide +kernel
theorem dX7_rename_44 : decode cX7_rename 44 = .ok (.if_icmp .ge 30, 3) := by decide +kernel
theorem dX7_rename_47 : decode cX7_rename 47 = .ok (.iload_n 3, 1) := by decide +kernel
theorem dX7_rename_48 : decode cX7_rename 48 = .ok (.aload_n 0, 1) := by decide +kernel
theorem dX7_rename_49 : decode cX7_rename 49 = .ok (.getfield 7, 3) := by decide +kernel
theorem dX7_rename_52 : decode cX7_rename 52 = .ok (.iconst 0, 1) := by decide +kernel
theorem dX7_rename_53 : decode cX7_rename 53 = .ok (.iload 4, 2) := by decide +kernel
theorem dX7_rename_55 : decode cX7_rename 55 = .ok (.iadd, 1) := by decide +kernel
theorem dX7_rename_56 : decode cX7_rename 56 = .ok (.iaload, 1) := by decide +kernel
theorem dX7_rename_57 : decode cX7_rename 57 = .ok (.iload_n 1, 1) := by decide +kernel
theorem dX7_rename_58 : decode cX7_rename 58 = .ok (.if_icmp .ne 7, 3) := by decide +kernel
theorem dX7_rename_61 : decode cX7_rename 61 = .ok (.iconst 1, 1) := by decide +kernel
theorem dX7_rename_62 : decode cX7_rename 62 = .ok (.goto 4, 3) := by decide +kernel
theorem dX7_rename_65 : decode cX7_rename 65 = .ok (.iconst 0, 1) := by decide +kernel
theorem dX7_rename_66 : decode cX7_rename 66 = .ok (.iadd, 1) := by decide +kernel
theorem dX7_rename_67 : decode cX7_rename 67 = .ok (.istore_n 3, 1) := by decide +kernel
theorem dX7_rename_68 : decode cX7_rename 68 = .ok (.iinc 4 1, 3) := by decide +kernel
theorem dX7_rename_71 : decode cX7_rename 71 = .ok (.goto (-32), 3) := by decide +kernel
theorem dX7_rename_74 : decode cX7_rename 74 = .ok (.iload_n 3, 1) := by decide +kernel
theorem dX7_rename_75 : decode cX7_rename 75 = .ok (.ifCond .ne 6, 3) := by decide +kernel
theorem dX7_rename_78 : decode cX7_rename 78 = .ok (.bipush (-4), 2) := by decide +kernel
theorem dX7_rename_80 : decode cX7_rename 80 = .ok (.ireturn, 1) := by decide +kernel
theorem dX7_rename_81 : decode cX7_rename 81 = .ok (.aload_n 0, 1) := by decide +kernel
theorem dX7_rename_82 : decode cX7_rename 82 = .ok (.invokevirtual 165, 3) := by decide +kernel
theorem dX7_rename_85 : decode cX7_rename 85 = .ok (.iconst 1, 1) := by decide +kernel
theorem dX7_rename_86 : decode cX7_rename 86 = .ok (.istore 4, 2) := by decide +kernel
theorem dX7_rename_88 : decode cX7_rename 88 = .ok (.iload 4, 2) := by decide +kernel
theorem dX7_rename_90 : decode cX7_rename 90 = .ok (.sipush 512, 3) := by decide +kernel
theorem dX7_rename_93 : decode cX7_rename 93 = .ok (.if_icmp .ge 44, 3) := by decide +kernel
theorem dX7_rename_96 : decode cX7_rename 96 = .ok (.aload_n 0, 1) := by decide +kernel
theorem dX7_rename_97 : decode cX7_rename 97 = .ok (.getfield 7, 3) := by decide +kernel
theorem dX7_rename_100 : decode cX7_rename 100 = .ok (.iconst 0, 1) := by decide +kernel
theorem dX7_rename_101 : decode cX7_rename 101 = .ok (.iload 4, 2) := by decide +kernel
theorem dX7_rename_103 : decode cX7_rename 103 = .ok (.iadd, 1) := by decide +kernel
theorem dX7_rename_104 : decode cX7_rename 104 = .ok (.aload_n 0, 1) := by decide +kernel
theorem dX7_rename_105 : decode cX7_rename 105 = .ok (.getfield 7, 3) := by decide +kernel
theorem dX7_rename_108 : decode cX7_rename 108 = .ok (.iconst 0, 1) := by decide +kernel
theorem dX7_rename_109 : decode cX7_rename 109 = .ok (.iload 4, 2) := by decide +kernel
theorem dX7_rename_111 : decode cX7_rename 111 = .ok (.iadd, 1) := by decide +kernel
theorem dX7_rename_112 : decode cX7_rename 112 = .ok (.iaload, 1) := by decide +kernel
theorem dX7_rename_113 : decode cX7_rename 113 = .ok (.iload_n 1, 1) := by decide +kernel
theorem dX7_rename_114 : decode cX7_rename 114 = .ok (.if_icmp .ne 7, 3) := by decide +kernel
theorem dX7_rename_117 : decode cX7_rename 117 = .ok (.iload_n 2, 1) := by decide +kernel
theorem dX7_rename_118 : decode cX7_rename 118 = .ok (.goto 12, 3) := by decide +kernel
theorem dX7_rename_121 : decode cX7_rename 121 = .ok (.aload_n 0, 1) := by decide +kernel
theorem dX7_rename_122 : decode cX7_rename 122 = .ok (.getfield 7, 3) := by decide +kernel
theorem dX7_rename_125 : decode cX7_rename 125 = .ok (.iconst 0, 1) := by decide +kernel
theorem dX7_rename_126 : decode cX7_rename 126 = .ok (.iload 4, 2) := by decide +kernel
theorem dX7_rename_128 : decode cX7_rename 128 = .ok (.iadd, 1) := by decide +kernel
theorem dX7_rename_129 : decode cX7_rename 129 = .ok (.iaload, 1) := by decide +kernel
theorem dX7_rename_130 : decode cX7_rename 130 = .ok (.iastore, 1) := by decide +kernel
theorem dX7_rename_131 : decode cX7_rename 131 = .ok (.iinc 4 1, 3) := by decide +kernel
theorem dX7_rename_134 : decode cX7_rename 134 = .ok (.goto (-46), 3) := by decide +kernel
theorem dX7_rename_137 : decode cX7_rename 137 = .ok (.iload_n 3, 1) := by decide +kernel
theorem dX7_rename_138 : decode cX7_rename 138 = .ok (.ireturn, 1) := by decide +kernel
set_option maxRecDepth 20000 in
theorem ggX7_install_X7_lays : GoodIn wsX7_install wsX7_lays := goodIn_r _ [7, 8, 9, 10, 6, 11, 12, 2, 13, 14, 15, 16, 17, 18, 19, 20, 21, 22, 23, 24, 25, 26, 27, 28, 29, 30, 31, 1, 32, 33, 34, 35, 36, 37, 38, 39, 53, 54, 55, 56, 57, 58, 59, 60, 61, 62, 63, 64, 65, 66, 67, 68, 69, 70] (by decide +kernel) (by decide +kernel)
set_option maxRecDepth 20000 in
theorem gX7_install_X7_lays : GoodIn wsX7_install (wsV RX7 96 RX7 yX7_lays wsX7_lays) := goodIn_app (goodIn_of _ (by decide +kernel)) ggX7_install_X7_lays
set_option maxRecDepth 20000 in
theorem ggX7_install_X7_changes : GoodIn wsX7_install wsX7_changes := goodIn_r _ [43, 1, 2, 53, 54, 55, 56, 57, 58, 59, 60, 61, 62, 63, 64, 65, 66, 67, 68, 69, 70] (by decide +kernel) (by decide +kernel)
set_option maxRecDepth 20000 in
theorem gX7_install_X7_changes : GoodIn wsX7_install (wsV RX7 142 RX7 yX7_changes wsX7_changes) := goodIn_app (goodIn_of _ (by decide +kernel)) ggX7_install_X7_changes
set_option maxRecDepth 20000 in
theorem ggX7_install_X7_notes : GoodIn wsX7_install wsX7_notes := goodIn_r _ [47, 48, 49, 2, 50, 51, 6, 52, 53, 54, 55, 56, 57, 58, 59, 60, 61, 62, 63, 64, 65, 66, 67, 68, 69, 70] (by decide +kernel) (by decide +kernel)
set_option maxRecDepth 20000 in
theorem gX7_install_X7_notes : GoodIn wsX7_install (wsV RX7 165 RX7 yX7_notes wsX7_notes) := goodIn_app (goodIn_of _ (by decide +kernel)) ggX7_install_X7_notes
set_option maxRecDepth 20000 in
theorem ggX7_install_X7_bring : GoodIn wsX7_install wsX7_bring := goodIn_r _ [52] (by decide +kernel) (by decide +kernel)
set_option maxRecDepth 20000 in
theorem gX7_install_X7_bring : GoodIn wsX7_install (va_wsS RX7 161 yX7_bring wsX7_bring) := goodIn_app (goodIn_of _ (by decide +kernel)) ggX7_install_X7_bring
theorem dX7_install_0 : decode cX7_install 0 = .ok (.aload_n 0, 1) := by decide +kernel
theorem dX7_install_1 : decode cX7_install 1 = .ok (.invokevirtual 96, 3) := by decide +kernel
theorem dX7_install_4 : decode cX7_install 4 = .ok (.aload_n 0, 1) := by decide +kernel
theorem dX7_install_5 : decode cX7_install 5 = .ok (.invokevirtual 142, 3) := by decide +kernel
theorem dX7_install_8 : decode cX7_install 8 = .ok (.istore_n 1, 1) := by decide +kernel
theorem dX7_install_9 : decode cX7_install 9 = .ok (.iload_n 1, 1) := by decide +kernel
theorem dX7_install_10 : decode cX7_install 10 = .ok (.ifCond .ne 6, 3) := by decide +kernel
theorem dX7_install_13 : decode cX7_install 13 = .ok (.bipush (-2), 2) := by decide +kernel
theorem dX7_install_15 : decode cX7_install 15 = .ok (.ireturn, 1) := by decide +kernel
theorem dX7_install_16 : decode cX7_install 16 = .ok (.aload_n 0, 1) := by decide +kernel
theorem dX7_install_17 : decode cX7_install 17 = .ok (.invokevirtual 165, 3) := by decide +kernel
theorem dX7_install_20 : decode cX7_install 20 = .ok (.aload_n 0, 1) := by decide +kernel
theorem dX7_install_21 : decode cX7_install 21 = .ok (.getfield 39, 3) := by decide +kernel
theorem dX7_install_24 : decode cX7_install 24 = .ok (.iconst 1, 1) := by decide +kernel
theorem dX7_install_25 : decode cX7_install 25 = .ok (.aload_n 0, 1) := by decide +kernel
theorem dX7_install_26 : decode cX7_install 26 = .ok (.getfield 7, 3) := by decide +kernel
theorem dX7_install_29 : decode cX7_install 29 = .ok (.sipush 513, 3) := by decide +kernel
theorem dX7_install_32 : decode cX7_install 32 = .ok (.sipush 511, 3) := by decide +kernel
theorem dX7_install_35 : decode cX7_install 35 = .ok (.invokestatic 161, 3) := by decide +kernel
theorem dX7_install_38 : decode cX7_install 38 = .ok (.iload_n 1, 1) := by decide +kernel
theorem dX7_install_39 : decode cX7_install 39 = .ok (.ireturn, 1) := by decide +kernel
set_option maxRecDepth 20000 in
theorem ggX7_type_X7_in : GoodIn wsX7_type wsX7_in := goodIn_r _ [8] (by decide +kernel) (by decide +kernel)
set_option maxRecDepth 20000 in
theorem gX7_type_X7_in : GoodIn wsX7_type (va_wsS RX7 90 yX7_in wsX7_in) := goodIn_app (goodIn_of _ (by decide +kernel)) ggX7_type_X7_in
theorem dX7_type_0 : decode cX7_type 0 = .ok (.iload_n 1, 1) := by decide +kernel
theorem dX7_type_1 : decode cX7_type 1 = .ok (.i2l, 1) := by decide +kernel
theorem dX7_type_2 : decode cX7_type 2 = .ok (.ldc2_w 168, 3) := by decide +kernel
theorem dX7_type_5 : decode cX7_type 5 = .ok (.ldc2_w 170, 3) := by decide +kernel
theorem dX7_type_8 : decode cX7_type 8 = .ok (.invokestatic 90, 3) := by decide +kernel
theorem dX7_type_11 : decode cX7_type 11 = .ok (.ifCond .ne 5, 3) := by decide +kernel
theorem dX7_type_14 : decode cX7_type 14 = .ok (.iconst (-1), 1) := by decide +kernel
theorem dX7_type_15 : decode cX7_type 15 = .ok (.ireturn, 1) := by decide +kernel
theorem dX7_type_16 : decode cX7_type 16 = .ok (.aload_n 0, 1) := by decide +kernel
theorem dX7_type_17 : decode cX7_type 17 = .ok (.getfield 172, 3) := by decide +kernel
theorem dX7_type_20 : decode cX7_type 20 = .ok (.bipush 100, 2) := by decide +kernel
theorem dX7_type_22 : decode cX7_type 22 = .ok (.if_icmp .ne 6, 3) := by decide +kernel
theorem dX7_type_25 : decode cX7_type 25 = .ok (.bipush (-3), 2) := by decide +kernel
theorem dX7_type_27 : decode cX7_type 27 = .ok (.ireturn, 1) := by decide +kernel
theorem dX7_type_28 : decode cX7_type 28 = .ok (.aload_n 0, 1) := by decide +kernel
theorem dX7_type_29 : decode cX7_type 29 = .ok (.getfield 26, 3) := by decide +kernel
theorem dX7_type_32 : decode cX7_type 32 = .ok (.aload_n 0, 1) := by decide +kernel
theorem dX7_type_33 : decode cX7_type 33 = .ok (.getfield 172, 3) := by decide +kernel
theorem dX7_type_36 : decode cX7_type 36 = .ok (.iload_n 1, 1) := by decide +kernel
theorem dX7_type_37 : decode cX7_type 37 = .ok (.iastore, 1) := by decide +kernel
theorem dX7_type_38 : decode cX7_type 38 = .ok (.aload_n 0, 1) := by decide +kernel
theorem dX7_type_39 : decode cX7_type 39 = .ok (.dup, 1) := by decide +kernel
theorem dX7_type_40 : decode cX7_type 40 = .ok (.getfield 172, 3) := by decide +kernel
theorem dX7_type_43 : decode cX7_type 43 = .ok (.iconst 1, 1) := by decide +kernel
theorem dX7_type_44 : decode cX7_type 44 = .ok (.iadd, 1) := by decide +kernel
theorem dX7_type_45 : decode cX7_type 45 = .ok (.putfield 172, 3) := by decide +kernel
theorem dX7_type_48 : decode cX7_type 48 = .ok (.aload_n 0, 1) := by decide +kernel
theorem dX7_type_49 : decode cX7_type 49 = .ok (.getfield 172, 3) := by decide +kernel
theorem dX7_type_52 : decode cX7_type 52 = .ok (.ireturn, 1) := by decide +kernel
theorem dX7_looks_0 : decode cX7_looks 0 = .ok (.aload_n 0, 1) := by decide +kernel
theorem dX7_looks_1 : decode cX7_looks 1 = .ok (.getfield 175, 3) := by decide +kernel
theorem dX7_looks_4 : decode cX7_looks 4 = .ok (.aload_n 0, 1) := by decide +kernel
theorem dX7_looks_5 : decode cX7_looks 5 = .ok (.getfield 172, 3) := by decide +kernel
theorem dX7_looks_8 : decode cX7_looks 8 = .ok (.if_icmp .ge 30, 3) := by decide +kernel
theorem dX7_looks_11 : decode cX7_looks 11 = .ok (.aload_n 0, 1) := by decide +kernel
theorem dX7_looks_12 : decode cX7_looks 12 = .ok (.getfield 26, 3) := by decide +kernel
theorem dX7_looks_15 : decode cX7_looks 15 = .ok (.aload_n 0, 1) := by decide +kernel
theorem dX7_looks_16 : decode cX7_looks 16 = .ok (.getfield 175, 3) := by decide +kernel
theorem dX7_looks_19 : decode cX7_looks 19 = .ok (.iaload, 1) := by decide +kernel
theorem dX7_looks_20 : decode cX7_looks 20 = .ok (.bipush 32, 2) := by decide +kernel
theorem dX7_looks_22 : decode cX7_looks 22 = .ok (.if_icmp .ne 16, 3) := by decide +kernel
theorem dX7_looks_25 : decode cX7_looks 25 = .ok (.aload_n 0, 1) := by decide +kernel
theorem dX7_looks_26 : decode cX7_looks 26 = .ok (.dup, 1) := by decide +kernel
theorem dX7_looks_27 : decode cX7_looks 27 = .ok (.getfield 175, 3) := by decide +kernel
theorem dX7_looks_30 : decode cX7_looks 30 = .ok (.iconst 1, 1) := by decide +kernel
theorem dX7_looks_31 : decode cX7_looks 31 = .ok (.iadd, 1) := by decide +kernel
theorem dX7_looks_32 : decode cX7_looks 32 = .ok (.putfield 175, 3) := by decide +kernel
theorem dX7_looks_35 : decode cX7_looks 35 = .ok (.goto (-35), 3) := by decide +kernel
theorem dX7_looks_38 : decode cX7_looks 38 = .ok (.aload_n 0, 1) := by decide +kernel
theorem dX7_looks_39 : decode cX7_looks 39 = .ok (.getfield 175, 3) := by decide +kernel
theorem dX7_looks_42 : decode cX7_looks 42 = .ok (.aload_n 0, 1) := by decide +kernel
theorem dX7_looks_43 : decode cX7_looks 43 = .ok (.getfield 172, 3) := by decide +kernel
theorem dX7_looks_46 : decode cX7_looks 46 = .ok (.if_icmp .ge 15, 3) := by decide +kernel
theorem dX7_looks_49 : decode cX7_looks 49 = .ok (.aload_n 0, 1) := by decide +kernel
theorem dX7_looks_50 : decode cX7_looks 50 = .ok (.getfield 26, 3) := by decide +kernel
theorem dX7_looks_53 : decode cX7_looks 53 = .ok (.aload_n 0, 1) := by decide +kernel
theorem dX7_looks_54 : decode cX7_looks 54 = .ok (.getfield 175, 3) := by decide +kernel
theorem dX7_looks_57 : decode cX7_looks 57 = .ok (.iaload, 1) := by decide +kernel
theorem dX7_looks_58 : decode cX7_looks 58 = .ok (.goto 4, 3) := by decide +kernel
theorem dX7_looks_61 : decode cX7_looks 61 = .ok (.iconst 0, 1) := by decide +kernel
theorem dX7_looks_62 : decode cX7_looks 62 = .ok (.ireturn, 1) := by decide +kernel
set_option maxRecDepth 20000 in
theorem ggX7_readsEntry_X7_looks : GoodIn wsX7_readsEntry wsX7_looks := goodIn_r _ [9, 1, 10, 11, 15, 16, 17, 18, 19, 20, 21, 22, 23, 24, 25, 26, 27, 28, 29, 30, 31, 32] (by decide +kernel) (by decide +kernel)
set_option maxRecDepth 20000 in
theorem gX7_readsEntry_X7_looks : GoodIn wsX7_readsEntry (wsV RX7 178 RX7 yX7_looks wsX7_looks) := goodIn_app (goodIn_of _ (by decide +kernel)) ggX7_readsEntry_X7_looks
set_option maxRecDepth 20000 in
theorem ggX7_readsEntry_X7_in : GoodIn wsX7_readsEntry wsX7_in := goodIn_r _ [14] (by decide +kernel) (by decide +kernel)
set_option maxRecDepth 20000 in
theorem gX7_readsEntry_X7_in : GoodIn wsX7_readsEntry (va_wsS RX7 90 yX7_in wsX7_in) := goodIn_app (goodIn_of _ (by decide +kernel)) ggX7_readsEntry_X7_in
theorem dX7_readsEntry_0 : decode cX7_readsEntry 0 = .ok (.aload_n 0, 1) := by decide +kernel
theorem dX7_readsEntry_1 : decode cX7_readsEntry 1 = .ok (.invokevirtual 178, 3) := by decide +kernel
theorem dX7_readsEntry_4 : decode cX7_readsEntry 4 = .ok (.pop, 1) := by decide +kernel
theorem dX7_readsEntry_5 : decode cX7_readsEntry 5 = .ok (.aload_n 0, 1) := by decide +kernel
theorem dX7_readsEntry_6 : decode cX7_readsEntry 6 = .ok (.getfield 175, 3) := by decide +kernel
theorem dX7_readsEntry_9 : decode cX7_readsEntry 9 = .ok (.istore_n 1, 1) := by decide +kernel
theorem dX7_readsEntry_10 : decode cX7_readsEntry 10 = .ok (.iconst 1, 1) := by decide +kernel
theorem dX7_readsEntry_11 : decode cX7_readsEntry 11 = .ok (.istore_n 2, 1) := by decide +kernel
theorem dX7_readsEntry_12 : decode cX7_readsEntry 12 = .ok (.iload_n 2, 1) := by decide +kernel
theorem dX7_readsEntry_13 : decode cX7_readsEntry 13 = .ok (.sipush 256, 3) := by decide +kernel
theorem dX7_readsEntry_16 : decode cX7_readsEntry 16 = .ok (.if_icmp .ge 46, 3) := by decide +kernel
theorem dX7_readsEntry_19 : decode cX7_readsEntry 19 = .ok (.aload_n 0, 1) := by decide +kernel
theorem dX7_readsEntry_20 : decode cX7_readsEntry 20 = .ok (.invokevirtual 178, 3) := by decide +kernel
theorem dX7_readsEntry_23 : decode cX7_readsEntry 23 = .ok (.bipush 48, 2) := by decide +kernel
theorem dX7_readsEntry_25 : decode cX7_readsEntry 25 = .ok (.if_icmp .eq 12, 3) := by decide +kernel
theorem dX7_readsEntry_28 : decode cX7_readsEntry 28 = .ok (.aload_n 0, 1) := by decide +kernel
theorem dX7_readsEntry_29 : decode cX7_readsEntry 29 = .ok (.invokevirtual 178, 3) := by decide +kernel
theorem dX7_readsEntry_32 : decode cX7_readsEntry 32 = .ok (.bipush 49, 2) := by decide +kernel
theorem dX7_readsEntry_34 : decode cX7_readsEntry 34 = .ok (.if_icmp .ne 28, 3) := by decide +kernel
theorem dX7_readsEntry_37 : decode cX7_readsEntry 37 = .ok (.iconst 2, 1) := by decide +kernel
theorem dX7_readsEntry_38 : decode cX7_readsEntry 38 = .ok (.iload_n 2, 1) := by decide +kernel
theorem dX7_readsEntry_39 : decode cX7_readsEntry 39 = .ok (.imul, 1) := by decide +kernel
theorem dX7_readsEntry_40 : decode cX7_readsEntry 40 = .ok (.aload_n 0, 1) := by decide +kernel
theorem dX7_readsEntry_41 : decode cX7_readsEntry 41 = .ok (.invokevirtual 178, 3) := by decide +kernel
theorem dX7_readsEntry_44 : decode cX7_readsEntry 44 = .ok (.iadd, 1) := by decide +kernel
theorem dX7_readsEntry_45 : decode cX7_readsEntry 45 = .ok (.bipush 48, 2) := by decide +kernel
theorem dX7_readsEntry_47 : decode cX7_readsEntry 47 = .ok (.isub, 1) := by decide +kernel
theorem dX7_readsEntry_48 : decode cX7_readsEntry 48 = .ok (.istore_n 2, 1) := by decide +kernel
theorem dX7_readsEntry_49 : decode cX7_readsEntry 49 = .ok (.aload_n 0, 1) := by decide +kernel
theorem dX7_readsEntry_50 : decode cX7_readsEntry 50 = .ok (.dup, 1) := by decide +kernel
theorem dX7_readsEntry_51 : decode cX7_readsEntry 51 = .ok (.getfield 175, 3) := by decide +kernel
theorem dX7_readsEntry_54 : decode cX7_readsEntry 54 = .ok (.iconst 1, 1) := by decide +kernel
theorem dX7_readsEntry_55 : decode cX7_readsEntry 55 = .ok (.iadd, 1) := by decide +kernel
theorem dX7_readsEntry_56 : decode cX7_readsEntry 56 = .ok (.putfield 175, 3) := by decide +kernel
theorem dX7_readsEntry_59 : decode cX7_readsEntry 59 = .ok (.goto (-47), 3) := by decide +kernel
theorem dX7_readsEntry_62 : decode cX7_readsEntry 62 = .ok (.iload_n 2, 1) := by decide +kernel
theorem dX7_readsEntry_63 : decode cX7_readsEntry 63 = .ok (.sipush 256, 3) := by decide +kernel
theorem dX7_readsEntry_66 : decode cX7_readsEntry 66 = .ok (.if_icmp .ge 24, 3) := by decide +kernel
theorem dX7_readsEntry_69 : decode cX7_readsEntry 69 = .ok (.aload_n 0, 1) := by decide +kernel
theorem dX7_readsEntry_70 : decode cX7_readsEntry 70 = .ok (.invokevirtual 178, 3) := by decide +kernel
theorem dX7_readsEntry_73 : decode cX7_readsEntry 73 = .ok (.bipush 42, 2) := by decide +kernel
theorem dX7_readsEntry_75 : decode cX7_readsEntry 75 = .ok (.if_icmp .eq 5, 3) := by decide +kernel
theorem dX7_readsEntry_78 : decode cX7_readsEntry 78 = .ok (.iconst 0, 1) := by decide +kernel
theorem dX7_readsEntry_79 : decode cX7_readsEntry 79 = .ok (.ireturn, 1) := by decide +kernel
theorem dX7_readsEntry_80 : decode cX7_readsEntry 80 = .ok (.aload_n 0, 1) := by decide +kernel
theorem dX7_readsEntry_81 : decode cX7_readsEntry 81 = .ok (.dup, 1) := by decide +kernel
theorem dX7_readsEntry_82 : decode cX7_readsEntry 82 = .ok (.getfield 175, 3) := by decide +kernel
theorem dX7_readsEntry_85 : decode cX7_readsEntry 85 = .ok (.iconst 1, 1) := by decide +kernel
theorem dX7_readsEntry_86 : decode cX7_readsEntry 86 = .ok (.iadd, 1) := by decide +kernel
theorem dX7_readsEntry_87 : decode cX7_readsEntry 87 = .ok (.putfield 175, 3) := by decide +kernel
theorem dX7_readsEntry_90 : decode cX7_readsEntry 90 = .ok (.aload_n 0, 1) := by decide +kernel
theorem dX7_readsEntry_91 : decode cX7_readsEntry 91 = .ok (.invokevirtual 178, 3) := by decide +kernel
theorem dX7_readsEntry_94 : decode cX7_readsEntry 94 = .ok (.bipush 58, 2) := by decide +kernel
theorem dX7_readsEntry_96 : decode cX7_readsEntry 96 = .ok (.if_icmp .eq 5, 3) := by decide +kernel
theorem dX7_readsEntry_99 : decode cX7_readsEntry 99 = .ok (.iconst 0, 1) := by decide +kernel
theorem dX7_readsEntry_100 : decode cX7_readsEntry 100 = .ok (.ireturn, 1) := by decide +kernel
theorem dX7_readsEntry_101 : decode cX7_readsEntry 101 = .ok (.aload_n 0, 1) := by decide +kernel
theorem dX7_readsEntry_102 : decode cX7_readsEntry 102 = .ok (.getfield 54, 3) := by decide +kernel
theorem dX7_readsEntry_105 : decode cX7_readsEntry 105 = .ok (.iload_n 2, 1) := by decide +kernel
theorem dX7_readsEntry_106 : decode cX7_readsEntry 106 = .ok (.iaload, 1) := by decide +kernel
theorem dX7_readsEntry_107 : decode cX7_readsEntry 107 = .ok (.bipush 8, 2) := by decide +kernel
theorem dX7_readsEntry_109 : decode cX7_readsEntry 109 = .ok (.if_icmp .eq 10, 3) := by decide +kernel
theorem dX7_readsEntry_112 : decode cX7_readsEntry 112 = .ok (.aload_n 0, 1) := by decide +kernel
theorem dX7_readsEntry_113 : decode cX7_readsEntry 113 = .ok (.iload_n 1, 1) := by decide +kernel
theorem dX7_readsEntry_114 : decode cX7_readsEntry 114 = .ok (.putfield 175, 3) := by decide +kernel
theorem dX7_readsEntry_117 : decode cX7_readsEntry 117 = .ok (.iconst 0, 1) := by decide +kernel
theorem dX7_readsEntry_118 : decode cX7_readsEntry 118 = .ok (.ireturn, 1) := by decide +kernel
theorem dX7_readsEntry_119 : decode cX7_readsEntry 119 = .ok (.aload_n 0, 1) := by decide +kernel
theorem dX7_readsEntry_120 : decode cX7_readsEntry 120 = .ok (.dup, 1) := by decide +kernel
theorem dX7_readsEntry_121 : decode cX7_readsEntry 121 = .ok (.getfield 175, 3) := by decide +kernel
theorem dX7_readsEntry_124 : decode cX7_readsEntry 124 = .ok (.iconst 1, 1) := by decide +kernel
theorem dX7_readsEntry_125 : decode cX7_readsEntry 125 = .ok (.iadd, 1) := by decide +kernel
theorem dX7_readsEntry_126 : decode cX7_readsEntry 126 = .ok (.putfield 175, 3) := by decide +kernel
theorem dX7_readsEntry_129 : decode cX7_readsEntry 129 = .ok (.aload_n 0, 1) := by decide +kernel
theorem dX7_readsEntry_130 : decode cX7_readsEntry 130 = .ok (.invokevirtual 178, 3) := by decide +kernel
theorem dX7_readsEntry_133 : decode cX7_readsEntry 133 = .ok (.i2l, 1) := by decide +kernel
theorem dX7_readsEntry_134 : decode cX7_readsEntry 134 = .ok (.ldc2_w 181, 3) := by decide +kernel
theorem dX7_readsEntry_137 : decode cX7_readsEntry 137 = .ok (.ldc2_w 183, 3) := by decide +kernel
theorem dX7_readsEntry_140 : decode cX7_readsEntry 140 = .ok (.invokestatic 90, 3) := by decide +kernel
theorem dX7_readsEntry_143 : decode cX7_readsEntry 143 = .ok (.ifCond .ne 5, 3) := by decide +kernel
theorem dX7_readsEntry_146 : decode cX7_readsEntry 146 = .ok (.iconst 0, 1) := by decide +kernel
theorem dX7_readsEntry_147 : decode cX7_readsEntry 147 = .ok (.ireturn, 1) := by decide +kernel
theorem dX7_readsEntry_148 : decode cX7_readsEntry 148 = .ok (.aload_n 0, 1) := by decide +kernel
theorem dX7_readsEntry_149 : decode cX7_readsEntry 149 = .ok (.getfield 54, 3) := by decide +kernel
theorem dX7_readsEntry_152 : decode cX7_readsEntry 152 = .ok (.iload_n 2, 1) := by decide +kernel
theorem dX7_readsEntry_153 : decode cX7_readsEntry 153 = .ok (.aload_n 0, 1) := by decide +kernel
theorem dX7_readsEntry_154 : decode cX7_readsEntry 154 = .ok (.invokevirtual 178, 3) := by decide +kernel
theorem dX7_readsEntry_157 : decode cX7_readsEntry 157 = .ok (.bipush 48, 2) := by decide +kernel
theorem dX7_readsEntry_159 : decode cX7_readsEntry 159 = .ok (.isub, 1) := by decide +kernel
theorem dX7_readsEntry_160 : decode cX7_readsEntry 160 = .ok (.iastore, 1) := by decide +kernel
theorem dX7_readsEntry_161 : decode cX7_readsEntry 161 = .ok (.aload_n 0, 1) := by decide +kernel
theorem dX7_readsEntry_162 : decode cX7_readsEntry 162 = .ok (.dup, 1) := by decide +kernel
theorem dX7_readsEntry_163 : decode cX7_readsEntry 163 = .ok (.getfield 175, 3) := by decide +kernel
theorem dX7_readsEntry_166 : decode cX7_readsEntry 166 = .ok (.iconst 1, 1) := by decide +kernel
theorem dX7_readsEntry_167 : decode cX7_readsEntry 167 = .ok (.iadd, 1) := by decide +kernel
theorem dX7_readsEntry_168 : decode cX7_readsEntry 168 = .ok (.putfield 175, 3) := by decide +kernel
theorem dX7_readsEntry_171 : decode cX7_readsEntry 171 = .ok (.iconst 1, 1) := by decide +kernel
theorem dX7_readsEntry_172 : decode cX7_readsEntry 172 = .ok (.ireturn, 1) := by decide +kernel
set_option maxRecDepth 20000 in
theorem ggX7_readsAll_X7_readsEntry : GoodIn wsX7_readsAll wsX7_readsEntry := goodIn_r _ [7, 1, 2, 8, 9, 10, 11, 12, 6, 13, 14, 15, 16, 17, 18, 19, 20, 21, 22, 23, 24, 25, 26, 27, 28, 29, 30, 31, 32, 33, 34, 35, 36] (by decide +kernel) (by decide +kernel)
set_option maxRecDepth 20000 in
theorem gX7_readsAll_X7_readsEntry : GoodIn wsX7_readsAll (wsV RX7 185 RX7 yX7_readsEntry wsX7_readsEntry) := goodIn_app (goodIn_of _ (by decide +kernel)) ggX7_readsAll_X7_readsEntry
set_option maxRecDepth 20000 in
theorem ggX7_readsAll_X7_looks : GoodIn wsX7_readsAll wsX7_looks := goodIn_r _ [13, 1, 14, 15, 19, 20, 21, 22, 23, 24, 25, 26, 27, 28, 29, 30, 31, 32, 33, 34, 35, 36] (by decide +kernel) (by decide +kernel)
set_option maxRecDepth 20000 in
theorem gX7_readsAll_X7_looks : GoodIn wsX7_readsAll (wsV RX7 178 RX7 yX7_looks wsX7_looks) := goodIn_app (goodIn_of _ (by decide +kernel)) ggX7_readsAll_X7_looks
theorem dX7_readsAll_0 : decode cX7_readsAll 0 = .ok (.aload_n 0, 1) := by decide +kernel
theorem dX7_readsAll_1 : decode cX7_readsAll 1 = .ok (.iconst 0, 1) := by decide +kernel
theorem dX7_readsAll_2 : decode cX7_readsAll 2 = .ok (.putfield 175, 3) := by decide +kernel
theorem dX7_readsAll_5 : decode cX7_readsAll 5 = .ok (.iconst 0, 1) := by decide +kernel
theorem dX7_readsAll_6 : decode cX7_readsAll 6 = .ok (.istore_n 1, 1) := by decide +kernel
theorem dX7_readsAll_7 : decode cX7_readsAll 7 = .ok (.iload_n 1, 1) := by decide +kernel
theorem dX7_readsAll_8 : decode cX7_readsAll 8 = .ok (.sipush 512, 3) := by decide +kernel
theorem dX7_readsAll_11 : decode cX7_readsAll 11 = .ok (.if_icmp .ge 17, 3) := by decide +kernel
theorem dX7_readsAll_14 : decode cX7_readsAll 14 = .ok (.aload_n 0, 1) := by decide +kernel
theorem dX7_readsAll_15 : decode cX7_readsAll 15 = .ok (.getfield 54, 3) := by decide +kernel
theorem dX7_readsAll_18 : decode cX7_readsAll 18 = .ok (.iload_n 1, 1) := by decide +kernel
theorem dX7_readsAll_19 : decode cX7_readsAll 19 = .ok (.bipush 8, 2) := by decide +kernel
theorem dX7_readsAll_21 : decode cX7_readsAll 21 = .ok (.iastore, 1) := by decide +kernel
theorem dX7_readsAll_22 : decode cX7_readsAll 22 = .ok (.iinc 1 1, 3) := by decide +kernel
theorem dX7_readsAll_25 : decode cX7_readsAll 25 = .ok (.goto (-18), 3) := by decide +kernel
theorem dX7_readsAll_28 : decode cX7_readsAll 28 = .ok (.aload_n 0, 1) := by decide +kernel
theorem dX7_readsAll_29 : decode cX7_readsAll 29 = .ok (.invokevirtual 185, 3) := by decide +kernel
theorem dX7_readsAll_32 : decode cX7_readsAll 32 = .ok (.istore_n 1, 1) := by decide +kernel
theorem dX7_readsAll_33 : decode cX7_readsAll 33 = .ok (.iload_n 1, 1) := by decide +kernel
theorem dX7_readsAll_34 : decode cX7_readsAll 34 = .ok (.ifCond .eq 30, 3) := by decide +kernel
theorem dX7_readsAll_37 : decode cX7_readsAll 37 = .ok (.aload_n 0, 1) := by decide +kernel
theorem dX7_readsAll_38 : decode cX7_readsAll 38 = .ok (.invokevirtual 178, 3) := by decide +kernel
theorem dX7_readsAll_41 : decode cX7_readsAll 41 = .ok (.bipush 59, 2) := by decide +kernel
theorem dX7_readsAll_43 : decode cX7_readsAll 43 = .ok (.if_icmp .ne 21, 3) := by decide +kernel
theorem dX7_readsAll_46 : decode cX7_readsAll 46 = .ok (.aload_n 0, 1) := by decide +kernel
theorem dX7_readsAll_47 : decode cX7_readsAll 47 = .ok (.dup, 1) := by decide +kernel
theorem dX7_readsAll_48 : decode cX7_readsAll 48 = .ok (.getfield 175, 3) := by decide +kernel
theorem dX7_readsAll_51 : decode cX7_readsAll 51 = .ok (.iconst 1, 1) := by decide +kernel
theorem dX7_readsAll_52 : decode cX7_readsAll 52 = .ok (.iadd, 1) := by decide +kernel
theorem dX7_readsAll_53 : decode cX7_readsAll 53 = .ok (.putfield 175, 3) := by decide +kernel
theorem dX7_readsAll_56 : decode cX7_readsAll 56 = .ok (.aload_n 0, 1) := by decide +kernel
theorem dX7_readsAll_57 : decode cX7_readsAll 57 = .ok (.invokevirtual 185, 3) := by decide +kernel
theorem dX7_readsAll_60 : decode cX7_readsAll 60 = .ok (.istore_n 1, 1) := by decide +kernel
theorem dX7_readsAll_61 : decode cX7_readsAll 61 = .ok (.goto (-28), 3) := by decide +kernel
theorem dX7_readsAll_64 : decode cX7_readsAll 64 = .ok (.iload_n 1, 1) := by decide +kernel
theorem dX7_readsAll_65 : decode cX7_readsAll 65 = .ok (.ifCond .eq 14, 3) := by decide +kernel
theorem dX7_readsAll_68 : decode cX7_readsAll 68 = .ok (.aload_n 0, 1) := by decide +kernel
theorem dX7_readsAll_69 : decode cX7_readsAll 69 = .ok (.invokevirtual 178, 3) := by decide +kernel
theorem dX7_readsAll_72 : decode cX7_readsAll 72 = .ok (.ifCond .ne 7, 3) := by decide +kernel
theorem dX7_readsAll_75 : decode cX7_readsAll 75 = .ok (.iconst 1, 1) := by decide +kernel
theorem dX7_readsAll_76 : decode cX7_readsAll 76 = .ok (.goto 4, 3) := by decide +kernel
theorem dX7_readsAll_79 : decode cX7_readsAll 79 = .ok (.iconst 0, 1) := by decide +kernel
theorem dX7_readsAll_80 : decode cX7_readsAll 80 = .ok (.ireturn, 1) := by decide +kernel
set_option maxRecDepth 20000 in
theorem ggX7_read_X7_readsAll : GoodIn wsX7_read wsX7_readsAll := goodIn_r _ [9, 2, 3, 10, 11, 12, 8, 13, 14, 15, 16, 17, 18, 19, 1, 20, 21, 22, 23, 36, 37, 38, 39, 40, 41, 42, 43, 44, 45, 46, 47, 48, 49, 50, 51, 52, 53] (by decide +kernel) (by decide +kernel)
set_option maxRecDepth 20000 in
theorem gX7_read_X7_readsAll : GoodIn wsX7_read (wsV RX7 189 RX7 yX7_readsAll wsX7_readsAll) := goodIn_app (goodIn_of _ (by decide +kernel)) ggX7_read_X7_readsAll
set_option maxRecDepth 20000 in
theorem ggX7_read_X7_notes : GoodIn wsX7_read wsX7_notes := goodIn_r _ [27, 28, 29, 4, 30, 31, 8, 32, 36, 37, 38, 39, 40, 41, 42, 43, 44, 45, 46, 47, 48, 49, 50, 51, 52, 53] (by decide +kernel) (by decide +kernel)
set_option maxRecDepth 20000 in
theorem gX7_read_X7_notes : GoodIn wsX7_read (wsV RX7 165 RX7 yX7_notes wsX7_notes) := goodIn_app (goodIn_of _ (by decide +kernel)) ggX7_read_X7_notes
set_option maxRecDepth 20000 in
theorem ggX7_read_X7_bring : GoodIn wsX7_read wsX7_bring := goodIn_r _ [32] (by decide +kernel) (by decide +kernel)
set_option maxRecDepth 20000 in
theorem gX7_read_X7_bring : GoodIn wsX7_read (va_wsS RX7 161 yX7_bring wsX7_bring) := goodIn_app (goodIn_of _ (by decide +kernel)) ggX7_read_X7_bring
set_option maxRecDepth 20000 in
theorem ggX7_read_X7_many : GoodIn wsX7_read wsX7_many := goodIn_r _ [35] (by decide +kernel) (by decide +kernel)
set_option maxRecDepth 20000 in
theorem gX7_read_X7_many : GoodIn wsX7_read (va_wsS RX7 138 yX7_many wsX7_many) := goodIn_app (goodIn_of _ (by decide +kernel)) ggX7_read_X7_many
theorem dX7_read_0 : decode cX7_read 0 = .ok (.aload_n 0, 1) := by decide +kernel
theorem dX7_read_1 : decode cX7_read 1 = .ok (.invokevirtual 189, 3) := by decide +kernel
theorem dX7_read_4 : decode cX7_read 4 = .ok (.istore_n 1, 1) := by decide +kernel
theorem dX7_read_5 : decode cX7_read 5 = .ok (.aload_n 0, 1) := by decide +kernel
theorem dX7_read_6 : decode cX7_read 6 = .ok (.iconst 0, 1) := by decide +kernel
theorem dX7_read_7 : decode cX7_read 7 = .ok (.putfield 172, 3) := by decide +kernel
theorem dX7_read_10 : decode cX7_read 10 = .ok (.iload_n 1, 1) := by decide +kernel
theorem dX7_read_11 : decode cX7_read 11 = .ok (.ifCond .ne 11, 3) := by decide +kernel
theorem dX7_read_14 : decode cX7_read 14 = .ok (.bipush (-20), 2) := by decide +kernel
theorem dX7_read_16 : decode cX7_read 16 = .ok (.aload_n 0, 1) := by decide +kernel
theorem dX7_read_17 : decode cX7_read 17 = .ok (.getfield 175, 3) := by decide +kernel
theorem dX7_read_20 : decode cX7_read 20 = .ok (.isub, 1) := by decide +kernel
theorem dX7_read_21 : decode cX7_read 21 = .ok (.ireturn, 1) := by decide +kernel
theorem dX7_read_22 : decode cX7_read 22 = .ok (.aload_n 0, 1) := by decide +kernel
theorem dX7_read_23 : decode cX7_read 23 = .ok (.invokevirtual 165, 3) := by decide +kernel
theorem dX7_read_26 : decode cX7_read 26 = .ok (.aload_n 0, 1) := by decide +kernel
theorem dX7_read_27 : decode cX7_read 27 = .ok (.getfield 54, 3) := by decide +kernel
theorem dX7_read_30 : decode cX7_read 30 = .ok (.iconst 1, 1) := by decide +kernel
theorem dX7_read_31 : decode cX7_read 31 = .ok (.aload_n 0, 1) := by decide +kernel
theorem dX7_read_32 : decode cX7_read 32 = .ok (.getfield 7, 3) := by decide +kernel
theorem dX7_read_35 : decode cX7_read 35 = .ok (.iconst 1, 1) := by decide +kernel
theorem dX7_read_36 : decode cX7_read 36 = .ok (.sipush 511, 3) := by decide +kernel
theorem dX7_read_39 : decode cX7_read 39 = .ok (.invokestatic 161, 3) := by decide +kernel
theorem dX7_read_42 : decode cX7_read 42 = .ok (.aload_n 0, 1) := by decide +kernel
theorem dX7_read_43 : decode cX7_read 43 = .ok (.getfield 7, 3) := by decide +kernel
theorem dX7_read_46 : decode cX7_read 46 = .ok (.iconst 0, 1) := by decide +kernel
theorem dX7_read_47 : decode cX7_read 47 = .ok (.invokestatic 138, 3) := by decide +kernel
theorem dX7_read_50 : decode cX7_read 50 = .ok (.ireturn, 1) := by decide +kernel
set_option maxRecDepth 20000 in
theorem ggX7_turnsOnce_X7_notes : GoodIn wsX7_turnsOnce wsX7_notes := goodIn_r _ [10, 11, 12, 1, 13, 14, 9, 15, 19, 20, 21, 22, 23, 24, 25, 26, 27, 28, 29, 30, 31, 32, 33, 34, 35, 36] (by decide +kernel) (by decide +kernel)
set_option maxRecDepth 20000 in
theorem gX7_turnsOnce_X7_notes : GoodIn wsX7_turnsOnce (wsV RX7 165 RX7 yX7_notes wsX7_notes) := goodIn_app (goodIn_of _ (by decide +kernel)) ggX7_turnsOnce_X7_notes
set_option maxRecDepth 20000 in
theorem ggX7_turnsOnce_X7_many : GoodIn wsX7_turnsOnce wsX7_many := goodIn_r _ [18] (by decide +kernel) (by decide +kernel)
set_option maxRecDepth 20000 in
theorem gX7_turnsOnce_X7_many : GoodIn wsX7_turnsOnce (va_wsS RX7 138 yX7_many wsX7_many) := goodIn_app (goodIn_of _ (by decide +kernel)) ggX7_turnsOnce_X7_many
theorem dX7_turnsOnce_0 : decode cX7_turnsOnce 0 = .ok (.aload_n 0, 1) := by decide +kernel
theorem dX7_turnsOnce_1 : decode cX7_turnsOnce 1 = .ok (.invokevirtual 165, 3) := by decide +kernel
theorem dX7_turnsOnce_4 : decode cX7_turnsOnce 4 = .ok (.aload_n 0, 1) := by decide +kernel
theorem dX7_turnsOnce_5 : decode cX7_turnsOnce 5 = .ok (.getfield 7, 3) := by decide +kernel
theorem dX7_turnsOnce_8 : decode cX7_turnsOnce 8 = .ok (.sipush 1024, 3) := by decide +kernel
theorem dX7_turnsOnce_11 : decode cX7_turnsOnce 11 = .ok (.iaload, 1) := by decide +kernel
theorem dX7_turnsOnce_12 : decode cX7_turnsOnce 12 = .ok (.i2l, 1) := by decide +kernel
theorem dX7_turnsOnce_13 : decode cX7_turnsOnce 13 = .ok (.ldc2_w 192, 3) := by decide +kernel
theorem dX7_turnsOnce_16 : decode cX7_turnsOnce 16 = .ok (.lmul, 1) := by decide +kernel
theorem dX7_turnsOnce_17 : decode cX7_turnsOnce 17 = .ok (.ldc2_w 194, 3) := by decide +kernel
theorem dX7_turnsOnce_20 : decode cX7_turnsOnce 20 = .ok (.ladd, 1) := by decide +kernel
theorem dX7_turnsOnce_21 : decode cX7_turnsOnce 21 = .ok (.lstore_n 1, 1) := by decide +kernel
theorem dX7_turnsOnce_22 : decode cX7_turnsOnce 22 = .ok (.aload_n 0, 1) := by decide +kernel
theorem dX7_turnsOnce_23 : decode cX7_turnsOnce 23 = .ok (.getfield 7, 3) := by decide +kernel
theorem dX7_turnsOnce_26 : decode cX7_turnsOnce 26 = .ok (.sipush 1024, 3) := by decide +kernel
theorem dX7_turnsOnce_29 : decode cX7_turnsOnce 29 = .ok (.lload_n 1, 1) := by decide +kernel
theorem dX7_turnsOnce_30 : decode cX7_turnsOnce 30 = .ok (.ldc2_w 196, 3) := by decide +kernel
theorem dX7_turnsOnce_33 : decode cX7_turnsOnce 33 = .ok (.lrem, 1) := by decide +kernel
theorem dX7_turnsOnce_34 : decode cX7_turnsOnce 34 = .ok (.l2i, 1) := by decide +kernel
theorem dX7_turnsOnce_35 : decode cX7_turnsOnce 35 = .ok (.iastore, 1) := by decide +kernel
theorem dX7_turnsOnce_36 : decode cX7_turnsOnce 36 = .ok (.aload_n 0, 1) := by decide +kernel
theorem dX7_turnsOnce_37 : decode cX7_turnsOnce 37 = .ok (.getfield 7, 3) := by decide +kernel
theorem dX7_turnsOnce_40 : decode cX7_turnsOnce 40 = .ok (.sipush 1024, 3) := by decide +kernel
theorem dX7_turnsOnce_43 : decode cX7_turnsOnce 43 = .ok (.iaload, 1) := by decide +kernel
theorem dX7_turnsOnce_44 : decode cX7_turnsOnce 44 = .ok (.ldc 198, 2) := by decide +kernel
theorem dX7_turnsOnce_46 : decode cX7_turnsOnce 46 = .ok (.idiv, 1) := by decide +kernel
theorem dX7_turnsOnce_47 : decode cX7_turnsOnce 47 = .ok (.istore_n 3, 1) := by decide +kernel
theorem dX7_turnsOnce_48 : decode cX7_turnsOnce 48 = .ok (.iconst 1, 1) := by decide +kernel
theorem dX7_turnsOnce_49 : decode cX7_turnsOnce 49 = .ok (.istore 4, 2) := by decide +kernel
theorem dX7_turnsOnce_51 : decode cX7_turnsOnce 51 = .ok (.iconst 0, 1) := by decide +kernel
theorem dX7_turnsOnce_52 : decode cX7_turnsOnce 52 = .ok (.istore 5, 2) := by decide +kernel
theorem dX7_turnsOnce_54 : decode cX7_turnsOnce 54 = .ok (.iload 5, 2) := by decide +kernel
theorem dX7_turnsOnce_56 : decode cX7_turnsOnce 56 = .ok (.iload_n 3, 1) := by decide +kernel
theorem dX7_turnsOnce_57 : decode cX7_turnsOnce 57 = .ok (.bipush 9, 2) := by decide +kernel
theorem dX7_turnsOnce_59 : decode cX7_turnsOnce 59 = .ok (.irem, 1) := by decide +kernel
theorem dX7_turnsOnce_60 : decode cX7_turnsOnce 60 = .ok (.if_icmp .ge 15, 3) := by decide +kernel
theorem dX7_turnsOnce_63 : decode cX7_turnsOnce 63 = .ok (.iload 4, 2) := by decide +kernel
theorem dX7_turnsOnce_65 : decode cX7_turnsOnce 65 = .ok (.iconst 2, 1) := by decide +kernel
theorem dX7_turnsOnce_66 : decode cX7_turnsOnce 66 = .ok (.imul, 1) := by decide +kernel
theorem dX7_turnsOnce_67 : decode cX7_turnsOnce 67 = .ok (.istore 4, 2) := by decide +kernel
theorem dX7_turnsOnce_69 : decode cX7_turnsOnce 69 = .ok (.iinc 5 1, 3) := by decide +kernel
theorem dX7_turnsOnce_72 : decode cX7_turnsOnce 72 = .ok (.goto (-18), 3) := by decide +kernel
theorem dX7_turnsOnce_75 : decode cX7_turnsOnce 75 = .ok (.iload 4, 2) := by decide +kernel
theorem dX7_turnsOnce_77 : decode cX7_turnsOnce 77 = .ok (.iload_n 3, 1) := by decide +kernel
theorem dX7_turnsOnce_78 : decode cX7_turnsOnce 78 = .ok (.bipush 16, 2) := by decide +kernel
theorem dX7_turnsOnce_80 : decode cX7_turnsOnce 80 = .ok (.idiv, 1) := by decide +kernel
theorem dX7_turnsOnce_81 : decode cX7_turnsOnce 81 = .ok (.iload 4, 2) := by decide +kernel
theorem dX7_turnsOnce_83 : decode cX7_turnsOnce 83 = .ok (.irem, 1) := by decide +kernel
theorem dX7_turnsOnce_84 : decode cX7_turnsOnce 84 = .ok (.iadd, 1) := by decide +kernel
theorem dX7_turnsOnce_85 : decode cX7_turnsOnce 85 = .ok (.istore 4, 2) := by decide +kernel
theorem dX7_turnsOnce_87 : decode cX7_turnsOnce 87 = .ok (.iload_n 3, 1) := by decide +kernel
theorem dX7_turnsOnce_88 : decode cX7_turnsOnce 88 = .ok (.sipush 4096, 3) := by decide +kernel
theorem dX7_turnsOnce_91 : decode cX7_turnsOnce 91 = .ok (.idiv, 1) := by decide +kernel
theorem dX7_turnsOnce_92 : decode cX7_turnsOnce 92 = .ok (.istore 5, 2) := by decide +kernel
theorem dX7_turnsOnce_94 : decode cX7_turnsOnce 94 = .ok (.aload_n 0, 1) := by decide +kernel
theorem dX7_turnsOnce_95 : decode cX7_turnsOnce 95 = .ok (.getfield 7, 3) := by decide +kernel
theorem dX7_turnsOnce_98 : decode cX7_turnsOnce 98 = .ok (.iconst 0, 1) := by decide +kernel
theorem dX7_turnsOnce_99 : decode cX7_turnsOnce 99 = .ok (.iload 4, 2) := by decide +kernel
theorem dX7_turnsOnce_101 : decode cX7_turnsOnce 101 = .ok (.iadd, 1) := by decide +kernel
theorem dX7_turnsOnce_102 : decode cX7_turnsOnce 102 = .ok (.iaload, 1) := by decide +kernel
theorem dX7_turnsOnce_103 : decode cX7_turnsOnce 103 = .ok (.iload 5, 2) := by decide +kernel
theorem dX7_turnsOnce_105 : decode cX7_turnsOnce 105 = .ok (.if_icmp .ne 17, 3) := by decide +kernel
theorem dX7_turnsOnce_108 : decode cX7_turnsOnce 108 = .ok (.aload_n 0, 1) := by decide +kernel
theorem dX7_turnsOnce_109 : decode cX7_turnsOnce 109 = .ok (.getfield 7, 3) := by decide +kernel
theorem dX7_turnsOnce_112 : decode cX7_turnsOnce 112 = .ok (.iconst 0, 1) := by decide +kernel
theorem dX7_turnsOnce_113 : decode cX7_turnsOnce 113 = .ok (.iload 4, 2) := by decide +kernel
theorem dX7_turnsOnce_115 : decode cX7_turnsOnce 115 = .ok (.iadd, 1) := by decide +kernel
theorem dX7_turnsOnce_116 : decode cX7_turnsOnce 116 = .ok (.bipush 8, 2) := by decide +kernel
theorem dX7_turnsOnce_118 : decode cX7_turnsOnce 118 = .ok (.iastore, 1) := by decide +kernel
theorem dX7_turnsOnce_119 : decode cX7_turnsOnce 119 = .ok (.goto 41, 3) := by decide +kernel
theorem dX7_turnsOnce_122 : decode cX7_turnsOnce 122 = .ok (.aload_n 0, 1) := by decide +kernel
theorem dX7_turnsOnce_123 : decode cX7_turnsOnce 123 = .ok (.getfield 7, 3) := by decide +kernel
theorem dX7_turnsOnce_126 : decode cX7_turnsOnce 126 = .ok (.iconst 0, 1) := by decide +kernel
theorem dX7_turnsOnce_127 : decode cX7_turnsOnce 127 = .ok (.iload 4, 2) := by decide +kernel
theorem dX7_turnsOnce_129 : decode cX7_turnsOnce 129 = .ok (.iadd, 1) := by decide +kernel
theorem dX7_turnsOnce_130 : decode cX7_turnsOnce 130 = .ok (.iaload, 1) := by decide +kernel
theorem dX7_turnsOnce_131 : decode cX7_turnsOnce 131 = .ok (.bipush 8, 2) := by decide +kernel
theorem dX7_turnsOnce_133 : decode cX7_turnsOnce 133 = .ok (.if_icmp .ne 16, 3) := by decide +kernel
theorem dX7_turnsOnce_136 : decode cX7_turnsOnce 136 = .ok (.aload_n 0, 1) := by decide +kernel
theorem dX7_turnsOnce_137 : decode cX7_turnsOnce 137 = .ok (.getfield 7, 3) := by decide +kernel
theorem dX7_turnsOnce_140 : decode cX7_turnsOnce 140 = .ok (.iconst 0, 1) := by decide +kernel
theorem dX7_turnsOnce_141 : decode cX7_turnsOnce 141 = .ok (.invokestatic 138, 3) := by decide +kernel
theorem dX7_turnsOnce_144 : decode cX7_turnsOnce 144 = .ok (.bipush 40, 2) := by decide +kernel
theorem dX7_turnsOnce_146 : decode cX7_turnsOnce 146 = .ok (.if_icmp .ge 14, 3) := by decide +kernel
theorem dX7_turnsOnce_149 : decode cX7_turnsOnce 149 = .ok (.aload_n 0, 1) := by decide +kernel
theorem dX7_turnsOnce_150 : decode cX7_turnsOnce 150 = .ok (.getfield 7, 3) := by decide +kernel
theorem dX7_turnsOnce_153 : decode cX7_turnsOnce 153 = .ok (.iconst 0, 1) := by decide +kernel
theorem dX7_turnsOnce_154 : decode cX7_turnsOnce 154 = .ok (.iload 4, 2) := by decide +kernel
theorem dX7_turnsOnce_156 : decode cX7_turnsOnce 156 = .ok (.iadd, 1) := by decide +kernel
theorem dX7_turnsOnce_157 : decode cX7_turnsOnce 157 = .ok (.iload 5, 2) := by decide +kernel
theorem dX7_turnsOnce_159 : decode cX7_turnsOnce 159 = .ok (.iastore, 1) := by decide +kernel
theorem dX7_turnsOnce_160 : decode cX7_turnsOnce 160 = .ok (.return_, 1) := by decide +kernel
set_option maxRecDepth 20000 in
theorem ggX7_drift_X7_in : GoodIn wsX7_drift wsX7_in := goodIn_r _ [6] (by decide +kernel) (by decide +kernel)
set_option maxRecDepth 20000 in
theorem gX7_drift_X7_in : GoodIn wsX7_drift (va_wsS RX7 90 yX7_in wsX7_in) := goodIn_app (goodIn_of _ (by decide +kernel)) ggX7_drift_X7_in
set_option maxRecDepth 20000 in
theorem ggX7_drift_X7_turnsOnce : GoodIn wsX7_drift wsX7_turnsOnce := goodIn_r _ [10, 2, 11, 12, 13, 14, 15, 16, 17, 5, 18, 19, 20, 21, 22, 23, 24, 25, 26, 27, 28, 29, 30, 31, 32, 33, 34, 35, 36, 37, 38, 39, 40, 41, 42, 43, 44] (by decide +kernel) (by decide +kernel)
set_option maxRecDepth 20000 in
theorem gX7_drift_X7_turnsOnce : GoodIn wsX7_drift (wsV RX7 201 RX7 yX7_turnsOnce wsX7_turnsOnce) := goodIn_app (goodIn_of _ (by decide +kernel)) ggX7_drift_X7_turnsOnce
set_option maxRecDepth 20000 in
theorem ggX7_drift_X7_many : GoodIn wsX7_drift wsX7_many := goodIn_r _ [26] (by decide +kernel) (by decide +kernel)
set_option maxRecDepth 20000 in
theorem gX7_drift_X7_many : GoodIn wsX7_drift (va_wsS RX7 138 yX7_many wsX7_many) := goodIn_app (goodIn_of _ (by decide +kernel)) ggX7_drift_X7_many
theorem dX7_drift_0 : decode cX7_drift 0 = .ok (.iload_n 1, 1) := by decide +kernel
theorem dX7_drift_1 : decode cX7_drift 1 = .ok (.i2l, 1) := by decide +kernel
theorem dX7_drift_2 : decode cX7_drift 2 = .ok (.lconst 1, 1) := by decide +kernel
theorem dX7_drift_3 : decode cX7_drift 3 = .ok (.ldc2_w 199, 3) := by decide +kernel
theorem dX7_drift_6 : decode cX7_drift 6 = .ok (.invokestatic 90, 3) := by decide +kernel
theorem dX7_drift_9 : decode cX7_drift 9 = .ok (.ifCond .ne 5, 3) := by decide +kernel
theorem dX7_drift_12 : decode cX7_drift 12 = .ok (.iconst (-1), 1) := by decide +kernel
theorem dX7_drift_13 : decode cX7_drift 13 = .ok (.ireturn, 1) := by decide +kernel
theorem dX7_drift_14 : decode cX7_drift 14 = .ok (.iconst 0, 1) := by decide +kernel
theorem dX7_drift_15 : decode cX7_drift 15 = .ok (.istore_n 2, 1) := by decide +kernel
theorem dX7_drift_16 : decode cX7_drift 16 = .ok (.iload_n 2, 1) := by decide +kernel
theorem dX7_drift_17 : decode cX7_drift 17 = .ok (.iload_n 1, 1) := by decide +kernel
theorem dX7_drift_18 : decode cX7_drift 18 = .ok (.if_icmp .ge 13, 3) := by decide +kernel
theorem dX7_drift_21 : decode cX7_drift 21 = .ok (.aload_n 0, 1) := by decide +kernel
theorem dX7_drift_22 : decode cX7_drift 22 = .ok (.invokevirtual 201, 3) := by decide +kernel
theorem dX7_drift_25 : decode cX7_drift 25 = .ok (.iinc 2 1, 3) := by decide +kernel
theorem dX7_drift_28 : decode cX7_drift 28 = .ok (.goto (-12), 3) := by decide +kernel
theorem dX7_drift_31 : decode cX7_drift 31 = .ok (.aload_n 0, 1) := by decide +kernel
theorem dX7_drift_32 : decode cX7_drift 32 = .ok (.getfield 7, 3) := by decide +kernel
theorem dX7_drift_35 : decode cX7_drift 35 = .ok (.iconst 0, 1) := by decide +kernel
theorem dX7_drift_36 : decode cX7_drift 36 = .ok (.invokestatic 138, 3) := by decide +kernel
theorem dX7_drift_39 : decode cX7_drift 39 = .ok (.ireturn, 1) := by decide +kernel
set_option maxRecDepth 20000 in
theorem ggX7_undo_X7_bring : GoodIn wsX7_undo wsX7_bring := goodIn_r _ [7] (by decide +kernel) (by decide +kernel)
set_option maxRecDepth 20000 in
theorem gX7_undo_X7_bring : GoodIn wsX7_undo (va_wsS RX7 161 yX7_bring wsX7_bring) := goodIn_app (goodIn_of _ (by decide +kernel)) ggX7_undo_X7_bring
theorem dX7_undo_0 : decode cX7_undo 0 = .ok (.aload_n 0, 1) := by decide +kernel
theorem dX7_undo_1 : decode cX7_undo 1 = .ok (.getfield 152, 3) := by decide +kernel
theorem dX7_undo_4 : decode cX7_undo 4 = .ok (.ifCond .ne 6, 3) := by decide +kernel
theorem dX7_undo_7 : decode cX7_undo 7 = .ok (.bipush (-4), 2) := by decide +kernel
theorem dX7_undo_9 : decode cX7_undo 9 = .ok (.ireturn, 1) := by decide +kernel
theorem dX7_undo_10 : decode cX7_undo 10 = .ok (.aload_n 0, 1) := by decide +kernel
theorem dX7_undo_11 : decode cX7_undo 11 = .ok (.dup, 1) := by decide +kernel
theorem dX7_undo_12 : decode cX7_undo 12 = .ok (.getfield 152, 3) := by decide +kernel
theorem dX7_undo_15 : decode cX7_undo 15 = .ok (.iconst 1, 1) := by decide +kernel
theorem dX7_undo_16 : decode cX7_undo 16 = .ok (.isub, 1) := by decide +kernel
theorem dX7_undo_17 : decode cX7_undo 17 = .ok (.putfield 152, 3) := by decide +kernel
theorem dX7_undo_20 : decode cX7_undo 20 = .ok (.aload_n 0, 1) := by decide +kernel
theorem dX7_undo_21 : decode cX7_undo 21 = .ok (.getfield 13, 3) := by decide +kernel
theorem dX7_undo_24 : decode cX7_undo 24 = .ok (.sipush 1025, 3) := by decide +kernel
theorem dX7_undo_27 : decode cX7_undo 27 = .ok (.aload_n 0, 1) := by decide +kernel
theorem dX7_undo_28 : decode cX7_undo 28 = .ok (.getfield 152, 3) := by decide +kernel
theorem dX7_undo_31 : decode cX7_undo 31 = .ok (.imul, 1) := by decide +kernel
theorem dX7_undo_32 : decode cX7_undo 32 = .ok (.aload_n 0, 1) := by decide +kernel
theorem dX7_undo_33 : decode cX7_undo 33 = .ok (.getfield 7, 3) := by decide +kernel
theorem dX7_undo_36 : decode cX7_undo 36 = .ok (.iconst 0, 1) := by decide +kernel
theorem dX7_undo_37 : decode cX7_undo 37 = .ok (.sipush 1025, 3) := by decide +kernel
theorem dX7_undo_40 : decode cX7_undo 40 = .ok (.invokestatic 161, 3) := by decide +kernel
theorem dX7_undo_43 : decode cX7_undo 43 = .ok (.aload_n 0, 1) := by decide +kernel
theorem dX7_undo_44 : decode cX7_undo 44 = .ok (.getfield 152, 3) := by decide +kernel
theorem dX7_undo_47 : decode cX7_undo 47 = .ok (.ireturn, 1) := by decide +kernel
theorem dX7_seed_0 : decode cX7_seed 0 = .ok (.iload_n 1, 1) := by decide +kernel
theorem dX7_seed_1 : decode cX7_seed 1 = .ok (.ifCond .ge 5, 3) := by decide +kernel
theorem dX7_seed_4 : decode cX7_seed 4 = .ok (.iconst (-1), 1) := by decide +kernel
theorem dX7_seed_5 : decode cX7_seed 5 = .ok (.ireturn, 1) := by decide +kernel
theorem dX7_seed_6 : decode cX7_seed 6 = .ok (.aload_n 0, 1) := by decide +kernel
theorem dX7_seed_7 : decode cX7_seed 7 = .ok (.getfield 7, 3) := by decide +kernel
theorem dX7_seed_10 : decode cX7_seed 10 = .ok (.sipush 1024, 3) := by decide +kernel
theorem dX7_seed_13 : decode cX7_seed 13 = .ok (.iaload, 1) := by decide +kernel
theorem dX7_seed_14 : decode cX7_seed 14 = .ok (.istore_n 2, 1) := by decide +kernel
theorem dX7_seed_15 : decode cX7_seed 15 = .ok (.aload_n 0, 1) := by decide +kernel
theorem dX7_seed_16 : decode cX7_seed 16 = .ok (.getfield 7, 3) := by decide +kernel
theorem dX7_seed_19 : decode cX7_seed 19 = .ok (.sipush 1024, 3) := by decide +kernel
theorem dX7_seed_22 : decode cX7_seed 22 = .ok (.iload_n 1, 1) := by decide +kernel
theorem dX7_seed_23 : decode cX7_seed 23 = .ok (.iastore, 1) := by decide +kernel
theorem dX7_seed_24 : decode cX7_seed 24 = .ok (.iload_n 2, 1) := by decide +kernel
theorem dX7_seed_25 : decode cX7_seed 25 = .ok (.ireturn, 1) := by decide +kernel
set_option maxRecDepth 20000 in
theorem ggX7_image_X7_bring : GoodIn wsX7_image wsX7_bring := goodIn_r _ [10] (by decide +kernel) (by decide +kernel)
set_option maxRecDepth 20000 in
theorem gX7_image_X7_bring : GoodIn wsX7_image (va_wsS RX7 161 yX7_bring wsX7_bring) := goodIn_app (goodIn_of _ (by decide +kernel)) ggX7_image_X7_bring
theorem dX7_image_0 : decode cX7_image 0 = .ok (.aload_n 0, 1) := by decide +kernel
theorem dX7_image_1 : decode cX7_image 1 = .ok (.getfield 7, 3) := by decide +kernel
theorem dX7_image_4 : decode cX7_image 4 = .ok (.iconst 0, 1) := by decide +kernel
theorem dX7_image_5 : decode cX7_image 5 = .ok (.aload_n 0, 1) := by decide +kernel
theorem dX7_image_6 : decode cX7_image 6 = .ok (.getfield 16, 3) := by decide +kernel
theorem dX7_image_9 : decode cX7_image 9 = .ok (.iconst 0, 1) := by decide +kernel
theorem dX7_image_10 : decode cX7_image 10 = .ok (.sipush 1025, 3) := by decide +kernel
theorem dX7_image_13 : decode cX7_image 13 = .ok (.invokestatic 161, 3) := by decide +kernel
theorem dX7_image_16 : decode cX7_image 16 = .ok (.aload_n 0, 1) := by decide +kernel
theorem dX7_image_17 : decode cX7_image 17 = .ok (.getfield 13, 3) := by decide +kernel
theorem dX7_image_20 : decode cX7_image 20 = .ok (.iconst 0, 1) := by decide +kernel
theorem dX7_image_21 : decode cX7_image 21 = .ok (.aload_n 0, 1) := by decide +kernel
theorem dX7_image_22 : decode cX7_image 22 = .ok (.getfield 19, 3) := by decide +kernel
theorem dX7_image_25 : decode cX7_image 25 = .ok (.iconst 0, 1) := by decide +kernel
theorem dX7_image_26 : decode cX7_image 26 = .ok (.sipush 6150, 3) := by decide +kernel
theorem dX7_image_29 : decode cX7_image 29 = .ok (.invokestatic 161, 3) := by decide +kernel
theorem dX7_image_32 : decode cX7_image 32 = .ok (.aload_n 0, 1) := by decide +kernel
theorem dX7_image_33 : decode cX7_image 33 = .ok (.aload_n 0, 1) := by decide +kernel
theorem dX7_image_34 : decode cX7_image 34 = .ok (.getfield 152, 3) := by decide +kernel
theorem dX7_image_37 : decode cX7_image 37 = .ok (.putfield 22, 3) := by decide +kernel
theorem dX7_image_40 : decode cX7_image 40 = .ok (.iconst 1, 1) := by decide +kernel
theorem dX7_image_41 : decode cX7_image 41 = .ok (.ireturn, 1) := by decide +kernel
set_option maxRecDepth 20000 in
theorem ggX7_restore_X7_bring : GoodIn wsX7_restore wsX7_bring := goodIn_r _ [10] (by decide +kernel) (by decide +kernel)
set_option maxRecDepth 20000 in
theorem gX7_restore_X7_bring : GoodIn wsX7_restore (va_wsS RX7 161 yX7_bring wsX7_bring) := goodIn_app (goodIn_of _ (by decide +kernel)) ggX7_restore_X7_bring
theorem dX7_restore_0 : decode cX7_restore 0 = .ok (.aload_n 0, 1) := by decide +kernel
theorem dX7_restore_1 : decode cX7_restore 1 = .ok (.getfield 22, 3) := by decide +kernel
theorem dX7_restore_4 : decode cX7_restore 4 = .ok (.ifCond .ge 6, 3) := by decide +kernel
theorem dX7_restore_7 : decode cX7_restore 7 = .ok (.bipush (-4), 2) := by decide +kernel
theorem dX7_restore_9 : decode cX7_restore 9 = .ok (.ireturn, 1) := by decide +kernel
theorem dX7_restore_10 : decode cX7_restore 10 = .ok (.aload_n 0, 1) := by decide +kernel
theorem dX7_restore_11 : decode cX7_restore 11 = .ok (.getfield 16, 3) := by decide +kernel
theorem dX7_restore_14 : decode cX7_restore 14 = .ok (.iconst 0, 1) := by decide +kernel
theorem dX7_restore_15 : decode cX7_restore 15 = .ok (.aload_n 0, 1) := by decide +kernel
theorem dX7_restore_16 : decode cX7_restore 16 = .ok (.getfield 7, 3) := by decide +kernel
theorem dX7_restore_19 : decode cX7_restore 19 = .ok (.iconst 0, 1) := by decide +kernel
theorem dX7_restore_20 : decode cX7_restore 20 = .ok (.sipush 1025, 3) := by decide +kernel
theorem dX7_restore_23 : decode cX7_restore 23 = .ok (.invokestatic 161, 3) := by decide +kernel
theorem dX7_restore_26 : decode cX7_restore 26 = .ok (.aload_n 0, 1) := by decide +kernel
theorem dX7_restore_27 : decode cX7_restore 27 = .ok (.getfield 19, 3) := by decide +kernel
theorem dX7_restore_30 : decode cX7_restore 30 = .ok (.iconst 0, 1) := by decide +kernel
theorem dX7_restore_31 : decode cX7_restore 31 = .ok (.aload_n 0, 1) := by decide +kernel
theorem dX7_restore_32 : decode cX7_restore 32 = .ok (.getfield 13, 3) := by decide +kernel
theorem dX7_restore_35 : decode cX7_restore 35 = .ok (.iconst 0, 1) := by decide +kernel
theorem dX7_restore_36 : decode cX7_restore 36 = .ok (.sipush 6150, 3) := by decide +kernel
theorem dX7_restore_39 : decode cX7_restore 39 = .ok (.invokestatic 161, 3) := by decide +kernel
theorem dX7_restore_42 : decode cX7_restore 42 = .ok (.aload_n 0, 1) := by decide +kernel
theorem dX7_restore_43 : decode cX7_restore 43 = .ok (.aload_n 0, 1) := by decide +kernel
theorem dX7_restore_44 : decode cX7_restore 44 = .ok (.getfield 22, 3) := by decide +kernel
theorem dX7_restore_47 : decode cX7_restore 47 = .ok (.putfield 152, 3) := by decide +kernel
theorem dX7_restore_50 : decode cX7_restore 50 = .ok (.iconst 1, 1) := by decide +kernel
theorem dX7_restore_51 : decode cX7_restore 51 = .ok (.ireturn, 1) := by decide +kernel
set_option maxRecDepth 20000 in
theorem ggX7_isSheet_X7_in : GoodIn wsX7_isSheet wsX7_in := goodIn_r _ [5] (by decide +kernel) (by decide +kernel)
set_option maxRecDepth 20000 in
theorem gX7_isSheet_X7_in : GoodIn wsX7_isSheet (va_wsS RX7 90 yX7_in wsX7_in) := goodIn_app (goodIn_of _ (by decide +kernel)) ggX7_isSheet_X7_in
theorem dX7_isSheet_0 : decode cX7_isSheet 0 = .ok (.iload_n 0, 1) := by decide +kernel
theorem dX7_isSheet_1 : decode cX7_isSheet 1 = .ok (.i2l, 1) := by decide +kernel
theorem dX7_isSheet_2 : decode cX7_isSheet 2 = .ok (.lconst 0, 1) := by decide +kernel
theorem dX7_isSheet_3 : decode cX7_isSheet 3 = .ok (.ldc2_w 94, 3) := by decide +kernel
theorem dX7_isSheet_6 : decode cX7_isSheet 6 = .ok (.invokestatic 90, 3) := by decide +kernel
theorem dX7_isSheet_9 : decode cX7_isSheet 9 = .ok (.ifCond .eq 19, 3) := by decide +kernel
theorem dX7_isSheet_12 : decode cX7_isSheet 12 = .ok (.iload_n 1, 1) := by decide +kernel
theorem dX7_isSheet_13 : decode cX7_isSheet 13 = .ok (.i2l, 1) := by decide +kernel
theorem dX7_isSheet_14 : decode cX7_isSheet 14 = .ok (.lconst 0, 1) := by decide +kernel
theorem dX7_isSheet_15 : decode cX7_isSheet 15 = .ok (.ldc2_w 94, 3) := by decide +kernel
theorem dX7_isSheet_18 : decode cX7_isSheet 18 = .ok (.invokestatic 90, 3) := by decide +kernel
theorem dX7_isSheet_21 : decode cX7_isSheet 21 = .ok (.ifCond .eq 7, 3) := by decide +kernel
theorem dX7_isSheet_24 : decode cX7_isSheet 24 = .ok (.iconst 1, 1) := by decide +kernel
theorem dX7_isSheet_25 : decode cX7_isSheet 25 = .ok (.goto 4, 3) := by decide +kernel
theorem dX7_isSheet_28 : decode cX7_isSheet 28 = .ok (.iconst 0, 1) := by decide +kernel
theorem dX7_isSheet_29 : decode cX7_isSheet 29 = .ok (.ireturn, 1) := by decide +kernel
theorem dX7_found_0 : decode cX7_found 0 = .ok (.aload_n 0, 1) := by decide +kernel
theorem dX7_found_1 : decode cX7_found 1 = .ok (.getfield 29, 3) := by decide +kernel
theorem dX7_found_4 : decode cX7_found 4 = .ok (.iload_n 1, 1) := by decide +kernel
theorem dX7_found_5 : decode cX7_found 5 = .ok (.iaload, 1) := by decide +kernel
theorem dX7_found_6 : decode cX7_found 6 = .ok (.ifCond .ge 6, 3) := by decide +kernel
theorem dX7_found_9 : decode cX7_found 9 = .ok (.bipush (-11), 2) := by decide +kernel
theorem dX7_found_11 : decode cX7_found 11 = .ok (.ireturn, 1) := by decide +kernel
theorem dX7_found_12 : decode cX7_found 12 = .ok (.aload_n 0, 1) := by decide +kernel
theorem dX7_found_13 : decode cX7_found 13 = .ok (.getfield 29, 3) := by decide +kernel
theorem dX7_found_16 : decode cX7_found 16 = .ok (.iload_n 1, 1) := by decide +kernel
theorem dX7_found_17 : decode cX7_found 17 = .ok (.iaload, 1) := by decide +kernel
theorem dX7_found_18 : decode cX7_found 18 = .ok (.iload_n 2, 1) := by decide +kernel
theorem dX7_found_19 : decode cX7_found 19 = .ok (.if_icmp .eq 6, 3) := by decide +kernel
theorem dX7_found_22 : decode cX7_found 22 = .ok (.bipush (-12), 2) := by decide +kernel
theorem dX7_found_24 : decode cX7_found 24 = .ok (.ireturn, 1) := by decide +kernel
theorem dX7_found_25 : decode cX7_found 25 = .ok (.iload_n 3, 1) := by decide +kernel
theorem dX7_found_26 : decode cX7_found 26 = .ok (.ifCond .lt 16, 3) := by decide +kernel
theorem dX7_found_29 : decode cX7_found 29 = .ok (.iload_n 3, 1) := by decide +kernel
theorem dX7_found_30 : decode cX7_found 30 = .ok (.aload_n 0, 1) := by decide +kernel
theorem dX7_found_31 : decode cX7_found 31 = .ok (.getfield 32, 3) := by decide +kernel
theorem dX7_found_34 : decode cX7_found 34 = .ok (.iload_n 1, 1) := by decide +kernel
theorem dX7_found_35 : decode cX7_found 35 = .ok (.iaload, 1) := by decide +kernel
theorem dX7_found_36 : decode cX7_found 36 = .ok (.iload 4, 2) := by decide +kernel
theorem dX7_found_38 : decode cX7_found 38 = .ok (.isub, 1) := by decide +kernel
theorem dX7_found_39 : decode cX7_found 39 = .ok (.if_icmp .le 8, 3) := by decide +kernel
theorem dX7_found_42 : decode cX7_found 42 = .ok (.bipush (-13), 2) := by decide +kernel
theorem dX7_found_44 : decode cX7_found 44 = .ok (.goto 4, 3) := by decide +kernel
theorem dX7_found_47 : decode cX7_found 47 = .ok (.iconst 0, 1) := by decide +kernel
theorem dX7_found_48 : decode cX7_found 48 = .ok (.ireturn, 1) := by decide +kernel
theorem dX7_isLength_0 : decode cX7_isLength 0 = .ok (.iconst 1, 1) := by decide +kernel
theorem dX7_isLength_1 : decode cX7_isLength 1 = .ok (.istore 4, 2) := by decide +kernel
theorem dX7_isLength_3 : decode cX7_isLength 3 = .ok (.iconst 0, 1) := by decide +kernel
theorem dX7_isLength_4 : decode cX7_isLength 4 = .ok (.istore 5, 2) := by decide +kernel
theorem dX7_isLength_6 : decode cX7_isLength 6 = .ok (.iload 5, 2) := by decide +kernel
theorem dX7_isLength_8 : decode cX7_isLength 8 = .ok (.iload_n 2, 1) := by decide +kernel
theorem dX7_isLength_9 : decode cX7_isLength 9 = .ok (.if_icmp .ge 115, 3) := by decide +kernel
theorem dX7_isLength_12 : decode cX7_isLength 12 = .ok (.iconst 0, 1) := by decide +kernel
theorem dX7_isLength_13 : decode cX7_isLength 13 = .ok (.istore 6, 2) := by decide +kernel
theorem dX7_isLength_15 : decode cX7_isLength 15 = .ok (.iload 6, 2) := by decide +kernel
theorem dX7_isLength_17 : decode cX7_isLength 17 = .ok (.iload 5, 2) := by decide +kernel
theorem dX7_isLength_19 : decode cX7_isLength 19 = .ok (.if_icmp .ge 99, 3) := by decide +kernel
theorem dX7_isLength_22 : decode cX7_isLength 22 = .ok (.aload_n 0, 1) := by decide +kernel
theorem dX7_isLength_23 : decode cX7_isLength 23 = .ok (.getfield 35, 3) := by decide +kernel
theorem dX7_isLength_26 : decode cX7_isLength 26 = .ok (.iload_n 1, 1) := by decide +kernel
theorem dX7_isLength_27 : decode cX7_isLength 27 = .ok (.iconst 2, 1) := by decide +kernel
theorem dX7_isLength_28 : decode cX7_isLength 28 = .ok (.iload 5, 2) := by decide +kernel
theorem dX7_isLength_30 : decode cX7_isLength 30 = .ok (.imul, 1) := by decide +kernel
theorem dX7_isLength_31 : decode cX7_isLength 31 = .ok (.iadd, 1) := by decide +kernel
theorem dX7_isLength_32 : decode cX7_isLength 32 = .ok (.laload, 1) := by decide +kernel
theorem dX7_isLength_33 : decode cX7_isLength 33 = .ok (.bipush 8, 2) := by decide +kernel
theorem dX7_isLength_35 : decode cX7_isLength 35 = .ok (.iload_n 3, 1) := by decide +kernel
theorem dX7_isLength_36 : decode cX7_isLength 36 = .ok (.isub, 1) := by decide +kernel
theorem dX7_isLength_37 : decode cX7_isLength 37 = .ok (.lshr, 1) := by decide +kernel
theorem dX7_isLength_38 : decode cX7_isLength 38 = .ok (.aload_n 0, 1) := by decide +kernel
theorem dX7_isLength_39 : decode cX7_isLength 39 = .ok (.getfield 35, 3) := by decide +kernel
theorem dX7_isLength_42 : decode cX7_isLength 42 = .ok (.iload_n 1, 1) := by decide +kernel
theorem dX7_isLength_43 : decode cX7_isLength 43 = .ok (.iconst 2, 1) := by decide +kernel
theorem dX7_isLength_44 : decode cX7_isLength 44 = .ok (.iload 6, 2) := by decide +kernel
theorem dX7_isLength_46 : decode cX7_isLength 46 = .ok (.imul, 1) := by decide +kernel
theorem dX7_isLength_47 : decode cX7_isLength 47 = .ok (.iadd, 1) := by decide +kernel
theorem dX7_isLength_48 : decode cX7_isLength 48 = .ok (.laload, 1) := by decide +kernel
theorem dX7_isLength_49 : decode cX7_isLength 49 = .ok (.bipush 8, 2) := by decide +kernel
theorem dX7_isLength_51 : decode cX7_isLength 51 = .ok (.iload_n 3, 1) := by decide +kernel
theorem dX7_isLength_52 : decode cX7_isLength 52 = .ok (.isub, 1) := by decide +kernel
theorem dX7_isLength_53 : decode cX7_isLength 53 = .ok (.lshr, 1) := by decide +kernel
theorem dX7_isLength_54 : decode cX7_isLength 54 = .ok (.lcmp, 1) := by decide +kernel
theorem dX7_isLength_55 : decode cX7_isLength 55 = .ok (.ifCond .ne 7, 3) := by decide +kernel
theorem dX7_isLength_58 : decode cX7_isLength 58 = .ok (.iconst 1, 1) := by decide +kernel
theorem dX7_isLength_59 : decode cX7_isLength 59 = .ok (.goto 4, 3) := by decide +kernel
theorem dX7_isLength_62 : decode cX7_isLength 62 = .ok (.iconst 0, 1) := by decide +kernel
theorem dX7_isLength_63 : decode cX7_isLength 63 = .ok (.istore 7, 2) := by decide +kernel
theorem dX7_isLength_65 : decode cX7_isLength 65 = .ok (.iload 4, 2) := by decide +kernel
theorem dX7_isLength_67 : decode cX7_isLength 67 = .ok (.ifCond .eq 42, 3) := by decide +kernel
theorem dX7_isLength_70 : decode cX7_isLength 70 = .ok (.iload 7, 2) := by decide +kernel
theorem dX7_isLength_72 : decode cX7_isLength 72 = .ok (.ifCond .eq 33, 3) := by decide +kernel
theorem dX7_isLength_75 : decode cX7_isLength 75 = .ok (.aload_n 0, 1) := by decide +kernel
theorem dX7_isLength_76 : decode cX7_isLength 76 = .ok (.getfield 35, 3) := by decide +kernel
theorem dX7_isLength_79 : decode cX7_isLength 79 = .ok (.iload_n 1, 1) := by decide +kernel
theorem dX7_isLength_80 : decode cX7_isLength 80 = .ok (.iconst 2, 1) := by decide +kernel
theorem dX7_isLength_81 : decode cX7_isLength 81 = .ok (.iload 5, 2) := by decide +kernel
theorem dX7_isLength_83 : decode cX7_isLength 83 = .ok (.imul, 1) := by decide +kernel
theorem dX7_isLength_84 : decode cX7_isLength 84 = .ok (.iadd, 1) := by decide +kernel
theorem dX7_isLength_85 : decode cX7_isLength 85 = .ok (.iconst 1, 1) := by decide +kernel
theorem dX7_isLength_86 : decode cX7_isLength 86 = .ok (.iadd, 1) := by decide +kernel
theorem dX7_isLength_87 : decode cX7_isLength 87 = .ok (.laload, 1) := by decide +kernel
theorem dX7_isLength_88 : decode cX7_isLength 88 = .ok (.aload_n 0, 1) := by decide +kernel
theorem dX7_isLength_89 : decode cX7_isLength 89 = .ok (.getfield 35, 3) := by decide +kernel
theorem dX7_isLength_92 : decode cX7_isLength 92 = .ok (.iload_n 1, 1) := by decide +kernel
theorem dX7_isLength_93 : decode cX7_isLength 93 = .ok (.iconst 2, 1) := by decide +kernel
theorem dX7_isLength_94 : decode cX7_isLength 94 = .ok (.iload 6, 2) := by decide +kernel
theorem dX7_isLength_96 : decode cX7_isLength 96 = .ok (.imul, 1) := by decide +kernel
theorem dX7_isLength_97 : decode cX7_isLength 97 = .ok (.iadd, 1) := by decide +kernel
theorem dX7_isLength_98 : decode cX7_isLength 98 = .ok (.iconst 1, 1) := by decide +kernel
theorem dX7_isLength_99 : decode cX7_isLength 99 = .ok (.iadd, 1) := by decide +kernel
theorem dX7_isLength_100 : decode cX7_isLength 100 = .ok (.laload, 1) := by decide +kernel
theorem dX7_isLength_101 : decode cX7_isLength 101 = .ok (.lcmp, 1) := by decide +kernel
theorem dX7_isLength_102 : decode cX7_isLength 102 = .ok (.ifCond .ne 7, 3) := by decide +kernel
theorem dX7_isLength_105 : decode cX7_isLength 105 = .ok (.iconst 1, 1) := by decide +kernel
theorem dX7_isLength_106 : decode cX7_isLength 106 = .ok (.goto 4, 3) := by decide +kernel
theorem dX7_isLength_109 : decode cX7_isLength 109 = .ok (.iconst 0, 1) := by decide +kernel
theorem dX7_isLength_110 : decode cX7_isLength 110 = .ok (.istore 4, 2) := by decide +kernel
theorem dX7_isLength_112 : decode cX7_isLength 112 = .ok (.iinc 6 1, 3) := by decide +kernel
theorem dX7_isLength_115 : decode cX7_isLength 115 = .ok (.goto (-100), 3) := by decide +kernel
theorem dX7_isLength_118 : decode cX7_isLength 118 = .ok (.iinc 5 1, 3) := by decide +kernel
theorem dX7_isLength_121 : decode cX7_isLength 121 = .ok (.goto (-115), 3) := by decide +kernel
theorem dX7_isLength_124 : decode cX7_isLength 124 = .ok (.iload 4, 2) := by decide +kernel
theorem dX7_isLength_126 : decode cX7_isLength 126 = .ok (.ireturn, 1) := by decide +kernel
set_option maxRecDepth 20000 in
theorem ggX7_lengths_X7_isSheet : GoodIn wsX7_lengths wsX7_isSheet := goodIn_r _ [8, 9, 10, 11, 7, 12] (by decide +kernel) (by decide +kernel)
set_option maxRecDepth 20000 in
theorem gX7_lengths_X7_isSheet : GoodIn wsX7_lengths (va_wsS RX7 204 yX7_isSheet wsX7_isSheet) := goodIn_app (goodIn_of _ (by decide +kernel)) ggX7_lengths_X7_isSheet
set_option maxRecDepth 20000 in
theorem ggX7_lengths_X7_in : GoodIn wsX7_lengths wsX7_in := goodIn_r _ [12] (by decide +kernel) (by decide +kernel)
set_option maxRecDepth 20000 in
theorem gX7_lengths_X7_in : GoodIn wsX7_lengths (va_wsS RX7 90 yX7_in wsX7_in) := goodIn_app (goodIn_of _ (by decide +kernel)) ggX7_lengths_X7_in
set_option maxRecDepth 20000 in
theorem ggX7_lengths_X7_found : GoodIn wsX7_lengths wsX7_found := goodIn_r _ [16, 17, 18, 23, 24, 25, 26, 27, 28, 29, 30, 31, 32, 33, 34, 35, 36, 37, 38, 39, 40] (by decide +kernel) (by decide +kernel)
set_option maxRecDepth 20000 in
theorem gX7_lengths_X7_found : GoodIn wsX7_lengths (wsV RX7 209 RX7 yX7_found wsX7_found) := goodIn_app (goodIn_of _ (by decide +kernel)) ggX7_lengths_X7_found
set_option maxRecDepth 20000 in
theorem ggX7_lengths_X7_isLength : GoodIn wsX7_lengths wsX7_isLength := goodIn_r _ [22, 2, 23, 24, 25, 26, 27, 28, 29, 30, 31, 32, 33, 34, 35, 36, 37, 38, 39, 40] (by decide +kernel) (by decide +kernel)
set_option maxRecDepth 20000 in
theorem gX7_lengths_X7_isLength : GoodIn wsX7_lengths (wsV RX7 213 RX7 yX7_isLength wsX7_isLength) := goodIn_app (goodIn_of _ (by decide +kernel)) ggX7_lengths_X7_isLength
theorem dX7_lengths_0 : decode cX7_lengths 0 = .ok (.iload_n 1, 1) := by decide +kernel
theorem dX7_lengths_1 : decode cX7_lengths 1 = .ok (.iload_n 2, 1) := by decide +kernel
theorem dX7_lengths_2 : decode cX7_lengths 2 = .ok (.invokestatic 204, 3) := by decide +kernel
theorem dX7_lengths_5 : decode cX7_lengths 5 = .ok (.ifCond .eq 16, 3) := by decide +kernel
theorem dX7_lengths_8 : decode cX7_lengths 8 = .ok (.iload 4, 2) := by decide +kernel
theorem dX7_lengths_10 : decode cX7_lengths 10 = .ok (.i2l, 1) := by decide +kernel
theorem dX7_lengths_11 : decode cX7_lengths 11 = .ok (.lconst 1, 1) := by decide +kernel
theorem dX7_lengths_12 : decode cX7_lengths 12 = .ok (.ldc2_w 207, 3) := by decide +kernel
theorem dX7_lengths_15 : decode cX7_lengths 15 = .ok (.invokestatic 90, 3) := by decide +kernel
theorem dX7_lengths_18 : decode cX7_lengths 18 = .ok (.ifCond .ne 5, 3) := by decide +kernel
theorem dX7_lengths_21 : decode cX7_lengths 21 = .ok (.iconst (-1), 1) := by decide +kernel
theorem dX7_lengths_22 : decode cX7_lengths 22 = .ok (.ireturn, 1) := by decide +kernel
theorem dX7_lengths_23 : decode cX7_lengths 23 = .ok (.aload_n 0, 1) := by decide +kernel
theorem dX7_lengths_24 : decode cX7_lengths 24 = .ok (.iload_n 1, 1) := by decide +kernel
theorem dX7_lengths_25 : decode cX7_lengths 25 = .ok (.iload_n 2, 1) := by decide +kernel
theorem dX7_lengths_26 : decode cX7_lengths 26 = .ok (.iload_n 3, 1) := by decide +kernel
theorem dX7_lengths_27 : decode cX7_lengths 27 = .ok (.iconst 2, 1) := by decide +kernel
theorem dX7_lengths_28 : decode cX7_lengths 28 = .ok (.iload 4, 2) := by decide +kernel
theorem dX7_lengths_30 : decode cX7_lengths 30 = .ok (.imul, 1) := by decide +kernel
theorem dX7_lengths_31 : decode cX7_lengths 31 = .ok (.invokevirtual 209, 3) := by decide +kernel
theorem dX7_lengths_34 : decode cX7_lengths 34 = .ok (.istore 5, 2) := by decide +kernel
theorem dX7_lengths_36 : decode cX7_lengths 36 = .ok (.iload 5, 2) := by decide +kernel
theorem dX7_lengths_38 : decode cX7_lengths 38 = .ok (.ifCond .eq 6, 3) := by decide +kernel
theorem dX7_lengths_41 : decode cX7_lengths 41 = .ok (.iload 5, 2) := by decide +kernel
theorem dX7_lengths_43 : decode cX7_lengths 43 = .ok (.ireturn, 1) := by decide +kernel
theorem dX7_lengths_44 : decode cX7_lengths 44 = .ok (.bipush 30, 2) := by decide +kernel
theorem dX7_lengths_46 : decode cX7_lengths 46 = .ok (.iload_n 1, 1) := by decide +kernel
theorem dX7_lengths_47 : decode cX7_lengths 47 = .ok (.imul, 1) := by decide +kernel
theorem dX7_lengths_48 : decode cX7_lengths 48 = .ok (.iload_n 3, 1) := by decide +kernel
theorem dX7_lengths_49 : decode cX7_lengths 49 = .ok (.iadd, 1) := by decide +kernel
theorem dX7_lengths_50 : decode cX7_lengths 50 = .ok (.istore 6, 2) := by decide +kernel
theorem dX7_lengths_52 : decode cX7_lengths 52 = .ok (.iconst 0, 1) := by decide +kernel
theorem dX7_lengths_53 : decode cX7_lengths 53 = .ok (.istore 7, 2) := by decide +kernel
theorem dX7_lengths_55 : decode cX7_lengths 55 = .ok (.iload 7, 2) := by decide +kernel
theorem dX7_lengths_57 : decode cX7_lengths 57 = .ok (.iload 4, 2) := by decide +kernel
theorem dX7_lengths_59 : decode cX7_lengths 59 = .ok (.if_icmp .ge 58, 3) := by decide +kernel
theorem dX7_lengths_62 : decode cX7_lengths 62 = .ok (.aload_n 0, 1) := by decide +kernel
theorem dX7_lengths_63 : decode cX7_lengths 63 = .ok (.getfield 35, 3) := by decide +kernel
theorem dX7_lengths_66 : decode cX7_lengths 66 = .ok (.iload 6, 2) := by decide +kernel
theorem dX7_lengths_68 : decode cX7_lengths 68 = .ok (.iconst 2, 1) := by decide +kernel
theorem dX7_lengths_69 : decode cX7_lengths 69 = .ok (.iload 7, 2) := by decide +kernel
theorem dX7_lengths_71 : decode cX7_lengths 71 = .ok (.imul, 1) := by decide +kernel
theorem dX7_lengths_72 : decode cX7_lengths 72 = .ok (.iadd, 1) := by decide +kernel
theorem dX7_lengths_73 : decode cX7_lengths 73 = .ok (.laload, 1) := by decide +kernel
theorem dX7_lengths_74 : decode cX7_lengths 74 = .ok (.lconst 0, 1) := by decide +kernel
theorem dX7_lengths_75 : decode cX7_lengths 75 = .ok (.ldc2_w 88, 3) := by decide +kernel
theorem dX7_lengths_78 : decode cX7_lengths 78 = .ok (.invokestatic 90, 3) := by decide +kernel
theorem dX7_lengths_81 : decode cX7_lengths 81 = .ok (.ifCond .eq 27, 3) := by decide +kernel
theorem dX7_lengths_84 : decode cX7_lengths 84 = .ok (.aload_n 0, 1) := by decide +kernel
theorem dX7_lengths_85 : decode cX7_lengths 85 = .ok (.getfield 35, 3) := by decide +kernel
theorem dX7_lengths_88 : decode cX7_lengths 88 = .ok (.iload 6, 2) := by decide +kernel
theorem dX7_lengths_90 : decode cX7_lengths 90 = .ok (.iconst 2, 1) := by decide +kernel
theorem dX7_lengths_91 : decode cX7_lengths 91 = .ok (.iload 7, 2) := by decide +kernel
theorem dX7_lengths_93 : decode cX7_lengths 93 = .ok (.imul, 1) := by decide +kernel
theorem dX7_lengths_94 : decode cX7_lengths 94 = .ok (.iadd, 1) := by decide +kernel
theorem dX7_lengths_95 : decode cX7_lengths 95 = .ok (.iconst 1, 1) := by decide +kernel
theorem dX7_lengths_96 : decode cX7_lengths 96 = .ok (.iadd, 1) := by decide +kernel
theorem dX7_lengths_97 : decode cX7_lengths 97 = .ok (.laload, 1) := by decide +kernel
theorem dX7_lengths_98 : decode cX7_lengths 98 = .ok (.lconst 0, 1) := by decide +kernel
theorem dX7_lengths_99 : decode cX7_lengths 99 = .ok (.ldc2_w 116, 3) := by decide +kernel
theorem dX7_lengths_102 : decode cX7_lengths 102 = .ok (.invokestatic 90, 3) := by decide +kernel
theorem dX7_lengths_105 : decode cX7_lengths 105 = .ok (.ifCond .ne 6, 3) := by decide +kernel
theorem dX7_lengths_108 : decode cX7_lengths 108 = .ok (.bipush (-2), 2) := by decide +kernel
theorem dX7_lengths_110 : decode cX7_lengths 110 = .ok (.ireturn, 1) := by decide +kernel
theorem dX7_lengths_111 : decode cX7_lengths 111 = .ok (.iinc 7 1, 3) := by decide +kernel
theorem dX7_lengths_114 : decode cX7_lengths 114 = .ok (.goto (-59), 3) := by decide +kernel
theorem dX7_lengths_117 : decode cX7_lengths 117 = .ok (.iconst 0, 1) := by decide +kernel
theorem dX7_lengths_118 : decode cX7_lengths 118 = .ok (.istore 7, 2) := by decide +kernel
theorem dX7_lengths_120 : decode cX7_lengths 120 = .ok (.iconst 0, 1) := by decide +kernel
theorem dX7_lengths_121 : decode cX7_lengths 121 = .ok (.istore 8, 2) := by decide +kernel
theorem dX7_lengths_123 : decode cX7_lengths 123 = .ok (.iload 8, 2) := by decide +kernel
theorem dX7_lengths_125 : decode cX7_lengths 125 = .ok (.bipush 8, 2) := by decide +kernel
theorem dX7_lengths_127 : decode cX7_lengths 127 = .ok (.if_icmp .gt 35, 3) := by decide +kernel
theorem dX7_lengths_130 : decode cX7_lengths 130 = .ok (.iload 7, 2) := by decide +kernel
theorem dX7_lengths_132 : decode cX7_lengths 132 = .ok (.aload_n 0, 1) := by decide +kernel
theorem dX7_lengths_133 : decode cX7_lengths 133 = .ok (.iload 6, 2) := by decide +kernel
theorem dX7_lengths_135 : decode cX7_lengths 135 = .ok (.iload 4, 2) := by decide +kernel
theorem dX7_lengths_137 : decode cX7_lengths 137 = .ok (.iload 8, 2) := by decide +kernel
theorem dX7_lengths_139 : decode cX7_lengths 139 = .ok (.invokevirtual 213, 3) := by decide +kernel
theorem dX7_lengths_142 : decode cX7_lengths 142 = .ok (.ifCond .eq 10, 3) := by decide +kernel
theorem dX7_lengths_145 : decode cX7_lengths 145 = .ok (.iconst 1, 1) := by decide +kernel
theorem dX7_lengths_146 : decode cX7_lengths 146 = .ok (.iload 8, 2) := by decide +kernel
theorem dX7_lengths_148 : decode cX7_lengths 148 = .ok (.ishl, 1) := by decide +kernel
theorem dX7_lengths_149 : decode cX7_lengths 149 = .ok (.goto 4, 3) := by decide +kernel
theorem dX7_lengths_152 : decode cX7_lengths 152 = .ok (.iconst 0, 1) := by decide +kernel
theorem dX7_lengths_153 : decode cX7_lengths 153 = .ok (.ior, 1) := by decide +kernel
theorem dX7_lengths_154 : decode cX7_lengths 154 = .ok (.istore 7, 2) := by decide +kernel
theorem dX7_lengths_156 : decode cX7_lengths 156 = .ok (.iinc 8 1, 3) := by decide +kernel
theorem dX7_lengths_159 : decode cX7_lengths 159 = .ok (.goto (-36), 3) := by decide +kernel
theorem dX7_lengths_162 : decode cX7_lengths 162 = .ok (.iload 7, 2) := by decide +kernel
theorem dX7_lengths_164 : decode cX7_lengths 164 = .ok (.ireturn, 1) := by decide +kernel
theorem dX7_lowest_0 : decode cX7_lowest 0 = .ok (.iload_n 2, 1) := by decide +kernel
theorem dX7_lowest_1 : decode cX7_lowest 1 = .ok (.ifCond .ne 13, 3) := by decide +kernel
theorem dX7_lowest_4 : decode cX7_lowest 4 = .ok (.lload_n 0, 1) := by decide +kernel
theorem dX7_lowest_5 : decode cX7_lowest 5 = .ok (.bipush 56, 2) := by decide +kernel
theorem dX7_lowest_7 : decode cX7_lowest 7 = .ok (.lshl, 1) := by decide +kernel
theorem dX7_lowest_8 : decode cX7_lowest 8 = .ok (.bipush 56, 2) := by decide +kernel
theorem dX7_lowest_10 : decode cX7_lowest 10 = .ok (.lshr, 1) := by decide +kernel
theorem dX7_lowest_11 : decode cX7_lowest 11 = .ok (.goto 34, 3) := by decide +kernel
theorem dX7_lowest_14 : decode cX7_lowest 14 = .ok (.iload_n 2, 1) := by decide +kernel
theorem dX7_lowest_15 : decode cX7_lowest 15 = .ok (.iconst 1, 1) := by decide +kernel
theorem dX7_lowest_16 : decode cX7_lowest 16 = .ok (.if_icmp .ne 13, 3) := by decide +kernel
theorem dX7_lowest_19 : decode cX7_lowest 19 = .ok (.lload_n 0, 1) := by decide +kernel
theorem dX7_lowest_20 : decode cX7_lowest 20 = .ok (.bipush 48, 2) := by decide +kernel
theorem dX7_lowest_22 : decode cX7_lowest 22 = .ok (.lshl, 1) := by decide +kernel
theorem dX7_lowest_23 : decode cX7_lowest 23 = .ok (.bipush 48, 2) := by decide +kernel
theorem dX7_lowest_25 : decode cX7_lowest 25 = .ok (.lshr, 1) := by decide +kernel
theorem dX7_lowest_26 : decode cX7_lowest 26 = .ok (.goto 19, 3) := by decide +kernel
theorem dX7_lowest_29 : decode cX7_lowest 29 = .ok (.iload_n 2, 1) := by decide +kernel
theorem dX7_lowest_30 : decode cX7_lowest 30 = .ok (.iconst 2, 1) := by decide +kernel
theorem dX7_lowest_31 : decode cX7_lowest 31 = .ok (.if_icmp .ne 13, 3) := by decide +kernel
theorem dX7_lowest_34 : decode cX7_lowest 34 = .ok (.lload_n 0, 1) := by decide +kernel
theorem dX7_lowest_35 : decode cX7_lowest 35 = .ok (.bipush 32, 2) := by decide +kernel
theorem dX7_lowest_37 : decode cX7_lowest 37 = .ok (.lshl, 1) := by decide +kernel
theorem dX7_lowest_38 : decode cX7_lowest 38 = .ok (.bipush 32, 2) := by decide +kernel
theorem dX7_lowest_40 : decode cX7_lowest 40 = .ok (.lshr, 1) := by decide +kernel
theorem dX7_lowest_41 : decode cX7_lowest 41 = .ok (.goto 4, 3) := by decide +kernel
theorem dX7_lowest_44 : decode cX7_lowest 44 = .ok (.lload_n 0, 1) := by decide +kernel
theorem dX7_lowest_45 : decode cX7_lowest 45 = .ok (.lreturn, 1) := by decide +kernel
set_option maxRecDepth 20000 in
theorem ggX7_film_X7_in : GoodIn wsX7_film wsX7_in := goodIn_r _ [7] (by decide +kernel) (by decide +kernel)
set_option maxRecDepth 20000 in
theorem gX7_film_X7_in : GoodIn wsX7_film (va_wsS RX7 90 yX7_in wsX7_in) := goodIn_app (goodIn_of _ (by decide +kernel)) ggX7_film_X7_in
set_option maxRecDepth 20000 in
theorem ggX7_film_X7_isSheet : GoodIn wsX7_film wsX7_isSheet := goodIn_r _ [10, 11, 4, 5, 6, 7] (by decide +kernel) (by decide +kernel)
set_option maxRecDepth 20000 in
theorem gX7_film_X7_isSheet : GoodIn wsX7_film (va_wsS RX7 204 yX7_isSheet wsX7_isSheet) := goodIn_app (goodIn_of _ (by decide +kernel)) ggX7_film_X7_isSheet
set_option maxRecDepth 20000 in
theorem ggX7_film_X7_lays : GoodIn wsX7_film wsX7_lays := goodIn_r _ [15, 16, 17, 18, 6, 19, 20, 21, 22, 23, 24, 25, 26, 27, 28, 29, 30, 31, 32, 33, 34, 35, 36, 37, 38, 39, 40, 2, 41, 42, 43, 44, 45, 46, 47, 48, 65, 66, 67, 68, 69, 70, 71, 72, 73, 74, 75, 76, 77, 78, 79, 80, 81, 82] (by decide +kernel) (by decide +kernel)
set_option maxRecDepth 20000 in
theorem gX7_film_X7_lays : GoodIn wsX7_film (wsV RX7 96 RX7 yX7_lays wsX7_lays) := goodIn_app (goodIn_of _ (by decide +kernel)) ggX7_film_X7_lays
set_option maxRecDepth 20000 in
theorem ggX7_film_X7_many : GoodIn wsX7_film wsX7_many := goodIn_r _ [51] (by decide +kernel) (by decide +kernel)
set_option maxRecDepth 20000 in
theorem gX7_film_X7_many : GoodIn wsX7_film (va_wsS RX7 138 yX7_many wsX7_many) := goodIn_app (goodIn_of _ (by decide +kernel)) ggX7_film_X7_many
set_option maxRecDepth 20000 in
theorem ggX7_film_X7_found : GoodIn wsX7_film wsX7_found := goodIn_r _ [55, 56, 57, 65, 66, 67, 68, 69, 70, 71, 72, 73, 74, 75, 76, 77, 78, 79, 80, 81, 82] (by decide +kernel) (by decide +kernel)
set_option maxRecDepth 20000 in
theorem gX7_film_X7_found : GoodIn wsX7_film (wsV RX7 209 RX7 yX7_found wsX7_found) := goodIn_app (goodIn_of _ (by decide +kernel)) ggX7_film_X7_found
set_option maxRecDepth 20000 in
theorem ggX7_film_X7_leastAt : GoodIn wsX7_film wsX7_leastAt := goodIn_r _ [61, 2, 65, 66, 67, 68, 69, 70, 71, 72, 73, 74, 75, 76, 77, 78, 79, 80, 81, 82] (by decide +kernel) (by decide +kernel)
set_option maxRecDepth 20000 in
theorem gX7_film_X7_leastAt : GoodIn wsX7_film (wsV RX7 118 RX7 yX7_leastAt wsX7_leastAt) := goodIn_app (goodIn_of _ (by decide +kernel)) ggX7_film_X7_leastAt
set_option maxRecDepth 20000 in
theorem ggX7_film_X7_lowest : GoodIn wsX7_film wsX7_lowest := goodIn_r _ [64] (by decide +kernel) (by decide +kernel)
set_option maxRecDepth 20000 in
theorem gX7_film_X7_lowest : GoodIn wsX7_film (va_wsS RX7 217 yX7_lowest wsX7_lowest) := goodIn_app (goodIn_of _ (by decide +kernel)) ggX7_film_X7_lowest
theorem dX7_film_0 : decode cX7_film 0 = .ok (.iload_n 1, 1) := by decide +kernel
theorem dX7_film_1 : decode cX7_film 1 = .ok (.ifCond .lt 24, 3) := by decide +kernel
theorem dX7_film_4 : decode cX7_film 4 = .ok (.iload_n 2, 1) := by decide +kernel
theorem dX7_film_5 : decode cX7_film 5 = .ok (.i2l, 1) := by decide +kernel
theorem dX7_film_6 : decode cX7_film 6 = .ok (.lconst 0, 1) := by decide +kernel
theorem dX7_film_7 : decode cX7_film 7 = .ok (.ldc2_w 207, 3) := by decide +kernel
theorem dX7_film_10 : decode cX7_film 10 = .ok (.invokestatic 90, 3) := by decide +kernel
theorem dX7_film_13 : decode cX7_film 13 = .ok (.ifCond .eq 12, 3) := by decide +kernel
theorem dX7_film_16 : decode cX7_film 16 = .ok (.iload_n 3, 1) := by decide +kernel
theorem dX7_film_17 : decode cX7_film 17 = .ok (.iload 4, 2) := by decide +kernel
theorem dX7_film_19 : decode cX7_film 19 = .ok (.invokestatic 204, 3) := by decide +kernel
theorem dX7_film_22 : decode cX7_film 22 = .ok (.ifCond .ne 5, 3) := by decide +kernel
theorem dX7_film_25 : decode cX7_film 25 = .ok (.iconst (-1), 1) := by decide +kernel
theorem dX7_film_26 : decode cX7_film 26 = .ok (.ireturn, 1) := by decide +kernel
theorem dX7_film_27 : decode cX7_film 27 = .ok (.aload_n 0, 1) := by decide +kernel
theorem dX7_film_28 : decode cX7_film 28 = .ok (.invokevirtual 96, 3) := by decide +kernel
theorem dX7_film_31 : decode cX7_film 31 = .ok (.iload_n 1, 1) := by decide +kernel
theorem dX7_film_32 : decode cX7_film 32 = .ok (.aload_n 0, 1) := by decide +kernel
theorem dX7_film_33 : decode cX7_film 33 = .ok (.getfield 39, 3) := by decide +kernel
theorem dX7_film_36 : decode cX7_film 36 = .ok (.iconst 0, 1) := by decide +kernel
theorem dX7_film_37 : decode cX7_film 37 = .ok (.invokestatic 138, 3) := by decide +kernel
theorem dX7_film_40 : decode cX7_film 40 = .ok (.iload_n 2, 1) := by decide +kernel
theorem dX7_film_41 : decode cX7_film 41 = .ok (.isub, 1) := by decide +kernel
theorem dX7_film_42 : decode cX7_film 42 = .ok (.if_icmp .le 6, 3) := by decide +kernel
theorem dX7_film_45 : decode cX7_film 45 = .ok (.bipush (-2), 2) := by decide +kernel
theorem dX7_film_47 : decode cX7_film 47 = .ok (.ireturn, 1) := by decide +kernel
theorem dX7_film_48 : decode cX7_film 48 = .ok (.aload_n 0, 1) := by decide +kernel
theorem dX7_film_49 : decode cX7_film 49 = .ok (.iload_n 3, 1) := by decide +kernel
theorem dX7_film_50 : decode cX7_film 50 = .ok (.iload 4, 2) := by decide +kernel
theorem dX7_film_52 : decode cX7_film 52 = .ok (.iload 5, 2) := by decide +kernel
theorem dX7_film_54 : decode cX7_film 54 = .ok (.iconst 2, 1) := by decide +kernel
theorem dX7_film_55 : decode cX7_film 55 = .ok (.iload_n 2, 1) := by decide +kernel
theorem dX7_film_56 : decode cX7_film 56 = .ok (.imul, 1) := by decide +kernel
theorem dX7_film_57 : decode cX7_film 57 = .ok (.invokevirtual 209, 3) := by decide +kernel
theorem dX7_film_60 : decode cX7_film 60 = .ok (.istore 6, 2) := by decide +kernel
theorem dX7_film_62 : decode cX7_film 62 = .ok (.iload 6, 2) := by decide +kernel
theorem dX7_film_64 : decode cX7_film 64 = .ok (.ifCond .eq 6, 3) := by decide +kernel
theorem dX7_film_67 : decode cX7_film 67 = .ok (.iload 6, 2) := by decide +kernel
theorem dX7_film_69 : decode cX7_film 69 = .ok (.ireturn, 1) := by decide +kernel
theorem dX7_film_70 : decode cX7_film 70 = .ok (.iconst 0, 1) := by decide +kernel
theorem dX7_film_71 : decode cX7_film 71 = .ok (.istore 7, 2) := by decide +kernel
theorem dX7_film_73 : decode cX7_film 73 = .ok (.iload 7, 2) := by decide +kernel
theorem dX7_film_75 : decode cX7_film 75 = .ok (.iload_n 2, 1) := by decide +kernel
theorem dX7_film_76 : decode cX7_film 76 = .ok (.if_icmp .ge 71, 3) := by decide +kernel
theorem dX7_film_79 : decode cX7_film 79 = .ok (.aload_n 0, 1) := by decide +kernel
theorem dX7_film_80 : decode cX7_film 80 = .ok (.iload_n 1, 1) := by decide +kernel
theorem dX7_film_81 : decode cX7_film 81 = .ok (.iload 7, 2) := by decide +kernel
theorem dX7_film_83 : decode cX7_film 83 = .ok (.iadd, 1) := by decide +kernel
theorem dX7_film_84 : decode cX7_film 84 = .ok (.invokevirtual 118, 3) := by decide +kernel
theorem dX7_film_87 : decode cX7_film 87 = .ok (.istore 8, 2) := by decide +kernel
theorem dX7_film_89 : decode cX7_film 89 = .ok (.aload_n 0, 1) := by decide +kernel
theorem dX7_film_90 : decode cX7_film 90 = .ok (.getfield 35, 3) := by decide +kernel
theorem dX7_film_93 : decode cX7_film 93 = .ok (.bipush 30, 2) := by decide +kernel
theorem dX7_film_95 : decode cX7_film 95 = .ok (.iload_n 3, 1) := by decide +kernel
theorem dX7_film_96 : decode cX7_film 96 = .ok (.imul, 1) := by decide +kernel
theorem dX7_film_97 : decode cX7_film 97 = .ok (.iload 5, 2) := by decide +kernel
theorem dX7_film_99 : decode cX7_film 99 = .ok (.iadd, 1) := by decide +kernel
theorem dX7_film_100 : decode cX7_film 100 = .ok (.iconst 2, 1) := by decide +kernel
theorem dX7_film_101 : decode cX7_film 101 = .ok (.iload 7, 2) := by decide +kernel
theorem dX7_film_103 : decode cX7_film 103 = .ok (.imul, 1) := by decide +kernel
theorem dX7_film_104 : decode cX7_film 104 = .ok (.iadd, 1) := by decide +kernel
theorem dX7_film_105 : decode cX7_film 105 = .ok (.iload 8, 2) := by decide +kernel
theorem dX7_film_107 : decode cX7_film 107 = .ok (.i2l, 1) := by decide +kernel
theorem dX7_film_108 : decode cX7_film 108 = .ok (.iload 4, 2) := by decide +kernel
theorem dX7_film_110 : decode cX7_film 110 = .ok (.invokestatic 217, 3) := by decide +kernel
theorem dX7_film_113 : decode cX7_film 113 = .ok (.lastore, 1) := by decide +kernel
theorem dX7_film_114 : decode cX7_film 114 = .ok (.aload_n 0, 1) := by decide +kernel
theorem dX7_film_115 : decode cX7_film 115 = .ok (.getfield 35, 3) := by decide +kernel
theorem dX7_film_118 : decode cX7_film 118 = .ok (.bipush 30, 2) := by decide +kernel
theorem dX7_film_120 : decode cX7_film 120 = .ok (.iload_n 3, 1) := by decide +kernel
theorem dX7_film_121 : decode cX7_film 121 = .ok (.imul, 1) := by decide +kernel
theorem dX7_film_122 : decode cX7_film 122 = .ok (.iload 5, 2) := by decide +kernel
theorem dX7_film_124 : decode cX7_film 124 = .ok (.iadd, 1) := by decide +kernel
theorem dX7_film_125 : decode cX7_film 125 = .ok (.iconst 2, 1) := by decide +kernel
theorem dX7_film_126 : decode cX7_film 126 = .ok (.iload 7, 2) := by decide +kernel
theorem dX7_film_128 : decode cX7_film 128 = .ok (.imul, 1) := by decide +kernel
theorem dX7_film_129 : decode cX7_film 129 = .ok (.iadd, 1) := by decide +kernel
theorem dX7_film_130 : decode cX7_film 130 = .ok (.iconst 1, 1) := by decide +kernel
theorem dX7_film_131 : decode cX7_film 131 = .ok (.iadd, 1) := by decide +kernel
theorem dX7_film_132 : decode cX7_film 132 = .ok (.aload_n 0, 1) := by decide +kernel
theorem dX7_film_133 : decode cX7_film 133 = .ok (.getfield 39, 3) := by decide +kernel
theorem dX7_film_136 : decode cX7_film 136 = .ok (.iload 8, 2) := by decide +kernel
theorem dX7_film_138 : decode cX7_film 138 = .ok (.iaload, 1) := by decide +kernel
theorem dX7_film_139 : decode cX7_film 139 = .ok (.i2l, 1) := by decide +kernel
theorem dX7_film_140 : decode cX7_film 140 = .ok (.lastore, 1) := by decide +kernel
theorem dX7_film_141 : decode cX7_film 141 = .ok (.iinc 7 1, 3) := by decide +kernel
theorem dX7_film_144 : decode cX7_film 144 = .ok (.goto (-71), 3) := by decide +kernel
theorem dX7_film_147 : decode cX7_film 147 = .ok (.iconst 2, 1) := by decide +kernel
theorem dX7_film_148 : decode cX7_film 148 = .ok (.iload_n 2, 1) := by decide +kernel
theorem dX7_film_149 : decode cX7_film 149 = .ok (.imul, 1) := by decide +kernel
theorem dX7_film_150 : decode cX7_film 150 = .ok (.ireturn, 1) := by decide +kernel
set_option maxRecDepth 20000 in
theorem ggX7_sheet_X7_isSheet : GoodIn wsX7_sheet wsX7_isSheet := goodIn_r _ [7, 8, 9, 10, 6, 11] (by decide +kernel) (by decide +kernel)
set_option maxRecDepth 20000 in
theorem gX7_sheet_X7_isSheet : GoodIn wsX7_sheet (va_wsS RX7 204 yX7_isSheet wsX7_isSheet) := goodIn_app (goodIn_of _ (by decide +kernel)) ggX7_sheet_X7_isSheet
theorem dX7_sheet_0 : decode cX7_sheet 0 = .ok (.iload_n 1, 1) := by decide +kernel
theorem dX7_sheet_1 : decode cX7_sheet 1 = .ok (.iload_n 2, 1) := by decide +kernel
theorem dX7_sheet_2 : decode cX7_sheet 2 = .ok (.invokestatic 204, 3) := by decide +kernel
theorem dX7_sheet_5 : decode cX7_sheet 5 = .ok (.ifCond .eq 9, 3) := by decide +kernel
theorem dX7_sheet_8 : decode cX7_sheet 8 = .ok (.iload_n 3, 1) := by decide +kernel
theorem dX7_sheet_9 : decode cX7_sheet 9 = .ok (.bipush 30, 2) := by decide +kernel
theorem dX7_sheet_11 : decode cX7_sheet 11 = .ok (.if_icmp .le 5, 3) := by decide +kernel
theorem dX7_sheet_14 : decode cX7_sheet 14 = .ok (.iconst (-1), 1) := by decide +kernel
theorem dX7_sheet_15 : decode cX7_sheet 15 = .ok (.ireturn, 1) := by decide +kernel
theorem dX7_sheet_16 : decode cX7_sheet 16 = .ok (.iload_n 3, 1) := by decide +kernel
theorem dX7_sheet_17 : decode cX7_sheet 17 = .ok (.ifCond .ge 6, 3) := by decide +kernel
theorem dX7_sheet_20 : decode cX7_sheet 20 = .ok (.bipush (-14), 2) := by decide +kernel
theorem dX7_sheet_22 : decode cX7_sheet 22 = .ok (.ireturn, 1) := by decide +kernel
theorem dX7_sheet_23 : decode cX7_sheet 23 = .ok (.aload_n 0, 1) := by decide +kernel
theorem dX7_sheet_24 : decode cX7_sheet 24 = .ok (.getfield 29, 3) := by decide +kernel
theorem dX7_sheet_27 : decode cX7_sheet 27 = .ok (.iload_n 1, 1) := by decide +kernel
theorem dX7_sheet_28 : decode cX7_sheet 28 = .ok (.iload_n 2, 1) := by decide +kernel
theorem dX7_sheet_29 : decode cX7_sheet 29 = .ok (.iastore, 1) := by decide +kernel
theorem dX7_sheet_30 : decode cX7_sheet 30 = .ok (.aload_n 0, 1) := by decide +kernel
theorem dX7_sheet_31 : decode cX7_sheet 31 = .ok (.getfield 32, 3) := by decide +kernel
theorem dX7_sheet_34 : decode cX7_sheet 34 = .ok (.iload_n 1, 1) := by decide +kernel
theorem dX7_sheet_35 : decode cX7_sheet 35 = .ok (.iload_n 3, 1) := by decide +kernel
theorem dX7_sheet_36 : decode cX7_sheet 36 = .ok (.iastore, 1) := by decide +kernel
theorem dX7_sheet_37 : decode cX7_sheet 37 = .ok (.iconst 0, 1) := by decide +kernel
theorem dX7_sheet_38 : decode cX7_sheet 38 = .ok (.istore 4, 2) := by decide +kernel
theorem dX7_sheet_40 : decode cX7_sheet 40 = .ok (.iload 4, 2) := by decide +kernel
theorem dX7_sheet_42 : decode cX7_sheet 42 = .ok (.iload_n 3, 1) := by decide +kernel
theorem dX7_sheet_43 : decode cX7_sheet 43 = .ok (.if_icmp .ge 22, 3) := by decide +kernel
theorem dX7_sheet_46 : decode cX7_sheet 46 = .ok (.aload_n 0, 1) := by decide +kernel
theorem dX7_sheet_47 : decode cX7_sheet 47 = .ok (.getfield 35, 3) := by decide +kernel
theorem dX7_sheet_50 : decode cX7_sheet 50 = .ok (.bipush 30, 2) := by decide +kernel
theorem dX7_sheet_52 : decode cX7_sheet 52 = .ok (.iload_n 1, 1) := by decide +kernel
theorem dX7_sheet_53 : decode cX7_sheet 53 = .ok (.imul, 1) := by decide +kernel
theorem dX7_sheet_54 : decode cX7_sheet 54 = .ok (.iload 4, 2) := by decide +kernel
theorem dX7_sheet_56 : decode cX7_sheet 56 = .ok (.iadd, 1) := by decide +kernel
theorem dX7_sheet_57 : decode cX7_sheet 57 = .ok (.lconst 0, 1) := by decide +kernel
theorem dX7_sheet_58 : decode cX7_sheet 58 = .ok (.lastore, 1) := by decide +kernel
theorem dX7_sheet_59 : decode cX7_sheet 59 = .ok (.iinc 4 1, 3) := by decide +kernel
theorem dX7_sheet_62 : decode cX7_sheet 62 = .ok (.goto (-22), 3) := by decide +kernel
theorem dX7_sheet_65 : decode cX7_sheet 65 = .ok (.iload_n 3, 1) := by decide +kernel
theorem dX7_sheet_66 : decode cX7_sheet 66 = .ok (.ireturn, 1) := by decide +kernel
set_option maxRecDepth 20000 in
theorem ggX7_drop_X7_in : GoodIn wsX7_drop wsX7_in := goodIn_r _ [7] (by decide +kernel) (by decide +kernel)
set_option maxRecDepth 20000 in
theorem gX7_drop_X7_in : GoodIn wsX7_drop (va_wsS RX7 90 yX7_in wsX7_in) := goodIn_app (goodIn_of _ (by decide +kernel)) ggX7_drop_X7_in
theorem dX7_drop_0 : decode cX7_drop 0 = .ok (.iload_n 1, 1) := by decide +kernel
theorem dX7_drop_1 : decode cX7_drop 1 = .ok (.i2l, 1) := by decide +kernel
theorem dX7_drop_2 : decode cX7_drop 2 = .ok (.lconst 0, 1) := by decide +kernel
theorem dX7_drop_3 : decode cX7_drop 3 = .ok (.ldc2_w 94, 3) := by decide +kernel
theorem dX7_drop_6 : decode cX7_drop 6 = .ok (.invokestatic 90, 3) := by decide +kernel
theorem dX7_drop_9 : decode cX7_drop 9 = .ok (.ifCond .ne 5, 3) := by decide +kernel
theorem dX7_drop_12 : decode cX7_drop 12 = .ok (.iconst (-1), 1) := by decide +kernel
theorem dX7_drop_13 : decode cX7_drop 13 = .ok (.ireturn, 1) := by decide +kernel
theorem dX7_drop_14 : decode cX7_drop 14 = .ok (.aload_n 0, 1) := by decide +kernel
theorem dX7_drop_15 : decode cX7_drop 15 = .ok (.getfield 29, 3) := by decide +kernel
theorem dX7_drop_18 : decode cX7_drop 18 = .ok (.iload_n 1, 1) := by decide +kernel
theorem dX7_drop_19 : decode cX7_drop 19 = .ok (.iaload, 1) := by decide +kernel
theorem dX7_drop_20 : decode cX7_drop 20 = .ok (.ifCond .ge 6, 3) := by decide +kernel
theorem dX7_drop_23 : decode cX7_drop 23 = .ok (.bipush (-11), 2) := by decide +kernel
theorem dX7_drop_25 : decode cX7_drop 25 = .ok (.ireturn, 1) := by decide +kernel
theorem dX7_drop_26 : decode cX7_drop 26 = .ok (.aload_n 0, 1) := by decide +kernel
theorem dX7_drop_27 : decode cX7_drop 27 = .ok (.getfield 29, 3) := by decide +kernel
theorem dX7_drop_30 : decode cX7_drop 30 = .ok (.iload_n 1, 1) := by decide +kernel
theorem dX7_drop_31 : decode cX7_drop 31 = .ok (.bipush (-4), 2) := by decide +kernel
theorem dX7_drop_33 : decode cX7_drop 33 = .ok (.iastore, 1) := by decide +kernel
theorem dX7_drop_34 : decode cX7_drop 34 = .ok (.aload_n 0, 1) := by decide +kernel
theorem dX7_drop_35 : decode cX7_drop 35 = .ok (.getfield 32, 3) := by decide +kernel
theorem dX7_drop_38 : decode cX7_drop 38 = .ok (.iload_n 1, 1) := by decide +kernel
theorem dX7_drop_39 : decode cX7_drop 39 = .ok (.iaload, 1) := by decide +kernel
theorem dX7_drop_40 : decode cX7_drop 40 = .ok (.ireturn, 1) := by decide +kernel
set_option maxRecDepth 20000 in
theorem ggX7_item_X7_isSheet : GoodIn wsX7_item wsX7_isSheet := goodIn_r _ [5, 6, 7, 8, 4, 9] (by decide +kernel) (by decide +kernel)
set_option maxRecDepth 20000 in
theorem gX7_item_X7_isSheet : GoodIn wsX7_item (va_wsS RX7 204 yX7_isSheet wsX7_isSheet) := goodIn_app (goodIn_of _ (by decide +kernel)) ggX7_item_X7_isSheet
set_option maxRecDepth 20000 in
theorem ggX7_item_X7_found : GoodIn wsX7_item wsX7_found := goodIn_r _ [13, 14, 15, 19, 20, 21, 22, 23, 24, 25, 26, 27, 28, 29, 30, 31, 32, 33, 34, 35, 36] (by decide +kernel) (by decide +kernel)
set_option maxRecDepth 20000 in
theorem gX7_item_X7_found : GoodIn wsX7_item (wsV RX7 209 RX7 yX7_found wsX7_found) := goodIn_app (goodIn_of _ (by decide +kernel)) ggX7_item_X7_found
set_option maxRecDepth 20000 in
theorem ggX7_item_X7_lowest : GoodIn wsX7_item wsX7_lowest := goodIn_r _ [18] (by decide +kernel) (by decide +kernel)
set_option maxRecDepth 20000 in
theorem gX7_item_X7_lowest : GoodIn wsX7_item (va_wsS RX7 217 yX7_lowest wsX7_lowest) := goodIn_app (goodIn_of _ (by decide +kernel)) ggX7_item_X7_lowest
theorem dX7_item_0 : decode cX7_item 0 = .ok (.iload_n 1, 1) := by decide +kernel
theorem dX7_item_1 : decode cX7_item 1 = .ok (.iload_n 2, 1) := by decide +kernel
theorem dX7_item_2 : decode cX7_item 2 = .ok (.invokestatic 204, 3) := by decide +kernel
theorem dX7_item_5 : decode cX7_item 5 = .ok (.ifCond .ne 5, 3) := by decide +kernel
theorem dX7_item_8 : decode cX7_item 8 = .ok (.iconst (-1), 1) := by decide +kernel
theorem dX7_item_9 : decode cX7_item 9 = .ok (.ireturn, 1) := by decide +kernel
theorem dX7_item_10 : decode cX7_item 10 = .ok (.aload_n 0, 1) := by decide +kernel
theorem dX7_item_11 : decode cX7_item 11 = .ok (.iload_n 1, 1) := by decide +kernel
theorem dX7_item_12 : decode cX7_item 12 = .ok (.iload_n 2, 1) := by decide +kernel
theorem dX7_item_13 : decode cX7_item 13 = .ok (.iload_n 3, 1) := by decide +kernel
theorem dX7_item_14 : decode cX7_item 14 = .ok (.iconst 1, 1) := by decide +kernel
theorem dX7_item_15 : decode cX7_item 15 = .ok (.invokevirtual 209, 3) := by decide +kernel
theorem dX7_item_18 : decode cX7_item 18 = .ok (.istore 6, 2) := by decide +kernel
theorem dX7_item_20 : decode cX7_item 20 = .ok (.iload 6, 2) := by decide +kernel
theorem dX7_item_22 : decode cX7_item 22 = .ok (.ifCond .eq 6, 3) := by decide +kernel
theorem dX7_item_25 : decode cX7_item 25 = .ok (.iload 6, 2) := by decide +kernel
theorem dX7_item_27 : decode cX7_item 27 = .ok (.ireturn, 1) := by decide +kernel
theorem dX7_item_28 : decode cX7_item 28 = .ok (.aload_n 0, 1) := by decide +kernel
theorem dX7_item_29 : decode cX7_item 29 = .ok (.getfield 35, 3) := by decide +kernel
theorem dX7_item_32 : decode cX7_item 32 = .ok (.bipush 30, 2) := by decide +kernel
theorem dX7_item_34 : decode cX7_item 34 = .ok (.iload_n 1, 1) := by decide +kernel
theorem dX7_item_35 : decode cX7_item 35 = .ok (.imul, 1) := by decide +kernel
theorem dX7_item_36 : decode cX7_item 36 = .ok (.iload_n 3, 1) := by decide +kernel
theorem dX7_item_37 : decode cX7_item 37 = .ok (.iadd, 1) := by decide +kernel
theorem dX7_item_38 : decode cX7_item 38 = .ok (.lload 4, 2) := by decide +kernel
theorem dX7_item_40 : decode cX7_item 40 = .ok (.iload_n 2, 1) := by decide +kernel
theorem dX7_item_41 : decode cX7_item 41 = .ok (.invokestatic 217, 3) := by decide +kernel
theorem dX7_item_44 : decode cX7_item 44 = .ok (.lastore, 1) := by decide +kernel
theorem dX7_item_45 : decode cX7_item 45 = .ok (.iconst 1, 1) := by decide +kernel
theorem dX7_item_46 : decode cX7_item 46 = .ok (.ireturn, 1) := by decide +kernel
set_option maxRecDepth 20000 in
theorem ggX7_copy_X7_in : GoodIn wsX7_copy wsX7_in := goodIn_r _ [8] (by decide +kernel) (by decide +kernel)
set_option maxRecDepth 20000 in
theorem gX7_copy_X7_in : GoodIn wsX7_copy (va_wsS RX7 90 yX7_in wsX7_in) := goodIn_app (goodIn_of _ (by decide +kernel)) ggX7_copy_X7_in
theorem dX7_copy_0 : decode cX7_copy 0 = .ok (.iload_n 1, 1) := by decide +kernel
theorem dX7_copy_1 : decode cX7_copy 1 = .ok (.i2l, 1) := by decide +kernel
theorem dX7_copy_2 : decode cX7_copy 2 = .ok (.lconst 0, 1) := by decide +kernel
theorem dX7_copy_3 : decode cX7_copy 3 = .ok (.ldc2_w 94, 3) := by decide +kernel
theorem dX7_copy_6 : decode cX7_copy 6 = .ok (.invokestatic 90, 3) := by decide +kernel
theorem dX7_copy_9 : decode cX7_copy 9 = .ok (.ifCond .eq 15, 3) := by decide +kernel
theorem dX7_copy_12 : decode cX7_copy 12 = .ok (.iload_n 3, 1) := by decide +kernel
theorem dX7_copy_13 : decode cX7_copy 13 = .ok (.i2l, 1) := by decide +kernel
theorem dX7_copy_14 : decode cX7_copy 14 = .ok (.lconst 0, 1) := by decide +kernel
theorem dX7_copy_15 : decode cX7_copy 15 = .ok (.ldc2_w 94, 3) := by decide +kernel
theorem dX7_copy_18 : decode cX7_copy 18 = .ok (.invokestatic 90, 3) := by decide +kernel
theorem dX7_copy_21 : decode cX7_copy 21 = .ok (.ifCond .ne 5, 3) := by decide +kernel
theorem dX7_copy_24 : decode cX7_copy 24 = .ok (.iconst (-1), 1) := by decide +kernel
theorem dX7_copy_25 : decode cX7_copy 25 = .ok (.ireturn, 1) := by decide +kernel
theorem dX7_copy_26 : decode cX7_copy 26 = .ok (.aload_n 0, 1) := by decide +kernel
theorem dX7_copy_27 : decode cX7_copy 27 = .ok (.getfield 29, 3) := by decide +kernel
theorem dX7_copy_30 : decode cX7_copy 30 = .ok (.iload_n 1, 1) := by decide +kernel
theorem dX7_copy_31 : decode cX7_copy 31 = .ok (.iaload, 1) := by decide +kernel
theorem dX7_copy_32 : decode cX7_copy 32 = .ok (.ifCond .lt 12, 3) := by decide +kernel
theorem dX7_copy_35 : decode cX7_copy 35 = .ok (.aload_n 0, 1) := by decide +kernel
theorem dX7_copy_36 : decode cX7_copy 36 = .ok (.getfield 29, 3) := by decide +kernel
theorem dX7_copy_39 : decode cX7_copy 39 = .ok (.iload_n 3, 1) := by decide +kernel
theorem dX7_copy_40 : decode cX7_copy 40 = .ok (.iaload, 1) := by decide +kernel
theorem dX7_copy_41 : decode cX7_copy 41 = .ok (.ifCond .ge 6, 3) := by decide +kernel
theorem dX7_copy_44 : decode cX7_copy 44 = .ok (.bipush (-11), 2) := by decide +kernel
theorem dX7_copy_46 : decode cX7_copy 46 = .ok (.ireturn, 1) := by decide +kernel
theorem dX7_copy_47 : decode cX7_copy 47 = .ok (.aload_n 0, 1) := by decide +kernel
theorem dX7_copy_48 : decode cX7_copy 48 = .ok (.getfield 29, 3) := by decide +kernel
theorem dX7_copy_51 : decode cX7_copy 51 = .ok (.iload_n 1, 1) := by decide +kernel
theorem dX7_copy_52 : decode cX7_copy 52 = .ok (.iaload, 1) := by decide +kernel
theorem dX7_copy_53 : decode cX7_copy 53 = .ok (.aload_n 0, 1) := by decide +kernel
theorem dX7_copy_54 : decode cX7_copy 54 = .ok (.getfield 29, 3) := by decide +kernel
theorem dX7_copy_57 : decode cX7_copy 57 = .ok (.iload_n 3, 1) := by decide +kernel
theorem dX7_copy_58 : decode cX7_copy 58 = .ok (.iaload, 1) := by decide +kernel
theorem dX7_copy_59 : decode cX7_copy 59 = .ok (.if_icmp .eq 6, 3) := by decide +kernel
theorem dX7_copy_62 : decode cX7_copy 62 = .ok (.bipush (-12), 2) := by decide +kernel
theorem dX7_copy_64 : decode cX7_copy 64 = .ok (.ireturn, 1) := by decide +kernel
theorem dX7_copy_65 : decode cX7_copy 65 = .ok (.iload 5, 2) := by decide +kernel
theorem dX7_copy_67 : decode cX7_copy 67 = .ok (.ifCond .lt 46, 3) := by decide +kernel
theorem dX7_copy_70 : decode cX7_copy 70 = .ok (.iload 5, 2) := by decide +kernel
theorem dX7_copy_72 : decode cX7_copy 72 = .ok (.bipush 30, 2) := by decide +kernel
theorem dX7_copy_74 : decode cX7_copy 74 = .ok (.if_icmp .gt 39, 3) := by decide +kernel
theorem dX7_copy_77 : decode cX7_copy 77 = .ok (.iload_n 2, 1) := by decide +kernel
theorem dX7_copy_78 : decode cX7_copy 78 = .ok (.ifCond .lt 35, 3) := by decide +kernel
theorem dX7_copy_81 : decode cX7_copy 81 = .ok (.iload 4, 2) := by decide +kernel
theorem dX7_copy_83 : decode cX7_copy 83 = .ok (.ifCond .lt 30, 3) := by decide +kernel
theorem dX7_copy_86 : decode cX7_copy 86 = .ok (.iload_n 2, 1) := by decide +kernel
theorem dX7_copy_87 : decode cX7_copy 87 = .ok (.aload_n 0, 1) := by decide +kernel
theorem dX7_copy_88 : decode cX7_copy 88 = .ok (.getfield 32, 3) := by decide +kernel
theorem dX7_copy_91 : decode cX7_copy 91 = .ok (.iload_n 1, 1) := by decide +kernel
theorem dX7_copy_92 : decode cX7_copy 92 = .ok (.iaload, 1) := by decide +kernel
theorem dX7_copy_93 : decode cX7_copy 93 = .ok (.iload 5, 2) := by decide +kernel
theorem dX7_copy_95 : decode cX7_copy 95 = .ok (.isub, 1) := by decide +kernel
theorem dX7_copy_96 : decode cX7_copy 96 = .ok (.if_icmp .gt 17, 3) := by decide +kernel
theorem dX7_copy_99 : decode cX7_copy 99 = .ok (.iload 4, 2) := by decide +kernel
theorem dX7_copy_101 : decode cX7_copy 101 = .ok (.aload_n 0, 1) := by decide +kernel
theorem dX7_copy_102 : decode cX7_copy 102 = .ok (.getfield 32, 3) := by decide +kernel
theorem dX7_copy_105 : decode cX7_copy 105 = .ok (.iload_n 3, 1) := by decide +kernel
theorem dX7_copy_106 : decode cX7_copy 106 = .ok (.iaload, 1) := by decide +kernel
theorem dX7_copy_107 : decode cX7_copy 107 = .ok (.iload 5, 2) := by decide +kernel
theorem dX7_copy_109 : decode cX7_copy 109 = .ok (.isub, 1) := by decide +kernel
theorem dX7_copy_110 : decode cX7_copy 110 = .ok (.if_icmp .le 6, 3) := by decide +kernel
theorem dX7_copy_113 : decode cX7_copy 113 = .ok (.bipush (-13), 2) := by decide +kernel
theorem dX7_copy_115 : decode cX7_copy 115 = .ok (.ireturn, 1) := by decide +kernel
theorem dX7_copy_116 : decode cX7_copy 116 = .ok (.iload 4, 2) := by decide +kernel
theorem dX7_copy_118 : decode cX7_copy 118 = .ok (.iload_n 2, 1) := by decide +kernel
theorem dX7_copy_119 : decode cX7_copy 119 = .ok (.if_icmp .le 7, 3) := by decide +kernel
theorem dX7_copy_122 : decode cX7_copy 122 = .ok (.iconst 1, 1) := by decide +kernel
theorem dX7_copy_123 : decode cX7_copy 123 = .ok (.goto 4, 3) := by decide +kernel
theorem dX7_copy_126 : decode cX7_copy 126 = .ok (.iconst 0, 1) := by decide +kernel
theorem dX7_copy_127 : decode cX7_copy 127 = .ok (.istore 6, 2) := by decide +kernel
theorem dX7_copy_129 : decode cX7_copy 129 = .ok (.iconst 0, 1) := by decide +kernel
theorem dX7_copy_130 : decode cX7_copy 130 = .ok (.istore 7, 2) := by decide +kernel
theorem dX7_copy_132 : decode cX7_copy 132 = .ok (.iload 7, 2) := by decide +kernel
theorem dX7_copy_134 : decode cX7_copy 134 = .ok (.iload 5, 2) := by decide +kernel
theorem dX7_copy_136 : decode cX7_copy 136 = .ok (.if_icmp .ge 57, 3) := by decide +kernel
theorem dX7_copy_139 : decode cX7_copy 139 = .ok (.iload 6, 2) := by decide +kernel
theorem dX7_copy_141 : decode cX7_copy 141 = .ok (.ifCond .eq 13, 3) := by decide +kernel
theorem dX7_copy_144 : decode cX7_copy 144 = .ok (.iload 5, 2) := by decide +kernel
theorem dX7_copy_146 : decode cX7_copy 146 = .ok (.iconst 1, 1) := by decide +kernel
theorem dX7_copy_147 : decode cX7_copy 147 = .ok (.isub, 1) := by decide +kernel
theorem dX7_copy_148 : decode cX7_copy 148 = .ok (.iload 7, 2) := by decide +kernel
theorem dX7_copy_150 : decode cX7_copy 150 = .ok (.isub, 1) := by decide +kernel
theorem dX7_copy_151 : decode cX7_copy 151 = .ok (.goto 5, 3) := by decide +kernel
theorem dX7_copy_154 : decode cX7_copy 154 = .ok (.iload 7, 2) := by decide +kernel
theorem dX7_copy_156 : decode cX7_copy 156 = .ok (.istore 8, 2) := by decide +kernel
theorem dX7_copy_158 : decode cX7_copy 158 = .ok (.aload_n 0, 1) := by decide +kernel
theorem dX7_copy_159 : decode cX7_copy 159 = .ok (.getfield 35, 3) := by decide +kernel
theorem dX7_copy_162 : decode cX7_copy 162 = .ok (.bipush 30, 2) := by decide +kernel
theorem dX7_copy_164 : decode cX7_copy 164 = .ok (.iload_n 3, 1) := by decide +kernel
theorem dX7_copy_165 : decode cX7_copy 165 = .ok (.imul, 1) := by decide +kernel
theorem dX7_copy_166 : decode cX7_copy 166 = .ok (.iload 4, 2) := by decide +kernel
theorem dX7_copy_168 : decode cX7_copy 168 = .ok (.iadd, 1) := by decide +kernel
theorem dX7_copy_169 : decode cX7_copy 169 = .ok (.iload 8, 2) := by decide +kernel
theorem dX7_copy_171 : decode cX7_copy 171 = .ok (.iadd, 1) := by decide +kernel
theorem dX7_copy_172 : decode cX7_copy 172 = .ok (.aload_n 0, 1) := by decide +kernel
theorem dX7_copy_173 : decode cX7_copy 173 = .ok (.getfield 35, 3) := by decide +kernel
theorem dX7_copy_176 : decode cX7_copy 176 = .ok (.bipush 30, 2) := by decide +kernel
theorem dX7_copy_178 : decode cX7_copy 178 = .ok (.iload_n 1, 1) := by decide +kernel
theorem dX7_copy_179 : decode cX7_copy 179 = .ok (.imul, 1) := by decide +kernel
theorem dX7_copy_180 : decode cX7_copy 180 = .ok (.iload_n 2, 1) := by decide +kernel
theorem dX7_copy_181 : decode cX7_copy 181 = .ok (.iadd, 1) := by decide +kernel
theorem dX7_copy_182 : decode cX7_copy 182 = .ok (.iload 8, 2) := by decide +kernel
theorem dX7_copy_184 : decode cX7_copy 184 = .ok (.iadd, 1) := by decide +kernel
theorem dX7_copy_185 : decode cX7_copy 185 = .ok (.laload, 1) := by decide +kernel
theorem dX7_copy_186 : decode cX7_copy 186 = .ok (.lastore, 1) := by decide +kernel
theorem dX7_copy_187 : decode cX7_copy 187 = .ok (.iinc 7 1, 3) := by decide +kernel
theorem dX7_copy_190 : decode cX7_copy 190 = .ok (.goto (-58), 3) := by decide +kernel
theorem dX7_copy_193 : decode cX7_copy 193 = .ok (.iload 5, 2) := by decide +kernel
theorem dX7_copy_195 : decode cX7_copy 195 = .ok (.ireturn, 1) := by decide +kernel
theorem dJ6_numberOfLeadingZeros_0f7a4_0 : decode cJ6_numberOfLeadingZeros_0f7a4 0 = .ok (.iload_n 0, 1) := by decide +kernel
theorem dJ6_numberOfLeadingZeros_0f7a4_1 : decode cJ6_numberOfLeadingZeros_0f7a4 1 = .ok (.ifCond .gt 14, 3) := by decide +kernel
theorem dJ6_numberOfLeadingZeros_0f7a4_4 : decode cJ6_numberOfLeadingZeros_0f7a4 4 = .ok (.iload_n 0, 1) := by decide +kernel
theorem dJ6_numberOfLeadingZeros_0f7a4_5 : decode cJ6_numberOfLeadingZeros_0f7a4 5 = .ok (.ifCond .ne 8, 3) := by decide +kernel
theorem dJ6_numberOfLeadingZeros_0f7a4_8 : decode cJ6_numberOfLeadingZeros_0f7a4 8 = .ok (.bipush 32, 2) := by decide +kernel
theorem dJ6_numberOfLeadingZeros_0f7a4_10 : decode cJ6_numberOfLeadingZeros_0f7a4 10 = .ok (.goto 4, 3) := by decide +kernel
theorem dJ6_numberOfLeadingZeros_0f7a4_13 : decode cJ6_numberOfLeadingZeros_0f7a4 13 = .ok (.iconst 0, 1) := by decide +kernel
theorem dJ6_numberOfLeadingZeros_0f7a4_14 : decode cJ6_numberOfLeadingZeros_0f7a4 14 = .ok (.ireturn, 1) := by decide +kernel
theorem dJ6_numberOfLeadingZeros_0f7a4_15 : decode cJ6_numberOfLeadingZeros_0f7a4 15 = .ok (.bipush 31, 2) := by decide +kernel
theorem dJ6_numberOfLeadingZeros_0f7a4_17 : decode cJ6_numberOfLeadingZeros_0f7a4 17 = .ok (.istore_n 1, 1) := by decide +kernel
theorem dJ6_numberOfLeadingZeros_0f7a4_18 : decode cJ6_numberOfLeadingZeros_0f7a4 18 = .ok (.iload_n 0, 1) := by decide +kernel
theorem dJ6_numberOfLeadingZeros_0f7a4_19 : decode cJ6_numberOfLeadingZeros_0f7a4 19 = .ok (.ldc_w 264, 3) := by decide +kernel
theorem dJ6_numberOfLeadingZeros_0f7a4_22 : decode cJ6_numberOfLeadingZeros_0f7a4 22 = .ok (.if_icmp .lt 11, 3) := by decide +kernel
theorem dJ6_numberOfLeadingZeros_0f7a4_25 : decode cJ6_numberOfLeadingZeros_0f7a4 25 = .ok (.iinc 1 (-16), 3) := by decide +kernel
theorem dJ6_numberOfLeadingZeros_0f7a4_28 : decode cJ6_numberOfLeadingZeros_0f7a4 28 = .ok (.iload_n 0, 1) := by decide +kernel
theorem dJ6_numberOfLeadingZeros_0f7a4_29 : decode cJ6_numberOfLeadingZeros_0f7a4 29 = .ok (.bipush 16, 2) := by decide +kernel
theorem dJ6_numberOfLeadingZeros_0f7a4_31 : decode cJ6_numberOfLeadingZeros_0f7a4 31 = .ok (.iushr, 1) := by decide +kernel
theorem dJ6_numberOfLeadingZeros_0f7a4_32 : decode cJ6_numberOfLeadingZeros_0f7a4 32 = .ok (.istore_n 0, 1) := by decide +kernel
theorem dJ6_numberOfLeadingZeros_0f7a4_33 : decode cJ6_numberOfLeadingZeros_0f7a4 33 = .ok (.iload_n 0, 1) := by decide +kernel
theorem dJ6_numberOfLeadingZeros_0f7a4_34 : decode cJ6_numberOfLeadingZeros_0f7a4 34 = .ok (.sipush 256, 3) := by decide +kernel
theorem dJ6_numberOfLeadingZeros_0f7a4_37 : decode cJ6_numberOfLeadingZeros_0f7a4 37 = .ok (.if_icmp .lt 11, 3) := by decide +kernel
theorem dJ6_numberOfLeadingZeros_0f7a4_40 : decode cJ6_numberOfLeadingZeros_0f7a4 40 = .ok (.iinc 1 (-8), 3) := by decide +kernel
theorem dJ6_numberOfLeadingZeros_0f7a4_43 : decode cJ6_numberOfLeadingZeros_0f7a4 43 = .ok (.iload_n 0, 1) := by decide +kernel
theorem dJ6_numberOfLeadingZeros_0f7a4_44 : decode cJ6_numberOfLeadingZeros_0f7a4 44 = .ok (.bipush 8, 2) := by decide +kernel
theorem dJ6_numberOfLeadingZeros_0f7a4_46 : decode cJ6_numberOfLeadingZeros_0f7a4 46 = .ok (.iushr, 1) := by decide +kernel
theorem dJ6_numberOfLeadingZeros_0f7a4_47 : decode cJ6_numberOfLeadingZeros_0f7a4 47 = .ok (.istore_n 0, 1) := by decide +kernel
theorem dJ6_numberOfLeadingZeros_0f7a4_48 : decode cJ6_numberOfLeadingZeros_0f7a4 48 = .ok (.iload_n 0, 1) := by decide +kernel
theorem dJ6_numberOfLeadingZeros_0f7a4_49 : decode cJ6_numberOfLeadingZeros_0f7a4 49 = .ok (.bipush 16, 2) := by decide +kernel
theorem dJ6_numberOfLeadingZeros_0f7a4_51 : decode cJ6_numberOfLeadingZeros_0f7a4 51 = .ok (.if_icmp .lt 10, 3) := by decide +kernel
theorem dJ6_numberOfLeadingZeros_0f7a4_54 : decode cJ6_numberOfLeadingZeros_0f7a4 54 = .ok (.iinc 1 (-4), 3) := by decide +kernel
theorem dJ6_numberOfLeadingZeros_0f7a4_57 : decode cJ6_numberOfLeadingZeros_0f7a4 57 = .ok (.iload_n 0, 1) := by decide +kernel
theorem dJ6_numberOfLeadingZeros_0f7a4_58 : decode cJ6_numberOfLeadingZeros_0f7a4 58 = .ok (.iconst 4, 1) := by decide +kernel
theorem dJ6_numberOfLeadingZeros_0f7a4_59 : decode cJ6_numberOfLeadingZeros_0f7a4 59 = .ok (.iushr, 1) := by decide +kernel
theorem dJ6_numberOfLeadingZeros_0f7a4_60 : decode cJ6_numberOfLeadingZeros_0f7a4 60 = .ok (.istore_n 0, 1) := by decide +kernel
theorem dJ6_numberOfLeadingZeros_0f7a4_61 : decode cJ6_numberOfLeadingZeros_0f7a4 61 = .ok (.iload_n 0, 1) := by decide +kernel
theorem dJ6_numberOfLeadingZeros_0f7a4_62 : decode cJ6_numberOfLeadingZeros_0f7a4 62 = .ok (.iconst 4, 1) := by decide +kernel
theorem dJ6_numberOfLeadingZeros_0f7a4_63 : decode cJ6_numberOfLeadingZeros_0f7a4 63 = .ok (.if_icmp .lt 10, 3) := by decide +kernel
theorem dJ6_numberOfLeadingZeros_0f7a4_66 : decode cJ6_numberOfLeadingZeros_0f7a4 66 = .ok (.iinc 1 (-2), 3) := by decide +kernel
theorem dJ6_numberOfLeadingZeros_0f7a4_69 : decode cJ6_numberOfLeadingZeros_0f7a4 69 = .ok (.iload_n 0, 1) := by decide +kernel
theorem dJ6_numberOfLeadingZeros_0f7a4_70 : decode cJ6_numberOfLeadingZeros_0f7a4 70 = .ok (.iconst 2, 1) := by decide +kernel
theorem dJ6_numberOfLeadingZeros_0f7a4_71 : decode cJ6_numberOfLeadingZeros_0f7a4 71 = .ok (.iushr, 1) := by decide +kernel
theorem dJ6_numberOfLeadingZeros_0f7a4_72 : decode cJ6_numberOfLeadingZeros_0f7a4 72 = .ok (.istore_n 0, 1) := by decide +kernel
theorem dJ6_numberOfLeadingZeros_0f7a4_73 : decode cJ6_numberOfLeadingZeros_0f7a4 73 = .ok (.iload_n 1, 1) := by decide +kernel
theorem dJ6_numberOfLeadingZeros_0f7a4_74 : decode cJ6_numberOfLeadingZeros_0f7a4 74 = .ok (.iload_n 0, 1) := by decide +kernel
theorem dJ6_numberOfLeadingZeros_0f7a4_75 : decode cJ6_numberOfLeadingZeros_0f7a4 75 = .ok (.iconst 1, 1) := by decide +kernel
theorem dJ6_numberOfLeadingZeros_0f7a4_76 : decode cJ6_numberOfLeadingZeros_0f7a4 76 = .ok (.iushr, 1) := by decide +kernel
theorem dJ6_numberOfLeadingZeros_0f7a4_77 : decode cJ6_numberOfLeadingZeros_0f7a4 77 = .ok (.isub, 1) := by decide +kernel
theorem dJ6_numberOfLeadingZeros_0f7a4_78 : decode cJ6_numberOfLeadingZeros_0f7a4 78 = .ok (.ireturn, 1) := by decide +kernel
theorem dJ6_numberOfTrailingZeros_0f7a4_0 : decode cJ6_numberOfTrailingZeros_0f7a4 0 = .ok (.iload_n 0, 1) := by decide +kernel
theorem dJ6_numberOfTrailingZeros_0f7a4_1 : decode cJ6_numberOfTrailingZeros_0f7a4 1 = .ok (.iconst (-1), 1) := by decide +kernel
theorem dJ6_numberOfTrailingZeros_0f7a4_2 : decode cJ6_numberOfTrailingZeros_0f7a4 2 = .ok (.ixor, 1) := by decide +kernel
theorem dJ6_numberOfTrailingZeros_0f7a4_3 : decode cJ6_numberOfTrailingZeros_0f7a4 3 = .ok (.iload_n 0, 1) := by decide +kernel
theorem dJ6_numberOfTrailingZeros_0f7a4_4 : decode cJ6_numberOfTrailingZeros_0f7a4 4 = .ok (.iconst 1, 1) := by decide +kernel
theorem dJ6_numberOfTrailingZeros_0f7a4_5 : decode cJ6_numberOfTrailingZeros_0f7a4 5 = .ok (.isub, 1) := by decide +kernel
theorem dJ6_numberOfTrailingZeros_0f7a4_6 : decode cJ6_numberOfTrailingZeros_0f7a4 6 = .ok (.iand, 1) := by decide +kernel
theorem dJ6_numberOfTrailingZeros_0f7a4_7 : decode cJ6_numberOfTrailingZeros_0f7a4 7 = .ok (.istore_n 0, 1) := by decide +kernel
theorem dJ6_numberOfTrailingZeros_0f7a4_8 : decode cJ6_numberOfTrailingZeros_0f7a4 8 = .ok (.iload_n 0, 1) := by decide +kernel
theorem dJ6_numberOfTrailingZeros_0f7a4_9 : decode cJ6_numberOfTrailingZeros_0f7a4 9 = .ok (.ifCond .gt 8, 3) := by decide +kernel
theorem dJ6_numberOfTrailingZeros_0f7a4_12 : decode cJ6_numberOfTrailingZeros_0f7a4 12 = .ok (.iload_n 0, 1) := by decide +kernel
theorem dJ6_numberOfTrailingZeros_0f7a4_13 : decode cJ6_numberOfTrailingZeros_0f7a4 13 = .ok (.bipush 32, 2) := by decide +kernel
theorem dJ6_numberOfTrailingZeros_0f7a4_15 : decode cJ6_numberOfTrailingZeros_0f7a4 15 = .ok (.iand, 1) := by decide +kernel
theorem dJ6_numberOfTrailingZeros_0f7a4_16 : decode cJ6_numberOfTrailingZeros_0f7a4 16 = .ok (.ireturn, 1) := by decide +kernel
theorem dJ6_numberOfTrailingZeros_0f7a4_17 : decode cJ6_numberOfTrailingZeros_0f7a4 17 = .ok (.iconst 1, 1) := by decide +kernel
theorem dJ6_numberOfTrailingZeros_0f7a4_18 : decode cJ6_numberOfTrailingZeros_0f7a4 18 = .ok (.istore_n 1, 1) := by decide +kernel
theorem dJ6_numberOfTrailingZeros_0f7a4_19 : decode cJ6_numberOfTrailingZeros_0f7a4 19 = .ok (.iload_n 0, 1) := by decide +kernel
theorem dJ6_numberOfTrailingZeros_0f7a4_20 : decode cJ6_numberOfTrailingZeros_0f7a4 20 = .ok (.ldc_w 264, 3) := by decide +kernel
theorem dJ6_numberOfTrailingZeros_0f7a4_23 : decode cJ6_numberOfTrailingZeros_0f7a4 23 = .ok (.if_icmp .le 11, 3) := by decide +kernel
theorem dJ6_numberOfTrailingZeros_0f7a4_26 : decode cJ6_numberOfTrailingZeros_0f7a4 26 = .ok (.iinc 1 16, 3) := by decide +kernel
theorem dJ6_numberOfTrailingZeros_0f7a4_29 : decode cJ6_numberOfTrailingZeros_0f7a4 29 = .ok (.iload_n 0, 1) := by decide +kernel
theorem dJ6_numberOfTrailingZeros_0f7a4_30 : decode cJ6_numberOfTrailingZeros_0f7a4 30 = .ok (.bipush 16, 2) := by decide +kernel
theorem dJ6_numberOfTrailingZeros_0f7a4_32 : decode cJ6_numberOfTrailingZeros_0f7a4 32 = .ok (.iushr, 1) := by decide +kernel
theorem dJ6_numberOfTrailingZeros_0f7a4_33 : decode cJ6_numberOfTrailingZeros_0f7a4 33 = .ok (.istore_n 0, 1) := by decide +kernel
theorem dJ6_numberOfTrailingZeros_0f7a4_34 : decode cJ6_numberOfTrailingZeros_0f7a4 34 = .ok (.iload_n 0, 1) := by decide +kernel
theorem dJ6_numberOfTrailingZeros_0f7a4_35 : decode cJ6_numberOfTrailingZeros_0f7a4 35 = .ok (.sipush 256, 3) := by decide +kernel
theorem dJ6_numberOfTrailingZeros_0f7a4_38 : decode cJ6_numberOfTrailingZeros_0f7a4 38 = .ok (.if_icmp .le 11, 3) := by decide +kernel
theorem dJ6_numberOfTrailingZeros_0f7a4_41 : decode cJ6_numberOfTrailingZeros_0f7a4 41 = .ok (.iinc 1 8, 3) := by decide +kernel
theorem dJ6_numberOfTrailingZeros_0f7a4_44 : decode cJ6_numberOfTrailingZeros_0f7a4 44 = .ok (.iload_n 0, 1) := by decide +kernel
theorem dJ6_numberOfTrailingZeros_0f7a4_45 : decode cJ6_numberOfTrailingZeros_0f7a4 45 = .ok (.bipush 8, 2) := by decide +kernel
theorem dJ6_numberOfTrailingZeros_0f7a4_47 : decode cJ6_numberOfTrailingZeros_0f7a4 47 = .ok (.iushr, 1) := by decide +kernel
theorem dJ6_numberOfTrailingZeros_0f7a4_48 : decode cJ6_numberOfTrailingZeros_0f7a4 48 = .ok (.istore_n 0, 1) := by decide +kernel
theorem dJ6_numberOfTrailingZeros_0f7a4_49 : decode cJ6_numberOfTrailingZeros_0f7a4 49 = .ok (.iload_n 0, 1) := by decide +kernel
theorem dJ6_numberOfTrailingZeros_0f7a4_50 : decode cJ6_numberOfTrailingZeros_0f7a4 50 = .ok (.bipush 16, 2) := by decide +kernel
theorem dJ6_numberOfTrailingZeros_0f7a4_52 : decode cJ6_numberOfTrailingZeros_0f7a4 52 = .ok (.if_icmp .le 10, 3) := by decide +kernel
theorem dJ6_numberOfTrailingZeros_0f7a4_55 : decode cJ6_numberOfTrailingZeros_0f7a4 55 = .ok (.iinc 1 4, 3) := by decide +kernel
theorem dJ6_numberOfTrailingZeros_0f7a4_58 : decode cJ6_numberOfTrailingZeros_0f7a4 58 = .ok (.iload_n 0, 1) := by decide +kernel
theorem dJ6_numberOfTrailingZeros_0f7a4_59 : decode cJ6_numberOfTrailingZeros_0f7a4 59 = .ok (.iconst 4, 1) := by decide +kernel
theorem dJ6_numberOfTrailingZeros_0f7a4_60 : decode cJ6_numberOfTrailingZeros_0f7a4 60 = .ok (.iushr, 1) := by decide +kernel
theorem dJ6_numberOfTrailingZeros_0f7a4_61 : decode cJ6_numberOfTrailingZeros_0f7a4 61 = .ok (.istore_n 0, 1) := by decide +kernel
theorem dJ6_numberOfTrailingZeros_0f7a4_62 : decode cJ6_numberOfTrailingZeros_0f7a4 62 = .ok (.iload_n 0, 1) := by decide +kernel
theorem dJ6_numberOfTrailingZeros_0f7a4_63 : decode cJ6_numberOfTrailingZeros_0f7a4 63 = .ok (.iconst 4, 1) := by decide +kernel
theorem dJ6_numberOfTrailingZeros_0f7a4_64 : decode cJ6_numberOfTrailingZeros_0f7a4 64 = .ok (.if_icmp .le 10, 3) := by decide +kernel
theorem dJ6_numberOfTrailingZeros_0f7a4_67 : decode cJ6_numberOfTrailingZeros_0f7a4 67 = .ok (.iinc 1 2, 3) := by decide +kernel
theorem dJ6_numberOfTrailingZeros_0f7a4_70 : decode cJ6_numberOfTrailingZeros_0f7a4 70 = .ok (.iload_n 0, 1) := by decide +kernel
theorem dJ6_numberOfTrailingZeros_0f7a4_71 : decode cJ6_numberOfTrailingZeros_0f7a4 71 = .ok (.iconst 2, 1) := by decide +kernel
theorem dJ6_numberOfTrailingZeros_0f7a4_72 : decode cJ6_numberOfTrailingZeros_0f7a4 72 = .ok (.iushr, 1) := by decide +kernel
theorem dJ6_numberOfTrailingZeros_0f7a4_73 : decode cJ6_numberOfTrailingZeros_0f7a4 73 = .ok (.istore_n 0, 1) := by decide +kernel
theorem dJ6_numberOfTrailingZeros_0f7a4_74 : decode cJ6_numberOfTrailingZeros_0f7a4 74 = .ok (.iload_n 1, 1) := by decide +kernel
theorem dJ6_numberOfTrailingZeros_0f7a4_75 : decode cJ6_numberOfTrailingZeros_0f7a4 75 = .ok (.iload_n 0, 1) := by decide +kernel
theorem dJ6_numberOfTrailingZeros_0f7a4_76 : decode cJ6_numberOfTrailingZeros_0f7a4 76 = .ok (.iconst 1, 1) := by decide +kernel
theorem dJ6_numberOfTrailingZeros_0f7a4_77 : decode cJ6_numberOfTrailingZeros_0f7a4 77 = .ok (.iushr, 1) := by decide +kernel
theorem dJ6_numberOfTrailingZeros_0f7a4_78 : decode cJ6_numberOfTrailingZeros_0f7a4 78 = .ok (.iadd, 1) := by decide +kernel
theorem dJ6_numberOfTrailingZeros_0f7a4_79 : decode cJ6_numberOfTrailingZeros_0f7a4 79 = .ok (.ireturn, 1) := by decide +kernel
theorem dJ6_bitCount_0f7a4_0 : decode cJ6_bitCount_0f7a4 0 = .ok (.iload_n 0, 1) := by decide +kernel
theorem dJ6_bitCount_0f7a4_1 : decode cJ6_bitCount_0f7a4 1 = .ok (.iload_n 0, 1) := by decide +kernel
theorem dJ6_bitCount_0f7a4_2 : decode cJ6_bitCount_0f7a4 2 = .ok (.iconst 1, 1) := by decide +kernel
theorem dJ6_bitCount_0f7a4_3 : decode cJ6_bitCount_0f7a4 3 = .ok (.iushr, 1) := by decide +kernel
theorem dJ6_bitCount_0f7a4_4 : decode cJ6_bitCount_0f7a4 4 = .ok (.ldc_w 265, 3) := by decide +kernel
theorem dJ6_bitCount_0f7a4_7 : decode cJ6_bitCount_0f7a4 7 = .ok (.iand, 1) := by decide +kernel
theorem dJ6_bitCount_0f7a4_8 : decode cJ6_bitCount_0f7a4 8 = .ok (.isub, 1) := by decide +kernel
theorem dJ6_bitCount_0f7a4_9 : decode cJ6_bitCount_0f7a4 9 = .ok (.istore_n 0, 1) := by decide +kernel
theorem dJ6_bitCount_0f7a4_10 : decode cJ6_bitCount_0f7a4 10 = .ok (.iload_n 0, 1) := by decide +kernel
theorem dJ6_bitCount_0f7a4_11 : decode cJ6_bitCount_0f7a4 11 = .ok (.ldc_w 266, 3) := by decide +kernel
theorem dJ6_bitCount_0f7a4_14 : decode cJ6_bitCount_0f7a4 14 = .ok (.iand, 1) := by decide +kernel
theorem dJ6_bitCount_0f7a4_15 : decode cJ6_bitCount_0f7a4 15 = .ok (.iload_n 0, 1) := by decide +kernel
theorem dJ6_bitCount_0f7a4_16 : decode cJ6_bitCount_0f7a4 16 = .ok (.iconst 2, 1) := by decide +kernel
theorem dJ6_bitCount_0f7a4_17 : decode cJ6_bitCount_0f7a4 17 = .ok (.iushr, 1) := by decide +kernel
theorem dJ6_bitCount_0f7a4_18 : decode cJ6_bitCount_0f7a4 18 = .ok (.ldc_w 266, 3) := by decide +kernel
theorem dJ6_bitCount_0f7a4_21 : decode cJ6_bitCount_0f7a4 21 = .ok (.iand, 1) := by decide +kernel
theorem dJ6_bitCount_0f7a4_22 : decode cJ6_bitCount_0f7a4 22 = .ok (.iadd, 1) := by decide +kernel
theorem dJ6_bitCount_0f7a4_23 : decode cJ6_bitCount_0f7a4 23 = .ok (.istore_n 0, 1) := by decide +kernel
theorem dJ6_bitCount_0f7a4_24 : decode cJ6_bitCount_0f7a4 24 = .ok (.iload_n 0, 1) := by decide +kernel
theorem dJ6_bitCount_0f7a4_25 : decode cJ6_bitCount_0f7a4 25 = .ok (.iload_n 0, 1) := by decide +kernel
theorem dJ6_bitCount_0f7a4_26 : decode cJ6_bitCount_0f7a4 26 = .ok (.iconst 4, 1) := by decide +kernel
theorem dJ6_bitCount_0f7a4_27 : decode cJ6_bitCount_0f7a4 27 = .ok (.iushr, 1) := by decide +kernel
theorem dJ6_bitCount_0f7a4_28 : decode cJ6_bitCount_0f7a4 28 = .ok (.iadd, 1) := by decide +kernel
theorem dJ6_bitCount_0f7a4_29 : decode cJ6_bitCount_0f7a4 29 = .ok (.ldc_w 267, 3) := by decide +kernel
theorem dJ6_bitCount_0f7a4_32 : decode cJ6_bitCount_0f7a4 32 = .ok (.iand, 1) := by decide +kernel
theorem dJ6_bitCount_0f7a4_33 : decode cJ6_bitCount_0f7a4 33 = .ok (.istore_n 0, 1) := by decide +kernel
theorem dJ6_bitCount_0f7a4_34 : decode cJ6_bitCount_0f7a4 34 = .ok (.iload_n 0, 1) := by decide +kernel
theorem dJ6_bitCount_0f7a4_35 : decode cJ6_bitCount_0f7a4 35 = .ok (.iload_n 0, 1) := by decide +kernel
theorem dJ6_bitCount_0f7a4_36 : decode cJ6_bitCount_0f7a4 36 = .ok (.bipush 8, 2) := by decide +kernel
theorem dJ6_bitCount_0f7a4_38 : decode cJ6_bitCount_0f7a4 38 = .ok (.iushr, 1) := by decide +kernel
theorem dJ6_bitCount_0f7a4_39 : decode cJ6_bitCount_0f7a4 39 = .ok (.iadd, 1) := by decide +kernel
theorem dJ6_bitCount_0f7a4_40 : decode cJ6_bitCount_0f7a4 40 = .ok (.istore_n 0, 1) := by decide +kernel
theorem dJ6_bitCount_0f7a4_41 : decode cJ6_bitCount_0f7a4 41 = .ok (.iload_n 0, 1) := by decide +kernel
theorem dJ6_bitCount_0f7a4_42 : decode cJ6_bitCount_0f7a4 42 = .ok (.iload_n 0, 1) := by decide +kernel
theorem dJ6_bitCount_0f7a4_43 : decode cJ6_bitCount_0f7a4 43 = .ok (.bipush 16, 2) := by decide +kernel
theorem dJ6_bitCount_0f7a4_45 : decode cJ6_bitCount_0f7a4 45 = .ok (.iushr, 1) := by decide +kernel
theorem dJ6_bitCount_0f7a4_46 : decode cJ6_bitCount_0f7a4 46 = .ok (.iadd, 1) := by decide +kernel
theorem dJ6_bitCount_0f7a4_47 : decode cJ6_bitCount_0f7a4 47 = .ok (.istore_n 0, 1) := by decide +kernel
theorem dJ6_bitCount_0f7a4_48 : decode cJ6_bitCount_0f7a4 48 = .ok (.iload_n 0, 1) := by decide +kernel
theorem dJ6_bitCount_0f7a4_49 : decode cJ6_bitCount_0f7a4 49 = .ok (.bipush 63, 2) := by decide +kernel
theorem dJ6_bitCount_0f7a4_51 : decode cJ6_bitCount_0f7a4 51 = .ok (.iand, 1) := by decide +kernel
theorem dJ6_bitCount_0f7a4_52 : decode cJ6_bitCount_0f7a4 52 = .ok (.ireturn, 1) := by decide +kernel
theorem dJ9_max_7cf53_0 : decode cJ9_max_7cf53 0 = .ok (.iload_n 0, 1) := by decide +kernel
theorem dJ9_max_7cf53_1 : decode cJ9_max_7cf53 1 = .ok (.iload_n 1, 1) := by decide +kernel
theorem dJ9_max_7cf53_2 : decode cJ9_max_7cf53 2 = .ok (.if_icmp .lt 7, 3) := by decide +kernel
theorem dJ9_max_7cf53_5 : decode cJ9_max_7cf53 5 = .ok (.iload_n 0, 1) := by decide +kernel
theorem dJ9_max_7cf53_6 : decode cJ9_max_7cf53 6 = .ok (.goto 4, 3) := by decide +kernel
theorem dJ9_max_7cf53_9 : decode cJ9_max_7cf53 9 = .ok (.iload_n 1, 1) := by decide +kernel
theorem dJ9_max_7cf53_10 : decode cJ9_max_7cf53 10 = .ok (.ireturn, 1) := by decide +kernel
theorem dJ7_fill_d0a16_0 : decode cJ7_fill_d0a16 0 = .ok (.iconst 0, 1) := by decide +kernel
theorem dJ7_fill_d0a16_1 : decode cJ7_fill_d0a16 1 = .ok (.istore_n 3, 1) := by decide +kernel
theorem dJ7_fill_d0a16_2 : decode cJ7_fill_d0a16 2 = .ok (.aload_n 0, 1) := by decide +kernel
theorem dJ7_fill_d0a16_3 : decode cJ7_fill_d0a16 3 = .ok (.arraylength, 1) := by decide +kernel
theorem dJ7_fill_d0a16_4 : decode cJ7_fill_d0a16 4 = .ok (.istore 4, 2) := by decide +kernel
theorem dJ7_fill_d0a16_6 : decode cJ7_fill_d0a16 6 = .ok (.iload_n 3, 1) := by decide +kernel
theorem dJ7_fill_d0a16_7 : decode cJ7_fill_d0a16 7 = .ok (.iload 4, 2) := by decide +kernel
theorem dJ7_fill_d0a16_9 : decode cJ7_fill_d0a16 9 = .ok (.if_icmp .ge 13, 3) := by decide +kernel
theorem dJ7_fill_d0a16_12 : decode cJ7_fill_d0a16 12 = .ok (.aload_n 0, 1) := by decide +kernel
theorem dJ7_fill_d0a16_13 : decode cJ7_fill_d0a16 13 = .ok (.iload_n 3, 1) := by decide +kernel
theorem dJ7_fill_d0a16_14 : decode cJ7_fill_d0a16 14 = .ok (.lload_n 1, 1) := by decide +kernel
theorem dJ7_fill_d0a16_15 : decode cJ7_fill_d0a16 15 = .ok (.lastore, 1) := by decide +kernel
theorem dJ7_fill_d0a16_16 : decode cJ7_fill_d0a16 16 = .ok (.iinc 3 1, 3) := by decide +kernel
theorem dJ7_fill_d0a16_19 : decode cJ7_fill_d0a16 19 = .ok (.goto (-13), 3) := by decide +kernel
theorem dJ7_fill_d0a16_22 : decode cJ7_fill_d0a16 22 = .ok (.return_, 1) := by decide +kernel
end
section
set_option maxRecDepth 20000 in
theorem ggL_law_X6_init : GoodIn wsL_law wsX6_init := goodIn_r _ [9, 10, 11, 12, 13, 14, 15, 16, 17, 18, 19, 20, 21, 22, 23, 24, 25, 26, 27, 28, 29, 30, 31, 32, 33, 34, 35, 36, 37, 38, 39, 40, 41, 42, 43, 44, 45, 46, 47, 48, 49, 50, 51, 52, 53, 54, 55, 56, 57, 58, 59, 60, 61, 62, 63, 64, 65, 66, 67, 68, 69, 70, 71, 72, 73, 74, 75, 76, 77, 78, 79, 80, 81, 82, 83, 837, 838, 839, 812, 813, 814, 815, 816, 817, 818, 840, 841, 842, 843, 844, 845, 846, 847, 848, 849, 850, 851, 852, 853, 854, 855, 856, 857, 858, 859] (by decide +kernel) (by decide +kernel)
set_option maxRecDepth 20000 in
theorem gL_law_X6_init : GoodIn wsL_law (wsX6_init) := ggL_law_X6_init
set_option maxRecDepth 20000 in
theorem ggL_law_X7_init : GoodIn wsL_law wsX7_init := goodIn_r _ [86, 87, 11, 12, 60, 88, 89, 90, 91, 92, 93, 94, 95, 54, 96, 97, 98, 99, 100, 101, 102, 819, 820, 821, 822, 823, 824, 825, 826, 827, 828, 829, 830, 831, 832, 833, 834, 835, 836] (by decide +kernel) (by decide +kernel)
set_option maxRecDepth 20000 in
theorem gL_law_X7_init : GoodIn wsL_law (wsX7_init) := ggL_law_X7_init
set_option maxRecDepth 20000 in
theorem ggL_law_X6_look : GoodIn wsL_law wsX6_look := goodIn_r _ [106, 107, 108, 2, 109, 110, 111, 112, 113, 16, 114, 115, 116, 15, 117, 39, 118, 119, 120, 38, 121, 48, 122, 123, 124, 47, 125, 126, 127, 128, 129, 130, 131, 132, 133, 55, 134, 135, 136, 137, 138, 139, 140, 141, 142, 49, 143, 144, 145, 146, 29, 21, 147, 148, 149, 20, 150, 67, 61, 62, 151, 152, 153, 154, 155, 156, 157, 158, 56, 159, 160, 161, 162, 163, 164, 165, 166, 167, 168, 169, 170, 63, 64, 171, 172, 173, 174, 68, 65, 175, 176, 177, 178, 179, 180, 181, 182, 183, 184, 185, 186, 187, 188, 189, 190, 191, 192, 193, 194, 195, 196, 197, 198, 199, 200, 201, 202, 203, 204, 205, 206, 207, 208, 209, 210, 812, 813, 814, 815, 816, 817, 818, 837, 838, 839, 855, 856, 857, 858, 859, 840, 841, 842, 843, 844, 845, 846] (by decide +kernel) (by decide +kernel)
set_option maxRecDepth 20000 in
theorem gL_law_X6_look : GoodIn wsL_law (wsV RL 13 RX6 yX6_look wsX6_look) := goodIn_app (goodIn_of _ (by decide +kernel)) ggL_law_X6_look
set_option maxRecDepth 20000 in
theorem ggL_law_X7_look : GoodIn wsL_law wsX7_look := goodIn_r _ [214, 215, 216, 99, 88, 97, 217, 218, 5, 219, 220, 221, 222, 223, 224, 225, 226, 227, 228, 229, 230, 231, 232, 233, 234, 235, 236, 237, 98, 238, 239, 240, 241, 242, 243, 244, 100, 245, 246, 247, 248, 249, 250, 251, 252, 819, 820, 821, 822, 823, 824, 825, 826, 827, 828, 829, 830, 831, 832, 833, 834, 835, 836] (by decide +kernel) (by decide +kernel)
set_option maxRecDepth 20000 in
theorem gL_law_X7_look : GoodIn wsL_law (wsV RL 17 RX7 yX7_look wsX7_look) := goodIn_app (goodIn_of _ (by decide +kernel)) ggL_law_X7_look
set_option maxRecDepth 20000 in
theorem ggL_law_X6_prefix : GoodIn wsL_law wsX6_prefix := goodIn_r _ [256, 257, 197, 2, 198, 110, 111, 112, 113, 16, 114, 115, 116, 15, 117, 39, 118, 119, 120, 38, 121, 48, 258, 131, 132, 47, 133, 55, 135, 136, 137, 138, 139, 140, 141, 142, 49, 143, 144, 145, 146, 29, 21, 147, 148, 149, 20, 150, 67, 61, 62, 151, 152, 153, 154, 155, 156, 157, 158, 56, 159, 160, 161, 162, 163, 164, 165, 166, 167, 168, 169, 170, 63, 64, 171, 172, 173, 174, 68, 65, 175, 176, 177, 178, 179, 180, 181, 182, 183, 184, 185, 186, 187, 188, 189, 190, 191, 192, 193, 194, 195, 196, 199, 200, 130, 201, 202, 203, 204, 205, 206, 207, 208, 209, 210, 259, 260, 261, 262, 263, 264, 265, 266, 267, 268, 269, 270, 271, 272, 273, 274, 275, 276, 277, 278, 279, 280, 281, 282, 283, 284, 285, 286, 287, 288, 289, 290, 291, 292, 126, 127, 128, 129, 812, 813, 814, 815, 816, 817, 818, 837, 838, 839, 855, 856, 857, 858, 859, 840, 841, 842, 843, 844, 845, 846] (by decide +kernel) (by decide +kernel)
set_option maxRecDepth 20000 in
theorem gL_law_X6_prefix : GoodIn wsL_law (wsV RL 18 RX6 yX6_prefix wsX6_prefix) := goodIn_app (goodIn_of _ (by decide +kernel)) ggL_law_X6_prefix
set_option maxRecDepth 20000 in
theorem ggL_law_X7_prefix : GoodIn wsL_law wsX7_prefix := goodIn_r _ [296, 297, 88, 97, 298, 299, 5, 300, 301, 217, 218, 219, 220, 221, 222, 223, 224, 225, 226, 227, 99, 228, 229, 230, 231, 232, 233, 234, 235, 236, 237, 98, 238, 239, 240, 241, 242, 243, 244, 100, 245, 246, 247, 248, 249, 250, 251, 252, 302, 303, 304, 305, 306, 307, 308, 309, 310, 311, 312, 313, 314, 315, 819, 820, 821, 822, 823, 824, 825, 826, 827, 828, 829, 830, 831, 832, 833, 834, 835, 836] (by decide +kernel) (by decide +kernel)
set_option maxRecDepth 20000 in
theorem gL_law_X7_prefix : GoodIn wsL_law (wsV RL 21 RX7 yX7_prefix wsX7_prefix) := goodIn_app (goodIn_of _ (by decide +kernel)) ggL_law_X7_prefix
set_option maxRecDepth 20000 in
theorem ggL_law_X6_cost : GoodIn wsL_law wsX6_cost := goodIn_r _ [319, 257, 197, 2, 198, 320, 199, 200, 143, 144, 145, 146, 29, 21, 110, 111, 112, 113, 16, 114, 115, 116, 15, 117, 39, 118, 119, 120, 38, 121, 48, 135, 136, 137, 138, 139, 140, 141, 142, 49, 147, 148, 149, 20, 150, 67, 61, 62, 151, 152, 153, 47, 154, 55, 155, 156, 157, 158, 56, 159, 160, 161, 162, 163, 164, 165, 166, 131, 132, 133, 167, 168, 169, 170, 63, 64, 171, 172, 173, 174, 68, 65, 175, 176, 177, 178, 179, 180, 181, 182, 183, 184, 185, 186, 187, 188, 189, 190, 191, 192, 193, 194, 195, 196, 130, 201, 202, 203, 204, 205, 206, 321, 322, 323, 324, 325, 264, 265, 266, 326, 260, 261, 262, 812, 813, 814, 815, 816, 817, 818, 837, 838, 839, 855, 856, 857, 840, 841, 842, 843, 844, 845, 846, 858, 859] (by decide +kernel) (by decide +kernel)
set_option maxRecDepth 20000 in
theorem gL_law_X6_cost : GoodIn wsL_law (wsV RL 22 RX6 yX6_cost wsX6_cost) := goodIn_app (goodIn_of _ (by decide +kernel)) ggL_law_X6_cost
set_option maxRecDepth 20000 in
theorem ggL_law_X7_cost : GoodIn wsL_law wsX7_cost := goodIn_r _ [330, 331, 98, 298, 299, 5, 300, 301, 217, 218, 219, 220, 221, 222, 223, 224, 225, 226, 227, 99, 88, 228, 229, 230, 231, 232, 233, 234, 235, 236, 237, 238, 239, 240, 241, 242, 243, 244, 100, 97, 245, 246, 247, 248, 249, 250, 251, 252, 819, 820, 821, 822, 823, 824, 825, 826, 827, 828, 829, 830, 831, 832, 833, 834, 835, 836] (by decide +kernel) (by decide +kernel)
set_option maxRecDepth 20000 in
theorem gL_law_X7_cost : GoodIn wsL_law (wsV RL 25 RX7 yX7_cost wsX7_cost) := goodIn_app (goodIn_of _ (by decide +kernel)) ggL_law_X7_cost
set_option maxRecDepth 20000 in
theorem ggL_law_X6_least : GoodIn wsL_law wsX6_least := goodIn_r _ [335, 143, 144, 145, 2, 146, 29, 21, 110, 111, 112, 113, 16, 114, 115, 116, 15, 117, 39, 118, 119, 120, 38, 121, 48, 135, 136, 137, 138, 139, 140, 141, 142, 49, 147, 148, 149, 20, 150, 67, 61, 62, 151, 152, 153, 47, 154, 55, 155, 156, 157, 158, 56, 159, 160, 161, 162, 163, 164, 165, 166, 131, 132, 133, 167, 168, 169, 170, 63, 64, 171, 172, 173, 174, 68, 65, 175, 176, 177, 178, 179, 180, 181, 182, 183, 184, 185, 186, 187, 188, 189, 190, 191, 192, 193, 194, 195, 196, 197, 198, 199, 200, 130, 201, 202, 203, 204, 205, 206, 207, 208, 209, 210, 336, 337, 338, 339, 258, 812, 813, 814, 815, 816, 817, 818, 837, 838, 839, 855, 856, 857, 840, 841, 842, 843, 844, 845, 846, 858, 859] (by decide +kernel) (by decide +kernel)
set_option maxRecDepth 20000 in
theorem gL_law_X6_least : GoodIn wsL_law (wsV RL 26 RX6 yX6_least wsX6_least) := goodIn_app (goodIn_of _ (by decide +kernel)) ggL_law_X6_least
set_option maxRecDepth 20000 in
theorem ggL_law_X7_least : GoodIn wsL_law wsX7_least := goodIn_r _ [343, 97, 217, 218, 5, 219, 220, 221, 222, 223, 224, 225, 226, 227, 99, 88, 228, 229, 230, 231, 232, 233, 234, 235, 236, 237, 98, 238, 239, 240, 241, 242, 243, 244, 100, 245, 246, 247, 248, 249, 250, 251, 252, 344, 345, 346, 347, 819, 820, 821, 822, 823, 824, 825, 826, 827, 828, 829, 830, 831, 832, 833, 834, 835, 836] (by decide +kernel) (by decide +kernel)
set_option maxRecDepth 20000 in
theorem gL_law_X7_least : GoodIn wsL_law (wsV RL 29 RX7 yX7_least wsX7_least) := goodIn_app (goodIn_of _ (by decide +kernel)) ggL_law_X7_least
set_option maxRecDepth 20000 in
theorem ggL_law_X6_count : GoodIn wsL_law wsX6_count := goodIn_r _ [351, 16, 110, 111, 112, 2, 113, 114, 115, 116, 15, 117, 39, 118, 119, 120, 38, 121, 48, 352, 353, 354, 47, 355, 56, 143, 144, 145, 146, 29, 21, 135, 136, 137, 138, 139, 140, 141, 142, 49, 147, 148, 149, 20, 150, 67, 61, 62, 151, 152, 153, 154, 55, 155, 156, 157, 158, 159, 160, 161, 162, 163, 164, 165, 166, 131, 132, 133, 167, 168, 169, 170, 63, 64, 171, 172, 173, 174, 68, 65, 175, 176, 177, 178, 179, 180, 181, 182, 183, 184, 185, 186, 187, 188, 189, 190, 191, 192, 193, 194, 195, 196, 197, 198, 199, 200, 130, 201, 202, 203, 204, 205, 206, 207, 208, 209, 210, 356, 357, 358, 359, 360, 361, 362, 363, 364, 365, 366, 367, 368, 369, 370, 371, 372, 268, 269, 270, 373, 374, 375, 376, 377, 378, 379, 380, 381, 382, 383, 384, 283, 284, 285, 286, 287, 288, 289, 290, 385, 386, 387, 388, 389, 272, 273, 274, 275, 276, 277, 278, 279, 280, 281, 282, 291, 292, 126, 127, 128, 129, 390, 391, 392, 393, 394, 395, 396, 397, 41, 812, 813, 814, 815, 816, 817, 818, 837, 838, 839, 855, 856, 857, 858, 859, 840, 841, 842, 843, 844, 845, 846] (by decide +kernel) (by decide +kernel)
set_option maxRecDepth 20000 in
theorem gL_law_X6_count : GoodIn wsL_law (wsV RL 30 RX6 yX6_count wsX6_count) := goodIn_app (goodIn_of _ (by decide +kernel)) ggL_law_X6_count
set_option maxRecDepth 20000 in
theorem ggL_law_X7_count : GoodIn wsL_law wsX7_count := goodIn_r _ [401, 88, 97, 402, 220, 221, 222, 5, 223, 224, 225, 226, 227, 99, 228, 229, 230, 231, 232, 233, 234, 235, 236, 237, 98, 238, 239, 240, 241, 242, 243, 244, 100, 245, 246, 247, 248, 249, 250, 251, 252, 403, 404, 405, 406, 407, 408, 409, 410, 411, 412, 413, 414, 415, 416, 417, 418, 419, 420, 421, 309, 310, 311, 422, 423, 424, 425, 426, 427, 428, 312, 313, 314, 315, 429, 430, 431, 432, 819, 820, 821, 822, 823, 824, 825, 826, 827, 828, 829, 830, 831, 832, 833, 834, 835, 836] (by decide +kernel) (by decide +kernel)
set_option maxRecDepth 20000 in
theorem gL_law_X7_count : GoodIn wsL_law (wsV RL 34 RX7 yX7_count wsX7_count) := goodIn_app (goodIn_of _ (by decide +kernel)) ggL_law_X7_count
set_option maxRecDepth 20000 in
theorem ggL_law_X6_change : GoodIn wsL_law wsX6_change := goodIn_r _ [436, 143, 144, 145, 2, 146, 29, 21, 110, 111, 112, 113, 16, 114, 115, 116, 15, 117, 39, 118, 119, 120, 38, 121, 48, 135, 136, 137, 138, 139, 140, 141, 142, 49, 147, 148, 149, 20, 150, 67, 61, 62, 151, 152, 153, 47, 154, 55, 155, 156, 157, 158, 56, 159, 160, 161, 162, 163, 164, 165, 166, 131, 132, 133, 167, 168, 169, 170, 63, 64, 171, 172, 173, 174, 68, 65, 175, 176, 177, 178, 179, 180, 181, 182, 183, 184, 185, 186, 187, 188, 189, 190, 191, 192, 193, 194, 195, 196, 197, 198, 199, 200, 130, 201, 202, 203, 204, 205, 206, 437, 438, 439, 440, 360, 361, 362, 363, 258, 207, 208, 209, 210, 441, 812, 813, 814, 815, 816, 817, 818, 837, 838, 839, 855, 856, 857, 840, 841, 842, 843, 844, 845, 846, 858, 859] (by decide +kernel) (by decide +kernel)
set_option maxRecDepth 20000 in
theorem gL_law_X6_change : GoodIn wsL_law (wsV RL 35 RX6 yX6_change wsX6_change) := goodIn_app (goodIn_of _ (by decide +kernel)) ggL_law_X6_change
set_option maxRecDepth 20000 in
theorem ggL_law_X7_change : GoodIn wsL_law wsX7_change := goodIn_r _ [445, 216, 88, 97, 217, 218, 5, 219, 220, 221, 222, 223, 224, 225, 226, 227, 99, 228, 229, 230, 231, 232, 233, 234, 235, 236, 237, 98, 238, 239, 240, 241, 242, 243, 244, 100, 245, 246, 247, 248, 249, 250, 251, 252, 446, 447, 448, 449, 302, 303, 304, 819, 820, 821, 822, 823, 824, 825, 826, 827, 828, 829, 830, 831, 832, 833, 834, 835, 836] (by decide +kernel) (by decide +kernel)
set_option maxRecDepth 20000 in
theorem gL_law_X7_change : GoodIn wsL_law (wsV RL 38 RX7 yX7_change wsX7_change) := goodIn_app (goodIn_of _ (by decide +kernel)) ggL_law_X7_change
set_option maxRecDepth 20000 in
theorem ggL_law_X6_proof : GoodIn wsL_law wsX6_proof := goodIn_r _ [453, 143, 144, 145, 2, 146, 29, 21, 110, 111, 112, 113, 16, 114, 115, 116, 15, 117, 39, 118, 119, 120, 38, 121, 48, 135, 136, 137, 138, 139, 140, 141, 142, 49, 147, 148, 149, 20, 150, 67, 61, 62, 151, 152, 153, 47, 154, 55, 155, 156, 157, 158, 56, 159, 160, 161, 162, 163, 164, 165, 166, 131, 132, 133, 167, 168, 169, 170, 63, 64, 171, 172, 173, 174, 68, 65, 175, 176, 177, 178, 179, 180, 181, 182, 183, 184, 185, 186, 187, 188, 189, 190, 191, 192, 193, 194, 195, 196, 197, 198, 199, 200, 130, 201, 202, 203, 204, 205, 206, 454, 455, 456, 457, 368, 369, 370, 371, 372, 268, 269, 270, 373, 374, 375, 376, 377, 378, 379, 380, 381, 382, 383, 384, 283, 284, 285, 286, 287, 288, 289, 290, 267, 458, 459, 812, 813, 814, 815, 816, 817, 818, 837, 838, 839, 855, 856, 857, 840, 841, 842, 843, 844, 845, 846, 858, 859] (by decide +kernel) (by decide +kernel)
set_option maxRecDepth 20000 in
theorem gL_law_X6_proof : GoodIn wsL_law (wsV RL 39 RX6 yX6_proof wsX6_proof) := goodIn_app (goodIn_of _ (by decide +kernel)) ggL_law_X6_proof
set_option maxRecDepth 20000 in
theorem ggL_law_X7_proof : GoodIn wsL_law wsX7_proof := goodIn_r _ [463, 464, 99, 217, 218, 5, 219, 224, 225, 226, 227, 88, 228, 229, 230, 231, 232, 233, 410, 411, 412, 413, 414, 415, 416, 417, 418, 419, 420, 421, 309, 310, 311, 422, 423, 424, 819, 820, 821, 822, 823, 824, 825, 826, 827, 828, 829, 830, 831, 832, 833, 834, 835, 836] (by decide +kernel) (by decide +kernel)
set_option maxRecDepth 20000 in
theorem gL_law_X7_proof : GoodIn wsL_law (wsV RL 42 RX7 yX7_proof wsX7_proof) := goodIn_app (goodIn_of _ (by decide +kernel)) ggL_law_X7_proof
set_option maxRecDepth 20000 in
theorem ggL_law_X6_lost : GoodIn wsL_law wsX6_lost := goodIn_r _ [468, 469, 107, 108, 2, 109, 110, 111, 112, 113, 16, 114, 115, 116, 15, 117, 39, 118, 119, 120, 38, 121, 48, 122, 123, 124, 47, 125, 126, 127, 128, 129, 130, 131, 132, 133, 55, 258, 470, 471, 472, 812, 813, 814, 815, 816, 817, 818, 837, 838, 839, 855, 856, 857, 858, 859] (by decide +kernel) (by decide +kernel)
set_option maxRecDepth 20000 in
theorem gL_law_X6_lost : GoodIn wsL_law (wsV RL 43 RX6 yX6_lost wsX6_lost) := goodIn_app (goodIn_of _ (by decide +kernel)) ggL_law_X6_lost
set_option maxRecDepth 20000 in
theorem ggL_law_X7_lost : GoodIn wsL_law wsX7_lost := goodIn_r _ [476, 215, 477, 88, 101, 217, 218, 5, 219, 478, 479, 480, 481, 228, 229, 230, 231, 232, 233, 819, 820, 821, 822, 823, 824, 825, 826, 827, 828, 829, 830, 831, 832, 833, 834, 835, 836] (by decide +kernel) (by decide +kernel)
set_option maxRecDepth 20000 in
theorem gL_law_X7_lost : GoodIn wsL_law (wsV RL 47 RX7 yX7_lost wsX7_lost) := goodIn_app (goodIn_of _ (by decide +kernel)) ggL_law_X7_lost
set_option maxRecDepth 20000 in
theorem ggL_law_X6_tell : GoodIn wsL_law wsX6_tell := goodIn_r _ [485, 257, 197, 2, 198, 320, 199, 200, 110, 111, 112, 113, 16, 114, 115, 116, 15, 117, 39, 118, 119, 120, 38, 121, 48, 258, 131, 132, 47, 133, 55, 352, 353, 354, 355, 56, 486, 487, 488, 489, 29, 490, 491, 492, 493, 41, 40, 494, 495, 496, 497, 498, 499, 500, 501, 49, 50, 502, 152, 153, 154, 155, 156, 157, 158, 503, 194, 195, 196, 130, 201, 202, 203, 204, 205, 206, 812, 813, 814, 815, 816, 817, 818, 837, 838, 839, 855, 856, 857, 858, 859] (by decide +kernel) (by decide +kernel)
set_option maxRecDepth 20000 in
theorem gL_law_X6_tell : GoodIn wsL_law (wsV RL 48 RX6 yX6_tell wsX6_tell) := goodIn_app (goodIn_of _ (by decide +kernel)) ggL_law_X6_tell
set_option maxRecDepth 20000 in
theorem ggL_law_X7_tell : GoodIn wsL_law wsX7_tell := goodIn_r _ [507, 331, 88, 298, 299, 5, 300, 301, 217, 218, 219, 403, 404, 405, 508, 509, 510, 511, 402, 89, 512, 513, 514, 819, 820, 821, 822, 823, 824, 825, 826, 827, 828, 829, 830, 831, 832, 833, 834, 835, 836] (by decide +kernel) (by decide +kernel)
set_option maxRecDepth 20000 in
theorem gL_law_X7_tell : GoodIn wsL_law (wsV RL 51 RX7 yX7_tell wsX7_tell) := goodIn_app (goodIn_of _ (by decide +kernel)) ggL_law_X7_tell
set_option maxRecDepth 20000 in
theorem ggL_law_X6_out : GoodIn wsL_law wsX6_out := goodIn_r _ [518, 257, 197, 2, 198, 110, 111, 112, 113, 16, 114, 115, 116, 15, 117, 39, 118, 119, 120, 38, 121, 48, 258, 131, 132, 47, 133, 55, 486, 487, 488, 489, 29, 490, 491, 492, 493, 41, 40, 494, 495, 496, 497, 498, 499, 500, 501, 49, 50, 502, 152, 153, 154, 155, 156, 157, 158, 56, 519, 520, 521, 522, 130, 201, 202, 203, 204, 205, 206, 812, 813, 814, 815, 816, 817, 818, 837, 838, 839, 855, 856, 857, 858, 859] (by decide +kernel) (by decide +kernel)
set_option maxRecDepth 20000 in
theorem gL_law_X6_out : GoodIn wsL_law (wsV RL 52 RX6 yX6_out wsX6_out) := goodIn_app (goodIn_of _ (by decide +kernel)) ggL_law_X6_out
set_option maxRecDepth 20000 in
theorem ggL_law_X7_out : GoodIn wsL_law wsX7_out := goodIn_r _ [526, 88, 298, 299, 5, 300, 301, 217, 218, 219, 508, 509, 510, 511, 402, 89, 512, 513, 514, 819, 820, 821, 822, 823, 824, 825, 826, 827, 828, 829, 830, 831, 832, 833, 834, 835, 836] (by decide +kernel) (by decide +kernel)
set_option maxRecDepth 20000 in
theorem gL_law_X7_out : GoodIn wsL_law (wsV RL 55 RX7 yX7_out wsX7_out) := goodIn_app (goodIn_of _ (by decide +kernel)) ggL_law_X7_out
set_option maxRecDepth 20000 in
theorem ggL_law_X6_rename : GoodIn wsL_law wsX6_rename := goodIn_r _ [530, 320, 199, 2, 200, 110, 111, 112, 113, 16, 114, 115, 116, 15, 117, 39, 118, 119, 120, 38, 121, 48, 531, 532, 533, 47, 534, 130, 131, 132, 133, 55, 486, 487, 488, 489, 29, 490, 491, 492, 493, 41, 40, 494, 495, 496, 497, 498, 499, 500, 501, 49, 50, 502, 152, 153, 154, 155, 156, 157, 158, 56, 535, 536, 537, 538, 539, 194, 195, 196, 197, 198, 201, 202, 203, 204, 205, 206, 812, 813, 814, 815, 816, 817, 818, 837, 838, 839, 855, 856, 857, 858, 859] (by decide +kernel) (by decide +kernel)
set_option maxRecDepth 20000 in
theorem gL_law_X6_rename : GoodIn wsL_law (wsV RL 56 RX6 yX6_rename wsX6_rename) := goodIn_app (goodIn_of _ (by decide +kernel)) ggL_law_X6_rename
set_option maxRecDepth 20000 in
theorem ggL_law_X7_rename : GoodIn wsL_law wsX7_rename := goodIn_r _ [543, 331, 88, 217, 218, 5, 219, 508, 509, 510, 511, 402, 89, 512, 513, 514, 819, 820, 821, 822, 823, 824, 825, 826, 827, 828, 829, 830, 831, 832, 833, 834, 835, 836] (by decide +kernel) (by decide +kernel)
set_option maxRecDepth 20000 in
theorem gL_law_X7_rename : GoodIn wsL_law (wsV RL 59 RX7 yX7_rename wsX7_rename) := goodIn_app (goodIn_of _ (by decide +kernel)) ggL_law_X7_rename
set_option maxRecDepth 20000 in
theorem ggL_law_X6_install : GoodIn wsL_law wsX6_install := goodIn_r _ [547, 143, 144, 145, 2, 146, 29, 21, 110, 111, 112, 113, 16, 114, 115, 116, 15, 117, 39, 118, 119, 120, 38, 121, 48, 135, 136, 137, 138, 139, 140, 141, 142, 49, 147, 148, 149, 20, 150, 67, 61, 62, 151, 152, 153, 47, 154, 55, 155, 156, 157, 158, 56, 159, 160, 161, 162, 163, 164, 165, 166, 131, 132, 133, 167, 168, 169, 170, 63, 64, 171, 172, 173, 174, 68, 65, 175, 176, 177, 178, 179, 180, 181, 182, 183, 184, 185, 186, 187, 188, 189, 190, 191, 192, 193, 194, 195, 196, 197, 198, 199, 200, 130, 201, 202, 203, 204, 205, 206, 356, 357, 358, 359, 360, 361, 362, 363, 486, 487, 488, 489, 490, 491, 492, 493, 41, 40, 494, 495, 496, 497, 498, 499, 500, 501, 50, 502, 207, 208, 209, 210, 548, 812, 813, 814, 815, 816, 817, 818, 837, 838, 839, 855, 856, 857, 840, 841, 842, 843, 844, 845, 846, 858, 859] (by decide +kernel) (by decide +kernel)
set_option maxRecDepth 20000 in
theorem gL_law_X6_install : GoodIn wsL_law (wsV RL 60 RX6 yX6_install wsX6_install) := goodIn_app (goodIn_of _ (by decide +kernel)) ggL_law_X6_install
set_option maxRecDepth 20000 in
theorem ggL_law_X7_install : GoodIn wsL_law wsX7_install := goodIn_r _ [552, 97, 88, 220, 221, 222, 5, 223, 224, 225, 226, 227, 99, 228, 229, 230, 231, 232, 233, 234, 235, 236, 237, 98, 238, 239, 240, 241, 242, 243, 244, 100, 245, 246, 247, 248, 249, 250, 251, 252, 406, 407, 408, 409, 508, 509, 510, 511, 402, 89, 512, 513, 514, 819, 820, 821, 822, 823, 824, 825, 826, 827, 828, 829, 830, 831, 832, 833, 834, 835, 836] (by decide +kernel) (by decide +kernel)
set_option maxRecDepth 20000 in
theorem gL_law_X7_install : GoodIn wsL_law (wsV RL 64 RX7 yX7_install wsX7_install) := goodIn_app (goodIn_of _ (by decide +kernel)) ggL_law_X7_install
set_option maxRecDepth 20000 in
theorem ggL_law_X6_type : GoodIn wsL_law wsX6_type := goodIn_r _ [556, 25, 557, 558, 559, 24, 560, 75, 72, 812, 813, 814, 815, 816, 817, 818, 847, 848, 849, 850, 851] (by decide +kernel) (by decide +kernel)
set_option maxRecDepth 20000 in
theorem gL_law_X6_type : GoodIn wsL_law (wsV RL 65 RX6 yX6_type wsX6_type) := goodIn_app (goodIn_of _ (by decide +kernel)) ggL_law_X6_type
set_option maxRecDepth 20000 in
theorem ggL_law_X7_type : GoodIn wsL_law wsX7_type := goodIn_r _ [564, 565, 566, 567, 93, 217, 218, 5, 219, 819, 820, 821, 822, 823, 824, 825, 826, 827, 828, 829, 830, 831, 832, 833, 834, 835, 836] (by decide +kernel) (by decide +kernel)
set_option maxRecDepth 20000 in
theorem gL_law_X7_type : GoodIn wsL_law (wsV RL 68 RX7 yX7_type wsX7_type) := goodIn_app (goodIn_of _ (by decide +kernel)) ggL_law_X7_type
set_option maxRecDepth 20000 in
theorem ggL_law_X6_read : GoodIn wsL_law wsX6_read := goodIn_r _ [571, 25, 572, 573, 574, 24, 575, 74, 76, 576, 176, 177, 47, 178, 55, 56, 179, 180, 181, 182, 577, 578, 579, 580, 77, 581, 582, 583, 584, 75, 72, 585, 586, 587, 588, 589, 131, 132, 133, 199, 2, 200, 590, 194, 195, 196, 197, 198, 130, 201, 202, 203, 204, 205, 206, 591, 592, 593, 594, 486, 487, 488, 489, 16, 29, 490, 491, 492, 15, 493, 41, 40, 39, 494, 495, 496, 497, 498, 499, 500, 38, 501, 48, 49, 50, 502, 152, 153, 154, 155, 156, 157, 158, 110, 111, 112, 113, 114, 115, 116, 117, 118, 119, 120, 121, 595, 596, 597, 598, 548, 352, 353, 354, 355, 812, 813, 814, 815, 816, 817, 818, 847, 848, 849, 850, 851, 858, 859, 837, 838, 839, 855, 856, 857] (by decide +kernel) (by decide +kernel)
set_option maxRecDepth 20000 in
theorem gL_law_X6_read : GoodIn wsL_law (wsV RL 69 RX6 yX6_read wsX6_read) := goodIn_app (goodIn_of _ (by decide +kernel)) ggL_law_X6_read
set_option maxRecDepth 20000 in
theorem ggL_law_X7_read : GoodIn wsL_law wsX7_read := goodIn_r _ [602, 567, 603, 102, 88, 604, 605, 606, 5, 607, 608, 609, 610, 611, 612, 613, 614, 615, 616, 617, 93, 217, 218, 219, 508, 509, 510, 511, 402, 89, 512, 513, 514, 403, 404, 405, 819, 820, 821, 822, 823, 824, 825, 826, 827, 828, 829, 830, 831, 832, 833, 834, 835, 836] (by decide +kernel) (by decide +kernel)
set_option maxRecDepth 20000 in
theorem gL_law_X7_read : GoodIn wsL_law (wsV RL 72 RX7 yX7_read wsX7_read) := goodIn_app (goodIn_of _ (by decide +kernel)) ggL_law_X7_read
set_option maxRecDepth 20000 in
theorem ggL_law_X6_drift : GoodIn wsL_law wsX6_drift := goodIn_r _ [621, 486, 487, 488, 2, 489, 16, 29, 490, 491, 492, 15, 493, 41, 40, 39, 494, 495, 496, 497, 498, 499, 500, 38, 501, 48, 49, 50, 502, 152, 153, 47, 154, 55, 155, 156, 157, 158, 56, 622, 623, 624, 625, 114, 115, 116, 117, 626, 627, 628, 629, 630, 631, 110, 111, 112, 113, 118, 119, 120, 121, 258, 131, 132, 133, 519, 520, 521, 522, 130, 201, 202, 203, 204, 205, 206, 352, 353, 354, 355, 503, 194, 195, 196, 197, 198, 199, 200, 812, 813, 814, 815, 816, 817, 818, 837, 838, 839, 855, 856, 857, 858, 859] (by decide +kernel) (by decide +kernel)
set_option maxRecDepth 20000 in
theorem gL_law_X6_drift : GoodIn wsL_law (wsV RL 73 RX6 yX6_drift wsX6_drift) := goodIn_app (goodIn_of _ (by decide +kernel)) ggL_law_X6_drift
set_option maxRecDepth 20000 in
theorem ggL_law_X7_drift : GoodIn wsL_law wsX7_drift := goodIn_r _ [635, 636, 88, 217, 218, 5, 219, 637, 638, 639, 640, 641, 642, 643, 644, 508, 509, 510, 511, 402, 89, 512, 513, 514, 403, 404, 405, 819, 820, 821, 822, 823, 824, 825, 826, 827, 828, 829, 830, 831, 832, 833, 834, 835, 836] (by decide +kernel) (by decide +kernel)
set_option maxRecDepth 20000 in
theorem gL_law_X7_drift : GoodIn wsL_law (wsV RL 76 RX7 yX7_drift wsX7_drift) := goodIn_app (goodIn_of _ (by decide +kernel)) ggL_law_X7_drift
set_option maxRecDepth 20000 in
theorem ggL_law_X6_undo : GoodIn wsL_law wsX6_undo := goodIn_r _ [648, 16, 29, 394, 395, 396, 15, 397, 41, 649, 650, 651, 652, 39, 40, 498, 499, 500, 38, 501, 48, 49, 50, 502, 152, 153, 47, 154, 55, 155, 156, 157, 158, 56, 812, 813, 814, 815, 816, 817, 818, 837, 838, 839, 855, 856, 857, 858, 859] (by decide +kernel) (by decide +kernel)
set_option maxRecDepth 20000 in
theorem gL_law_X6_undo : GoodIn wsL_law (wsV RL 77 RX6 yX6_undo wsX6_undo) := goodIn_app (goodIn_of _ (by decide +kernel)) ggL_law_X6_undo
set_option maxRecDepth 20000 in
theorem ggL_law_X7_undo : GoodIn wsL_law wsX7_undo := goodIn_r _ [656, 402, 89, 88, 512, 513, 5, 514, 819, 820, 821, 822, 823, 824, 825, 826, 827, 828, 829, 830, 831, 832, 833, 834, 835, 836] (by decide +kernel) (by decide +kernel)
set_option maxRecDepth 20000 in
theorem gL_law_X7_undo : GoodIn wsL_law (wsV RL 80 RX7 yX7_undo wsX7_undo) := goodIn_app (goodIn_of _ (by decide +kernel)) ggL_law_X7_undo
set_option maxRecDepth 20000 in
theorem ggL_law_X6_seed : GoodIn wsL_law wsX6_seed := goodIn_r _ [660, 16, 114, 115, 116, 15, 117, 39, 661, 662, 663, 38, 664, 50, 665, 666, 667, 668, 812, 813, 814, 815, 816, 817, 818, 837, 838, 839, 855, 856, 857] (by decide +kernel) (by decide +kernel)
set_option maxRecDepth 20000 in
theorem gL_law_X6_seed : GoodIn wsL_law (wsV RL 81 RX6 yX6_seed wsX6_seed) := goodIn_app (goodIn_of _ (by decide +kernel)) ggL_law_X6_seed
set_option maxRecDepth 20000 in
theorem ggL_law_X7_seed : GoodIn wsL_law wsX7_seed := goodIn_r _ [672, 88, 819, 820, 821, 822, 823, 824, 825, 826, 827, 828, 829, 830, 831, 832, 833, 834, 835, 836] (by decide +kernel) (by decide +kernel)
set_option maxRecDepth 20000 in
theorem gL_law_X7_seed : GoodIn wsL_law (wsV RL 84 RX7 yX7_seed wsX7_seed) := goodIn_app (goodIn_of _ (by decide +kernel)) ggL_law_X7_seed
set_option maxRecDepth 20000 in
theorem ggL_law_X6_image : GoodIn wsL_law wsX6_image := goodIn_r _ [676, 17, 16, 28, 677, 678, 679, 15, 680, 39, 40, 41, 498, 499, 500, 38, 501, 48, 49, 50, 502, 152, 153, 47, 154, 55, 155, 156, 157, 158, 56, 812, 813, 814, 815, 816, 817, 818, 837, 838, 839, 855, 856, 857, 858, 859] (by decide +kernel) (by decide +kernel)
set_option maxRecDepth 20000 in
theorem gL_law_X6_image : GoodIn wsL_law (wsV RL 85 RX6 yX6_image wsX6_image) := goodIn_app (goodIn_of _ (by decide +kernel)) ggL_law_X6_image
set_option maxRecDepth 20000 in
theorem ggL_law_X7_image : GoodIn wsL_law wsX7_image := goodIn_r _ [684, 88, 90, 89, 91, 402, 92, 512, 513, 5, 514, 819, 820, 821, 822, 823, 824, 825, 826, 827, 828, 829, 830, 831, 832, 833, 834, 835, 836] (by decide +kernel) (by decide +kernel)
set_option maxRecDepth 20000 in
theorem gL_law_X7_image : GoodIn wsL_law (wsV RL 88 RX7 yX7_image wsX7_image) := goodIn_app (goodIn_of _ (by decide +kernel)) ggL_law_X7_image
set_option maxRecDepth 20000 in
theorem ggL_law_X6_restore : GoodIn wsL_law wsX6_restore := goodIn_r _ [688, 28, 29, 16, 17, 677, 678, 679, 15, 680, 39, 40, 41, 498, 499, 500, 38, 501, 48, 49, 50, 502, 152, 153, 47, 154, 55, 155, 156, 157, 158, 56, 812, 813, 814, 815, 816, 817, 818, 837, 838, 839, 855, 856, 857, 858, 859] (by decide +kernel) (by decide +kernel)
set_option maxRecDepth 20000 in
theorem gL_law_X6_restore : GoodIn wsL_law (wsV RL 89 RX6 yX6_restore wsX6_restore) := goodIn_app (goodIn_of _ (by decide +kernel)) ggL_law_X6_restore
set_option maxRecDepth 20000 in
theorem ggL_law_X7_restore : GoodIn wsL_law wsX7_restore := goodIn_r _ [692, 92, 90, 88, 91, 89, 402, 512, 513, 5, 514, 819, 820, 821, 822, 823, 824, 825, 826, 827, 828, 829, 830, 831, 832, 833, 834, 835, 836] (by decide +kernel) (by decide +kernel)
set_option maxRecDepth 20000 in
theorem gL_law_X7_restore : GoodIn wsL_law (wsV RL 92 RX7 yX7_restore wsX7_restore) := goodIn_app (goodIn_of _ (by decide +kernel)) ggL_law_X7_restore
set_option maxRecDepth 20000 in
theorem ggL_law_X6_lengths : GoodIn wsL_law wsX6_lengths := goodIn_r _ [696, 27, 697, 698, 2, 699, 700, 701, 702, 703, 704, 705, 31, 706, 82, 707, 708, 709, 710, 711, 712, 713, 714, 83, 715, 716, 717, 718, 81, 719, 720, 721, 722, 723, 724, 812, 813, 814, 815, 816, 817, 818, 852, 853, 854] (by decide +kernel) (by decide +kernel)
set_option maxRecDepth 20000 in
theorem gL_law_X6_lengths : GoodIn wsL_law (wsV RL 93 RX6 yX6_lengths wsX6_lengths) := goodIn_app (goodIn_of _ (by decide +kernel)) ggL_law_X6_lengths
set_option maxRecDepth 20000 in
theorem ggL_law_X7_lengths : GoodIn wsL_law wsX7_lengths := goodIn_r _ [728, 729, 96, 215, 331, 730, 731, 5, 732, 216, 217, 218, 219, 733, 734, 735, 736, 94, 95, 737, 738, 739, 740, 819, 820, 821, 822, 823, 824, 825, 826, 827, 828, 829, 830, 831, 832, 833, 834, 835, 836] (by decide +kernel) (by decide +kernel)
set_option maxRecDepth 20000 in
theorem gL_law_X7_lengths : GoodIn wsL_law (wsV RL 97 RX7 yX7_lengths wsX7_lengths) := goodIn_app (goodIn_of _ (by decide +kernel)) ggL_law_X7_lengths
set_option maxRecDepth 20000 in
theorem ggL_law_X6_film : GoodIn wsL_law wsX6_film := goodIn_r _ [744, 27, 697, 698, 2, 699, 700, 701, 702, 143, 144, 145, 146, 29, 21, 110, 111, 112, 113, 16, 114, 115, 116, 15, 117, 39, 118, 119, 120, 38, 121, 48, 135, 136, 137, 138, 139, 140, 141, 142, 49, 147, 148, 149, 20, 150, 67, 61, 62, 151, 152, 153, 47, 154, 55, 155, 156, 157, 158, 56, 159, 160, 161, 162, 163, 164, 165, 166, 131, 132, 133, 167, 168, 169, 170, 63, 64, 171, 172, 173, 174, 68, 65, 175, 176, 177, 178, 179, 180, 181, 182, 183, 184, 185, 186, 187, 188, 189, 190, 191, 192, 193, 194, 195, 196, 197, 198, 199, 200, 130, 201, 202, 203, 204, 205, 206, 207, 208, 209, 210, 352, 353, 354, 355, 703, 704, 705, 31, 706, 82, 707, 708, 709, 710, 711, 712, 713, 714, 83, 336, 337, 338, 339, 745, 746, 747, 748, 81, 749, 750, 751, 752, 258, 812, 813, 814, 815, 816, 817, 818, 837, 838, 839, 855, 856, 857, 840, 841, 842, 843, 844, 845, 846, 858, 859, 852, 853, 854] (by decide +kernel) (by decide +kernel)
set_option maxRecDepth 20000 in
theorem gL_law_X6_film : GoodIn wsL_law (wsV RL 98 RX6 yX6_film wsX6_film) := goodIn_app (goodIn_of _ (by decide +kernel)) ggL_law_X6_film
set_option maxRecDepth 20000 in
theorem ggL_law_X7_film : GoodIn wsL_law wsX7_film := goodIn_r _ [756, 729, 97, 96, 217, 218, 5, 219, 730, 731, 732, 216, 220, 221, 222, 223, 224, 225, 226, 227, 99, 88, 228, 229, 230, 231, 232, 233, 234, 235, 236, 237, 98, 238, 239, 240, 241, 242, 243, 244, 100, 245, 246, 247, 248, 249, 250, 251, 252, 403, 404, 405, 733, 734, 735, 736, 94, 95, 344, 345, 346, 347, 757, 758, 759, 819, 820, 821, 822, 823, 824, 825, 826, 827, 828, 829, 830, 831, 832, 833, 834, 835, 836] (by decide +kernel) (by decide +kernel)
set_option maxRecDepth 20000 in
theorem gL_law_X7_film : GoodIn wsL_law (wsV RL 102 RX7 yX7_film wsX7_film) := goodIn_app (goodIn_of _ (by decide +kernel)) ggL_law_X7_film
set_option maxRecDepth 20000 in
theorem ggL_law_X6_sheet : GoodIn wsL_law wsX6_sheet := goodIn_r _ [763, 27, 697, 698, 2, 699, 700, 701, 702, 764, 765, 766, 31, 767, 81, 82, 83, 768, 180, 181, 182, 812, 813, 814, 815, 816, 817, 818, 852, 853, 854] (by decide +kernel) (by decide +kernel)
set_option maxRecDepth 20000 in
theorem gL_law_X6_sheet : GoodIn wsL_law (wsV RL 103 RX6 yX6_sheet wsX6_sheet) := goodIn_app (goodIn_of _ (by decide +kernel)) ggL_law_X6_sheet
set_option maxRecDepth 20000 in
theorem ggL_law_X7_sheet : GoodIn wsL_law wsX7_sheet := goodIn_r _ [772, 94, 95, 96, 730, 731, 5, 732, 216, 217, 218, 219, 819, 820, 821, 822, 823, 824, 825, 826, 827, 828, 829, 830, 831, 832, 833, 834, 835, 836] (by decide +kernel) (by decide +kernel)
set_option maxRecDepth 20000 in
theorem gL_law_X7_sheet : GoodIn wsL_law (wsV RL 106 RX7 yX7_sheet wsX7_sheet) := goodIn_app (goodIn_of _ (by decide +kernel)) ggL_law_X7_sheet
set_option maxRecDepth 20000 in
theorem ggL_law_X6_drop : GoodIn wsL_law wsX6_drop := goodIn_r _ [776, 27, 697, 698, 2, 699, 777, 708, 709, 31, 710, 82, 778, 779, 780, 781, 83, 812, 813, 814, 815, 816, 817, 818, 852, 853, 854] (by decide +kernel) (by decide +kernel)
set_option maxRecDepth 20000 in
theorem gL_law_X6_drop : GoodIn wsL_law (wsV RL 107 RX6 yX6_drop wsX6_drop) := goodIn_app (goodIn_of _ (by decide +kernel)) ggL_law_X6_drop
set_option maxRecDepth 20000 in
theorem ggL_law_X7_drop : GoodIn wsL_law wsX7_drop := goodIn_r _ [785, 216, 94, 95, 217, 218, 5, 219, 819, 820, 821, 822, 823, 824, 825, 826, 827, 828, 829, 830, 831, 832, 833, 834, 835, 836] (by decide +kernel) (by decide +kernel)
set_option maxRecDepth 20000 in
theorem gL_law_X7_drop : GoodIn wsL_law (wsV RL 110 RX7 yX7_drop wsX7_drop) := goodIn_app (goodIn_of _ (by decide +kernel)) ggL_law_X7_drop
set_option maxRecDepth 20000 in
theorem ggL_law_X6_item : GoodIn wsL_law wsX6_item := goodIn_r _ [789, 27, 697, 698, 2, 699, 700, 701, 702, 703, 704, 705, 31, 706, 82, 707, 708, 709, 710, 711, 712, 713, 714, 83, 745, 746, 747, 748, 81, 749, 750, 751, 752, 812, 813, 814, 815, 816, 817, 818, 852, 853, 854] (by decide +kernel) (by decide +kernel)
set_option maxRecDepth 20000 in
theorem gL_law_X6_item : GoodIn wsL_law (wsV RL 113 RX6 yX6_item wsX6_item) := goodIn_app (goodIn_of _ (by decide +kernel)) ggL_law_X6_item
set_option maxRecDepth 20000 in
theorem ggL_law_X7_item : GoodIn wsL_law wsX7_item := goodIn_r _ [793, 96, 730, 731, 5, 732, 216, 217, 218, 219, 733, 734, 735, 736, 94, 95, 757, 758, 759, 819, 820, 821, 822, 823, 824, 825, 826, 827, 828, 829, 830, 831, 832, 833, 834, 835, 836] (by decide +kernel) (by decide +kernel)
set_option maxRecDepth 20000 in
theorem gL_law_X7_item : GoodIn wsL_law (wsV RL 117 RX7 yX7_item wsX7_item) := goodIn_app (goodIn_of _ (by decide +kernel)) ggL_law_X7_item
set_option maxRecDepth 20000 in
theorem ggL_law_X6_copy : GoodIn wsL_law wsX6_copy := goodIn_r _ [797, 27, 697, 698, 2, 699, 777, 708, 709, 31, 710, 82, 798, 799, 800, 801, 802, 712, 713, 714, 83, 803, 804, 805, 806, 81, 807, 156, 157, 158, 711, 812, 813, 814, 815, 816, 817, 818, 852, 853, 854] (by decide +kernel) (by decide +kernel)
set_option maxRecDepth 20000 in
theorem gL_law_X6_copy : GoodIn wsL_law (wsV RL 118 RX6 yX6_copy wsX6_copy) := goodIn_app (goodIn_of _ (by decide +kernel)) ggL_law_X6_copy
set_option maxRecDepth 20000 in
theorem ggL_law_X7_copy : GoodIn wsL_law wsX7_copy := goodIn_r _ [811, 216, 94, 95, 96, 217, 218, 5, 219, 819, 820, 821, 822, 823, 824, 825, 826, 827, 828, 829, 830, 831, 832, 833, 834, 835, 836] (by decide +kernel) (by decide +kernel)
set_option maxRecDepth 20000 in
theorem gL_law_X7_copy : GoodIn wsL_law (wsV RL 121 RX7 yX7_copy wsX7_copy) := goodIn_app (goodIn_of _ (by decide +kernel)) ggL_law_X7_copy
theorem dL_law_0 : decode cL_law 0 = .ok (.new 7, 3) := by decide +kernel
theorem dL_law_3 : decode cL_law 3 = .ok (.dup, 1) := by decide +kernel
theorem dL_law_4 : decode cL_law 4 = .ok (.invokespecial 9, 3) := by decide +kernel
theorem dL_law_7 : decode cL_law 7 = .ok (.astore_n 1, 1) := by decide +kernel
theorem dL_law_8 : decode cL_law 8 = .ok (.new 10, 3) := by decide +kernel
theorem dL_law_11 : decode cL_law 11 = .ok (.dup, 1) := by decide +kernel
theorem dL_law_12 : decode cL_law 12 = .ok (.invokespecial 12, 3) := by decide +kernel
theorem dL_law_15 : decode cL_law 15 = .ok (.astore_n 2, 1) := by decide +kernel
theorem dL_law_16 : decode cL_law 16 = .ok (.iconst 0, 1) := by decide +kernel
theorem dL_law_17 : decode cL_law 17 = .ok (.istore_n 3, 1) := by decide +kernel
theorem dL_law_18 : decode cL_law 18 = .ok (.iload_n 3, 1) := by decide +kernel
theorem dL_law_19 : decode cL_law 19 = .ok (.aload_n 0, 1) := by decide +kernel
theorem dL_law_20 : decode cL_law 20 = .ok (.arraylength, 1) := by decide +kernel
theorem dL_law_21 : decode cL_law 21 = .ok (.bipush 6, 2) := by decide +kernel
theorem dL_law_23 : decode cL_law 23 = .ok (.isub, 1) := by decide +kernel
theorem dL_law_24 : decode cL_law 24 = .ok (.if_icmp .gt 945, 3) := by decide +kernel
theorem dL_law_27 : decode cL_law 27 = .ok (.aload_n 0, 1) := by decide +kernel
theorem dL_law_28 : decode cL_law 28 = .ok (.iload_n 3, 1) := by decide +kernel
theorem dL_law_29 : decode cL_law 29 = .ok (.iaload, 1) := by decide +kernel
theorem dL_law_30 : decode cL_law 30 = .ok (.bipush 31, 2) := by decide +kernel
theorem dL_law_32 : decode cL_law 32 = .ok (.iand, 1) := by decide +kernel
theorem dL_law_33 : decode cL_law 33 = .ok (.tableswitch 930 0 24 #[115, 148, 181, 214, 247, 270, 303, 336, 379, 412, 435, 468, 481, 504, 517, 540, 553, 576, 589, 602, 655, 718, 761, 784, 867], 115) := by decide +kernel
theorem dL_law_148 : decode cL_law 148 = .ok (.aload_n 1, 1) := by decide +kernel
theorem dL_law_149 : decode cL_law 149 = .ok (.aload_n 0, 1) := by decide +kernel
theorem dL_law_150 : decode cL_law 150 = .ok (.iload_n 3, 1) := by decide +kernel
theorem dL_law_151 : decode cL_law 151 = .ok (.iconst 1, 1) := by decide +kernel
theorem dL_law_152 : decode cL_law 152 = .ok (.iadd, 1) := by decide +kernel
theorem dL_law_153 : decode cL_law 153 = .ok (.iaload, 1) := by decide +kernel
theorem dL_law_154 : decode cL_law 154 = .ok (.aload_n 0, 1) := by decide +kernel
theorem dL_law_155 : decode cL_law 155 = .ok (.iload_n 3, 1) := by decide +kernel
theorem dL_law_156 : decode cL_law 156 = .ok (.iconst 2, 1) := by decide +kernel
theorem dL_law_157 : decode cL_law 157 = .ok (.iadd, 1) := by decide +kernel
theorem dL_law_158 : decode cL_law 158 = .ok (.iaload, 1) := by decide +kernel
theorem dL_law_159 : decode cL_law 159 = .ok (.invokevirtual 13, 3) := by decide +kernel
theorem dL_law_162 : decode cL_law 162 = .ok (.aload_n 2, 1) := by decide +kernel
theorem dL_law_163 : decode cL_law 163 = .ok (.aload_n 0, 1) := by decide +kernel
theorem dL_law_164 : decode cL_law 164 = .ok (.iload_n 3, 1) := by decide +kernel
theorem dL_law_165 : decode cL_law 165 = .ok (.iconst 1, 1) := by decide +kernel
theorem dL_law_166 : decode cL_law 166 = .ok (.iadd, 1) := by decide +kernel
theorem dL_law_167 : decode cL_law 167 = .ok (.iaload, 1) := by decide +kernel
theorem dL_law_168 : decode cL_law 168 = .ok (.aload_n 0, 1) := by decide +kernel
theorem dL_law_169 : decode cL_law 169 = .ok (.iload_n 3, 1) := by decide +kernel
theorem dL_law_170 : decode cL_law 170 = .ok (.iconst 2, 1) := by decide +kernel
theorem dL_law_171 : decode cL_law 171 = .ok (.iadd, 1) := by decide +kernel
theorem dL_law_172 : decode cL_law 172 = .ok (.iaload, 1) := by decide +kernel
theorem dL_law_173 : decode cL_law 173 = .ok (.invokevirtual 17, 3) := by decide +kernel
theorem dL_law_176 : decode cL_law 176 = .ok (.if_icmp .eq 787, 3) := by decide +kernel
theorem dL_law_179 : decode cL_law 179 = .ok (.iconst 0, 1) := by decide +kernel
theorem dL_law_180 : decode cL_law 180 = .ok (.ireturn, 1) := by decide +kernel
theorem dL_law_181 : decode cL_law 181 = .ok (.aload_n 1, 1) := by decide +kernel
theorem dL_law_182 : decode cL_law 182 = .ok (.aload_n 0, 1) := by decide +kernel
theorem dL_law_183 : decode cL_law 183 = .ok (.iload_n 3, 1) := by decide +kernel
theorem dL_law_184 : decode cL_law 184 = .ok (.iconst 1, 1) := by decide +kernel
theorem dL_law_185 : decode cL_law 185 = .ok (.iadd, 1) := by decide +kernel
theorem dL_law_186 : decode cL_law 186 = .ok (.iaload, 1) := by decide +kernel
theorem dL_law_187 : decode cL_law 187 = .ok (.aload_n 0, 1) := by decide +kernel
theorem dL_law_188 : decode cL_law 188 = .ok (.iload_n 3, 1) := by decide +kernel
theorem dL_law_189 : decode cL_law 189 = .ok (.iconst 2, 1) := by decide +kernel
theorem dL_law_190 : decode cL_law 190 = .ok (.iadd, 1) := by decide +kernel
theorem dL_law_191 : decode cL_law 191 = .ok (.iaload, 1) := by decide +kernel
theorem dL_law_192 : decode cL_law 192 = .ok (.invokevirtual 18, 3) := by decide +kernel
theorem dL_law_195 : decode cL_law 195 = .ok (.aload_n 2, 1) := by decide +kernel
theorem dL_law_196 : decode cL_law 196 = .ok (.aload_n 0, 1) := by decide +kernel
theorem dL_law_197 : decode cL_law 197 = .ok (.iload_n 3, 1) := by decide +kernel
theorem dL_law_198 : decode cL_law 198 = .ok (.iconst 1, 1) := by decide +kernel
theorem dL_law_199 : decode cL_law 199 = .ok (.iadd, 1) := by decide +kernel
theorem dL_law_200 : decode cL_law 200 = .ok (.iaload, 1) := by decide +kernel
theorem dL_law_201 : decode cL_law 201 = .ok (.aload_n 0, 1) := by decide +kernel
theorem dL_law_202 : decode cL_law 202 = .ok (.iload_n 3, 1) := by decide +kernel
theorem dL_law_203 : decode cL_law 203 = .ok (.iconst 2, 1) := by decide +kernel
theorem dL_law_204 : decode cL_law 204 = .ok (.iadd, 1) := by decide +kernel
theorem dL_law_205 : decode cL_law 205 = .ok (.iaload, 1) := by decide +kernel
theorem dL_law_206 : decode cL_law 206 = .ok (.invokevirtual 21, 3) := by decide +kernel
theorem dL_law_209 : decode cL_law 209 = .ok (.if_icmp .eq 754, 3) := by decide +kernel
theorem dL_law_212 : decode cL_law 212 = .ok (.iconst 0, 1) := by decide +kernel
theorem dL_law_213 : decode cL_law 213 = .ok (.ireturn, 1) := by decide +kernel
theorem dL_law_214 : decode cL_law 214 = .ok (.aload_n 1, 1) := by decide +kernel
theorem dL_law_215 : decode cL_law 215 = .ok (.aload_n 0, 1) := by decide +kernel
theorem dL_law_216 : decode cL_law 216 = .ok (.iload_n 3, 1) := by decide +kernel
theorem dL_law_217 : decode cL_law 217 = .ok (.iconst 1, 1) := by decide +kernel
theorem dL_law_218 : decode cL_law 218 = .ok (.iadd, 1) := by decide +kernel
theorem dL_law_219 : decode cL_law 219 = .ok (.iaload, 1) := by decide +kernel
theorem dL_law_220 : decode cL_law 220 = .ok (.aload_n 0, 1) := by decide +kernel
theorem dL_law_221 : decode cL_law 221 = .ok (.iload_n 3, 1) := by decide +kernel
theorem dL_law_222 : decode cL_law 222 = .ok (.iconst 2, 1) := by decide +kernel
theorem dL_law_223 : decode cL_law 223 = .ok (.iadd, 1) := by decide +kernel
theorem dL_law_224 : decode cL_law 224 = .ok (.iaload, 1) := by decide +kernel
theorem dL_law_225 : decode cL_law 225 = .ok (.invokevirtual 22, 3) := by decide +kernel
theorem dL_law_228 : decode cL_law 228 = .ok (.aload_n 2, 1) := by decide +kernel
theorem dL_law_229 : decode cL_law 229 = .ok (.aload_n 0, 1) := by decide +kernel
theorem dL_law_230 : decode cL_law 230 = .ok (.iload_n 3, 1) := by decide +kernel
theorem dL_law_231 : decode cL_law 231 = .ok (.iconst 1, 1) := by decide +kernel
theorem dL_law_232 : decode cL_law 232 = .ok (.iadd, 1) := by decide +kernel
theorem dL_law_233 : decode cL_law 233 = .ok (.iaload, 1) := by decide +kernel
theorem dL_law_234 : decode cL_law 234 = .ok (.aload_n 0, 1) := by decide +kernel
theorem dL_law_235 : decode cL_law 235 = .ok (.iload_n 3, 1) := by decide +kernel
theorem dL_law_236 : decode cL_law 236 = .ok (.iconst 2, 1) := by decide +kernel
theorem dL_law_237 : decode cL_law 237 = .ok (.iadd, 1) := by decide +kernel
theorem dL_law_238 : decode cL_law 238 = .ok (.iaload, 1) := by decide +kernel
theorem dL_law_239 : decode cL_law 239 = .ok (.invokevirtual 25, 3) := by decide +kernel
theorem dL_law_242 : decode cL_law 242 = .ok (.if_icmp .eq 721, 3) := by decide +kernel
theorem dL_law_245 : decode cL_law 245 = .ok (.iconst 0, 1) := by decide +kernel
theorem dL_law_246 : decode cL_law 246 = .ok (.ireturn, 1) := by decide +kernel
theorem dL_law_247 : decode cL_law 247 = .ok (.aload_n 1, 1) := by decide +kernel
theorem dL_law_248 : decode cL_law 248 = .ok (.aload_n 0, 1) := by decide +kernel
theorem dL_law_249 : decode cL_law 249 = .ok (.iload_n 3, 1) := by decide +kernel
theorem dL_law_250 : decode cL_law 250 = .ok (.iconst 1, 1) := by decide +kernel
theorem dL_law_251 : decode cL_law 251 = .ok (.iadd, 1) := by decide +kernel
theorem dL_law_252 : decode cL_law 252 = .ok (.iaload, 1) := by decide +kernel
theorem dL_law_253 : decode cL_law 253 = .ok (.aload_n 0, 1) := by decide +kernel
theorem dL_law_254 : decode cL_law 254 = .ok (.iload_n 3, 1) := by decide +kernel
theorem dL_law_255 : decode cL_law 255 = .ok (.iconst 2, 1) := by decide +kernel
theorem dL_law_256 : decode cL_law 256 = .ok (.iadd, 1) := by decide +kernel
theorem dL_law_257 : decode cL_law 257 = .ok (.iaload, 1) := by decide +kernel
theorem dL_law_258 : decode cL_law 258 = .ok (.invokevirtual 26, 3) := by decide +kernel
theorem dL_law_261 : decode cL_law 261 = .ok (.aload_n 2, 1) := by decide +kernel
theorem dL_law_262 : decode cL_law 262 = .ok (.aload_n 0, 1) := by decide +kernel
theorem dL_law_263 : decode cL_law 263 = .ok (.iload_n 3, 1) := by decide +kernel
theorem dL_law_264 : decode cL_law 264 = .ok (.iconst 1, 1) := by decide +kernel
theorem dL_law_265 : decode cL_law 265 = .ok (.iadd, 1) := by decide +kernel
theorem dL_law_266 : decode cL_law 266 = .ok (.iaload, 1) := by decide +kernel
theorem dL_law_267 : decode cL_law 267 = .ok (.aload_n 0, 1) := by decide +kernel
theorem dL_law_268 : decode cL_law 268 = .ok (.iload_n 3, 1) := by decide +kernel
theorem dL_law_269 : decode cL_law 269 = .ok (.iconst 2, 1) := by decide +kernel
theorem dL_law_270 : decode cL_law 270 = .ok (.iadd, 1) := by decide +kernel
theorem dL_law_271 : decode cL_law 271 = .ok (.iaload, 1) := by decide +kernel
theorem dL_law_272 : decode cL_law 272 = .ok (.invokevirtual 29, 3) := by decide +kernel
theorem dL_law_275 : decode cL_law 275 = .ok (.if_icmp .eq 688, 3) := by decide +kernel
theorem dL_law_278 : decode cL_law 278 = .ok (.iconst 0, 1) := by decide +kernel
theorem dL_law_279 : decode cL_law 279 = .ok (.ireturn, 1) := by decide +kernel
theorem dL_law_280 : decode cL_law 280 = .ok (.aload_n 1, 1) := by decide +kernel
theorem dL_law_281 : decode cL_law 281 = .ok (.aload_n 0, 1) := by decide +kernel
theorem dL_law_282 : decode cL_law 282 = .ok (.iload_n 3, 1) := by decide +kernel
theorem dL_law_283 : decode cL_law 283 = .ok (.iconst 1, 1) := by decide +kernel
theorem dL_law_284 : decode cL_law 284 = .ok (.iadd, 1) := by decide +kernel
theorem dL_law_285 : decode cL_law 285 = .ok (.iaload, 1) := by decide +kernel
theorem dL_law_286 : decode cL_law 286 = .ok (.invokevirtual 30, 3) := by decide +kernel
theorem dL_law_289 : decode cL_law 289 = .ok (.aload_n 2, 1) := by decide +kernel
theorem dL_law_290 : decode cL_law 290 = .ok (.aload_n 0, 1) := by decide +kernel
theorem dL_law_291 : decode cL_law 291 = .ok (.iload_n 3, 1) := by decide +kernel
theorem dL_law_292 : decode cL_law 292 = .ok (.iconst 1, 1) := by decide +kernel
theorem dL_law_293 : decode cL_law 293 = .ok (.iadd, 1) := by decide +kernel
theorem dL_law_294 : decode cL_law 294 = .ok (.iaload, 1) := by decide +kernel
theorem dL_law_295 : decode cL_law 295 = .ok (.invokevirtual 34, 3) := by decide +kernel
theorem dL_law_298 : decode cL_law 298 = .ok (.if_icmp .eq 665, 3) := by decide +kernel
theorem dL_law_301 : decode cL_law 301 = .ok (.iconst 0, 1) := by decide +kernel
theorem dL_law_302 : decode cL_law 302 = .ok (.ireturn, 1) := by decide +kernel
theorem dL_law_303 : decode cL_law 303 = .ok (.aload_n 1, 1) := by decide +kernel
theorem dL_law_304 : decode cL_law 304 = .ok (.aload_n 0, 1) := by decide +kernel
theorem dL_law_305 : decode cL_law 305 = .ok (.iload_n 3, 1) := by decide +kernel
theorem dL_law_306 : decode cL_law 306 = .ok (.iconst 1, 1) := by decide +kernel
theorem dL_law_307 : decode cL_law 307 = .ok (.iadd, 1) := by decide +kernel
theorem dL_law_308 : decode cL_law 308 = .ok (.iaload, 1) := by decide +kernel
theorem dL_law_309 : decode cL_law 309 = .ok (.aload_n 0, 1) := by decide +kernel
theorem dL_law_310 : decode cL_law 310 = .ok (.iload_n 3, 1) := by decide +kernel
theorem dL_law_311 : decode cL_law 311 = .ok (.iconst 2, 1) := by decide +kernel
theorem dL_law_312 : decode cL_law 312 = .ok (.iadd, 1) := by decide +kernel
theorem dL_law_313 : decode cL_law 313 = .ok (.iaload, 1) := by decide +kernel
theorem dL_law_314 : decode cL_law 314 = .ok (.invokevirtual 35, 3) := by decide +kernel
theorem dL_law_317 : decode cL_law 317 = .ok (.aload_n 2, 1) := by decide +kernel
theorem dL_law_318 : decode cL_law 318 = .ok (.aload_n 0, 1) := by decide +kernel
theorem dL_law_319 : decode cL_law 319 = .ok (.iload_n 3, 1) := by decide +kernel
theorem dL_law_320 : decode cL_law 320 = .ok (.iconst 1, 1) := by decide +kernel
theorem dL_law_321 : decode cL_law 321 = .ok (.iadd, 1) := by decide +kernel
theorem dL_law_322 : decode cL_law 322 = .ok (.iaload, 1) := by decide +kernel
theorem dL_law_323 : decode cL_law 323 = .ok (.aload_n 0, 1) := by decide +kernel
theorem dL_law_324 : decode cL_law 324 = .ok (.iload_n 3, 1) := by decide +kernel
theorem dL_law_325 : decode cL_law 325 = .ok (.iconst 2, 1) := by decide +kernel
theorem dL_law_326 : decode cL_law 326 = .ok (.iadd, 1) := by decide +kernel
theorem dL_law_327 : decode cL_law 327 = .ok (.iaload, 1) := by decide +kernel
theorem dL_law_328 : decode cL_law 328 = .ok (.invokevirtual 38, 3) := by decide +kernel
theorem dL_law_331 : decode cL_law 331 = .ok (.if_icmp .eq 632, 3) := by decide +kernel
theorem dL_law_334 : decode cL_law 334 = .ok (.iconst 0, 1) := by decide +kernel
theorem dL_law_335 : decode cL_law 335 = .ok (.ireturn, 1) := by decide +kernel
theorem dL_law_336 : decode cL_law 336 = .ok (.aload_n 1, 1) := by decide +kernel
theorem dL_law_337 : decode cL_law 337 = .ok (.aload_n 0, 1) := by decide +kernel
theorem dL_law_338 : decode cL_law 338 = .ok (.iload_n 3, 1) := by decide +kernel
theorem dL_law_339 : decode cL_law 339 = .ok (.iconst 1, 1) := by decide +kernel
theorem dL_law_340 : decode cL_law 340 = .ok (.iadd, 1) := by decide +kernel
theorem dL_law_341 : decode cL_law 341 = .ok (.iaload, 1) := by decide +kernel
theorem dL_law_342 : decode cL_law 342 = .ok (.aload_n 0, 1) := by decide +kernel
theorem dL_law_343 : decode cL_law 343 = .ok (.iload_n 3, 1) := by decide +kernel
theorem dL_law_344 : decode cL_law 344 = .ok (.iconst 2, 1) := by decide +kernel
theorem dL_law_345 : decode cL_law 345 = .ok (.iadd, 1) := by decide +kernel
theorem dL_law_346 : decode cL_law 346 = .ok (.iaload, 1) := by decide +kernel
theorem dL_law_347 : decode cL_law 347 = .ok (.invokevirtual 39, 3) := by decide +kernel
theorem dL_law_350 : decode cL_law 350 = .ok (.aload_n 2, 1) := by decide +kernel
theorem dL_law_351 : decode cL_law 351 = .ok (.aload_n 0, 1) := by decide +kernel
theorem dL_law_352 : decode cL_law 352 = .ok (.iload_n 3, 1) := by decide +kernel
theorem dL_law_353 : decode cL_law 353 = .ok (.iconst 1, 1) := by decide +kernel
theorem dL_law_354 : decode cL_law 354 = .ok (.iadd, 1) := by decide +kernel
theorem dL_law_355 : decode cL_law 355 = .ok (.iaload, 1) := by decide +kernel
theorem dL_law_356 : decode cL_law 356 = .ok (.aload_n 0, 1) := by decide +kernel
theorem dL_law_357 : decode cL_law 357 = .ok (.iload_n 3, 1) := by decide +kernel
theorem dL_law_358 : decode cL_law 358 = .ok (.iconst 2, 1) := by decide +kernel
theorem dL_law_359 : decode cL_law 359 = .ok (.iadd, 1) := by decide +kernel
theorem dL_law_360 : decode cL_law 360 = .ok (.iaload, 1) := by decide +kernel
theorem dL_law_361 : decode cL_law 361 = .ok (.invokevirtual 42, 3) := by decide +kernel
theorem dL_law_364 : decode cL_law 364 = .ok (.if_icmp .eq 599, 3) := by decide +kernel
theorem dL_law_367 : decode cL_law 367 = .ok (.iconst 0, 1) := by decide +kernel
theorem dL_law_368 : decode cL_law 368 = .ok (.ireturn, 1) := by decide +kernel
theorem dL_law_369 : decode cL_law 369 = .ok (.aload_n 1, 1) := by decide +kernel
theorem dL_law_370 : decode cL_law 370 = .ok (.aload_n 0, 1) := by decide +kernel
theorem dL_law_371 : decode cL_law 371 = .ok (.iload_n 3, 1) := by decide +kernel
theorem dL_law_372 : decode cL_law 372 = .ok (.iconst 1, 1) := by decide +kernel
theorem dL_law_373 : decode cL_law 373 = .ok (.iadd, 1) := by decide +kernel
theorem dL_law_374 : decode cL_law 374 = .ok (.iaload, 1) := by decide +kernel
theorem dL_law_375 : decode cL_law 375 = .ok (.aload_n 0, 1) := by decide +kernel
theorem dL_law_376 : decode cL_law 376 = .ok (.iload_n 3, 1) := by decide +kernel
theorem dL_law_377 : decode cL_law 377 = .ok (.iconst 2, 1) := by decide +kernel
theorem dL_law_378 : decode cL_law 378 = .ok (.iadd, 1) := by decide +kernel
theorem dL_law_379 : decode cL_law 379 = .ok (.iaload, 1) := by decide +kernel
theorem dL_law_380 : decode cL_law 380 = .ok (.aload_n 0, 1) := by decide +kernel
theorem dL_law_381 : decode cL_law 381 = .ok (.iload_n 3, 1) := by decide +kernel
theorem dL_law_382 : decode cL_law 382 = .ok (.iconst 3, 1) := by decide +kernel
theorem dL_law_383 : decode cL_law 383 = .ok (.iadd, 1) := by decide +kernel
theorem dL_law_384 : decode cL_law 384 = .ok (.iaload, 1) := by decide +kernel
theorem dL_law_385 : decode cL_law 385 = .ok (.invokevirtual 43, 3) := by decide +kernel
theorem dL_law_388 : decode cL_law 388 = .ok (.aload_n 2, 1) := by decide +kernel
theorem dL_law_389 : decode cL_law 389 = .ok (.aload_n 0, 1) := by decide +kernel
theorem dL_law_390 : decode cL_law 390 = .ok (.iload_n 3, 1) := by decide +kernel
theorem dL_law_391 : decode cL_law 391 = .ok (.iconst 1, 1) := by decide +kernel
theorem dL_law_392 : decode cL_law 392 = .ok (.iadd, 1) := by decide +kernel
theorem dL_law_393 : decode cL_law 393 = .ok (.iaload, 1) := by decide +kernel
theorem dL_law_394 : decode cL_law 394 = .ok (.aload_n 0, 1) := by decide +kernel
theorem dL_law_395 : decode cL_law 395 = .ok (.iload_n 3, 1) := by decide +kernel
theorem dL_law_396 : decode cL_law 396 = .ok (.iconst 2, 1) := by decide +kernel
theorem dL_law_397 : decode cL_law 397 = .ok (.iadd, 1) := by decide +kernel
theorem dL_law_398 : decode cL_law 398 = .ok (.iaload, 1) := by decide +kernel
theorem dL_law_399 : decode cL_law 399 = .ok (.aload_n 0, 1) := by decide +kernel
theorem dL_law_400 : decode cL_law 400 = .ok (.iload_n 3, 1) := by decide +kernel
theorem dL_law_401 : decode cL_law 401 = .ok (.iconst 3, 1) := by decide +kernel
theorem dL_law_402 : decode cL_law 402 = .ok (.iadd, 1) := by decide +kernel
theorem dL_law_403 : decode cL_law 403 = .ok (.iaload, 1) := by decide +kernel
theorem dL_law_404 : decode cL_law 404 = .ok (.invokevirtual 47, 3) := by decide +kernel
theorem dL_law_407 : decode cL_law 407 = .ok (.if_icmp .eq 556, 3) := by decide +kernel
theorem dL_law_410 : decode cL_law 410 = .ok (.iconst 0, 1) := by decide +kernel
theorem dL_law_411 : decode cL_law 411 = .ok (.ireturn, 1) := by decide +kernel
theorem dL_law_412 : decode cL_law 412 = .ok (.aload_n 1, 1) := by decide +kernel
theorem dL_law_413 : decode cL_law 413 = .ok (.aload_n 0, 1) := by decide +kernel
theorem dL_law_414 : decode cL_law 414 = .ok (.iload_n 3, 1) := by decide +kernel
theorem dL_law_415 : decode cL_law 415 = .ok (.iconst 1, 1) := by decide +kernel
theorem dL_law_416 : decode cL_law 416 = .ok (.iadd, 1) := by decide +kernel
theorem dL_law_417 : decode cL_law 417 = .ok (.iaload, 1) := by decide +kernel
theorem dL_law_418 : decode cL_law 418 = .ok (.aload_n 0, 1) := by decide +kernel
theorem dL_law_419 : decode cL_law 419 = .ok (.iload_n 3, 1) := by decide +kernel
theorem dL_law_420 : decode cL_law 420 = .ok (.iconst 2, 1) := by decide +kernel
theorem dL_law_421 : decode cL_law 421 = .ok (.iadd, 1) := by decide +kernel
theorem dL_law_422 : decode cL_law 422 = .ok (.iaload, 1) := by decide +kernel
theorem dL_law_423 : decode cL_law 423 = .ok (.invokevirtual 48, 3) := by decide +kernel
theorem dL_law_426 : decode cL_law 426 = .ok (.aload_n 2, 1) := by decide +kernel
theorem dL_law_427 : decode cL_law 427 = .ok (.aload_n 0, 1) := by decide +kernel
theorem dL_law_428 : decode cL_law 428 = .ok (.iload_n 3, 1) := by decide +kernel
theorem dL_law_429 : decode cL_law 429 = .ok (.iconst 1, 1) := by decide +kernel
theorem dL_law_430 : decode cL_law 430 = .ok (.iadd, 1) := by decide +kernel
theorem dL_law_431 : decode cL_law 431 = .ok (.iaload, 1) := by decide +kernel
theorem dL_law_432 : decode cL_law 432 = .ok (.aload_n 0, 1) := by decide +kernel
theorem dL_law_433 : decode cL_law 433 = .ok (.iload_n 3, 1) := by decide +kernel
theorem dL_law_434 : decode cL_law 434 = .ok (.iconst 2, 1) := by decide +kernel
theorem dL_law_435 : decode cL_law 435 = .ok (.iadd, 1) := by decide +kernel
theorem dL_law_436 : decode cL_law 436 = .ok (.iaload, 1) := by decide +kernel
theorem dL_law_437 : decode cL_law 437 = .ok (.invokevirtual 51, 3) := by decide +kernel
theorem dL_law_440 : decode cL_law 440 = .ok (.if_icmp .eq 523, 3) := by decide +kernel
theorem dL_law_443 : decode cL_law 443 = .ok (.iconst 0, 1) := by decide +kernel
theorem dL_law_444 : decode cL_law 444 = .ok (.ireturn, 1) := by decide +kernel
theorem dL_law_445 : decode cL_law 445 = .ok (.aload_n 1, 1) := by decide +kernel
theorem dL_law_446 : decode cL_law 446 = .ok (.aload_n 0, 1) := by decide +kernel
theorem dL_law_447 : decode cL_law 447 = .ok (.iload_n 3, 1) := by decide +kernel
theorem dL_law_448 : decode cL_law 448 = .ok (.iconst 1, 1) := by decide +kernel
theorem dL_law_449 : decode cL_law 449 = .ok (.iadd, 1) := by decide +kernel
theorem dL_law_450 : decode cL_law 450 = .ok (.iaload, 1) := by decide +kernel
theorem dL_law_451 : decode cL_law 451 = .ok (.invokevirtual 52, 3) := by decide +kernel
theorem dL_law_454 : decode cL_law 454 = .ok (.aload_n 2, 1) := by decide +kernel
theorem dL_law_455 : decode cL_law 455 = .ok (.aload_n 0, 1) := by decide +kernel
theorem dL_law_456 : decode cL_law 456 = .ok (.iload_n 3, 1) := by decide +kernel
theorem dL_law_457 : decode cL_law 457 = .ok (.iconst 1, 1) := by decide +kernel
theorem dL_law_458 : decode cL_law 458 = .ok (.iadd, 1) := by decide +kernel
theorem dL_law_459 : decode cL_law 459 = .ok (.iaload, 1) := by decide +kernel
theorem dL_law_460 : decode cL_law 460 = .ok (.invokevirtual 55, 3) := by decide +kernel
theorem dL_law_463 : decode cL_law 463 = .ok (.if_icmp .eq 500, 3) := by decide +kernel
theorem dL_law_466 : decode cL_law 466 = .ok (.iconst 0, 1) := by decide +kernel
theorem dL_law_467 : decode cL_law 467 = .ok (.ireturn, 1) := by decide +kernel
theorem dL_law_468 : decode cL_law 468 = .ok (.aload_n 1, 1) := by decide +kernel
theorem dL_law_469 : decode cL_law 469 = .ok (.aload_n 0, 1) := by decide +kernel
theorem dL_law_470 : decode cL_law 470 = .ok (.iload_n 3, 1) := by decide +kernel
theorem dL_law_471 : decode cL_law 471 = .ok (.iconst 1, 1) := by decide +kernel
theorem dL_law_472 : decode cL_law 472 = .ok (.iadd, 1) := by decide +kernel
theorem dL_law_473 : decode cL_law 473 = .ok (.iaload, 1) := by decide +kernel
theorem dL_law_474 : decode cL_law 474 = .ok (.aload_n 0, 1) := by decide +kernel
theorem dL_law_475 : decode cL_law 475 = .ok (.iload_n 3, 1) := by decide +kernel
theorem dL_law_476 : decode cL_law 476 = .ok (.iconst 2, 1) := by decide +kernel
theorem dL_law_477 : decode cL_law 477 = .ok (.iadd, 1) := by decide +kernel
theorem dL_law_478 : decode cL_law 478 = .ok (.iaload, 1) := by decide +kernel
theorem dL_law_479 : decode cL_law 479 = .ok (.invokevirtual 56, 3) := by decide +kernel
theorem dL_law_482 : decode cL_law 482 = .ok (.aload_n 2, 1) := by decide +kernel
theorem dL_law_483 : decode cL_law 483 = .ok (.aload_n 0, 1) := by decide +kernel
theorem dL_law_484 : decode cL_law 484 = .ok (.iload_n 3, 1) := by decide +kernel
theorem dL_law_485 : decode cL_law 485 = .ok (.iconst 1, 1) := by decide +kernel
theorem dL_law_486 : decode cL_law 486 = .ok (.iadd, 1) := by decide +kernel
theorem dL_law_487 : decode cL_law 487 = .ok (.iaload, 1) := by decide +kernel
theorem dL_law_488 : decode cL_law 488 = .ok (.aload_n 0, 1) := by decide +kernel
theorem dL_law_489 : decode cL_law 489 = .ok (.iload_n 3, 1) := by decide +kernel
theorem dL_law_490 : decode cL_law 490 = .ok (.iconst 2, 1) := by decide +kernel
theorem dL_law_491 : decode cL_law 491 = .ok (.iadd, 1) := by decide +kernel
theorem dL_law_492 : decode cL_law 492 = .ok (.iaload, 1) := by decide +kernel
theorem dL_law_493 : decode cL_law 493 = .ok (.invokevirtual 59, 3) := by decide +kernel
theorem dL_law_496 : decode cL_law 496 = .ok (.if_icmp .eq 467, 3) := by decide +kernel
theorem dL_law_499 : decode cL_law 499 = .ok (.iconst 0, 1) := by decide +kernel
theorem dL_law_500 : decode cL_law 500 = .ok (.ireturn, 1) := by decide +kernel
theorem dL_law_501 : decode cL_law 501 = .ok (.aload_n 1, 1) := by decide +kernel
theorem dL_law_502 : decode cL_law 502 = .ok (.invokevirtual 60, 3) := by decide +kernel
theorem dL_law_505 : decode cL_law 505 = .ok (.aload_n 2, 1) := by decide +kernel
theorem dL_law_506 : decode cL_law 506 = .ok (.invokevirtual 64, 3) := by decide +kernel
theorem dL_law_509 : decode cL_law 509 = .ok (.if_icmp .eq 454, 3) := by decide +kernel
theorem dL_law_512 : decode cL_law 512 = .ok (.iconst 0, 1) := by decide +kernel
theorem dL_law_513 : decode cL_law 513 = .ok (.ireturn, 1) := by decide +kernel
theorem dL_law_514 : decode cL_law 514 = .ok (.aload_n 1, 1) := by decide +kernel
theorem dL_law_515 : decode cL_law 515 = .ok (.aload_n 0, 1) := by decide +kernel
theorem dL_law_516 : decode cL_law 516 = .ok (.iload_n 3, 1) := by decide +kernel
theorem dL_law_517 : decode cL_law 517 = .ok (.iconst 1, 1) := by decide +kernel
theorem dL_law_518 : decode cL_law 518 = .ok (.iadd, 1) := by decide +kernel
theorem dL_law_519 : decode cL_law 519 = .ok (.iaload, 1) := by decide +kernel
theorem dL_law_520 : decode cL_law 520 = .ok (.invokevirtual 65, 3) := by decide +kernel
theorem dL_law_523 : decode cL_law 523 = .ok (.aload_n 2, 1) := by decide +kernel
theorem dL_law_524 : decode cL_law 524 = .ok (.aload_n 0, 1) := by decide +kernel
theorem dL_law_525 : decode cL_law 525 = .ok (.iload_n 3, 1) := by decide +kernel
theorem dL_law_526 : decode cL_law 526 = .ok (.iconst 1, 1) := by decide +kernel
theorem dL_law_527 : decode cL_law 527 = .ok (.iadd, 1) := by decide +kernel
theorem dL_law_528 : decode cL_law 528 = .ok (.iaload, 1) := by decide +kernel
theorem dL_law_529 : decode cL_law 529 = .ok (.invokevirtual 68, 3) := by decide +kernel
theorem dL_law_532 : decode cL_law 532 = .ok (.if_icmp .eq 431, 3) := by decide +kernel
theorem dL_law_535 : decode cL_law 535 = .ok (.iconst 0, 1) := by decide +kernel
theorem dL_law_536 : decode cL_law 536 = .ok (.ireturn, 1) := by decide +kernel
theorem dL_law_537 : decode cL_law 537 = .ok (.aload_n 1, 1) := by decide +kernel
theorem dL_law_538 : decode cL_law 538 = .ok (.invokevirtual 69, 3) := by decide +kernel
theorem dL_law_541 : decode cL_law 541 = .ok (.aload_n 2, 1) := by decide +kernel
theorem dL_law_542 : decode cL_law 542 = .ok (.invokevirtual 72, 3) := by decide +kernel
theorem dL_law_545 : decode cL_law 545 = .ok (.if_icmp .eq 418, 3) := by decide +kernel
theorem dL_law_548 : decode cL_law 548 = .ok (.iconst 0, 1) := by decide +kernel
theorem dL_law_549 : decode cL_law 549 = .ok (.ireturn, 1) := by decide +kernel
theorem dL_law_550 : decode cL_law 550 = .ok (.aload_n 1, 1) := by decide +kernel
theorem dL_law_551 : decode cL_law 551 = .ok (.aload_n 0, 1) := by decide +kernel
theorem dL_law_552 : decode cL_law 552 = .ok (.iload_n 3, 1) := by decide +kernel
theorem dL_law_553 : decode cL_law 553 = .ok (.iconst 1, 1) := by decide +kernel
theorem dL_law_554 : decode cL_law 554 = .ok (.iadd, 1) := by decide +kernel
theorem dL_law_555 : decode cL_law 555 = .ok (.iaload, 1) := by decide +kernel
theorem dL_law_556 : decode cL_law 556 = .ok (.invokevirtual 73, 3) := by decide +kernel
theorem dL_law_559 : decode cL_law 559 = .ok (.aload_n 2, 1) := by decide +kernel
theorem dL_law_560 : decode cL_law 560 = .ok (.aload_n 0, 1) := by decide +kernel
theorem dL_law_561 : decode cL_law 561 = .ok (.iload_n 3, 1) := by decide +kernel
theorem dL_law_562 : decode cL_law 562 = .ok (.iconst 1, 1) := by decide +kernel
theorem dL_law_563 : decode cL_law 563 = .ok (.iadd, 1) := by decide +kernel
theorem dL_law_564 : decode cL_law 564 = .ok (.iaload, 1) := by decide +kernel
theorem dL_law_565 : decode cL_law 565 = .ok (.invokevirtual 76, 3) := by decide +kernel
theorem dL_law_568 : decode cL_law 568 = .ok (.if_icmp .eq 395, 3) := by decide +kernel
theorem dL_law_571 : decode cL_law 571 = .ok (.iconst 0, 1) := by decide +kernel
theorem dL_law_572 : decode cL_law 572 = .ok (.ireturn, 1) := by decide +kernel
theorem dL_law_573 : decode cL_law 573 = .ok (.aload_n 1, 1) := by decide +kernel
theorem dL_law_574 : decode cL_law 574 = .ok (.invokevirtual 77, 3) := by decide +kernel
theorem dL_law_577 : decode cL_law 577 = .ok (.aload_n 2, 1) := by decide +kernel
theorem dL_law_578 : decode cL_law 578 = .ok (.invokevirtual 80, 3) := by decide +kernel
theorem dL_law_581 : decode cL_law 581 = .ok (.if_icmp .eq 382, 3) := by decide +kernel
theorem dL_law_584 : decode cL_law 584 = .ok (.iconst 0, 1) := by decide +kernel
theorem dL_law_585 : decode cL_law 585 = .ok (.ireturn, 1) := by decide +kernel
theorem dL_law_586 : decode cL_law 586 = .ok (.aload_n 1, 1) := by decide +kernel
theorem dL_law_587 : decode cL_law 587 = .ok (.aload_n 0, 1) := by decide +kernel
theorem dL_law_588 : decode cL_law 588 = .ok (.iload_n 3, 1) := by decide +kernel
theorem dL_law_589 : decode cL_law 589 = .ok (.iconst 1, 1) := by decide +kernel
theorem dL_law_590 : decode cL_law 590 = .ok (.iadd, 1) := by decide +kernel
theorem dL_law_591 : decode cL_law 591 = .ok (.iaload, 1) := by decide +kernel
theorem dL_law_592 : decode cL_law 592 = .ok (.invokevirtual 81, 3) := by decide +kernel
theorem dL_law_595 : decode cL_law 595 = .ok (.aload_n 2, 1) := by decide +kernel
theorem dL_law_596 : decode cL_law 596 = .ok (.aload_n 0, 1) := by decide +kernel
theorem dL_law_597 : decode cL_law 597 = .ok (.iload_n 3, 1) := by decide +kernel
theorem dL_law_598 : decode cL_law 598 = .ok (.iconst 1, 1) := by decide +kernel
theorem dL_law_599 : decode cL_law 599 = .ok (.iadd, 1) := by decide +kernel
theorem dL_law_600 : decode cL_law 600 = .ok (.iaload, 1) := by decide +kernel
theorem dL_law_601 : decode cL_law 601 = .ok (.invokevirtual 84, 3) := by decide +kernel
theorem dL_law_604 : decode cL_law 604 = .ok (.if_icmp .eq 359, 3) := by decide +kernel
theorem dL_law_607 : decode cL_law 607 = .ok (.iconst 0, 1) := by decide +kernel
theorem dL_law_608 : decode cL_law 608 = .ok (.ireturn, 1) := by decide +kernel
theorem dL_law_609 : decode cL_law 609 = .ok (.aload_n 1, 1) := by decide +kernel
theorem dL_law_610 : decode cL_law 610 = .ok (.invokevirtual 85, 3) := by decide +kernel
theorem dL_law_613 : decode cL_law 613 = .ok (.aload_n 2, 1) := by decide +kernel
theorem dL_law_614 : decode cL_law 614 = .ok (.invokevirtual 88, 3) := by decide +kernel
theorem dL_law_617 : decode cL_law 617 = .ok (.if_icmp .eq 346, 3) := by decide +kernel
theorem dL_law_620 : decode cL_law 620 = .ok (.iconst 0, 1) := by decide +kernel
theorem dL_law_621 : decode cL_law 621 = .ok (.ireturn, 1) := by decide +kernel
theorem dL_law_622 : decode cL_law 622 = .ok (.aload_n 1, 1) := by decide +kernel
theorem dL_law_623 : decode cL_law 623 = .ok (.invokevirtual 89, 3) := by decide +kernel
theorem dL_law_626 : decode cL_law 626 = .ok (.aload_n 2, 1) := by decide +kernel
theorem dL_law_627 : decode cL_law 627 = .ok (.invokevirtual 92, 3) := by decide +kernel
theorem dL_law_630 : decode cL_law 630 = .ok (.if_icmp .eq 333, 3) := by decide +kernel
theorem dL_law_633 : decode cL_law 633 = .ok (.iconst 0, 1) := by decide +kernel
theorem dL_law_634 : decode cL_law 634 = .ok (.ireturn, 1) := by decide +kernel
theorem dL_law_635 : decode cL_law 635 = .ok (.aload_n 1, 1) := by decide +kernel
theorem dL_law_636 : decode cL_law 636 = .ok (.aload_n 0, 1) := by decide +kernel
theorem dL_law_637 : decode cL_law 637 = .ok (.iload_n 3, 1) := by decide +kernel
theorem dL_law_638 : decode cL_law 638 = .ok (.iconst 1, 1) := by decide +kernel
theorem dL_law_639 : decode cL_law 639 = .ok (.iadd, 1) := by decide +kernel
theorem dL_law_640 : decode cL_law 640 = .ok (.iaload, 1) := by decide +kernel
theorem dL_law_641 : decode cL_law 641 = .ok (.aload_n 0, 1) := by decide +kernel
theorem dL_law_642 : decode cL_law 642 = .ok (.iload_n 3, 1) := by decide +kernel
theorem dL_law_643 : decode cL_law 643 = .ok (.iconst 2, 1) := by decide +kernel
theorem dL_law_644 : decode cL_law 644 = .ok (.iadd, 1) := by decide +kernel
theorem dL_law_645 : decode cL_law 645 = .ok (.iaload, 1) := by decide +kernel
theorem dL_law_646 : decode cL_law 646 = .ok (.aload_n 0, 1) := by decide +kernel
theorem dL_law_647 : decode cL_law 647 = .ok (.iload_n 3, 1) := by decide +kernel
theorem dL_law_648 : decode cL_law 648 = .ok (.iconst 3, 1) := by decide +kernel
theorem dL_law_649 : decode cL_law 649 = .ok (.iadd, 1) := by decide +kernel
theorem dL_law_650 : decode cL_law 650 = .ok (.iaload, 1) := by decide +kernel
theorem dL_law_651 : decode cL_law 651 = .ok (.aload_n 0, 1) := by decide +kernel
theorem dL_law_652 : decode cL_law 652 = .ok (.iload_n 3, 1) := by decide +kernel
theorem dL_law_653 : decode cL_law 653 = .ok (.iconst 4, 1) := by decide +kernel
theorem dL_law_654 : decode cL_law 654 = .ok (.iadd, 1) := by decide +kernel
theorem dL_law_655 : decode cL_law 655 = .ok (.iaload, 1) := by decide +kernel
theorem dL_law_656 : decode cL_law 656 = .ok (.invokevirtual 93, 3) := by decide +kernel
theorem dL_law_659 : decode cL_law 659 = .ok (.aload_n 2, 1) := by decide +kernel
theorem dL_law_660 : decode cL_law 660 = .ok (.aload_n 0, 1) := by decide +kernel
theorem dL_law_661 : decode cL_law 661 = .ok (.iload_n 3, 1) := by decide +kernel
theorem dL_law_662 : decode cL_law 662 = .ok (.iconst 1, 1) := by decide +kernel
theorem dL_law_663 : decode cL_law 663 = .ok (.iadd, 1) := by decide +kernel
theorem dL_law_664 : decode cL_law 664 = .ok (.iaload, 1) := by decide +kernel
theorem dL_law_665 : decode cL_law 665 = .ok (.aload_n 0, 1) := by decide +kernel
theorem dL_law_666 : decode cL_law 666 = .ok (.iload_n 3, 1) := by decide +kernel
theorem dL_law_667 : decode cL_law 667 = .ok (.iconst 2, 1) := by decide +kernel
theorem dL_law_668 : decode cL_law 668 = .ok (.iadd, 1) := by decide +kernel
theorem dL_law_669 : decode cL_law 669 = .ok (.iaload, 1) := by decide +kernel
theorem dL_law_670 : decode cL_law 670 = .ok (.aload_n 0, 1) := by decide +kernel
theorem dL_law_671 : decode cL_law 671 = .ok (.iload_n 3, 1) := by decide +kernel
theorem dL_law_672 : decode cL_law 672 = .ok (.iconst 3, 1) := by decide +kernel
theorem dL_law_673 : decode cL_law 673 = .ok (.iadd, 1) := by decide +kernel
theorem dL_law_674 : decode cL_law 674 = .ok (.iaload, 1) := by decide +kernel
theorem dL_law_675 : decode cL_law 675 = .ok (.aload_n 0, 1) := by decide +kernel
theorem dL_law_676 : decode cL_law 676 = .ok (.iload_n 3, 1) := by decide +kernel
theorem dL_law_677 : decode cL_law 677 = .ok (.iconst 4, 1) := by decide +kernel
theorem dL_law_678 : decode cL_law 678 = .ok (.iadd, 1) := by decide +kernel
theorem dL_law_679 : decode cL_law 679 = .ok (.iaload, 1) := by decide +kernel
theorem dL_law_680 : decode cL_law 680 = .ok (.invokevirtual 97, 3) := by decide +kernel
theorem dL_law_683 : decode cL_law 683 = .ok (.if_icmp .eq 280, 3) := by decide +kernel
theorem dL_law_686 : decode cL_law 686 = .ok (.iconst 0, 1) := by decide +kernel
theorem dL_law_687 : decode cL_law 687 = .ok (.ireturn, 1) := by decide +kernel
theorem dL_law_688 : decode cL_law 688 = .ok (.aload_n 1, 1) := by decide +kernel
theorem dL_law_689 : decode cL_law 689 = .ok (.aload_n 0, 1) := by decide +kernel
theorem dL_law_690 : decode cL_law 690 = .ok (.iload_n 3, 1) := by decide +kernel
theorem dL_law_691 : decode cL_law 691 = .ok (.iconst 1, 1) := by decide +kernel
theorem dL_law_692 : decode cL_law 692 = .ok (.iadd, 1) := by decide +kernel
theorem dL_law_693 : decode cL_law 693 = .ok (.iaload, 1) := by decide +kernel
theorem dL_law_694 : decode cL_law 694 = .ok (.aload_n 0, 1) := by decide +kernel
theorem dL_law_695 : decode cL_law 695 = .ok (.iload_n 3, 1) := by decide +kernel
theorem dL_law_696 : decode cL_law 696 = .ok (.iconst 2, 1) := by decide +kernel
theorem dL_law_697 : decode cL_law 697 = .ok (.iadd, 1) := by decide +kernel
theorem dL_law_698 : decode cL_law 698 = .ok (.iaload, 1) := by decide +kernel
theorem dL_law_699 : decode cL_law 699 = .ok (.aload_n 0, 1) := by decide +kernel
theorem dL_law_700 : decode cL_law 700 = .ok (.iload_n 3, 1) := by decide +kernel
theorem dL_law_701 : decode cL_law 701 = .ok (.iconst 3, 1) := by decide +kernel
theorem dL_law_702 : decode cL_law 702 = .ok (.iadd, 1) := by decide +kernel
theorem dL_law_703 : decode cL_law 703 = .ok (.iaload, 1) := by decide +kernel
theorem dL_law_704 : decode cL_law 704 = .ok (.aload_n 0, 1) := by decide +kernel
theorem dL_law_705 : decode cL_law 705 = .ok (.iload_n 3, 1) := by decide +kernel
theorem dL_law_706 : decode cL_law 706 = .ok (.iconst 4, 1) := by decide +kernel
theorem dL_law_707 : decode cL_law 707 = .ok (.iadd, 1) := by decide +kernel
theorem dL_law_708 : decode cL_law 708 = .ok (.iaload, 1) := by decide +kernel
theorem dL_law_709 : decode cL_law 709 = .ok (.aload_n 0, 1) := by decide +kernel
theorem dL_law_710 : decode cL_law 710 = .ok (.iload_n 3, 1) := by decide +kernel
theorem dL_law_711 : decode cL_law 711 = .ok (.iconst 5, 1) := by decide +kernel
theorem dL_law_712 : decode cL_law 712 = .ok (.iadd, 1) := by decide +kernel
theorem dL_law_713 : decode cL_law 713 = .ok (.iaload, 1) := by decide +kernel
theorem dL_law_714 : decode cL_law 714 = .ok (.invokevirtual 98, 3) := by decide +kernel
theorem dL_law_717 : decode cL_law 717 = .ok (.aload_n 2, 1) := by decide +kernel
theorem dL_law_718 : decode cL_law 718 = .ok (.aload_n 0, 1) := by decide +kernel
theorem dL_law_719 : decode cL_law 719 = .ok (.iload_n 3, 1) := by decide +kernel
theorem dL_law_720 : decode cL_law 720 = .ok (.iconst 1, 1) := by decide +kernel
theorem dL_law_721 : decode cL_law 721 = .ok (.iadd, 1) := by decide +kernel
theorem dL_law_722 : decode cL_law 722 = .ok (.iaload, 1) := by decide +kernel
theorem dL_law_723 : decode cL_law 723 = .ok (.aload_n 0, 1) := by decide +kernel
theorem dL_law_724 : decode cL_law 724 = .ok (.iload_n 3, 1) := by decide +kernel
theorem dL_law_725 : decode cL_law 725 = .ok (.iconst 2, 1) := by decide +kernel
theorem dL_law_726 : decode cL_law 726 = .ok (.iadd, 1) := by decide +kernel
theorem dL_law_727 : decode cL_law 727 = .ok (.iaload, 1) := by decide +kernel
theorem dL_law_728 : decode cL_law 728 = .ok (.aload_n 0, 1) := by decide +kernel
theorem dL_law_729 : decode cL_law 729 = .ok (.iload_n 3, 1) := by decide +kernel
theorem dL_law_730 : decode cL_law 730 = .ok (.iconst 3, 1) := by decide +kernel
theorem dL_law_731 : decode cL_law 731 = .ok (.iadd, 1) := by decide +kernel
theorem dL_law_732 : decode cL_law 732 = .ok (.iaload, 1) := by decide +kernel
theorem dL_law_733 : decode cL_law 733 = .ok (.aload_n 0, 1) := by decide +kernel
theorem dL_law_734 : decode cL_law 734 = .ok (.iload_n 3, 1) := by decide +kernel
theorem dL_law_735 : decode cL_law 735 = .ok (.iconst 4, 1) := by decide +kernel
theorem dL_law_736 : decode cL_law 736 = .ok (.iadd, 1) := by decide +kernel
theorem dL_law_737 : decode cL_law 737 = .ok (.iaload, 1) := by decide +kernel
theorem dL_law_738 : decode cL_law 738 = .ok (.aload_n 0, 1) := by decide +kernel
theorem dL_law_739 : decode cL_law 739 = .ok (.iload_n 3, 1) := by decide +kernel
theorem dL_law_740 : decode cL_law 740 = .ok (.iconst 5, 1) := by decide +kernel
theorem dL_law_741 : decode cL_law 741 = .ok (.iadd, 1) := by decide +kernel
theorem dL_law_742 : decode cL_law 742 = .ok (.iaload, 1) := by decide +kernel
theorem dL_law_743 : decode cL_law 743 = .ok (.invokevirtual 102, 3) := by decide +kernel
theorem dL_law_746 : decode cL_law 746 = .ok (.if_icmp .eq 217, 3) := by decide +kernel
theorem dL_law_749 : decode cL_law 749 = .ok (.iconst 0, 1) := by decide +kernel
theorem dL_law_750 : decode cL_law 750 = .ok (.ireturn, 1) := by decide +kernel
theorem dL_law_751 : decode cL_law 751 = .ok (.aload_n 1, 1) := by decide +kernel
theorem dL_law_752 : decode cL_law 752 = .ok (.aload_n 0, 1) := by decide +kernel
theorem dL_law_753 : decode cL_law 753 = .ok (.iload_n 3, 1) := by decide +kernel
theorem dL_law_754 : decode cL_law 754 = .ok (.iconst 1, 1) := by decide +kernel
theorem dL_law_755 : decode cL_law 755 = .ok (.iadd, 1) := by decide +kernel
theorem dL_law_756 : decode cL_law 756 = .ok (.iaload, 1) := by decide +kernel
theorem dL_law_757 : decode cL_law 757 = .ok (.aload_n 0, 1) := by decide +kernel
theorem dL_law_758 : decode cL_law 758 = .ok (.iload_n 3, 1) := by decide +kernel
theorem dL_law_759 : decode cL_law 759 = .ok (.iconst 2, 1) := by decide +kernel
theorem dL_law_760 : decode cL_law 760 = .ok (.iadd, 1) := by decide +kernel
theorem dL_law_761 : decode cL_law 761 = .ok (.iaload, 1) := by decide +kernel
theorem dL_law_762 : decode cL_law 762 = .ok (.aload_n 0, 1) := by decide +kernel
theorem dL_law_763 : decode cL_law 763 = .ok (.iload_n 3, 1) := by decide +kernel
theorem dL_law_764 : decode cL_law 764 = .ok (.iconst 3, 1) := by decide +kernel
theorem dL_law_765 : decode cL_law 765 = .ok (.iadd, 1) := by decide +kernel
theorem dL_law_766 : decode cL_law 766 = .ok (.iaload, 1) := by decide +kernel
theorem dL_law_767 : decode cL_law 767 = .ok (.invokevirtual 103, 3) := by decide +kernel
theorem dL_law_770 : decode cL_law 770 = .ok (.aload_n 2, 1) := by decide +kernel
theorem dL_law_771 : decode cL_law 771 = .ok (.aload_n 0, 1) := by decide +kernel
theorem dL_law_772 : decode cL_law 772 = .ok (.iload_n 3, 1) := by decide +kernel
theorem dL_law_773 : decode cL_law 773 = .ok (.iconst 1, 1) := by decide +kernel
theorem dL_law_774 : decode cL_law 774 = .ok (.iadd, 1) := by decide +kernel
theorem dL_law_775 : decode cL_law 775 = .ok (.iaload, 1) := by decide +kernel
theorem dL_law_776 : decode cL_law 776 = .ok (.aload_n 0, 1) := by decide +kernel
theorem dL_law_777 : decode cL_law 777 = .ok (.iload_n 3, 1) := by decide +kernel
theorem dL_law_778 : decode cL_law 778 = .ok (.iconst 2, 1) := by decide +kernel
theorem dL_law_779 : decode cL_law 779 = .ok (.iadd, 1) := by decide +kernel
theorem dL_law_780 : decode cL_law 780 = .ok (.iaload, 1) := by decide +kernel
theorem dL_law_781 : decode cL_law 781 = .ok (.aload_n 0, 1) := by decide +kernel
theorem dL_law_782 : decode cL_law 782 = .ok (.iload_n 3, 1) := by decide +kernel
theorem dL_law_783 : decode cL_law 783 = .ok (.iconst 3, 1) := by decide +kernel
theorem dL_law_784 : decode cL_law 784 = .ok (.iadd, 1) := by decide +kernel
theorem dL_law_785 : decode cL_law 785 = .ok (.iaload, 1) := by decide +kernel
theorem dL_law_786 : decode cL_law 786 = .ok (.invokevirtual 106, 3) := by decide +kernel
theorem dL_law_789 : decode cL_law 789 = .ok (.if_icmp .eq 174, 3) := by decide +kernel
theorem dL_law_792 : decode cL_law 792 = .ok (.iconst 0, 1) := by decide +kernel
theorem dL_law_793 : decode cL_law 793 = .ok (.ireturn, 1) := by decide +kernel
theorem dL_law_794 : decode cL_law 794 = .ok (.aload_n 1, 1) := by decide +kernel
theorem dL_law_795 : decode cL_law 795 = .ok (.aload_n 0, 1) := by decide +kernel
theorem dL_law_796 : decode cL_law 796 = .ok (.iload_n 3, 1) := by decide +kernel
theorem dL_law_797 : decode cL_law 797 = .ok (.iconst 1, 1) := by decide +kernel
theorem dL_law_798 : decode cL_law 798 = .ok (.iadd, 1) := by decide +kernel
theorem dL_law_799 : decode cL_law 799 = .ok (.iaload, 1) := by decide +kernel
theorem dL_law_800 : decode cL_law 800 = .ok (.invokevirtual 107, 3) := by decide +kernel
theorem dL_law_803 : decode cL_law 803 = .ok (.aload_n 2, 1) := by decide +kernel
theorem dL_law_804 : decode cL_law 804 = .ok (.aload_n 0, 1) := by decide +kernel
theorem dL_law_805 : decode cL_law 805 = .ok (.iload_n 3, 1) := by decide +kernel
theorem dL_law_806 : decode cL_law 806 = .ok (.iconst 1, 1) := by decide +kernel
theorem dL_law_807 : decode cL_law 807 = .ok (.iadd, 1) := by decide +kernel
theorem dL_law_808 : decode cL_law 808 = .ok (.iaload, 1) := by decide +kernel
theorem dL_law_809 : decode cL_law 809 = .ok (.invokevirtual 110, 3) := by decide +kernel
theorem dL_law_812 : decode cL_law 812 = .ok (.if_icmp .eq 151, 3) := by decide +kernel
theorem dL_law_815 : decode cL_law 815 = .ok (.iconst 0, 1) := by decide +kernel
theorem dL_law_816 : decode cL_law 816 = .ok (.ireturn, 1) := by decide +kernel
theorem dL_law_817 : decode cL_law 817 = .ok (.aload_n 1, 1) := by decide +kernel
theorem dL_law_818 : decode cL_law 818 = .ok (.aload_n 0, 1) := by decide +kernel
theorem dL_law_819 : decode cL_law 819 = .ok (.iload_n 3, 1) := by decide +kernel
theorem dL_law_820 : decode cL_law 820 = .ok (.iconst 1, 1) := by decide +kernel
theorem dL_law_821 : decode cL_law 821 = .ok (.iadd, 1) := by decide +kernel
theorem dL_law_822 : decode cL_law 822 = .ok (.iaload, 1) := by decide +kernel
theorem dL_law_823 : decode cL_law 823 = .ok (.aload_n 0, 1) := by decide +kernel
theorem dL_law_824 : decode cL_law 824 = .ok (.iload_n 3, 1) := by decide +kernel
theorem dL_law_825 : decode cL_law 825 = .ok (.iconst 2, 1) := by decide +kernel
theorem dL_law_826 : decode cL_law 826 = .ok (.iadd, 1) := by decide +kernel
theorem dL_law_827 : decode cL_law 827 = .ok (.iaload, 1) := by decide +kernel
theorem dL_law_828 : decode cL_law 828 = .ok (.aload_n 0, 1) := by decide +kernel
theorem dL_law_829 : decode cL_law 829 = .ok (.iload_n 3, 1) := by decide +kernel
theorem dL_law_830 : decode cL_law 830 = .ok (.iconst 3, 1) := by decide +kernel
theorem dL_law_831 : decode cL_law 831 = .ok (.iadd, 1) := by decide +kernel
theorem dL_law_832 : decode cL_law 832 = .ok (.iaload, 1) := by decide +kernel
theorem dL_law_833 : decode cL_law 833 = .ok (.aload_n 0, 1) := by decide +kernel
theorem dL_law_834 : decode cL_law 834 = .ok (.iload_n 3, 1) := by decide +kernel
theorem dL_law_835 : decode cL_law 835 = .ok (.iconst 4, 1) := by decide +kernel
theorem dL_law_836 : decode cL_law 836 = .ok (.iadd, 1) := by decide +kernel
theorem dL_law_837 : decode cL_law 837 = .ok (.iaload, 1) := by decide +kernel
theorem dL_law_838 : decode cL_law 838 = .ok (.i2l, 1) := by decide +kernel
theorem dL_law_839 : decode cL_law 839 = .ok (.bipush 32, 2) := by decide +kernel
theorem dL_law_841 : decode cL_law 841 = .ok (.lshl, 1) := by decide +kernel
theorem dL_law_842 : decode cL_law 842 = .ok (.aload_n 0, 1) := by decide +kernel
theorem dL_law_843 : decode cL_law 843 = .ok (.iload_n 3, 1) := by decide +kernel
theorem dL_law_844 : decode cL_law 844 = .ok (.iconst 5, 1) := by decide +kernel
theorem dL_law_845 : decode cL_law 845 = .ok (.iadd, 1) := by decide +kernel
theorem dL_law_846 : decode cL_law 846 = .ok (.iaload, 1) := by decide +kernel
theorem dL_law_847 : decode cL_law 847 = .ok (.i2l, 1) := by decide +kernel
theorem dL_law_848 : decode cL_law 848 = .ok (.ldc2_w 111, 3) := by decide +kernel
theorem dL_law_851 : decode cL_law 851 = .ok (.land, 1) := by decide +kernel
theorem dL_law_852 : decode cL_law 852 = .ok (.lor, 1) := by decide +kernel
theorem dL_law_853 : decode cL_law 853 = .ok (.invokevirtual 113, 3) := by decide +kernel
theorem dL_law_856 : decode cL_law 856 = .ok (.aload_n 2, 1) := by decide +kernel
theorem dL_law_857 : decode cL_law 857 = .ok (.aload_n 0, 1) := by decide +kernel
theorem dL_law_858 : decode cL_law 858 = .ok (.iload_n 3, 1) := by decide +kernel
theorem dL_law_859 : decode cL_law 859 = .ok (.iconst 1, 1) := by decide +kernel
theorem dL_law_860 : decode cL_law 860 = .ok (.iadd, 1) := by decide +kernel
theorem dL_law_861 : decode cL_law 861 = .ok (.iaload, 1) := by decide +kernel
theorem dL_law_862 : decode cL_law 862 = .ok (.aload_n 0, 1) := by decide +kernel
theorem dL_law_863 : decode cL_law 863 = .ok (.iload_n 3, 1) := by decide +kernel
theorem dL_law_864 : decode cL_law 864 = .ok (.iconst 2, 1) := by decide +kernel
theorem dL_law_865 : decode cL_law 865 = .ok (.iadd, 1) := by decide +kernel
theorem dL_law_866 : decode cL_law 866 = .ok (.iaload, 1) := by decide +kernel
theorem dL_law_867 : decode cL_law 867 = .ok (.aload_n 0, 1) := by decide +kernel
theorem dL_law_868 : decode cL_law 868 = .ok (.iload_n 3, 1) := by decide +kernel
theorem dL_law_869 : decode cL_law 869 = .ok (.iconst 3, 1) := by decide +kernel
theorem dL_law_870 : decode cL_law 870 = .ok (.iadd, 1) := by decide +kernel
theorem dL_law_871 : decode cL_law 871 = .ok (.iaload, 1) := by decide +kernel
theorem dL_law_872 : decode cL_law 872 = .ok (.aload_n 0, 1) := by decide +kernel
theorem dL_law_873 : decode cL_law 873 = .ok (.iload_n 3, 1) := by decide +kernel
theorem dL_law_874 : decode cL_law 874 = .ok (.iconst 4, 1) := by decide +kernel
theorem dL_law_875 : decode cL_law 875 = .ok (.iadd, 1) := by decide +kernel
theorem dL_law_876 : decode cL_law 876 = .ok (.iaload, 1) := by decide +kernel
theorem dL_law_877 : decode cL_law 877 = .ok (.i2l, 1) := by decide +kernel
theorem dL_law_878 : decode cL_law 878 = .ok (.bipush 32, 2) := by decide +kernel
theorem dL_law_880 : decode cL_law 880 = .ok (.lshl, 1) := by decide +kernel
theorem dL_law_881 : decode cL_law 881 = .ok (.aload_n 0, 1) := by decide +kernel
theorem dL_law_882 : decode cL_law 882 = .ok (.iload_n 3, 1) := by decide +kernel
theorem dL_law_883 : decode cL_law 883 = .ok (.iconst 5, 1) := by decide +kernel
theorem dL_law_884 : decode cL_law 884 = .ok (.iadd, 1) := by decide +kernel
theorem dL_law_885 : decode cL_law 885 = .ok (.iaload, 1) := by decide +kernel
theorem dL_law_886 : decode cL_law 886 = .ok (.i2l, 1) := by decide +kernel
theorem dL_law_887 : decode cL_law 887 = .ok (.ldc2_w 111, 3) := by decide +kernel
theorem dL_law_890 : decode cL_law 890 = .ok (.land, 1) := by decide +kernel
theorem dL_law_891 : decode cL_law 891 = .ok (.lor, 1) := by decide +kernel
theorem dL_law_892 : decode cL_law 892 = .ok (.invokevirtual 117, 3) := by decide +kernel
theorem dL_law_895 : decode cL_law 895 = .ok (.if_icmp .eq 68, 3) := by decide +kernel
theorem dL_law_898 : decode cL_law 898 = .ok (.iconst 0, 1) := by decide +kernel
theorem dL_law_899 : decode cL_law 899 = .ok (.ireturn, 1) := by decide +kernel
theorem dL_law_900 : decode cL_law 900 = .ok (.aload_n 1, 1) := by decide +kernel
theorem dL_law_901 : decode cL_law 901 = .ok (.aload_n 0, 1) := by decide +kernel
theorem dL_law_902 : decode cL_law 902 = .ok (.iload_n 3, 1) := by decide +kernel
theorem dL_law_903 : decode cL_law 903 = .ok (.iconst 1, 1) := by decide +kernel
theorem dL_law_904 : decode cL_law 904 = .ok (.iadd, 1) := by decide +kernel
theorem dL_law_905 : decode cL_law 905 = .ok (.iaload, 1) := by decide +kernel
theorem dL_law_906 : decode cL_law 906 = .ok (.aload_n 0, 1) := by decide +kernel
theorem dL_law_907 : decode cL_law 907 = .ok (.iload_n 3, 1) := by decide +kernel
theorem dL_law_908 : decode cL_law 908 = .ok (.iconst 2, 1) := by decide +kernel
theorem dL_law_909 : decode cL_law 909 = .ok (.iadd, 1) := by decide +kernel
theorem dL_law_910 : decode cL_law 910 = .ok (.iaload, 1) := by decide +kernel
theorem dL_law_911 : decode cL_law 911 = .ok (.aload_n 0, 1) := by decide +kernel
theorem dL_law_912 : decode cL_law 912 = .ok (.iload_n 3, 1) := by decide +kernel
theorem dL_law_913 : decode cL_law 913 = .ok (.iconst 3, 1) := by decide +kernel
theorem dL_law_914 : decode cL_law 914 = .ok (.iadd, 1) := by decide +kernel
theorem dL_law_915 : decode cL_law 915 = .ok (.iaload, 1) := by decide +kernel
theorem dL_law_916 : decode cL_law 916 = .ok (.aload_n 0, 1) := by decide +kernel
theorem dL_law_917 : decode cL_law 917 = .ok (.iload_n 3, 1) := by decide +kernel
theorem dL_law_918 : decode cL_law 918 = .ok (.iconst 4, 1) := by decide +kernel
theorem dL_law_919 : decode cL_law 919 = .ok (.iadd, 1) := by decide +kernel
theorem dL_law_920 : decode cL_law 920 = .ok (.iaload, 1) := by decide +kernel
theorem dL_law_921 : decode cL_law 921 = .ok (.aload_n 0, 1) := by decide +kernel
theorem dL_law_922 : decode cL_law 922 = .ok (.iload_n 3, 1) := by decide +kernel
theorem dL_law_923 : decode cL_law 923 = .ok (.iconst 5, 1) := by decide +kernel
theorem dL_law_924 : decode cL_law 924 = .ok (.iadd, 1) := by decide +kernel
theorem dL_law_925 : decode cL_law 925 = .ok (.iaload, 1) := by decide +kernel
theorem dL_law_926 : decode cL_law 926 = .ok (.invokevirtual 118, 3) := by decide +kernel
theorem dL_law_929 : decode cL_law 929 = .ok (.aload_n 2, 1) := by decide +kernel
theorem dL_law_930 : decode cL_law 930 = .ok (.aload_n 0, 1) := by decide +kernel
theorem dL_law_931 : decode cL_law 931 = .ok (.iload_n 3, 1) := by decide +kernel
theorem dL_law_932 : decode cL_law 932 = .ok (.iconst 1, 1) := by decide +kernel
theorem dL_law_933 : decode cL_law 933 = .ok (.iadd, 1) := by decide +kernel
theorem dL_law_934 : decode cL_law 934 = .ok (.iaload, 1) := by decide +kernel
theorem dL_law_935 : decode cL_law 935 = .ok (.aload_n 0, 1) := by decide +kernel
theorem dL_law_936 : decode cL_law 936 = .ok (.iload_n 3, 1) := by decide +kernel
theorem dL_law_937 : decode cL_law 937 = .ok (.iconst 2, 1) := by decide +kernel
theorem dL_law_938 : decode cL_law 938 = .ok (.iadd, 1) := by decide +kernel
theorem dL_law_939 : decode cL_law 939 = .ok (.iaload, 1) := by decide +kernel
theorem dL_law_940 : decode cL_law 940 = .ok (.aload_n 0, 1) := by decide +kernel
theorem dL_law_941 : decode cL_law 941 = .ok (.iload_n 3, 1) := by decide +kernel
theorem dL_law_942 : decode cL_law 942 = .ok (.iconst 3, 1) := by decide +kernel
theorem dL_law_943 : decode cL_law 943 = .ok (.iadd, 1) := by decide +kernel
theorem dL_law_944 : decode cL_law 944 = .ok (.iaload, 1) := by decide +kernel
theorem dL_law_945 : decode cL_law 945 = .ok (.aload_n 0, 1) := by decide +kernel
theorem dL_law_946 : decode cL_law 946 = .ok (.iload_n 3, 1) := by decide +kernel
theorem dL_law_947 : decode cL_law 947 = .ok (.iconst 4, 1) := by decide +kernel
theorem dL_law_948 : decode cL_law 948 = .ok (.iadd, 1) := by decide +kernel
theorem dL_law_949 : decode cL_law 949 = .ok (.iaload, 1) := by decide +kernel
theorem dL_law_950 : decode cL_law 950 = .ok (.aload_n 0, 1) := by decide +kernel
theorem dL_law_951 : decode cL_law 951 = .ok (.iload_n 3, 1) := by decide +kernel
theorem dL_law_952 : decode cL_law 952 = .ok (.iconst 5, 1) := by decide +kernel
theorem dL_law_953 : decode cL_law 953 = .ok (.iadd, 1) := by decide +kernel
theorem dL_law_954 : decode cL_law 954 = .ok (.iaload, 1) := by decide +kernel
theorem dL_law_955 : decode cL_law 955 = .ok (.invokevirtual 121, 3) := by decide +kernel
theorem dL_law_958 : decode cL_law 958 = .ok (.if_icmp .eq 5, 3) := by decide +kernel
theorem dL_law_961 : decode cL_law 961 = .ok (.iconst 0, 1) := by decide +kernel
theorem dL_law_962 : decode cL_law 962 = .ok (.ireturn, 1) := by decide +kernel
theorem dL_law_963 : decode cL_law 963 = .ok (.iinc 3 6, 3) := by decide +kernel
theorem dL_law_966 : decode cL_law 966 = .ok (.goto (-948), 3) := by decide +kernel
theorem dL_law_969 : decode cL_law 969 = .ok (.iconst 1, 1) := by decide +kernel
theorem dL_law_970 : decode cL_law 970 = .ok (.ireturn, 1) := by decide +kernel
abbrev vwCl : List vw_C := [(RX0, TX0, 3), (RX1, TX1, 3), (RX2, TX2, 3), (RX3, TX3, 2), (RX4, TX4, 5), (RX5, TX5, 7), (RX6, TX6, 7), (RX7, TX7, 18)]
end
section
/-! the base: what all contracts share. A world is any list of cells 'ws'; a method names the places of the cells that it touches; it gives back a world 'u' and says which places are as they were. -/
abbrev kt_T : Type := ClassId × ClassId × ClassId × ClassId
/-- the array classes: ints, longs, moments, sheets -/
def kt_l (k : kt_T) : List (ClassId × FieldType) := [(k.1, .int), (k.2.1, .long), (k.2.2.1, .object RX1), (k.2.2.2, .object RX2)]
/-- links to private members of nest mates -/
def ns_l : List (String × Nat × MethodName × String) := [(RX5, 96, yX6_lowestHop, RX6), (RX5, 84, yX6_firstAddress, RX6), (RX5, 78, yX6_isOneHop, RX6), (RX5, 51, yX6_isPrefix, RX6), (RX5, 29, yX3_init, RX6), (RX4, 49, yX6_isHop, RX6), (RX4, 17, yX3_init, RX6), (RX3, 64, yX6_howManyAddresses, RX6), (RX3, 61, yX6_firstAddress, RX6), (RX3, 23, yX6_isHop, RX6), (RX3, 19, yX6_isPrefix, RX6), (RX1, 9, yX3_init, RX6), (RX0, 11, yX1_init, RX6), (RX6, 46, yX2_init, RX6), (RX6, 28, yX4_init, RX6), (RX6, 21, yX5_init, RX6)]
/-- what the tables say, all along -/
def kk_P (D : va_G) (k : kt_T) (U : State) : Prop := va_K D vwCl (kt_l k) U ∧ (∀ q ∈ ns_l, va_Nw (.methodLinkNest q.1 q.2.1 q.2.2.1 q.2.2.2) U)
theorem kk_warm {D : va_G} {k : kt_T} {s U : State} (hW : s.WarmedH U.vm) (h : kk_P D k s) : kk_P D k U := ⟨va_K.moved hW.alike h.1, fun q hq => va_Nw.warmM hW (h.2 q hq)⟩
theorem kk_call {D : va_G} {k : kt_T} {U : State} {g : JFrame} {mk : MethodId} {a : Array Value} (h : kk_P D k U) : kk_P D k (U.calling g mk a) := ⟨va_K.moved (u := U) (U := U.calling g mk a) (Vm.Alike.refl U.vm) h.1, fun q hq => va_Nw.same (u := U) (U := U.calling g mk a) rfl rfl (h.2 q hq)⟩
/-- a reader's start, a writer's start -/
def pw_P (D : va_G) (k : kt_T) (ws : va_W) (U : State) : Prop := va_P D vwCl ws U.heap ∧ kk_P D k U ∧ va_D (fun _ => True) ws
def px_P (D : va_G) (k : kt_T) (ws : va_W) (sz : Nat) (U : State) : Prop := U.heap.size = sz ∧ pw_P D k ws U
theorem pw_blind {D : va_G} {k : kt_T} {ws : va_W} {As : List Value} : FrameBlind (va_Pc As (pw_P D k ws)) := fun _ _ _ _ q => ⟨q.1, q.2.1, kk_call q.2.2.1, q.2.2.2⟩
theorem px_blind {D : va_G} {k : kt_T} {ws : va_W} {sz : Nat} {As : List Value} : FrameBlind (va_Pc As (px_P D k ws sz)) := fun _ _ _ _ q => ⟨q.1, q.2.1, q.2.2.1, kk_call q.2.2.2.1, q.2.2.2.2⟩
theorem pw_V {D : va_G} {k : kt_T} {ws : va_W} {A : Nat → Prop} {s : State} {H : Heap} {b : Nat} {As : List Value} (hP : va_P D vwCl ws H) (hK : kk_P D k s) (hD : va_D A ws) {q ci : Nat} {fs : List Value} {r : vw_C} (he : ws[q]? = some (b, .inr (ci, fs))) (hc : vwCl[ci]? = some r) : PreV s H r.1 b (va_Pc (.ref b :: As) (pw_P D k ws)) As :=
  ⟨pw_blind, va_recv hK.1 hP hc he, fun U hU hW => ⟨rfl, by rw [hU]; exact hP, kk_warm hW hK, hD.weaken (fun _ _ _ _ => trivial)⟩⟩
theorem px_V {D : va_G} {k : kt_T} {ws : va_W} {A : Nat → Prop} {s : State} {H : Heap} {b : Nat} {As : List Value} (hP : va_P D vwCl ws H) (hK : kk_P D k s) (hD : va_D A ws) {q ci : Nat} {fs : List Value} {r : vw_C} (he : ws[q]? = some (b, .inr (ci, fs))) (hc : vwCl[ci]? = some r) : PreV s H r.1 b (va_Pc (.ref b :: As) (px_P D k ws H.size)) As :=
  ⟨px_blind, va_recv hK.1 hP hc he, fun U hU hW => ⟨rfl, by rw [hU], by rw [hU]; exact hP, kk_warm hW hK, hD.weaken (fun _ _ _ _ => trivial)⟩⟩
theorem pw_S {D : va_G} {k : kt_T} {ws : va_W} {A : Nat → Prop} {s : State} {H : Heap} {As : List Value} (hP : va_P D vwCl ws H) (hK : kk_P D k s) (hD : va_D A ws) : PreS s H (va_Pc As (pw_P D k ws)) As :=
  ⟨pw_blind, fun U hU hW => ⟨rfl, by rw [hU]; exact hP, kk_warm hW hK, hD.weaken (fun _ _ _ _ => trivial)⟩⟩
theorem px_S {D : va_G} {k : kt_T} {ws : va_W} {A : Nat → Prop} {s : State} {H : Heap} {As : List Value} (hP : va_P D vwCl ws H) (hK : kk_P D k s) (hD : va_D A ws) : PreS s H (va_Pc As (px_P D k ws H.size)) As :=
  ⟨px_blind, fun U hU hW => ⟨rfl, by rw [hU], by rw [hU]; exact hP, kk_warm hW hK, hD.weaken (fun _ _ _ _ => trivial)⟩⟩
/-- a reader's end: the answer, and the heap as it was; a writer's end: a new world -/
def qs_Q (o : Option Value) : Array Value → State → Outcome → State → Prop := fun _ st oc t => oc = .returned o ∧ t.heap = st.heap
def qw_Q (D : va_G) (ws : va_W) (sz : Nat) (o : Option Value) (post : va_W → Prop) : Array Value → State → Outcome → State → Prop := fun _ st oc t => (∃ u : va_W, oc = .returned o ∧ post u ∧ va_P D vwCl u t.heap ∧ va_D (va_A ws sz) u) ∧ va_F (va_A ws sz) st t
theorem fr_A {A : Nat → Prop} {ws : va_W} {H0 H : Heap} {locs : List Loc} (hD : va_D A ws) (hS : va_S A H0 H locs) (hA : ∀ q, H0.size ≤ q → A q) : ∀ q, va_A ws H.size q → A q := by
  intro q h
  rcases h with ⟨k, e, h⟩ | h
  · exact hD.2 k (q, e) h
  · exact hA q (Nat.le_trans hS.1 h)
section ZBC
variable {p : Program} {l : Launch} {e : Env} {R : Room} {s : State} {m : MethodId} {args : Array Value} {below : List Frame} {meth : Method} {c : Code} {H : Heap} {locs : List Loc} {cells slots : Nat} {Q : State → Prop}
variable {pc : Nat} {ls : Array Slot} {rest st0 : List Value} {a : Array Value} {A : Nat → Prop} {H0 : Heap} {mc ms : Nat} {D : va_G} {ws : va_W} {free : Addr → Prop}
theorem ks_g {o : Option Value} (hr : va_Run p l e R s m args below meth c H locs cells slots 0 0 (F0 m pc ls st0) rest (qs_Q o a) (fun _ => False))
    (kk : W p l e R s m args below meth c H locs cells slots Q (F0 m (pc + 3) ls (o.toList ++ rest))) : W p l e R s m args below meth c H locs cells slots Q (F0 m pc ls st0) := by
  intro T hT X
  obtain ⟨v, st₀, t, T', L, h0, X', hL, e1, -, ⟨hv, hh⟩, st⟩ := hr T hT X
  cases hv
  obtain ⟨t2, a1, b1⟩ := kk T' (by rw [e1, hh, h0]) (Stand.forget X' (fun q h => (hL q h).elim))
  exact ⟨t2, st t2 a1, b1⟩
theorem ks_i {v : Int32} (hr : va_Run p l e R s m args below meth c H locs cells slots 0 0 (F0 m pc ls st0) rest (qs_Q (some (.int v)) a) (fun _ => False))
    (kk : W p l e R s m args below meth c H locs cells slots Q (F0 m (pc + 3) ls (.int v :: rest))) : W p l e R s m args below meth c H locs cells slots Q (F0 m pc ls st0) := ks_g hr kk
theorem ks_l {v : Int64} (hr : va_Run p l e R s m args below meth c H locs cells slots 0 0 (F0 m pc ls st0) rest (qs_Q (some (.long v)) a) (fun _ => False))
    (kk : W p l e R s m args below meth c H locs cells slots Q (F0 m (pc + 3) ls (.long v :: rest))) : W p l e R s m args below meth c H locs cells slots Q (F0 m pc ls st0) := ks_g hr kk
theorem ks_r {v : Nat} (hr : va_Run p l e R s m args below meth c H locs cells slots 0 0 (F0 m pc ls st0) rest (qs_Q (some (.ref v)) a) (fun _ => False))
    (kk : W p l e R s m args below meth c H locs cells slots Q (F0 m (pc + 3) ls (.ref v :: rest))) : W p l e R s m args below meth c H locs cells slots Q (F0 m pc ls st0) := ks_g hr kk
theorem kw_g {o : Option Value} {post : va_W → Prop} (hr : va_Run p l e R s m args below meth c H locs cells slots mc ms (F0 m pc ls st0) rest (qw_Q D ws H.size o post a) (va_A ws H.size)) (hD : va_D A ws) (hS : va_S A H0 H locs) (hA : ∀ q, H0.size ≤ q → A q)
    (kk : ∀ (u : va_W) (H1 : Heap) (locs1 : List Loc), post u → va_P D vwCl u H1 → va_D A u → va_S A H0 H1 locs1 → W p l e R s m args below meth c H1 locs1 (cells + mc) (slots + ms) Q (F0 m (pc + 3) ls (o.toList ++ rest))) : W p l e R s m args below meth c H locs cells slots Q (F0 m pc ls st0) := by
  have hF := fr_A hD hS hA
  intro T hT X
  obtain ⟨v, st₀, t, T', L, h0, X', hL, e1, -, ⟨⟨u, hv, hp, hP, hD1⟩, hz, hk⟩, st⟩ := hr T hT X
  cases hv
  have hS1 : va_S A H0 T'.heap (locs ++ L) := by
    rw [h0] at hz hk
    refine ⟨by rw [e1]; exact Nat.le_trans hS.1 hz, fun q h1 h2 => ?_, fun q hq => ?_⟩
    · rw [e1, hk q (Nat.lt_of_lt_of_le h1 hS.1) (fun h => h2 (hF q h))]
      exact hS.2.1 q h1 h2
    · rcases List.mem_append.mp hq with h | h
      · exact hS.2.2 q h
      · exact hF _ (hL q h)
  obtain ⟨t2, a1, b1⟩ := kk u T'.heap (locs ++ L) hp (by rw [e1]; exact hP) (hD1.weaken (fun _ q _ h => hF q.1 h)) hS1 T' rfl X'
  exact ⟨t2, st t2 a1, b1⟩
theorem kw_i {v : Int32} {post : va_W → Prop} (hr : va_Run p l e R s m args below meth c H locs cells slots mc ms (F0 m pc ls st0) rest (qw_Q D ws H.size (some (.int v)) post a) (va_A ws H.size)) (hD : va_D A ws) (hS : va_S A H0 H locs) (hA : ∀ q, H0.size ≤ q → A q)
    (kk : ∀ (u : va_W) (H1 : Heap) (locs1 : List Loc), post u → va_P D vwCl u H1 → va_D A u → va_S A H0 H1 locs1 → W p l e R s m args below meth c H1 locs1 (cells + mc) (slots + ms) Q (F0 m (pc + 3) ls (.int v :: rest))) : W p l e R s m args below meth c H locs cells slots Q (F0 m pc ls st0) := kw_g hr hD hS hA kk
theorem kw_r {v : Nat} {post : va_W → Prop} (hr : va_Run p l e R s m args below meth c H locs cells slots mc ms (F0 m pc ls st0) rest (qw_Q D ws H.size (some (.ref v)) post a) (va_A ws H.size)) (hD : va_D A ws) (hS : va_S A H0 H locs) (hA : ∀ q, H0.size ≤ q → A q)
    (kk : ∀ (u : va_W) (H1 : Heap) (locs1 : List Loc), post u → va_P D vwCl u H1 → va_D A u → va_S A H0 H1 locs1 → W p l e R s m args below meth c H1 locs1 (cells + mc) (slots + ms) Q (F0 m (pc + 3) ls (.ref v :: rest))) : W p l e R s m args below meth c H locs cells slots Q (F0 m pc ls st0) := kw_g hr hD hS hA kk
theorem kw_v {post : va_W → Prop} (hr : va_Run p l e R s m args below meth c H locs cells slots mc ms (F0 m pc ls st0) rest (qw_Q D ws H.size none post a) (va_A ws H.size)) (hD : va_D A ws) (hS : va_S A H0 H locs) (hA : ∀ q, H0.size ≤ q → A q)
    (kk : ∀ (u : va_W) (H1 : Heap) (locs1 : List Loc), post u → va_P D vwCl u H1 → va_D A u → va_S A H0 H1 locs1 → W p l e R s m args below meth c H1 locs1 (cells + mc) (slots + ms) Q (F0 m (pc + 3) ls rest)) : W p l e R s m args below meth c H locs cells slots Q (F0 m pc ls st0) := kw_g hr hD hS hA kk
end ZBC
/-- a writer's end out of what stands there -/
theorem qw_end {D : va_G} {ws u : va_W} {s : State} {o : Option Value} {post : va_W → Prop} {a : Array Value} {H : Heap} {locs : List Loc} (hS : va_S (va_A ws s.heap.size) s.heap H locs) (hP : va_P D vwCl u H) (hD : va_D (va_A ws s.heap.size) u) (hp : post u) : ∀ t : State, t.heap = H → s.WarmedH t.vm → qw_Q D ws s.heap.size o post a s (.returned o) t := fun t ht _ => ⟨⟨u, rfl, hp, by rw [ht]; exact hP, hD⟩, hS.F ht⟩
/-- lookups behind a write -/
theorem ls_ne {ws : va_W} {q k : Nat} {x : Nat × va_E} {o : Option (Nat × va_E)} (h : ws[k]? = o) (n : q ≠ k) : (ws.set q x)[k]? = o := by rw [List.getElem?_set_ne n]; exact h
theorem ls_eq {ws : va_W} {q : Nat} {x y : Nat × va_E} (h : ws[q]? = some y) : (ws.set q x)[q]? = some x := by
  have := (List.getElem?_eq_some_iff.mp h).1
  rw [List.getElem?_set_self this]
/-- as it was, but from lo to hi -/
def sm_W (ws u : va_W) (lo hi : Nat) : Prop := ∀ k, k < lo ∨ hi ≤ k → u[k]? = ws[k]?
theorem sm_rf {ws : va_W} {lo hi : Nat} : sm_W ws ws lo hi := fun _ _ => rfl
theorem sm_set {ws u : va_W} {lo hi q : Nat} {x : Nat × va_E} (h : sm_W ws u lo hi) (h1 : lo ≤ q) (h2 : q < hi) : sm_W ws (u.set q x) lo hi := fun k hk => by
  rw [List.getElem?_set_ne (by omega)]; exact h k hk
theorem sm_tr {ws u v : va_W} {lo hi lo' hi' : Nat} (h : sm_W ws u lo hi) (h2 : sm_W u v lo' hi') (h3 : lo ≤ lo') (h4 : hi' ≤ hi) : sm_W ws v lo hi := fun k hk => (h2 k (by omega)).trans (h k hk)
theorem sm_at {ws u : va_W} {lo hi k : Nat} {o : Option (Nat × va_E)} (h : sm_W ws u lo hi) (hk : k < lo ∨ hi ≤ k) (e : ws[k]? = o) : u[k]? = o := (h k hk).trans e
/-- the words of partial programs -/
def ck_O {α : Type} (b : Bool) (x : Option α) : Option α := if b = true then x else none
def lt_O {α β : Type} (x : α) (f : α → Option β) : Option β := f x
theorem ck_s {α : Type} {b : Bool} {x : Option α} {o : α} (h : ck_O b x = some o) : b = true ∧ x = some o := by
  cases b
  · cases h
  · exact ⟨rfl, h⟩
def in_b (i : Int32) (n : Nat) : Bool := decide (¬ (i < 0 ∨ n ≤ i.toNatClampNeg))
theorem in_s {i : Int32} {n : Nat} (h : in_b i n = true) : vp_in i n := of_decide_eq_true h
def nz_b (y : Int32) : Bool := decide (¬ y = 0)
theorem nz_s {y : Int32} (h : nz_b y = true) : ¬ y = 0 := of_decide_eq_true h
def nz_c (y : Int64) : Bool := decide (¬ y = 0)
theorem nz_t {y : Int64} (h : nz_c y = true) : ¬ y = 0 := of_decide_eq_true h
def bo_b (r : Int32) : Bool := decide (r = 0 ∨ r = 1)
theorem bo_s {r : Int32} (h : bo_b r = true) : narrow .boolean (.int r) = .int r := by
  rcases of_decide_eq_true h with h | h <;> subst h <;> rfl
theorem lt_s' {α β : Type} {y x : α} {f : α → Option β} {o : β} (e : y = x) (h : lt_O x f = some o) : f y = some o := by rw [e]; exact h
theorem bd_s {α β : Type} {x : Option α} {f : α → Option β} {o : β} (h : x.bind f = some o) : ∃ v, x = some v ∧ f v = some o := Option.bind_eq_some_iff.mp h
theorem it_p {α : Type} {P : Prop} {d : Decidable P} {x y : Option α} {o : α} (c : P) (h : @ite _ P d x y = some o) : x = some o := by rw [if_pos c] at h; exact h
theorem it_n {α : Type} {P : Prop} {d : Decidable P} {x y : Option α} {o : α} (c : ¬ P) (h : @ite _ P d x y = some o) : y = some o := by rw [if_neg c] at h; exact h
theorem so_i {α : Type} {x y : α} (h : some x = some y) : x = y := Option.some.inj h
end
