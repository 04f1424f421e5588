def si_R (S : xs_T) (T : ys_T) : Prop := True
theorem sim_look (S : xs_T) (T : ys_T) (h : si_R S T) (p1 : Int32) (p2 : Int32) : ∃ (r : Int32) (S2 : xs_T) (T2 : ys_T), px_look S p1 p2 = some (r, S2) ∧ py_look T p1 p2 = some (r, T2) ∧ si_R S2 T2 := sorry
theorem sim_prefix (S : xs_T) (T : ys_T) (h : si_R S T) (p1 : Int32) (p2 : Int32) : ∃ (r : Int32) (S2 : xs_T) (T2 : ys_T), px_prefix S p1 p2 = some (r, S2) ∧ py_prefix T p1 p2 = some (r, T2) ∧ si_R S2 T2 := sorry
theorem sim_cost (S : xs_T) (T : ys_T) (h : si_R S T) (p1 : Int32) (p2 : Int32) : ∃ (r : Int32) (S2 : xs_T) (T2 : ys_T), px_cost S p1 p2 = some (r, S2) ∧ py_cost T p1 p2 = some (r, T2) ∧ si_R S2 T2 := sorry
theorem sim_least (S : xs_T) (T : ys_T) (h : si_R S T) (p1 : Int32) (p2 : Int32) : ∃ (r : Int32) (S2 : xs_T) (T2 : ys_T), px_least S p1 p2 = some (r, S2) ∧ py_least T p1 p2 = some (r, T2) ∧ si_R S2 T2 := sorry
theorem sim_count (S : xs_T) (T : ys_T) (h : si_R S T) (p1 : Int32) : ∃ (r : Int32) (S2 : xs_T) (T2 : ys_T), px_count S p1 = some (r, S2) ∧ py_count T p1 = some (r, T2) ∧ si_R S2 T2 := sorry
theorem sim_change (S : xs_T) (T : ys_T) (h : si_R S T) (p1 : Int32) (p2 : Int32) : ∃ (r : Int32) (S2 : xs_T) (T2 : ys_T), px_change S p1 p2 = some (r, S2) ∧ py_change T p1 p2 = some (r, T2) ∧ si_R S2 T2 := sorry
theorem sim_proof (S : xs_T) (T : ys_T) (h : si_R S T) (p1 : Int32) (p2 : Int32) : ∃ (r : Int32) (S2 : xs_T) (T2 : ys_T), px_proof S p1 p2 = some (r, S2) ∧ py_proof T p1 p2 = some (r, T2) ∧ si_R S2 T2 := sorry
theorem sim_lost (S : xs_T) (T : ys_T) (h : si_R S T) (p1 : Int32) (p2 : Int32) (p3 : Int32) : ∃ (r : Int32) (S2 : xs_T) (T2 : ys_T), px_lost S p1 p2 p3 = some (r, S2) ∧ py_lost T p1 p2 p3 = some (r, T2) ∧ si_R S2 T2 := sorry
theorem sim_tell (S : xs_T) (T : ys_T) (h : si_R S T) (p1 : Int32) (p2 : Int32) : ∃ (r : Int32) (S2 : xs_T) (T2 : ys_T), px_tell S p1 p2 = some (r, S2) ∧ py_tell T p1 p2 = some (r, T2) ∧ si_R S2 T2 := sorry
theorem sim_out (S : xs_T) (T : ys_T) (h : si_R S T) (p1 : Int32) : ∃ (r : Int32) (S2 : xs_T) (T2 : ys_T), px_out S p1 = some (r, S2) ∧ py_out T p1 = some (r, T2) ∧ si_R S2 T2 := sorry
theorem sim_rename (S : xs_T) (T : ys_T) (h : si_R S T) (p1 : Int32) (p2 : Int32) : ∃ (r : Int32) (S2 : xs_T) (T2 : ys_T), px_rename S p1 p2 = some (r, S2) ∧ py_rename T p1 p2 = some (r, T2) ∧ si_R S2 T2 := sorry
theorem sim_install (S : xs_T) (T : ys_T) (h : si_R S T)  : ∃ (r : Int32) (S2 : xs_T) (T2 : ys_T), px_install S  = some (r, S2) ∧ py_install T  = some (r, T2) ∧ si_R S2 T2 := sorry
theorem sim_type (S : xs_T) (T : ys_T) (h : si_R S T) (p1 : Int32) : ∃ (r : Int32) (S2 : xs_T) (T2 : ys_T), px_type S p1 = some (r, S2) ∧ py_type T p1 = some (r, T2) ∧ si_R S2 T2 := sorry
theorem sim_read (S : xs_T) (T : ys_T) (h : si_R S T)  : ∃ (r : Int32) (S2 : xs_T) (T2 : ys_T), px_read S  = some (r, S2) ∧ py_read T  = some (r, T2) ∧ si_R S2 T2 := sorry
theorem sim_drift (S : xs_T) (T : ys_T) (h : si_R S T) (p1 : Int32) : ∃ (r : Int32) (S2 : xs_T) (T2 : ys_T), px_drift S p1 = some (r, S2) ∧ py_drift T p1 = some (r, T2) ∧ si_R S2 T2 := sorry
theorem sim_undo (S : xs_T) (T : ys_T) (h : si_R S T)  : ∃ (r : Int32) (S2 : xs_T) (T2 : ys_T), px_undo S  = some (r, S2) ∧ py_undo T  = some (r, T2) ∧ si_R S2 T2 := sorry
theorem sim_seed (S : xs_T) (T : ys_T) (h : si_R S T) (p1 : Int32) : ∃ (r : Int32) (S2 : xs_T) (T2 : ys_T), px_seed S p1 = some (r, S2) ∧ py_seed T p1 = some (r, T2) ∧ si_R S2 T2 := sorry
theorem sim_image (S : xs_T) (T : ys_T) (h : si_R S T)  : ∃ (r : Int32) (S2 : xs_T) (T2 : ys_T), px_image S  = some (r, S2) ∧ py_image T  = some (r, T2) ∧ si_R S2 T2 := sorry
theorem sim_restore (S : xs_T) (T : ys_T) (h : si_R S T)  : ∃ (r : Int32) (S2 : xs_T) (T2 : ys_T), px_restore S  = some (r, S2) ∧ py_restore T  = some (r, T2) ∧ si_R S2 T2 := sorry
theorem sim_lengths (S : xs_T) (T : ys_T) (h : si_R S T) (p1 : Int32) (p2 : Int32) (p3 : Int32) (p4 : Int32) : ∃ (r : Int32) (S2 : xs_T) (T2 : ys_T), px_lengths S p1 p2 p3 p4 = some (r, S2) ∧ py_lengths T p1 p2 p3 p4 = some (r, T2) ∧ si_R S2 T2 := sorry
theorem sim_film (S : xs_T) (T : ys_T) (h : si_R S T) (p1 : Int32) (p2 : Int32) (p3 : Int32) (p4 : Int32) (p5 : Int32) : ∃ (r : Int32) (S2 : xs_T) (T2 : ys_T), px_film S p1 p2 p3 p4 p5 = some (r, S2) ∧ py_film T p1 p2 p3 p4 p5 = some (r, T2) ∧ si_R S2 T2 := sorry
theorem sim_sheet (S : xs_T) (T : ys_T) (h : si_R S T) (p1 : Int32) (p2 : Int32) (p3 : Int32) : ∃ (r : Int32) (S2 : xs_T) (T2 : ys_T), px_sheet S p1 p2 p3 = some (r, S2) ∧ py_sheet T p1 p2 p3 = some (r, T2) ∧ si_R S2 T2 := sorry
theorem sim_drop (S : xs_T) (T : ys_T) (h : si_R S T) (p1 : Int32) : ∃ (r : Int32) (S2 : xs_T) (T2 : ys_T), px_drop S p1 = some (r, S2) ∧ py_drop T p1 = some (r, T2) ∧ si_R S2 T2 := sorry
theorem sim_item (S : xs_T) (T : ys_T) (h : si_R S T) (p1 : Int32) (p2 : Int32) (p3 : Int32) (p4 : Int64) : ∃ (r : Int32) (S2 : xs_T) (T2 : ys_T), px_item S p1 p2 p3 p4 = some (r, S2) ∧ py_item T p1 p2 p3 p4 = some (r, T2) ∧ si_R S2 T2 := sorry
theorem sim_copy (S : xs_T) (T : ys_T) (h : si_R S T) (p1 : Int32) (p2 : Int32) (p3 : Int32) (p4 : Int32) (p5 : Int32) : ∃ (r : Int32) (S2 : xs_T) (T2 : ys_T), px_copy S p1 p2 p3 p4 p5 = some (r, S2) ∧ py_copy T p1 p2 p3 p4 p5 = some (r, T2) ∧ si_R S2 T2 := sorry
theorem si_0 : si_R s0_X t0_Y := trivial
