theorem Rel0 : Rel S0C S0M := sorry
theorem e_field {S T : Sg} (h : Rel S T) (a0 : Int32) (a1 : Int32) : ∃ (r : Int32) (S' : Sg) (T' : Sg), f_X9_field a0 a1 S = some (r, S') ∧ f_X10_field a0 a1 T = some (r, T') ∧ Rel S' T' := sorry
theorem e_divided {S T : Sg} (h : Rel S T) (a0 : Int32) (a1 : Int32) : ∃ (r : Int32), f_X9_divided a0 a1 S = some r ∧ f_X10_divided a0 a1 T = some r ∧ Rel S T := sorry
theorem e_pair {S T : Sg} (h : Rel S T) (a0 : Int32) (a1 : Int32) : ∃ (r : Int32) (S' : Sg) (T' : Sg), f_X9_pair a0 a1 S = some (r, S') ∧ f_X10_pair a0 a1 T = some (r, T') ∧ Rel S' T' := sorry
theorem e_entry {S T : Sg} (h : Rel S T) (a0 : Int32) (a1 : Int32) (a2 : Int32) (a3 : Int32) : ∃ (r : Int32) (S' : Sg) (T' : Sg), f_X9_entry a0 a1 a2 a3 S = some (r, S') ∧ f_X10_entry a0 a1 a2 a3 T = some (r, T') ∧ Rel S' T' := sorry
theorem e_set {S T : Sg} (h : Rel S T) (a0 : Int32) (a1 : Int32) (a2 : Int32) : ∃ (r : Int32) (S' : Sg) (T' : Sg), f_X9_set a0 a1 a2 S = some (r, S') ∧ f_X10_set a0 a1 a2 T = some (r, T') ∧ Rel S' T' := sorry
theorem e_told {S T : Sg} (h : Rel S T) (a0 : Int32) (a1 : Int32) : ∃ (r : Int32) (S' : Sg) (T' : Sg), f_X9_told a0 a1 S = some (r, S') ∧ f_X10_told a0 a1 T = some (r, T') ∧ Rel S' T' := sorry
theorem e_number {S T : Sg} (h : Rel S T) (a0 : Int32) (a1 : Int32) (a2 : Int32) : ∃ (r : Int32), f_X9_number a0 a1 a2 S = some r ∧ f_X10_number a0 a1 a2 T = some r ∧ Rel S T := sorry
theorem e_drop {S T : Sg} (h : Rel S T)  : ∃ (r : Int32) (S' : Sg) (T' : Sg), f_X9_drop S = some (r, S') ∧ f_X10_drop T = some (r, T') ∧ Rel S' T' := sorry
theorem e_name {S T : Sg} (h : Rel S T) (a0 : Int32) (a1 : Int64) : ∃ (r : Int32) (S' : Sg) (T' : Sg), f_X9_name a0 a1 S = some (r, S') ∧ f_X10_name a0 a1 T = some (r, T') ∧ Rel S' T' := sorry
theorem e_named {S T : Sg} (h : Rel S T) (a0 : Int64) : ∃ (r : Int32), f_X9_named a0 S = some r ∧ f_X10_named a0 T = some r ∧ Rel S T := sorry
theorem e_unname {S T : Sg} (h : Rel S T) (a0 : Int32) : ∃ (r : Int32) (S' : Sg) (T' : Sg), f_X9_unname a0 S = some (r, S') ∧ f_X10_unname a0 T = some (r, T') ∧ Rel S' T' := sorry
theorem e_nameAt {S T : Sg} (h : Rel S T) (a0 : Int32) : ∃ (r : Int64), f_X9_nameAt a0 S = some r ∧ f_X10_nameAt a0 T = some r ∧ Rel S T := sorry
theorem e_rank {S T : Sg} (h : Rel S T) (a0 : Int32) : ∃ (r : Int32) (S' : Sg) (T' : Sg), f_X9_rank a0 S = some (r, S') ∧ f_X10_rank a0 T = some (r, T') ∧ Rel S' T' := sorry
theorem e_stands {S T : Sg} (h : Rel S T) (a0 : Int32) : ∃ (r : Int32) (S' : Sg) (T' : Sg), f_X9_stands a0 S = some (r, S') ∧ f_X10_stands a0 T = some (r, T') ∧ Rel S' T' := sorry
theorem e_most {S T : Sg} (h : Rel S T)  : ∃ (r : Int32) (S' : Sg) (T' : Sg), f_X9_most S = some (r, S') ∧ f_X10_most T = some (r, T') ∧ Rel S' T' := sorry
theorem e_best {S T : Sg} (h : Rel S T) (a0 : Int32) : ∃ (r : Int32) (S' : Sg) (T' : Sg), f_X9_best a0 S = some (r, S') ∧ f_X10_best a0 T = some (r, T') ∧ Rel S' T' := sorry
theorem e_heavy {S T : Sg} (h : Rel S T) (a0 : Int32) : ∃ (r : Int32) (S' : Sg) (T' : Sg), f_X9_heavy a0 S = some (r, S') ∧ f_X10_heavy a0 T = some (r, T') ∧ Rel S' T' := sorry
theorem e_queue {S T : Sg} (h : Rel S T) (a0 : Int32) : ∃ (r : Int32) (S' : Sg), f_X9_queue a0 S = some (r, S') ∧ f_X10_queue a0 T = some r ∧ Rel S' T := sorry
theorem e_greedy {S T : Sg} (h : Rel S T) (a0 : Int32) : ∃ (r : Int32) (S' : Sg) (T' : Sg), f_X9_greedy a0 S = some (r, S') ∧ f_X10_greedy a0 T = some (r, T') ∧ Rel S' T' := sorry
theorem e_better {S T : Sg} (h : Rel S T) (a0 : Int32) : ∃ (r : Int32) (S' : Sg) (T' : Sg), f_X9_better a0 S = some (r, S') ∧ f_X10_better a0 T = some (r, T') ∧ Rel S' T' := sorry
theorem e_table {S T : Sg} (h : Rel S T) (a0 : Int32) (a1 : Int32) (a2 : Int32) : ∃ (r : Int32) (S' : Sg) (T' : Sg), f_X9_table a0 a1 a2 S = some (r, S') ∧ f_X10_table a0 a1 a2 T = some (r, T') ∧ Rel S' T' := sorry
theorem e_half {S T : Sg} (h : Rel S T) (a0 : Int32) : ∃ (r : Int32) (S' : Sg) (T' : Sg), f_X9_half a0 S = some (r, S') ∧ f_X10_half a0 T = some (r, T') ∧ Rel S' T' := sorry
theorem e_root {S T : Sg} (h : Rel S T) (a0 : Int32) : ∃ (r : Int64) (S' : Sg) (T' : Sg), f_X9_root a0 S = some (r, S') ∧ f_X10_root a0 T = some (r, T') ∧ Rel S' T' := sorry
theorem e_claim {S T : Sg} (h : Rel S T) (a0 : Int32) (a1 : Int32) : ∃ (r : Int32) (S' : Sg) (T' : Sg), f_X9_claim a0 a1 S = some (r, S') ∧ f_X10_claim a0 a1 T = some (r, T') ∧ Rel S' T' := sorry
theorem e_sure {S T : Sg} (h : Rel S T) (a0 : Int32) (a1 : Int32) : ∃ (r : Int32) (S' : Sg) (T' : Sg), f_X9_sure a0 a1 S = some (r, S') ∧ f_X10_sure a0 a1 T = some (r, T') ∧ Rel S' T' := sorry
theorem e_cover {S T : Sg} (h : Rel S T) (a0 : Int32) (a1 : Int32) : ∃ (r : Int32) (S' : Sg) (T' : Sg), f_X9_cover a0 a1 S = some (r, S') ∧ f_X10_cover a0 a1 T = some (r, T') ∧ Rel S' T' := sorry
theorem e_cheap {S T : Sg} (h : Rel S T) (a0 : Int32) (a1 : Int32) : ∃ (r : Int32) (S' : Sg) (T' : Sg), f_X9_cheap a0 a1 S = some (r, S') ∧ f_X10_cheap a0 a1 T = some (r, T') ∧ Rel S' T' := sorry
theorem e_rays {S T : Sg} (h : Rel S T)  : ∃ (r : Int32) (S' : Sg) (T' : Sg), f_X9_rays S = some (r, S') ∧ f_X10_rays T = some (r, T') ∧ Rel S' T' := sorry
theorem e_ray {S T : Sg} (h : Rel S T) (a0 : Int32) : ∃ (r : Int64) (S' : Sg) (T' : Sg), f_X9_ray a0 S = some (r, S') ∧ f_X10_ray a0 T = some (r, T') ∧ Rel S' T' := sorry
theorem e_rayOf {S T : Sg} (h : Rel S T) (a0 : Int32) (a1 : Int32) : ∃ (r : Int32) (S' : Sg) (T' : Sg), f_X9_rayOf a0 a1 S = some (r, S') ∧ f_X10_rayOf a0 a1 T = some (r, T') ∧ Rel S' T' := sorry
theorem e_link {S T : Sg} (h : Rel S T) (a0 : Int32) (a1 : Int32) (a2 : Int32) : ∃ (r : Int32) (S' : Sg) (T' : Sg), f_X9_link a0 a1 a2 S = some (r, S') ∧ f_X10_link a0 a1 a2 T = some (r, T') ∧ Rel S' T' := sorry
theorem e_breaks {S T : Sg} (h : Rel S T) (a0 : Int32) : ∃ (r : Int32), f_X9_breaks a0 S = some r ∧ f_X10_breaks a0 T = some r ∧ Rel S T := sorry
theorem e_feedback {S T : Sg} (h : Rel S T) (a0 : Int32) : ∃ (r : Int32), f_X9_feedback a0 S = some r ∧ f_X10_feedback a0 T = some r ∧ Rel S T := sorry
theorem e_hold {S T : Sg} (h : Rel S T) (a0 : Int32) (a1 : Int32) (a2 : Int32) : ∃ (r : Int32) (S' : Sg) (T' : Sg), f_X9_hold a0 a1 a2 S = some (r, S') ∧ f_X10_hold a0 a1 a2 T = some (r, T') ∧ Rel S' T' := sorry
theorem e_asPair {S T : Sg} (h : Rel S T) (a0 : Int32) (a1 : Int32) : ∃ (r : Int32), f_X9_asPair a0 a1 S = some r ∧ f_X10_asPair a0 a1 T = some r ∧ Rel S T := sorry
theorem e_asRay {S T : Sg} (h : Rel S T) (a0 : Int32) (a1 : Int32) : ∃ (r : Int32), f_X9_asRay a0 a1 S = some r ∧ f_X10_asRay a0 a1 T = some r ∧ Rel S T := sorry
theorem e_compare {S T : Sg} (h : Rel S T) (a0 : Int32) (a1 : Int32) : ∃ (r : Int32), f_X9_compare a0 a1 S = some r ∧ f_X10_compare a0 a1 T = some r ∧ Rel S T := sorry
theorem e_sheet {S T : Sg} (h : Rel S T) (a0 : Int32) (a1 : Int32) (a2 : Int32) : ∃ (r : Int32) (S' : Sg) (T' : Sg), f_X9_sheet a0 a1 a2 S = some (r, S') ∧ f_X10_sheet a0 a1 a2 T = some (r, T') ∧ Rel S' T' := sorry
theorem e_cell {S T : Sg} (h : Rel S T) (a0 : Int32) (a1 : Int32) (a2 : Int64) : ∃ (r : Int32) (S' : Sg) (T' : Sg), f_X9_cell a0 a1 a2 S = some (r, S') ∧ f_X10_cell a0 a1 a2 T = some (r, T') ∧ Rel S' T' := sorry
theorem e_read {S T : Sg} (h : Rel S T) (a0 : Int32) (a1 : Int32) : ∃ (r : Int64), f_X9_read a0 a1 S = some r ∧ f_X10_read a0 a1 T = some r ∧ Rel S T := sorry
theorem e_load {S T : Sg} (h : Rel S T) (a0 : Int32) (a1 : Int32) (a2 : Int32) : ∃ (r : Int32) (S' : Sg) (T' : Sg), f_X9_load a0 a1 a2 S = some (r, S') ∧ f_X10_load a0 a1 a2 T = some (r, T') ∧ Rel S' T' := sorry
theorem e_image {S T : Sg} (h : Rel S T)  : ∃ (r : Int32) (S' : Sg) (T' : Sg), f_X9_image S = some (r, S') ∧ f_X10_image T = some (r, T') ∧ Rel S' T' := sorry
theorem e_back {S T : Sg} (h : Rel S T)  : ∃ (r : Int32) (S' : Sg) (T' : Sg), f_X9_back S = some (r, S') ∧ f_X10_back T = some (r, T') ∧ Rel S' T' := sorry
theorem e_count {S T : Sg} (h : Rel S T) (a0 : Int32) : ∃ (r : Int32), f_X9_count a0 S = some r ∧ f_X10_count a0 T = some r ∧ Rel S T := sorry
