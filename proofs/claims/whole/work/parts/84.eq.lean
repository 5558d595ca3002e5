/-! ===== the methods side by side, out of the mathematics ===== -/
theorem eqp_stuff : eq_stuff Rel := fun a1 a2 z w h => by
  obtain ⟨x, z', w', hX, hM, h'⟩ := pq_stuff h a1 a2
  exact ⟨x, z', w', sp_X3_stuff a1 a2 z (by simp [mm_ok]; decide +kernel) (x, z') hX, sp_X4_stuff a1 a2 w (by simp [mm_ok]; decide +kernel) (x, w') hM, h'⟩
theorem eqp_crew : eq_crew Rel := fun a1 a2 z w h => by
  obtain ⟨x, z', w', hX, hM, h'⟩ := pq_crew h a1 a2
  exact ⟨x, z', w', sp_X3_crew a1 a2 z (by simp [mm_ok]; decide +kernel) (x, z') hX, sp_X4_crew a1 a2 w (by simp [mm_ok]; decide +kernel) (x, w') hM, h'⟩
theorem eqp_of : eq_of Rel := fun a1 a2 z w h => by
  obtain ⟨x, z', w', hX, hM, h'⟩ := pq_of h a1 a2
  exact ⟨x, z', w', sp_X3_of a1 a2 z (by simp [mm_ok]; decide +kernel) (x, z') hX, sp_X4_of a1 a2 w (by simp [mm_ok]; decide +kernel) (x, w') hM, h'⟩
theorem eqp_change : eq_change Rel := fun a1 a2 a3 z w h => by
  obtain ⟨x, z', w', hX, hM, h'⟩ := pq_change h a1 a2 a3
  exact ⟨x, z', w', sp_X3_change a1 a2 a3 z (by simp [mm_ok]; decide +kernel) (x, z') hX, sp_X4_change a1 a2 a3 w (by simp [mm_ok]; decide +kernel) (x, w') hM, h'⟩
theorem eqp_cells : eq_cells Rel := fun a1 z w h => by
  obtain ⟨x, z', w', hX, hM, h'⟩ := pq_cells h a1
  exact ⟨x, z', w', sp_X3_cells a1 z (by simp [mm_ok]; decide +kernel) (x, z') hX, sp_X4_cells a1 w (by simp [mm_ok]; decide +kernel) (x, w') hM, h'⟩
theorem eqp_unsure : eq_unsure Rel := fun a1 z w h => by
  obtain ⟨x, z', w', hX, hM, h'⟩ := pq_unsure h a1
  exact ⟨x, z', w', sp_X3_unsure a1 z (by simp [mm_ok]; decide +kernel) (x, z') hX, sp_X4_unsure a1 w (by simp [mm_ok]; decide +kernel) (x, w') hM, h'⟩
theorem eqp_sure : eq_sure Rel := fun  z w h => by
  obtain ⟨x, z', w', hX, hM, h'⟩ := pq_sure h 
  exact ⟨x, z', w', sp_X3_sure  z (by simp [mm_ok]; decide +kernel) (x, z') hX, sp_X4_sure  w (by simp [mm_ok]; decide +kernel) (x, w') hM, h'⟩
theorem eqp_time : eq_time Rel := fun a1 a2 z w h => by
  obtain ⟨x, z', w', hX, hM, h'⟩ := pq_time h a1 a2
  exact ⟨x, z', w', sp_X3_time a1 a2 z (by simp [mm_ok]; decide +kernel) (x, z') hX, sp_X4_time a1 a2 w (by simp [mm_ok]; decide +kernel) (x, w') hM, h'⟩
theorem eqp_heard : eq_heard Rel := fun a1 a2 z w h => by
  obtain ⟨x, z', w', hX, hM, h'⟩ := pq_heard h a1 a2
  exact ⟨x, z', w', sp_X3_heard a1 a2 z (by simp [mm_ok]; decide +kernel) (x, z') hX, sp_X4_heard a1 a2 w (by simp [mm_ok]; decide +kernel) (x, w') hM, h'⟩
theorem eqp_reach : eq_reach Rel := fun a1 z w h => by
  obtain ⟨x, z', w', hX, hM, h'⟩ := pq_reach h a1
  exact ⟨x, z', w', sp_X3_reach a1 z (by simp [mm_ok]; decide +kernel) (x, z') hX, sp_X4_reach a1 w (by simp [mm_ok]; decide +kernel) (x, w') hM, h'⟩
theorem eqp_hears : eq_hears Rel := fun a1 z w h => by
  obtain ⟨x, z', w', hX, hM, h'⟩ := pq_hears h a1
  exact ⟨x, z', w', sp_X3_hears a1 z (by simp [mm_ok]; decide +kernel) (x, z') hX, sp_X4_hears a1 w (by simp [mm_ok]; decide +kernel) (x, w') hM, h'⟩
theorem eqp_echo : eq_echo Rel := fun a1 a2 a3 z w h => by
  obtain ⟨x, z', w', hX, hM, h'⟩ := pq_echo h a1 a2 a3
  exact ⟨x, z', w', sp_X3_echo a1 a2 a3 z (by simp [mm_ok]; decide +kernel) (x, z') hX, sp_X4_echo a1 a2 a3 w (by simp [mm_ok]; decide +kernel) (x, w') hM, h'⟩
theorem eqp_chord : eq_chord Rel := fun a1 a2 a3 z w h => by
  obtain ⟨x, z', w', hX, hM, h'⟩ := pq_chord h a1 a2 a3
  exact ⟨x, z', w', sp_X3_chord a1 a2 a3 z (by simp [mm_ok]; decide +kernel) (x, z') hX, sp_X4_chord a1 a2 a3 w (by simp [mm_ok]; decide +kernel) (x, w') hM, h'⟩
theorem eqp_last : eq_last Rel := fun a1 a2 z w h => by
  obtain ⟨x, z', w', hX, hM, h'⟩ := pq_last h a1 a2
  exact ⟨x, z', w', sp_X3_last a1 a2 z (by simp [mm_ok]; decide +kernel) (x, z') hX, sp_X4_last a1 a2 w (by simp [mm_ok]; decide +kernel) (x, w') hM, h'⟩
theorem eqp_many : eq_many Rel := fun a1 z w h => by
  obtain ⟨x, z', w', hX, hM, h'⟩ := pq_many h a1
  exact ⟨x, z', w', sp_X3_many a1 z (by simp [mm_ok]; decide +kernel) (x, z') hX, sp_X4_many a1 w (by simp [mm_ok]; decide +kernel) (x, w') hM, h'⟩
theorem eqp_silent : eq_silent Rel := fun  z w h => by
  obtain ⟨x, z', w', hX, hM, h'⟩ := pq_silent h 
  exact ⟨x, z', w', sp_X3_silent  z (by simp [mm_ok]; decide +kernel) (x, z') hX, sp_X4_silent  w (by simp [mm_ok]; decide +kernel) (x, w') hM, h'⟩
theorem eqp_lag : eq_lag Rel := fun a1 a2 a3 z w h => by
  obtain ⟨x, z', w', hX, hM, h'⟩ := pq_lag h a1 a2 a3
  exact ⟨x, z', w', sp_X3_lag a1 a2 a3 z (by simp [mm_ok]; decide +kernel) (x, z') hX, sp_X4_lag a1 a2 a3 w (by simp [mm_ok]; decide +kernel) (x, w') hM, h'⟩
theorem eqp_apart : eq_apart Rel := fun a1 a2 z w h => by
  obtain ⟨x, z', w', hX, hM, h'⟩ := pq_apart h a1 a2
  exact ⟨x, z', w', sp_X3_apart a1 a2 z (by simp [mm_ok]; decide +kernel) (x, z') hX, sp_X4_apart a1 a2 w (by simp [mm_ok]; decide +kernel) (x, w') hM, h'⟩
theorem eqp_from : eq_from Rel := fun a1 a2 a3 z w h => by
  obtain ⟨x, z', w', hX, hM, h'⟩ := pq_from h a1 a2 a3
  exact ⟨x, z', w', sp_X3_from a1 a2 a3 z (by simp [mm_ok]; decide +kernel) (x, z') hX, sp_X4_from a1 a2 a3 w (by simp [mm_ok]; decide +kernel) (x, w') hM, h'⟩
theorem eqp_middle : eq_middle Rel := fun  z w h => by
  obtain ⟨x, z', w', hX, hM, h'⟩ := pq_middle h 
  exact ⟨x, z', w', sp_X3_middle  z (by simp [mm_ok]; decide +kernel) (x, z') hX, sp_X4_middle  w (by simp [mm_ok]; decide +kernel) (x, w') hM, h'⟩
theorem eqp_kindFor : eq_kindFor Rel := fun a1 z w h => by
  obtain ⟨x, z', w', hX, hM, h'⟩ := pq_kindFor h a1
  exact ⟨x, z', w', sp_X3_kindFor a1 z (by simp [mm_ok]; decide +kernel) (x, z') hX, sp_X4_kindFor a1 w (by simp [mm_ok]; decide +kernel) (x, w') hM, h'⟩
theorem eqp_place : eq_place Rel := fun a1 z w h => by
  obtain ⟨x, z', w', hX, hM, h'⟩ := pq_place h a1
  exact ⟨x, z', w', sp_X3_place a1 z (by simp [mm_ok]; decide +kernel) (x, z') hX, sp_X4_place a1 w (by simp [mm_ok]; decide +kernel) (x, w') hM, h'⟩
theorem eqp_book : eq_book Rel := fun a1 a2 a3 z w h => by
  obtain ⟨x, z', w', hX, hM, h'⟩ := pq_book h a1 a2 a3
  exact ⟨x, z', w', sp_X3_book a1 a2 a3 z (by simp [mm_ok]; decide +kernel) (x, z') hX, sp_X4_book a1 a2 a3 w (by simp [mm_ok]; decide +kernel) (x, w') hM, h'⟩
theorem eqp_burn : eq_burn Rel := fun  z w h => by
  obtain ⟨x, z', w', hX, hM, h'⟩ := pq_burn h 
  exact ⟨x, z', w', sp_X3_burn  z (by simp [mm_ok]; decide +kernel) (x, z') hX, sp_X4_burn  w (by simp [mm_ok]; decide +kernel) (x, w') hM, h'⟩
theorem eqp_wrong : eq_wrong Rel := fun  z w h => by
  obtain ⟨x, z', w', hX, hM, h'⟩ := pq_wrong h 
  exact ⟨x, z', w', sp_X3_wrong  z (by simp [mm_ok]; decide +kernel) (x, z') hX, sp_X4_wrong  w (by simp [mm_ok]; decide +kernel) (x, w') hM, h'⟩
theorem eqp_fits : eq_fits Rel := fun  z w h => by
  obtain ⟨x, z', w', hX, hM, h'⟩ := pq_fits h 
  exact ⟨x, z', w', sp_X3_fits  z (by simp [mm_ok]; decide +kernel) (x, z') hX, sp_X4_fits  w (by simp [mm_ok]; decide +kernel) (x, w') hM, h'⟩
theorem eqp_map : eq_map Rel := fun a1 z w h => by
  obtain ⟨x, z', w', hX, hM, h'⟩ := pq_map h a1
  exact ⟨x, z', w', sp_X3_map a1 z (by simp [mm_ok]; decide +kernel) (x, z') hX, sp_X4_map a1 w (by simp [mm_ok]; decide +kernel) (x, w') hM, h'⟩
theorem eqp_may : eq_may Rel := fun a1 z w h => by
  obtain ⟨x, z', w', hX, hM, h'⟩ := pq_may h a1
  exact ⟨x, z', w', sp_X3_may a1 z (by simp [mm_ok]; decide +kernel) (x, z') hX, sp_X4_may a1 w (by simp [mm_ok]; decide +kernel) (x, w') hM, h'⟩
theorem eqp_lays : eq_lays Rel := fun a1 z w h => by
  obtain ⟨x, z', w', hX, hM, h'⟩ := pq_lays h a1
  exact ⟨x, z', w', sp_X3_lays a1 z (by simp [mm_ok]; decide +kernel) (x, z') hX, sp_X4_lays a1 w (by simp [mm_ok]; decide +kernel) (x, w') hM, h'⟩
theorem eqp_asks : eq_asks Rel := fun a1 z w h => by
  obtain ⟨x, z', w', hX, hM, h'⟩ := pq_asks h a1
  exact ⟨x, z', w', sp_X3_asks a1 z (by simp [mm_ok]; decide +kernel) (x, z') hX, sp_X4_asks a1 w (by simp [mm_ok]; decide +kernel) (x, w') hM, h'⟩
theorem eqp_dig : eq_dig Rel := fun a1 a2 z w h => by
  obtain ⟨x, z', w', hX, hM, h'⟩ := pq_dig h a1 a2
  exact ⟨x, z', w', sp_X3_dig a1 a2 z (by simp [mm_ok]; decide +kernel) (x, z') hX, sp_X4_dig a1 a2 w (by simp [mm_ok]; decide +kernel) (x, w') hM, h'⟩
theorem eqp_safe : eq_safe Rel := fun a1 a2 z w h => by
  obtain ⟨x, z', w', hX, hM, h'⟩ := pq_safe h a1 a2
  exact ⟨x, z', w', sp_X3_safe a1 a2 z (by simp [mm_ok]; decide +kernel) (x, z') hX, sp_X4_safe a1 a2 w (by simp [mm_ok]; decide +kernel) (x, w') hM, h'⟩
theorem eqp_ways : eq_ways Rel := fun a1 z w h => by
  obtain ⟨x, z', w', hX, hM, h'⟩ := pq_ways h a1
  exact ⟨x, z', w', sp_X3_ways a1 z (by simp [mm_ok]; decide +kernel) (x, z') hX, sp_X4_ways a1 w (by simp [mm_ok]; decide +kernel) (x, w') hM, h'⟩
theorem eqp_years : eq_years Rel := fun a1 z w h => by
  obtain ⟨x, z', w', hX, hM, h'⟩ := pq_years h a1
  exact ⟨x, z', w', sp_X3_years a1 z (by simp [mm_ok]; decide +kernel) (x, z') hX, sp_X4_years a1 w (by simp [mm_ok]; decide +kernel) (x, w') hM, h'⟩
theorem eqp_ahead : eq_ahead Rel := fun a1 a2 z w h => by
  obtain ⟨x, z', w', hX, hM, h'⟩ := pq_ahead h a1 a2
  exact ⟨x, z', w', sp_X3_ahead a1 a2 z (by simp [mm_ok]; decide +kernel) (x, z') hX, sp_X4_ahead a1 a2 w (by simp [mm_ok]; decide +kernel) (x, w') hM, h'⟩
theorem eqp_when : eq_when Rel := fun a1 a2 z w h => by
  obtain ⟨x, z', w', hX, hM, h'⟩ := pq_when h a1 a2
  exact ⟨x, z', w', sp_X3_when a1 a2 z (by simp [mm_ok]; decide +kernel) (x, z') hX, sp_X4_when a1 a2 w (by simp [mm_ok]; decide +kernel) (x, w') hM, h'⟩
theorem eqp_seed : eq_seed Rel := fun a1 z w h => by
  obtain ⟨x, z', w', hX, hM, h'⟩ := pq_seed h a1
  exact ⟨x, z', w', sp_X3_seed a1 z (by simp [mm_ok]; decide +kernel) (x, z') hX, sp_X4_seed a1 w (by simp [mm_ok]; decide +kernel) (x, w') hM, h'⟩
theorem eqp_feed : eq_feed Rel := fun a1 a2 z w h => by
  obtain ⟨x, z', w', hX, hM, h'⟩ := pq_feed h a1 a2
  exact ⟨x, z', w', sp_X3_feed a1 a2 z (by simp [mm_ok]; decide +kernel) (x, z') hX, sp_X4_feed a1 a2 w (by simp [mm_ok]; decide +kernel) (x, w') hM, h'⟩
theorem eqp_wipe : eq_wipe Rel := fun  z w h => by
  obtain ⟨x, z', w', hX, hM, h'⟩ := pq_wipe h 
  exact ⟨x, z', w', sp_X3_wipe  z (by simp [mm_ok]; decide +kernel) (x, z') hX, sp_X4_wipe  w (by simp [mm_ok]; decide +kernel) (x, w') hM, h'⟩
theorem eqp_text : eq_text Rel := fun  z w h => by
  obtain ⟨x, z', w', hX, hM, h'⟩ := pq_text h 
  exact ⟨x, z', w', sp_X3_text  z (by simp [mm_ok]; decide +kernel) (x, z') hX, sp_X4_text  w (by simp [mm_ok]; decide +kernel) (x, w') hM, h'⟩
theorem eqp_hold : eq_hold Rel := fun a1 a2 z w h => by
  obtain ⟨x, z', w', hX, hM, h'⟩ := pq_hold h a1 a2
  exact ⟨x, z', w', sp_X3_hold a1 a2 z (by simp [mm_ok]; decide +kernel) (x, z') hX, sp_X4_hold a1 a2 w (by simp [mm_ok]; decide +kernel) (x, w') hM, h'⟩
theorem eqp_as : eq_as Rel := fun a1 a2 z w h => by
  obtain ⟨x, z', w', hX, hM, h'⟩ := pq_as h a1 a2
  exact ⟨x, z', w', sp_X3_as a1 a2 z (by simp [mm_ok]; decide +kernel) (x, z') hX, sp_X4_as a1 a2 w (by simp [mm_ok]; decide +kernel) (x, w') hM, h'⟩
theorem eqp_sheet : eq_sheet Rel := fun a1 a2 a3 z w h => by
  obtain ⟨x, z', w', hX, hM, h'⟩ := pq_sheet h a1 a2 a3
  exact ⟨x, z', w', sp_X3_sheet a1 a2 a3 z (by simp [mm_ok]; decide +kernel) (x, z') hX, sp_X4_sheet a1 a2 a3 w (by simp [mm_ok]; decide +kernel) (x, w') hM, h'⟩
theorem eqp_write : eq_write Rel := fun a1 a2 a3 z w h => by
  obtain ⟨x, z', w', hX, hM, h'⟩ := pq_write h a1 a2 a3
  exact ⟨x, z', w', sp_X3_write a1 a2 a3 z (by simp [mm_ok]; decide +kernel) (x, z') hX, sp_X4_write a1 a2 a3 w (by simp [mm_ok]; decide +kernel) (x, w') hM, h'⟩
theorem eqp_copy : eq_copy Rel := fun a1 a2 a3 a4 a5 z w h => by
  obtain ⟨x, z', w', hX, hM, h'⟩ := pq_copy h a1 a2 a3 a4 a5
  exact ⟨x, z', w', sp_X3_copy a1 a2 a3 a4 a5 z (by simp [mm_ok]; decide +kernel) (x, z') hX, sp_X4_copy a1 a2 a3 a4 a5 w (by simp [mm_ok]; decide +kernel) (x, w') hM, h'⟩
theorem eqp_load : eq_load Rel := fun a1 z w h => by
  obtain ⟨x, z', w', hX, hM, h'⟩ := pq_load h a1
  exact ⟨x, z', w', sp_X3_load a1 z (by simp [mm_ok]; decide +kernel) (x, z') hX, sp_X4_load a1 w (by simp [mm_ok]; decide +kernel) (x, w') hM, h'⟩
theorem eqp_judge : eq_judge Rel := fun a1 a2 z w h => by
  obtain ⟨x, z', w', hX, hM, h'⟩ := pq_judge h a1 a2
  exact ⟨x, z', w', sp_X3_judge a1 a2 z (by simp [mm_ok]; decide +kernel) (x, z') hX, sp_X4_judge a1 a2 w (by simp [mm_ok]; decide +kernel) (x, w') hM, h'⟩
theorem eqp_image : eq_image Rel := fun  z w h => by
  obtain ⟨x, z', w', hX, hM, h'⟩ := pq_image h 
  exact ⟨x, z', w', sp_X3_image  z (by simp [mm_ok]; decide +kernel) (x, z') hX, sp_X4_image  w (by simp [mm_ok]; decide +kernel) (x, w') hM, h'⟩
theorem eqp_undo : eq_undo Rel := fun  z w h => by
  obtain ⟨x, z', w', hX, hM, h'⟩ := pq_undo h 
  exact ⟨x, z', w', sp_X3_undo  z (by simp [mm_ok]; decide +kernel) (x, z') hX, sp_X4_undo  w (by simp [mm_ok]; decide +kernel) (x, w') hM, h'⟩
theorem eqp_tear : eq_tear Rel := fun  z w h => by
  obtain ⟨x, z', w', hX, hM, h'⟩ := pq_tear h 
  exact ⟨x, z', w', sp_X3_tear  z (by simp [mm_ok]; decide +kernel) (x, z') hX, sp_X4_tear  w (by simp [mm_ok]; decide +kernel) (x, w') hM, h'⟩
theorem eqp_count : eq_count Rel := fun a1 z w h => by
  obtain ⟨x, z', w', hX, hM, h'⟩ := pq_count h a1
  exact ⟨x, z', w', sp_X3_count a1 z (by simp [mm_ok]; decide +kernel) (x, z') hX, sp_X4_count a1 w (by simp [mm_ok]; decide +kernel) (x, w') hM, h'⟩
theorem eqp_status : eq_status Rel := fun a1 z w h => by
  obtain ⟨x, z', w', hX, hM, h'⟩ := pq_status h a1
  exact ⟨x, z', w', sp_X3_status a1 z (by simp [mm_ok]; decide +kernel) (x, z') hX, sp_X4_status a1 w (by simp [mm_ok]; decide +kernel) (x, w') hM, h'⟩
theorem eqp_all : eq_all Rel := ⟨eqp_stuff, eqp_crew, eqp_of, eqp_change, eqp_cells, eqp_unsure, eqp_sure, eqp_time, eqp_heard, eqp_reach, eqp_hears, eqp_echo, eqp_chord, eqp_last, eqp_many, eqp_silent, eqp_lag, eqp_apart, eqp_from, eqp_middle, eqp_kindFor, eqp_place, eqp_book, eqp_burn, eqp_wrong, eqp_fits, eqp_map, eqp_may, eqp_lays, eqp_asks, eqp_dig, eqp_safe, eqp_ways, eqp_years, eqp_ahead, eqp_when, eqp_seed, eqp_feed, eqp_wipe, eqp_text, eqp_hold, eqp_as, eqp_sheet, eqp_write, eqp_copy, eqp_load, eqp_judge, eqp_image, eqp_undo, eqp_tear, eqp_count, eqp_status⟩
