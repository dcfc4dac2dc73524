theorem flaw : FLaw := by
  intro L xs hL
  obtain ⟨sg', h⟩ := law_go k_side k_place k_at k_read k_type k_undo k_wipe k_fault k_bar k_laidOut k_lies k_shortest k_ways k_face k_farthest k_sit k_nearer k_wires k_within k_told k_snail k_thread k_flies k_sheet k_lose k_lay k_get k_copy k_write k_count k_digest L xs hL 64 0 sg0 (LF - 65) rfl inv0
  exact ⟨sg', h⟩
