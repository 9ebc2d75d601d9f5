-- from the entry to the end
theorem inv_sims : Sims Inv := ⟨sim_init, sim_lands, sim_season, sim_set, sim_say, sim_wipe, sim_fault, sim_judge, sim_done, sim_state, sim_behind, sim_day, sim_where, sim_who, sim_meet, sim_together, sim_begin, sim_longest, sim_struck, sim_sure, sim_fooled, sim_letter, sim_copy, sim_furs, sim_seen, sim_forget, sim_changed, sim_names, sim_hear, sim_undo, sim_marriages, sim_deaths, sim_year, sim_image, sim_restore, sim_told⟩
theorem whole_start {p : Program} {e : Env} {s : State} {m : MethodId} {below : List Frame} {meth : Method} {c : Code} (l : Launch) (hflags : l.flags = flags0) {b L : Nat} {xs : Nat → Int32} (hL : L ≤ 320) (C0 : lw_At p s m meth c b L xs) : W p l e room_1 s m #[Value.ref b] below meth c s.heap [] 0 0 (lw_Z below #[Value.ref b] s) (entryFrame m ([Value.ref b] : List Value).toArray 4) := by
  have h := hflags
  exact start_open inv_sims l hL C0
