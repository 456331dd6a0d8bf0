/-! DIGEST and all -/
theorem all_digest : ok_digest Inv := by
  intro s hI
  obtain ⟨L, F, h0, hLF⟩ := row_ex (wnN s)
  obtain ⟨K, hK⟩ := stopR_ex s
  have hg : ∀ r, gvV s K r ((gvV_ex s K r).choose) := fun r => (gvV_ex s K r).choose_spec
  generalize (fun r => (gvV_ex s K r).choose) = gv at hg
  obtain ⟨t, A, B, c1, hE, hS, hN⟩ := c_digest hI h0 hLF hK hg
  obtain ⟨u, r1, r2⟩ := rr_digest hI hE hS hN h0 hLF hK hg
  exact ⟨_, t, u, c1, r1, inv_cg r2 hI⟩
theorem all_ok : AllOk Inv := ⟨all_race, all_swim, all_time, all_read, all_seeds, all_about, all_diff, all_lane, all_counts, all_lean, all_chance, all_ran, all_own, all_fast, all_twice, all_order, all_right, all_place, all_medals, all_type, all_wipe, all_fault, all_given, all_tenths, all_world, all_made, all_sheet, all_lose, all_put, all_get, all_copy, all_write, all_count, all_digest⟩
