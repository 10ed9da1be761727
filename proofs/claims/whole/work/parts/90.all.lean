/-! PURE PART: all of it -/
theorem pf_all : PF Inv := ⟨pf_say, pf_wipe, pf_fault, pf_load, pf_generator, pf_has, pf_make, pf_compare, pf_part, pf_prime, pf_primary, pf_dual, pf_count, pf_series, pf_facts, pf_betti, pf_bettiAt, pf_share, pf_hold, pf_take, pf_measure, pf_image, pf_restore, pf_told⟩
