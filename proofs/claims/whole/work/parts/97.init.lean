theorem rel_init : Rel MINIT := by
  have a12 : ∀ r : Fin 10, MINIT 12 r.val = nI 2 := by decide +kernel
  have a13 : ∀ r : Fin 24, MINIT 13 r.val = nI 0 := by decide +kernel
  have b37 : ∀ r : Fin 10, MINIT 55 (0 + 37 + r.val) = iI ((2 : Int) - 2) := by decide +kernel
  have b47 : ∀ r : Fin 24, MINIT 55 (0 + 47 + r.val) = nI 0 := by decide +kernel
  have k0 : ∀ k : Fin 2, MINIT 30 k.val = 0 ∧ MINIT 71 k.val = 0 := by decide +kernel
  have sh : ∀ k : Fin 4, MINIT (32 + 2 * k.val) 1 = MINIT 72 k.val ∧ MINIT 72 k.val = -4 ∧ MINIT (32 + 2 * k.val) 2 = nI 0 ∧ MINIT 73 k.val = nI 0 := by decide +kernel
  have cu : ∀ j : Fin 9, MINIT 59 j.val = cutsL.getD j.val 0 := by decide +kernel
  have le : ∀ j : Fin 38, MINIT 60 j.val = lettersL.getD j.val 0 := by decide +kernel
  refine ⟨⟨S00, wf_S00, ⟨by decide +kernel, by decide +kernel, by decide +kernel, fun j hj => absurd hj (by show ¬ j < 5 * 0; omega), fun j hj => absurd hj (by show ¬ j < 4 * 0; omega), fun r hr => a12 ⟨r, hr⟩, fun h hh => a13 ⟨h, hh⟩⟩, ⟨by decide +kernel, by decide +kernel, by decide +kernel, fun t w ht => absurd ht (Nat.not_lt_zero t), fun j hj => absurd hj (by show ¬ j < 4 * 0; omega), fun r hr => b37 ⟨r, hr⟩, fun h hh => b47 ⟨h, hh⟩⟩⟩, ⟨0, by omega, by decide +kernel, by decide +kernel, fun j hj => by omega⟩, by decide +kernel, ⟨0, by omega, by decide +kernel, by decide +kernel, fun j hj => by omega⟩, ⟨Or.inl (k0 0), Or.inl (k0 1)⟩, fun k hk => ?_, by decide +kernel, ⟨⟨by decide +kernel, by decide +kernel, by decide +kernel, by decide +kernel⟩, fun j hj => cu ⟨j, hj⟩, fun j hj => le ⟨j, hj⟩, by decide +kernel⟩⟩
  obtain ⟨s1, s2, s3, s4⟩ := sh ⟨k, hk⟩
  exact ⟨s1, Or.inl s2, 0, by omega, s3, s4, fun j hj => by omega⟩
theorem steps_all : StepAll Rel := ⟨st_feed, st_end, st_text, st_fault, st_rule, st_tub, st_heir, st_current, st_wind, st_alter, st_stand, st_set, st_blow, st_phase, st_cast, st_sink, st_fate, st_where, st_has, st_all, st_when, st_aim, st_ways, st_place, st_hook, st_fire, st_moon, st_rest, st_luck, st_mean, st_see, st_forget, st_kinds, st_sets, st_look, st_drift, st_keep, st_back, st_sheet, st_lay, st_read, st_torn, st_count⟩
