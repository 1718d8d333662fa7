theorem eq_run (oc : Ob) (oy : Ob) (oz : Ob) (ok : (Nat → Int32)) (of : Ob) (om : Ob) (p0 p1 p2 p3 : Int32) (hI : Inv oc oy oz ok of om) : ∃ (r : Int32) (oc' : Ob) (om' : Ob), F_X5_run oc p0 p1 p2 p3 = some (r, oc') ∧ F_X6_run om p0 p1 p2 p3 = some (r, om') ∧ Inv oc' oy oz ok of om' := by
  sorry
theorem eq_rest (oc : Ob) (oy : Ob) (oz : Ob) (ok : (Nat → Int32)) (of : Ob) (om : Ob) (p0 : Int32) (hI : Inv oc oy oz ok of om) : ∃ (r : Int32) (oc' : Ob) (om' : Ob), F_X5_rest oc p0 = some (r, oc') ∧ F_X6_rest om p0 = some (r, om') ∧ Inv oc' oy oz ok of om' := by
  sorry
theorem eq_set (oc : Ob) (oy : Ob) (oz : Ob) (ok : (Nat → Int32)) (of : Ob) (om : Ob) (p0 p1 : Int32) (hI : Inv oc oy oz ok of om) : ∃ (r : Int32) (oc' : Ob) (om' : Ob), F_X5_set oc p0 p1 = some (r, oc') ∧ F_X6_set om p0 p1 = some (r, om') ∧ Inv oc' oy oz ok of om' := by
  sorry
theorem eq_pair (oc : Ob) (oy : Ob) (oz : Ob) (ok : (Nat → Int32)) (of : Ob) (ow : Ob) (om : Ob) (p0 p1 p2 p3 : Int32) (hI : Inv oc oy oz ok of om) : ∃ (r : Int32) (ow' : Ob) (om' : Ob), F_X5_pair oc ow p0 p1 p2 p3 = some (r, ow') ∧ F_X6_pair om p0 p1 p2 p3 = some (r, om') ∧ Inv oc oy oz ok of om' := by
  sorry
theorem eq_reach (oc : Ob) (oy : Ob) (oz : Ob) (ok : (Nat → Int32)) (of : Ob) (ow : Ob) (om : Ob) (p0 p1 p2 p3 : Int32) (hI : Inv oc oy oz ok of om) : ∃ (r : Int32) (ow' : Ob) (om' : Ob), F_X5_reach oc ow p0 p1 p2 p3 = some (r, ow') ∧ F_X6_reach om p0 p1 p2 p3 = some (r, om') ∧ Inv oc oy oz ok of om' := by
  sorry
theorem eq_who (oc : Ob) (oy : Ob) (oz : Ob) (ok : (Nat → Int32)) (of : Ob) (ow : Ob) (om : Ob) (p0 p1 p2 : Int32) (hI : Inv oc oy oz ok of om) : ∃ (r : Int32) (ow' : Ob) (om' : Ob), F_X5_who oc ow p0 p1 p2 = some (r, ow') ∧ F_X6_who om p0 p1 p2 = some (r, om') ∧ Inv oc oy oz ok of om' := by
  sorry
theorem eq_alone (oc : Ob) (oy : Ob) (oz : Ob) (ok : (Nat → Int32)) (of : Ob) (om : Ob) (p0 p1 : Int32) (hI : Inv oc oy oz ok of om) : ∃ (r : Int32), F_X5_alone oc p0 p1 = some r ∧ F_X6_alone om p0 p1 = some r ∧ Inv oc oy oz ok of om := by
  sorry
theorem eq_tied (oc : Ob) (oy : Ob) (oz : Ob) (ok : (Nat → Int32)) (of : Ob) (ow : Ob) (on : Ob) (ot : (Nat → Int32)) (om : Ob) (p0 p1 p2 : Int32) (hI : Inv oc oy oz ok of om) : ∃ (r : Int32) (ow' : Ob) (on' : Ob) (ot' : (Nat → Int32)) (om' : Ob), F_X5_tied oc ow on ot p0 p1 p2 = some (r, ow', on', ot') ∧ F_X6_tied om p0 p1 p2 = some (r, om') ∧ Inv oc oy oz ok of om' := by
  sorry
theorem eq_call (oc : Ob) (oy : Ob) (oz : Ob) (ok : (Nat → Int32)) (of : Ob) (ow : Ob) (os : Ob) (om : Ob) (p0 p1 p2 p3 : Int32) (hI : Inv oc oy oz ok of om) : ∃ (r : Int32) (ow' : Ob) (os' : Ob) (om' : Ob), F_X5_call oc ow os p0 p1 p2 p3 = some (r, ow', os') ∧ F_X6_call om p0 p1 p2 p3 = some (r, om') ∧ Inv oc oy oz ok of om' := by
  sorry
theorem eq_quicken (oc : Ob) (oy : Ob) (oz : Ob) (ok : (Nat → Int32)) (of : Ob) (ow : Ob) (os : Ob) (om : Ob) (p0 p1 p2 p3 : Int32) (hI : Inv oc oy oz ok of om) : ∃ (r : Int32) (ow' : Ob) (os' : Ob) (om' : Ob), F_X5_quicken oc ow os p0 p1 p2 p3 = some (r, ow', os') ∧ F_X6_quicken om p0 p1 p2 p3 = some (r, om') ∧ Inv oc oy oz ok of om' := by
  sorry
theorem eq_yields (oc : Ob) (oy : Ob) (oz : Ob) (ok : (Nat → Int32)) (of : Ob) (ow : Ob) (os : Ob) (om : Ob) (p0 p1 p2 p3 : Int32) (hI : Inv oc oy oz ok of om) : ∃ (r : Int32) (ow' : Ob) (os' : Ob) (om' : Ob), F_X5_yields oc ow os p0 p1 p2 p3 = some (r, ow', os') ∧ F_X6_yields om p0 p1 p2 p3 = some (r, om') ∧ Inv oc oy oz ok of om' := by
  sorry
theorem eq_practice (oc : Ob) (oy : Ob) (oz : Ob) (ok : (Nat → Int32)) (of : Ob) (ow : Ob) (om : Ob) (p0 p1 p2 p3 : Int32) (hI : Inv oc oy oz ok of om) : ∃ (r : Int32) (ow' : Ob) (om' : Ob), F_X5_practice oc ow p0 p1 p2 p3 = some (r, ow') ∧ F_X6_practice om p0 p1 p2 p3 = some (r, om') ∧ Inv oc oy oz ok of om' := by
  sorry
theorem eq_scarf (oc : Ob) (oy : Ob) (oz : Ob) (ok : (Nat → Int32)) (of : Ob) (ow : Ob) (om : Ob) (p0 p1 p2 p3 : Int32) (hI : Inv oc oy oz ok of om) : ∃ (r : Int32) (ow' : Ob) (om' : Ob), F_X5_scarf oc ow p0 p1 p2 p3 = some (r, ow') ∧ F_X6_scarf om p0 p1 p2 p3 = some (r, om') ∧ Inv oc oy oz ok of om' := by
  sorry
theorem eq_even (oc : Ob) (oy : Ob) (oz : Ob) (ok : (Nat → Int32)) (of : Ob) (ow : Ob) (om : Ob) (p0 p1 p2 p3 p4 : Int32) (hI : Inv oc oy oz ok of om) : ∃ (r : Int32) (ow' : Ob) (om' : Ob), F_X5_even oc ow p0 p1 p2 p3 p4 = some (r, ow') ∧ F_X6_even om p0 p1 p2 p3 p4 = some (r, om') ∧ Inv oc oy oz ok of om' := by
  sorry
theorem eq_say (oc : Ob) (oy : Ob) (oz : Ob) (ok : (Nat → Int32)) (of : Ob) (om : Ob) (p0 : Int32) (hI : Inv oc oy oz ok of om) : ∃ (r : Int32) (of' : Ob) (om' : Ob), F_X5_say of p0 = some (r, of') ∧ F_X6_say om p0 = some (r, om') ∧ Inv oc oy oz ok of' om' := by
  sorry
theorem eq_wipe (oc : Ob) (oy : Ob) (oz : Ob) (ok : (Nat → Int32)) (of : Ob) (om : Ob) (hI : Inv oc oy oz ok of om) : ∃ (r : Int32) (of' : Ob) (om' : Ob), F_X5_wipe of  = some (r, of') ∧ F_X6_wipe om  = some (r, om') ∧ Inv oc oy oz ok of' om' := by
  sorry
theorem eq_fault (oc : Ob) (oy : Ob) (oz : Ob) (ok : (Nat → Int32)) (of : Ob) (om : Ob) (hI : Inv oc oy oz ok of om) : ∃ (r : Int32), F_X5_fault of  = some r ∧ F_X6_fault om  = some r ∧ Inv oc oy oz ok of om := by
  sorry
theorem eq_judge (oc : Ob) (oy : Ob) (oz : Ob) (ok : (Nat → Int32)) (of : Ob) (ow : Ob) (om : Ob) (p0 p1 : Int32) (hI : Inv oc oy oz ok of om) : ∃ (r : Int32) (ow' : Ob) (om' : Ob), F_X5_judge oc of ow p0 p1 = some (r, ow') ∧ F_X6_judge om p0 p1 = some (r, om') ∧ Inv oc oy oz ok of om' := by
  sorry
theorem eq_fits (oc : Ob) (oy : Ob) (oz : Ob) (ok : (Nat → Int32)) (of : Ob) (ow : Ob) (om : Ob) (p0 : Int32) (hI : Inv oc oy oz ok of om) : ∃ (r : Int32) (ow' : Ob) (om' : Ob), F_X5_fits oc of ow p0 = some (r, ow') ∧ F_X6_fits om p0 = some (r, om') ∧ Inv oc oy oz ok of om' := by
  sorry
theorem eq_year (oc : Ob) (oy : Ob) (oz : Ob) (ok : (Nat → Int32)) (of : Ob) (ow : Ob) (os : Ob) (ot : (Nat → Int32)) (om : Ob) (p0 p1 p2 p3 : Int32) (hI : Inv oc oy oz ok of om) : ∃ (r : Int32) (ow' : Ob) (os' : Ob) (ot' : (Nat → Int32)) (om' : Ob), F_X5_year oc ow os ot p0 p1 p2 p3 = some (r, ow', os', ot') ∧ F_X6_year om p0 p1 p2 p3 = some (r, om') ∧ Inv oc oy oz ok of om' := by
  sorry
theorem eq_image (oc : Ob) (oy : Ob) (oz : Ob) (ok : (Nat → Int32)) (of : Ob) (om : Ob) (p0 : Int32) (hI : Inv oc oy oz ok of om) : ∃ (r : Int32) (oy' : Ob) (oz' : Ob) (ok' : (Nat → Int32)) (om' : Ob), F_X5_image oc oy oz ok p0 = some (r, oy', oz', ok') ∧ F_X6_image om p0 = some (r, om') ∧ Inv oc oy' oz' ok' of om' := by
  sorry
theorem eq_restore (oc : Ob) (oy : Ob) (oz : Ob) (ok : (Nat → Int32)) (of : Ob) (om : Ob) (p0 : Int32) (hI : Inv oc oy oz ok of om) : ∃ (r : Int32) (oc' : Ob) (om' : Ob), F_X5_restore oc oy oz ok p0 = some (r, oc') ∧ F_X6_restore om p0 = some (r, om') ∧ Inv oc' oy oz ok of om' := by
  sorry
theorem eq_told (oc : Ob) (oy : Ob) (oz : Ob) (ok : (Nat → Int32)) (of : Ob) (om : Ob) (p0 : Int32) (hI : Inv oc oy oz ok of om) : ∃ (r : Int32), F_X5_told oc of p0 = some r ∧ F_X6_told om p0 = some r ∧ Inv oc oy oz ok of om := by
  sorry
