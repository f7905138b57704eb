def g_s0 (Inv : k_St → k_St → Prop) : Prop := ∀ σX σM, Inv σX σM → ∀ (a0 : Int32) (a1 : Int32) (a2 : Int32) (a3 : Int32) (a4 : Int32), ∃ r σX' σM', f_X11_feed a0 a1 a2 a3 a4 σX = some (r, σX') ∧ f_X12_feed a0 a1 a2 a3 a4 σM = some (r, σM') ∧ Inv σX' σM'
def g_s1 (Inv : k_St → k_St → Prop) : Prop := ∀ σX σM, Inv σX σM → ∀ (a0 : Int32), ∃ r σX' σM', f_X11_end a0 σX = some (r, σX') ∧ f_X12_end a0 σM = some (r, σM') ∧ Inv σX' σM'
def g_s2 (Inv : k_St → k_St → Prop) : Prop := ∀ σX σM, Inv σX σM → ∀ (a0 : Int32), ∃ r σX' σM', f_X11_fault a0 σX = some (r, σX') ∧ f_X12_fault a0 σM = some (r, σM') ∧ Inv σX' σM'
def g_s3 (Inv : k_St → k_St → Prop) : Prop := ∀ σX σM, Inv σX σM → ∀ (a0 : Int32), ∃ r σX' σM', f_X11_text a0 σX = some (r, σX') ∧ f_X12_text a0 σM = some (r, σM') ∧ Inv σX' σM'
def g_s4 (Inv : k_St → k_St → Prop) : Prop := ∀ σX σM, Inv σX σM → ∀ (a0 : Int32) (a1 : Int32), ∃ r v t σM1, f_X11_place a0 a1 σX = some r ∧ f_X12_place a0 a1 σM = some (v, σM1) ∧ f_X12_thrown σM1 = some t ∧ (match r with | some z => t = 0 ∧ z = v | none => t = 1) ∧ Inv σX σM1
def g_s5 (Inv : k_St → k_St → Prop) : Prop := ∀ σX σM, Inv σX σM → ∀ (a0 : Int32), ∃ r σX' σM', f_X11_worth a0 σX = some (r, σX') ∧ f_X12_worth a0 σM = some (r, σM') ∧ Inv σX' σM'
def g_s6 (Inv : k_St → k_St → Prop) : Prop := ∀ σX σM, Inv σX σM → ∀ (a0 : Int32) (a1 : Int32), (a1 = 0 ∨ a1 = 1) → ∃ r σX' σM', f_X11_set a0 a1 σX = some (r, σX') ∧ f_X12_set a0 a1 σM = some (r, σM') ∧ Inv σX' σM'
def g_s7 (Inv : k_St → k_St → Prop) : Prop := ∀ σX σM, Inv σX σM → ∀ (a0 : Int32), ∃ r σX' σM', f_X11_tugs a0 σX = some (r, σX') ∧ f_X12_tugs a0 σM = some (r, σM') ∧ Inv σX' σM'
def g_s8 (Inv : k_St → k_St → Prop) : Prop := ∀ σX σM, Inv σX σM → ∀ (a0 : Int32) (a1 : Int32) (a2 : Int32), ∃ r σX' σM', f_X11_throwTo a0 a1 a2 σX = some (r, σX') ∧ f_X12_throwTo a0 a1 a2 σM = some (r, σM') ∧ Inv σX' σM'
def g_s9 (Inv : k_St → k_St → Prop) : Prop := ∀ σX σM, Inv σX σM → ∀ (a0 : Int32) (a1 : Int32), ∃ r, f_X11_thrown a0 a1 σX = some r ∧ f_X12_thrown_ a0 a1 σM = some r
def g_s10 (Inv : k_St → k_St → Prop) : Prop := ∀ σX σM, Inv σX σM → ∃ r σX' σM', f_X11_answer σX = some (r, σX') ∧ f_X12_answer σM = some (r, σM') ∧ Inv σX' σM'
def g_s11 (Inv : k_St → k_St → Prop) : Prop := ∀ σX σM, Inv σX σM → ∀ (a0 : Int32) (a1 : Int32), ∃ r σX' σM', f_X11_answerTo a0 a1 σX = some (r, σX') ∧ f_X12_answerTo a0 a1 σM = some (r, σM') ∧ Inv σX' σM'
def g_s12 (Inv : k_St → k_St → Prop) : Prop := ∀ σX σM, Inv σX σM → ∀ (a0 : Int32), ∃ r σM', f_X11_mean a0 σX = some r ∧ f_X12_mean a0 σM = some (r, σM') ∧ Inv σX σM'
def g_s13 (Inv : k_St → k_St → Prop) : Prop := ∀ σX σM, Inv σX σM → ∀ (a0 : Int32) (a1 : Int32), ∃ r σX' σM', f_X11_tongue a0 a1 σX = some (r, σX') ∧ f_X12_tongue a0 a1 σM = some (r, σM') ∧ Inv σX' σM'
def g_s14 (Inv : k_St → k_St → Prop) : Prop := ∀ σX σM, Inv σX σM → ∀ (a0 : Int32) (a1 : Int32) (a2 : Int32), (a0 = 0 ∨ a0 = 1) → (a1 = 0 ∨ a1 = 1) → ∃ r σX' σM', f_X11_sense a0 a1 a2 σX = some (r, σX') ∧ f_X12_sense a0 a1 a2 σM = some (r, σM') ∧ Inv σX' σM'
def g_s15 (Inv : k_St → k_St → Prop) : Prop := ∀ σX σM, Inv σX σM → ∀ (a0 : Int32), ∃ r σX' σM', f_X11_settled a0 σX = some (r, σX') ∧ f_X12_settled a0 σM = some (r, σM') ∧ Inv σX' σM'
def g_s16 (Inv : k_St → k_St → Prop) : Prop := ∀ σX σM, Inv σX σM → ∀ (a0 : Int32), ∃ r σX' σM', f_X11_worst a0 σX = some (r, σX') ∧ f_X12_worst a0 σM = some (r, σM') ∧ Inv σX' σM'
def g_s17 (Inv : k_St → k_St → Prop) : Prop := ∀ σX σM, Inv σX σM → ∀ (a0 : Int32) (a1 : Int32) (a2 : Int32), ∃ r σX' σM', f_X11_code a0 a1 a2 σX = some (r, σX') ∧ f_X12_code a0 a1 a2 σM = some (r, σM') ∧ Inv σX' σM'
def g_s18 (Inv : k_St → k_St → Prop) : Prop := ∀ σX σM, Inv σX σM → ∀ (a0 : Int32) (a1 : Int32), (a0 = 0 ∨ a0 = 1) → ∃ r σX' σM', f_X11_shelve a0 a1 σX = some (r, σX') ∧ f_X12_shelve a0 a1 σM = some (r, σM') ∧ Inv σX' σM'
def g_s19 (Inv : k_St → k_St → Prop) : Prop := ∀ σX σM, Inv σX σM → ∀ (a0 : Int32) (a1 : Int32) (a2 : Int32), ∃ r σM', f_X11_fit a0 a1 a2 σX = some r ∧ f_X12_fit a0 a1 a2 σM = some (r, σM') ∧ Inv σX σM'
def g_s20 (Inv : k_St → k_St → Prop) : Prop := ∀ σX σM, Inv σX σM → ∀ (a0 : Int32), ∃ r σX' σM', f_X11_pair a0 σX = some (r, σX') ∧ f_X12_pair a0 σM = some (r, σM') ∧ Inv σX' σM'
def g_s21 (Inv : k_St → k_St → Prop) : Prop := ∀ σX σM, Inv σX σM → ∀ (a0 : Int32) (a1 : Int32), ∃ r σX' σM', f_X11_see a0 a1 σX = some (r, σX') ∧ f_X12_see a0 a1 σM = some (r, σM') ∧ Inv σX' σM'
def g_s22 (Inv : k_St → k_St → Prop) : Prop := ∀ σX σM, Inv σX σM → ∀ (a0 : Int32), ∃ r σX' σM', f_X11_meant a0 σX = some (r, σX') ∧ f_X12_meant a0 σM = some (r, σM') ∧ Inv σX' σM'
def g_s23 (Inv : k_St → k_St → Prop) : Prop := ∀ σX σM, Inv σX σM → ∀ (a0 : Int64), ∃ r σX' σM', f_X11_seed a0 σX = some (r, σX') ∧ f_X12_seed a0 σM = some (r, σM') ∧ Inv σX' σM'
def g_s24 (Inv : k_St → k_St → Prop) : Prop := ∀ σX σM, Inv σX σM → ∃ r σX' σM', f_X11_day σX = some (r, σX') ∧ f_X12_day σM = some (r, σM') ∧ Inv σX' σM'
def g_s25 (Inv : k_St → k_St → Prop) : Prop := ∀ σX σM, Inv σX σM → ∀ (a0 : Int32) (a1 : Int32), ∃ r, f_X11_was a0 a1 σX = some r ∧ f_X12_was a0 a1 σM = some r
def g_s26 (Inv : k_St → k_St → Prop) : Prop := ∀ σX σM, Inv σX σM → ∃ r σX' σM', f_X11_undo σX = some (r, σX') ∧ f_X12_undo σM = some (r, σM') ∧ Inv σX' σM'
def g_s27 (Inv : k_St → k_St → Prop) : Prop := ∀ σX σM, Inv σX σM → ∀ (a0 : Int32), ∃ r σX' σM', f_X11_wet a0 σX = some (r, σX') ∧ f_X12_wet a0 σM = some (r, σM') ∧ Inv σX' σM'
def g_s28 (Inv : k_St → k_St → Prop) : Prop := ∀ σX σM, Inv σX σM → ∀ (a0 : Int32) (a1 : Int32), ∃ r σM', f_X11_lone a0 a1 σX = some r ∧ f_X12_lone a0 a1 σM = some (r, σM') ∧ Inv σX σM'
def g_s29 (Inv : k_St → k_St → Prop) : Prop := ∀ σX σM, Inv σX σM → ∀ (a0 : Int32) (a1 : Int32) (a2 : Int32), ∃ r σM', f_X11_alone a0 a1 a2 σX = some r ∧ f_X12_alone a0 a1 a2 σM = some (r, σM') ∧ Inv σX σM'
def g_s30 (Inv : k_St → k_St → Prop) : Prop := ∀ σX σM, Inv σX σM → ∀ (a0 : Int32) (a1 : Int32) (a2 : Int32), ∃ r σX' σM', f_X11_knots a0 a1 a2 σX = some (r, σX') ∧ f_X12_knots a0 a1 a2 σM = some (r, σM') ∧ Inv σX' σM'
def g_s31 (Inv : k_St → k_St → Prop) : Prop := ∀ σX σM, Inv σX σM → ∀ (a0 : Int32) (a1 : Int32), ∃ r σX' σM', f_X11_bestKnots a0 a1 σX = some (r, σX') ∧ f_X12_bestKnots a0 a1 σM = some (r, σM') ∧ Inv σX' σM'
def g_s32 (Inv : k_St → k_St → Prop) : Prop := ∀ σX σM, Inv σX σM → ∀ (a0 : Int32) (a1 : Int32) (a2 : Int32), ∃ r σM', f_X11_weather a0 a1 a2 σX = some r ∧ f_X12_weather a0 a1 a2 σM = some (r, σM') ∧ Inv σX σM'
def g_s33 (Inv : k_St → k_St → Prop) : Prop := ∀ σX σM, Inv σX σM → ∀ (a0 : Int32) (a1 : Int32), ∃ r σX' σM', f_X11_skill a0 a1 σX = some (r, σX') ∧ f_X12_skill a0 a1 σM = some (r, σM') ∧ Inv σX' σM'
def g_s34 (Inv : k_St → k_St → Prop) : Prop := ∀ σX σM, Inv σX σM → ∀ (a0 : Int32), ∃ r, f_X11_cases a0 σX = some r ∧ f_X12_cases a0 σM = some r
def g_s35 (Inv : k_St → k_St → Prop) : Prop := ∀ σX σM, Inv σX σM → ∀ (a0 : Int32), ∃ r σX', f_X11_mixed a0 σX = some (r, σX') ∧ f_X12_mixed a0 σM = some r ∧ Inv σX' σM
def g_s36 (Inv : k_St → k_St → Prop) : Prop := ∀ σX σM, Inv σX σM → ∀ (a0 : Int32) (a1 : Int32) (a2 : Int32), ∃ r σM', f_X11_crossed a0 a1 a2 σX = some r ∧ f_X12_crossed a0 a1 a2 σM = some (r, σM') ∧ Inv σX σM'
def g_s37 (Inv : k_St → k_St → Prop) : Prop := ∀ σX σM, Inv σX σM → ∀ (a0 : Int32) (a1 : Int32) (a2 : Int32), ∃ r σX' σM', f_X11_rests a0 a1 a2 σX = some (r, σX') ∧ f_X12_rests a0 a1 a2 σM = some (r, σM') ∧ Inv σX' σM'
def g_s38 (Inv : k_St → k_St → Prop) : Prop := ∀ σX σM, Inv σX σM → ∀ (a0 : Int32) (a1 : Int32), ∃ r σX' σM', f_X11_leavers a0 a1 σX = some (r, σX') ∧ f_X12_leavers a0 a1 σM = some (r, σM') ∧ Inv σX' σM'
def g_s39 (Inv : k_St → k_St → Prop) : Prop := ∀ σX σM, Inv σX σM → ∀ (a0 : Int32) (a1 : Int32) (a2 : Int32), ∃ r σX' σM', f_X11_read a0 a1 a2 σX = some (r, σX') ∧ f_X12_read a0 a1 a2 σM = some (r, σM') ∧ Inv σX' σM'
def g_s40 (Inv : k_St → k_St → Prop) : Prop := ∀ σX σM, Inv σX σM → ∀ (a0 : Int32) (a1 : Int32), ∃ r σX' σM', f_X11_spread a0 a1 σX = some (r, σX') ∧ f_X12_spread a0 a1 σM = some (r, σM') ∧ Inv σX' σM'
def g_s41 (Inv : k_St → k_St → Prop) : Prop := ∀ σX σM, Inv σX σM → ∀ (a0 : Int32) (a1 : Int32), ∃ r, f_X11_hoard a0 a1 σX = some r ∧ f_X12_hoard a0 a1 σM = some r
def g_s42 (Inv : k_St → k_St → Prop) : Prop := ∀ σX σM, Inv σX σM → ∀ (a0 : Int32) (a1 : Int32), ∃ r, f_X11_said a0 a1 σX = some r ∧ f_X12_said a0 a1 σM = some r
def g_s43 (Inv : k_St → k_St → Prop) : Prop := ∀ σX σM, Inv σX σM → ∃ r, f_X11_run σX = some r ∧ f_X12_run σM = some r
def g_s44 (Inv : k_St → k_St → Prop) : Prop := ∀ σX σM, Inv σX σM → ∃ r σX' σM', f_X11_copy σX = some (r, σX') ∧ f_X12_copy σM = some (r, σM') ∧ Inv σX' σM'
def g_s45 (Inv : k_St → k_St → Prop) : Prop := ∀ σX σM, Inv σX σM → ∃ r σX' σM', f_X11_image σX = some (r, σX') ∧ f_X12_image σM = some (r, σM') ∧ Inv σX' σM'
def g_s46 (Inv : k_St → k_St → Prop) : Prop := ∀ σX σM, Inv σX σM → ∃ r σX' σM', f_X11_back σX = some (r, σX') ∧ f_X12_back σM = some (r, σM') ∧ Inv σX' σM'
def g_s47 (Inv : k_St → k_St → Prop) : Prop := ∀ σX σM, Inv σX σM → ∀ (a0 : Int32), ∃ r, f_X11_count a0 σX = some r ∧ f_X12_count a0 σM = some r
theorem g_goodP : GoodIn k_TT (va_wsS RL 38 yL_place g_wsL) := fun w hw => k_good (by
  unfold va_wsS at hw
  rcases List.mem_append.mp hw with h | h
  · simp only [List.mem_cons, List.not_mem_nil, or_false] at h
    rcases h with rfl | rfl | rfl
    · exact g_p5.1
    · exact g_p5.2
    · exact g_p4
  · unfold g_wsL at h
    rcases List.mem_cons.mp h with h | h
    · exact h ▸ g_p1
    · exact h)
