/-! THE CLAIM OUT OF ONE WALK OF THE LAW'S BODY. Your part is whole_start (and what it stands on); all else here is the same for every law, but numbers. -/
def R_law : String := "TugLakeLaw"
def lw_P (b : Addr) (xs : List Int32) (args : Array Value) (s : State) : Prop := args = #[.ref b] ∧ s.IntsAt b xs ∧ xs.length ≤ 3072 ∧ (Jvm.Cond.and given_1 narrow_1).before args s = true
def lw_Q (_ : Array Value) (s : State) (o : Outcome) (t : State) : Prop := o = .returned (some (.int 1)) ∧ Framed s o t [] 601024 7293034
def lw_Z (below : List Frame) (a : Array Value) (s : State) : State → Prop := fun t => ∃ o, t.status = .running ∧ Ended t below o ∧ lw_Q a s o t
/-- the law's own end, with 1 on the stack, nothing written that was there before, its room as the claim has it -/
theorem lw_ret {p : Program} {l : Launch} {e : Env} {s : State} {m : MethodId} {below : List Frame} {meth : Method} {c : Code} {b : Nat} (hx : p.tables.exec = Jvm.exec) (hb : c.code = code) (hr : meth.sig.returnType = ret) (hlocks : meth.locks = false) {pc : Nat} {H : Heap} {ls : Array Slot} (hdg : decode code pc = .ok (.ireturn, 1)) : W p l e room_1 s m #[Value.ref b] below meth c H [] 601024 7293034 (lw_Z below #[Value.ref b] s) (F0 m pc ls [.int 1]) := by
  intro T hT X
  obtain ⟨fs, hret, hrun, hended, hW, hframe⟩ := X.leave (v := some (.int 1)) (hlocks := hlocks) (fun h => by rw [hr] at h; cases h)
  have hmeth' : T.vm.method? m = some meth := X.method'
  refine ⟨T.setFrames fs, ?_, .returned (some (.int 1)), hrun, hended, rfl, ⟨_, rfl⟩, hW, hframe⟩
  jvm_step X.here [X.here.top, hx, hb, hdg, hmeth', hr, ret, narrow_b1]
  (try refine ⟨rfl, ?_⟩); (try refine ⟨rfl, ?_⟩)
  first | (intro acts; rw [hret _ acts rfl rfl rfl]) | rw [hret _ _ rfl rfl rfl]
  exact Steps.refl _
/-- what holds at the law's entry: the machine, the code, the tables' words (any of lw_tbl by 'hts w (by decide +kernel)'), the script of L ints xs at the cell b, what the Statement gives of the start (any of its parts by flat_of_before) -/
def lw_At (p : Program) (s : State) (m : MethodId) (meth : Method) (c : Code) (b L : Nat) (xs : Nat → Int32) : Prop :=
  p.tables.exec = Jvm.exec ∧ c.code = code ∧ meth.sig.returnType = ret ∧ c.maxLocals = 7 ∧ s.vm.findClass R_law = some m.cls ∧ (∀ w ∈ lw_tbl, w.before #[Value.ref b] s = true) ∧ va_X b L xs s s.heap ∧ b < s.heap.size ∧ meth.locks = false ∧ (Jvm.Cond.and given_1 narrow_1).before #[Value.ref b] s = true
theorem g_l19 : Cond.methodLink RL 19 yX11_feed ∈ k_TT ∧ Cond.instanceMethod yX11_feed ∈ k_TT ∧ Cond.selects RX11 yX11_feed yX11_feed ∈ k_TT := ⟨k_tt (k_s2 165 (by decide +kernel)) rfl, k_tt (k_s2 166 (by decide +kernel)) rfl, k_tt (k_s2 167 (by decide +kernel)) rfl⟩
theorem g_l23 : Cond.methodLink RL 23 yX12_feed ∈ k_TT ∧ Cond.instanceMethod yX12_feed ∈ k_TT ∧ Cond.selects RX12 yX12_feed yX12_feed ∈ k_TT := ⟨k_tt (k_s7 191 (by decide +kernel)) rfl, k_tt (k_s7 192 (by decide +kernel)) rfl, k_tt (k_s7 193 (by decide +kernel)) rfl⟩
theorem g_l24 : Cond.methodLink RL 24 yX11_end ∈ k_TT ∧ Cond.instanceMethod yX11_end ∈ k_TT ∧ Cond.selects RX11 yX11_end yX11_end ∈ k_TT := ⟨k_tt (k_s2 176 (by decide +kernel)) rfl, k_tt (k_s2 177 (by decide +kernel)) rfl, k_tt (k_s2 178 (by decide +kernel)) rfl⟩
theorem g_l28 : Cond.methodLink RL 28 yX12_end ∈ k_TT ∧ Cond.instanceMethod yX12_end ∈ k_TT ∧ Cond.selects RX12 yX12_end yX12_end ∈ k_TT := ⟨k_tt (k_s7 198 (by decide +kernel)) rfl, k_tt (k_s7 199 (by decide +kernel)) rfl, k_tt (k_s7 200 (by decide +kernel)) rfl⟩
theorem g_l29 : Cond.methodLink RL 29 yX11_fault ∈ k_TT ∧ Cond.instanceMethod yX11_fault ∈ k_TT ∧ Cond.selects RX11 yX11_fault yX11_fault ∈ k_TT := ⟨k_tt (k_s2 183 (by decide +kernel)) rfl, k_tt (k_s2 184 (by decide +kernel)) rfl, k_tt (k_s2 185 (by decide +kernel)) rfl⟩
theorem g_l33 : Cond.methodLink RL 33 yX12_fault ∈ k_TT ∧ Cond.instanceMethod yX12_fault ∈ k_TT ∧ Cond.selects RX12 yX12_fault yX12_fault ∈ k_TT := ⟨k_tt (k_s7 202 (by decide +kernel)) rfl, k_tt (k_s7 203 (by decide +kernel)) rfl, k_tt (k_s7 204 (by decide +kernel)) rfl⟩
theorem g_l34 : Cond.methodLink RL 34 yX11_text ∈ k_TT ∧ Cond.instanceMethod yX11_text ∈ k_TT ∧ Cond.selects RX11 yX11_text yX11_text ∈ k_TT := ⟨k_tt (k_s4 4 (by decide +kernel)) rfl, k_tt (k_s4 5 (by decide +kernel)) rfl, k_tt (k_s4 6 (by decide +kernel)) rfl⟩
theorem g_l37 : Cond.methodLink RL 37 yX12_text ∈ k_TT ∧ Cond.instanceMethod yX12_text ∈ k_TT ∧ Cond.selects RX12 yX12_text yX12_text ∈ k_TT := ⟨k_tt (k_s8 82 (by decide +kernel)) rfl, k_tt (k_s8 83 (by decide +kernel)) rfl, k_tt (k_s8 84 (by decide +kernel)) rfl⟩
theorem g_l43 : Cond.methodLink RL 43 yX12_place ∈ k_TT ∧ Cond.instanceMethod yX12_place ∈ k_TT ∧ Cond.selects RX12 yX12_place yX12_place ∈ k_TT := ⟨k_tt (k_s8 90 (by decide +kernel)) rfl, k_tt (k_s8 91 (by decide +kernel)) rfl, k_tt (k_s8 92 (by decide +kernel)) rfl⟩
theorem g_l44 : Cond.methodLink RL 44 yX12_thrown ∈ k_TT ∧ Cond.instanceMethod yX12_thrown ∈ k_TT ∧ Cond.selects RX12 yX12_thrown yX12_thrown ∈ k_TT := ⟨k_tt (k_s7 187 (by decide +kernel)) rfl, k_tt (k_s7 188 (by decide +kernel)) rfl, k_tt (k_s7 189 (by decide +kernel)) rfl⟩
theorem g_l48 : Cond.methodLink RL 48 yX11_worth ∈ k_TT ∧ Cond.instanceMethod yX11_worth ∈ k_TT ∧ Cond.selects RX11 yX11_worth yX11_worth ∈ k_TT := ⟨k_tt (k_s4 67 (by decide +kernel)) rfl, k_tt (k_s4 68 (by decide +kernel)) rfl, k_tt (k_s4 69 (by decide +kernel)) rfl⟩
theorem g_l51 : Cond.methodLink RL 51 yX12_worth ∈ k_TT ∧ Cond.instanceMethod yX12_worth ∈ k_TT ∧ Cond.selects RX12 yX12_worth yX12_worth ∈ k_TT := ⟨k_tt (k_s8 126 (by decide +kernel)) rfl, k_tt (k_s8 127 (by decide +kernel)) rfl, k_tt (k_s8 128 (by decide +kernel)) rfl⟩
theorem g_l52 : Cond.methodLink RL 52 yX11_set ∈ k_TT ∧ Cond.instanceMethod yX11_set ∈ k_TT ∧ Cond.selects RX11 yX11_set yX11_set ∈ k_TT := ⟨k_tt (k_s4 71 (by decide +kernel)) rfl, k_tt (k_s4 72 (by decide +kernel)) rfl, k_tt (k_s4 73 (by decide +kernel)) rfl⟩
theorem g_l56 : Cond.methodLink RL 56 yX12_set ∈ k_TT ∧ Cond.instanceMethod yX12_set ∈ k_TT ∧ Cond.selects RX12 yX12_set yX12_set ∈ k_TT := ⟨k_tt (k_s8 130 (by decide +kernel)) rfl, k_tt (k_s8 131 (by decide +kernel)) rfl, k_tt (k_s8 132 (by decide +kernel)) rfl⟩
theorem g_l57 : Cond.methodLink RL 57 yX11_tugs ∈ k_TT ∧ Cond.instanceMethod yX11_tugs ∈ k_TT ∧ Cond.selects RX11 yX11_tugs yX11_tugs ∈ k_TT := ⟨k_tt (k_s4 83 (by decide +kernel)) rfl, k_tt (k_s4 84 (by decide +kernel)) rfl, k_tt (k_s4 85 (by decide +kernel)) rfl⟩
theorem g_l60 : Cond.methodLink RL 60 yX12_tugs ∈ k_TT ∧ Cond.instanceMethod yX12_tugs ∈ k_TT ∧ Cond.selects RX12 yX12_tugs yX12_tugs ∈ k_TT := ⟨k_tt (k_s8 134 (by decide +kernel)) rfl, k_tt (k_s8 135 (by decide +kernel)) rfl, k_tt (k_s8 136 (by decide +kernel)) rfl⟩
theorem g_l61 : Cond.methodLink RL 61 yX11_throwTo ∈ k_TT ∧ Cond.instanceMethod yX11_throwTo ∈ k_TT ∧ Cond.selects RX11 yX11_throwTo yX11_throwTo ∈ k_TT := ⟨k_tt (k_s4 96 (by decide +kernel)) rfl, k_tt (k_s4 97 (by decide +kernel)) rfl, k_tt (k_s4 98 (by decide +kernel)) rfl⟩
theorem g_l65 : Cond.methodLink RL 65 yX12_throwTo ∈ k_TT ∧ Cond.instanceMethod yX12_throwTo ∈ k_TT ∧ Cond.selects RX12 yX12_throwTo yX12_throwTo ∈ k_TT := ⟨k_tt (k_s8 141 (by decide +kernel)) rfl, k_tt (k_s8 142 (by decide +kernel)) rfl, k_tt (k_s8 143 (by decide +kernel)) rfl⟩
theorem g_l66 : Cond.methodLink RL 66 yX11_thrown ∈ k_TT ∧ Cond.instanceMethod yX11_thrown ∈ k_TT ∧ Cond.selects RX11 yX11_thrown yX11_thrown ∈ k_TT := ⟨k_tt (k_s4 113 (by decide +kernel)) rfl, k_tt (k_s4 114 (by decide +kernel)) rfl, k_tt (k_s4 115 (by decide +kernel)) rfl⟩
theorem g_l68 : Cond.methodLink RL 68 yX12_thrown_ ∈ k_TT ∧ Cond.instanceMethod yX12_thrown_ ∈ k_TT ∧ Cond.selects RX12 yX12_thrown_ yX12_thrown_ ∈ k_TT := ⟨k_tt (k_s8 149 (by decide +kernel)) rfl, k_tt (k_s8 150 (by decide +kernel)) rfl, k_tt (k_s8 151 (by decide +kernel)) rfl⟩
theorem g_l69 : Cond.methodLink RL 69 yX11_answer ∈ k_TT ∧ Cond.instanceMethod yX11_answer ∈ k_TT ∧ Cond.selects RX11 yX11_answer yX11_answer ∈ k_TT := ⟨k_tt (k_s4 124 (by decide +kernel)) rfl, k_tt (k_s4 125 (by decide +kernel)) rfl, k_tt (k_s4 126 (by decide +kernel)) rfl⟩
theorem g_l73 : Cond.methodLink RL 73 yX12_answer ∈ k_TT ∧ Cond.instanceMethod yX12_answer ∈ k_TT ∧ Cond.selects RX12 yX12_answer yX12_answer ∈ k_TT := ⟨k_tt (k_s8 184 (by decide +kernel)) rfl, k_tt (k_s8 185 (by decide +kernel)) rfl, k_tt (k_s8 186 (by decide +kernel)) rfl⟩
theorem g_l74 : Cond.methodLink RL 74 yX11_answerTo ∈ k_TT ∧ Cond.instanceMethod yX11_answerTo ∈ k_TT ∧ Cond.selects RX11 yX11_answerTo yX11_answerTo ∈ k_TT := ⟨k_tt (k_s4 154 (by decide +kernel)) rfl, k_tt (k_s4 155 (by decide +kernel)) rfl, k_tt (k_s4 156 (by decide +kernel)) rfl⟩
theorem g_l77 : Cond.methodLink RL 77 yX12_answerTo ∈ k_TT ∧ Cond.instanceMethod yX12_answerTo ∈ k_TT ∧ Cond.selects RX12 yX12_answerTo yX12_answerTo ∈ k_TT := ⟨k_tt (k_s8 192 (by decide +kernel)) rfl, k_tt (k_s8 193 (by decide +kernel)) rfl, k_tt (k_s8 194 (by decide +kernel)) rfl⟩
theorem g_l78 : Cond.methodLink RL 78 yX11_mean ∈ k_TT ∧ Cond.instanceMethod yX11_mean ∈ k_TT ∧ Cond.selects RX11 yX11_mean yX11_mean ∈ k_TT := ⟨k_tt (k_s4 158 (by decide +kernel)) rfl, k_tt (k_s4 159 (by decide +kernel)) rfl, k_tt (k_s4 160 (by decide +kernel)) rfl⟩
theorem g_l81 : Cond.methodLink RL 81 yX12_mean ∈ k_TT ∧ Cond.instanceMethod yX12_mean ∈ k_TT ∧ Cond.selects RX12 yX12_mean yX12_mean ∈ k_TT := ⟨k_tt (k_s8 153 (by decide +kernel)) rfl, k_tt (k_s8 154 (by decide +kernel)) rfl, k_tt (k_s8 155 (by decide +kernel)) rfl⟩
theorem g_l82 : Cond.methodLink RL 82 yX11_tongue ∈ k_TT ∧ Cond.instanceMethod yX11_tongue ∈ k_TT ∧ Cond.selects RX11 yX11_tongue yX11_tongue ∈ k_TT := ⟨k_tt (k_s4 189 (by decide +kernel)) rfl, k_tt (k_s4 190 (by decide +kernel)) rfl, k_tt (k_s4 191 (by decide +kernel)) rfl⟩
theorem g_l85 : Cond.methodLink RL 85 yX12_tongue ∈ k_TT ∧ Cond.instanceMethod yX12_tongue ∈ k_TT ∧ Cond.selects RX12 yX12_tongue yX12_tongue ∈ k_TT := ⟨k_tt (k_s8 196 (by decide +kernel)) rfl, k_tt (k_s8 197 (by decide +kernel)) rfl, k_tt (k_s8 198 (by decide +kernel)) rfl⟩
theorem g_l86 : Cond.methodLink RL 86 yX11_sense ∈ k_TT ∧ Cond.instanceMethod yX11_sense ∈ k_TT ∧ Cond.selects RX11 yX11_sense yX11_sense ∈ k_TT := ⟨k_tt (k_s4 230 (by decide +kernel)) rfl, k_tt (k_s4 231 (by decide +kernel)) rfl, k_tt (k_s4 232 (by decide +kernel)) rfl⟩
theorem g_l90 : Cond.methodLink RL 90 yX12_sense ∈ k_TT ∧ Cond.instanceMethod yX12_sense ∈ k_TT ∧ Cond.selects RX12 yX12_sense yX12_sense ∈ k_TT := ⟨k_tt (k_s8 215 (by decide +kernel)) rfl, k_tt (k_s8 216 (by decide +kernel)) rfl, k_tt (k_s8 217 (by decide +kernel)) rfl⟩
theorem g_l91 : Cond.methodLink RL 91 yX11_settled ∈ k_TT ∧ Cond.instanceMethod yX11_settled ∈ k_TT ∧ Cond.selects RX11 yX11_settled yX11_settled ∈ k_TT := ⟨k_tt (k_s4 238 (by decide +kernel)) rfl, k_tt (k_s4 239 (by decide +kernel)) rfl, k_tt (k_s5 0 (by decide +kernel)) rfl⟩
theorem g_l94 : Cond.methodLink RL 94 yX12_settled ∈ k_TT ∧ Cond.instanceMethod yX12_settled ∈ k_TT ∧ Cond.selects RX12 yX12_settled yX12_settled ∈ k_TT := ⟨k_tt (k_s8 219 (by decide +kernel)) rfl, k_tt (k_s8 220 (by decide +kernel)) rfl, k_tt (k_s8 221 (by decide +kernel)) rfl⟩
theorem g_l95 : Cond.methodLink RL 95 yX11_worst ∈ k_TT ∧ Cond.instanceMethod yX11_worst ∈ k_TT ∧ Cond.selects RX11 yX11_worst yX11_worst ∈ k_TT := ⟨k_tt (k_s5 31 (by decide +kernel)) rfl, k_tt (k_s5 32 (by decide +kernel)) rfl, k_tt (k_s5 33 (by decide +kernel)) rfl⟩
theorem g_l98 : Cond.methodLink RL 98 yX12_worst ∈ k_TT ∧ Cond.instanceMethod yX12_worst ∈ k_TT ∧ Cond.selects RX12 yX12_worst yX12_worst ∈ k_TT := ⟨k_tt (k_s8 227 (by decide +kernel)) rfl, k_tt (k_s8 228 (by decide +kernel)) rfl, k_tt (k_s8 229 (by decide +kernel)) rfl⟩
theorem g_l99 : Cond.methodLink RL 99 yX11_code ∈ k_TT ∧ Cond.instanceMethod yX11_code ∈ k_TT ∧ Cond.selects RX11 yX11_code yX11_code ∈ k_TT := ⟨k_tt (k_s5 36 (by decide +kernel)) rfl, k_tt (k_s5 37 (by decide +kernel)) rfl, k_tt (k_s5 38 (by decide +kernel)) rfl⟩
theorem g_l103 : Cond.methodLink RL 103 yX12_code ∈ k_TT ∧ Cond.instanceMethod yX12_code ∈ k_TT ∧ Cond.selects RX12 yX12_code yX12_code ∈ k_TT := ⟨k_tt (k_s8 231 (by decide +kernel)) rfl, k_tt (k_s8 232 (by decide +kernel)) rfl, k_tt (k_s8 233 (by decide +kernel)) rfl⟩
theorem g_l104 : Cond.methodLink RL 104 yX11_shelve ∈ k_TT ∧ Cond.instanceMethod yX11_shelve ∈ k_TT ∧ Cond.selects RX11 yX11_shelve yX11_shelve ∈ k_TT := ⟨k_tt (k_s5 80 (by decide +kernel)) rfl, k_tt (k_s5 81 (by decide +kernel)) rfl, k_tt (k_s5 82 (by decide +kernel)) rfl⟩
theorem g_l108 : Cond.methodLink RL 108 yX12_shelve ∈ k_TT ∧ Cond.instanceMethod yX12_shelve ∈ k_TT ∧ Cond.selects RX12 yX12_shelve yX12_shelve ∈ k_TT := ⟨k_tt (k_s9 0 (by decide +kernel)) rfl, k_tt (k_s9 1 (by decide +kernel)) rfl, k_tt (k_s9 2 (by decide +kernel)) rfl⟩
theorem g_l109 : Cond.methodLink RL 109 yX11_fit ∈ k_TT ∧ Cond.instanceMethod yX11_fit ∈ k_TT ∧ Cond.selects RX11 yX11_fit yX11_fit ∈ k_TT := ⟨k_tt (k_s5 87 (by decide +kernel)) rfl, k_tt (k_s5 88 (by decide +kernel)) rfl, k_tt (k_s5 89 (by decide +kernel)) rfl⟩
theorem g_l112 : Cond.methodLink RL 112 yX12_fit ∈ k_TT ∧ Cond.instanceMethod yX12_fit ∈ k_TT ∧ Cond.selects RX12 yX12_fit yX12_fit ∈ k_TT := ⟨k_tt (k_s9 4 (by decide +kernel)) rfl, k_tt (k_s9 5 (by decide +kernel)) rfl, k_tt (k_s9 6 (by decide +kernel)) rfl⟩
theorem g_l113 : Cond.methodLink RL 113 yX11_pair ∈ k_TT ∧ Cond.instanceMethod yX11_pair ∈ k_TT ∧ Cond.selects RX11 yX11_pair yX11_pair ∈ k_TT := ⟨k_tt (k_s5 100 (by decide +kernel)) rfl, k_tt (k_s5 101 (by decide +kernel)) rfl, k_tt (k_s5 102 (by decide +kernel)) rfl⟩
theorem g_l116 : Cond.methodLink RL 116 yX12_pair ∈ k_TT ∧ Cond.instanceMethod yX12_pair ∈ k_TT ∧ Cond.selects RX12 yX12_pair yX12_pair ∈ k_TT := ⟨k_tt (k_s9 16 (by decide +kernel)) rfl, k_tt (k_s9 17 (by decide +kernel)) rfl, k_tt (k_s9 18 (by decide +kernel)) rfl⟩
theorem g_l117 : Cond.methodLink RL 117 yX11_see ∈ k_TT ∧ Cond.instanceMethod yX11_see ∈ k_TT ∧ Cond.selects RX11 yX11_see yX11_see ∈ k_TT := ⟨k_tt (k_s5 190 (by decide +kernel)) rfl, k_tt (k_s5 191 (by decide +kernel)) rfl, k_tt (k_s5 192 (by decide +kernel)) rfl⟩
theorem g_l120 : Cond.methodLink RL 120 yX12_see ∈ k_TT ∧ Cond.instanceMethod yX12_see ∈ k_TT ∧ Cond.selects RX12 yX12_see yX12_see ∈ k_TT := ⟨k_tt (k_s9 157 (by decide +kernel)) rfl, k_tt (k_s9 158 (by decide +kernel)) rfl, k_tt (k_s9 159 (by decide +kernel)) rfl⟩
theorem g_l121 : Cond.methodLink RL 121 yX11_meant ∈ k_TT ∧ Cond.instanceMethod yX11_meant ∈ k_TT ∧ Cond.selects RX11 yX11_meant yX11_meant ∈ k_TT := ⟨k_tt (k_s5 194 (by decide +kernel)) rfl, k_tt (k_s5 195 (by decide +kernel)) rfl, k_tt (k_s5 196 (by decide +kernel)) rfl⟩
theorem g_l124 : Cond.methodLink RL 124 yX12_meant ∈ k_TT ∧ Cond.instanceMethod yX12_meant ∈ k_TT ∧ Cond.selects RX12 yX12_meant yX12_meant ∈ k_TT := ⟨k_tt (k_s9 161 (by decide +kernel)) rfl, k_tt (k_s9 162 (by decide +kernel)) rfl, k_tt (k_s9 163 (by decide +kernel)) rfl⟩
theorem g_l127 : Cond.methodLink RL 127 yX11_seed ∈ k_TT ∧ Cond.instanceMethod yX11_seed ∈ k_TT ∧ Cond.selects RX11 yX11_seed yX11_seed ∈ k_TT := ⟨k_tt (k_s5 204 (by decide +kernel)) rfl, k_tt (k_s5 205 (by decide +kernel)) rfl, k_tt (k_s5 206 (by decide +kernel)) rfl⟩
theorem g_l131 : Cond.methodLink RL 131 yX12_seed ∈ k_TT ∧ Cond.instanceMethod yX12_seed ∈ k_TT ∧ Cond.selects RX12 yX12_seed yX12_seed ∈ k_TT := ⟨k_tt (k_s9 169 (by decide +kernel)) rfl, k_tt (k_s9 170 (by decide +kernel)) rfl, k_tt (k_s9 171 (by decide +kernel)) rfl⟩
theorem g_l132 : Cond.methodLink RL 132 yX11_day ∈ k_TT ∧ Cond.instanceMethod yX11_day ∈ k_TT ∧ Cond.selects RX11 yX11_day yX11_day ∈ k_TT := ⟨k_tt (k_s5 208 (by decide +kernel)) rfl, k_tt (k_s5 209 (by decide +kernel)) rfl, k_tt (k_s5 210 (by decide +kernel)) rfl⟩
theorem g_l135 : Cond.methodLink RL 135 yX12_day ∈ k_TT ∧ Cond.instanceMethod yX12_day ∈ k_TT ∧ Cond.selects RX12 yX12_day yX12_day ∈ k_TT := ⟨k_tt (k_s9 173 (by decide +kernel)) rfl, k_tt (k_s9 174 (by decide +kernel)) rfl, k_tt (k_s9 175 (by decide +kernel)) rfl⟩
theorem g_l136 : Cond.methodLink RL 136 yX11_was ∈ k_TT ∧ Cond.instanceMethod yX11_was ∈ k_TT ∧ Cond.selects RX11 yX11_was yX11_was ∈ k_TT := ⟨k_tt (k_s5 232 (by decide +kernel)) rfl, k_tt (k_s5 233 (by decide +kernel)) rfl, k_tt (k_s5 234 (by decide +kernel)) rfl⟩
theorem g_l139 : Cond.methodLink RL 139 yX12_was ∈ k_TT ∧ Cond.instanceMethod yX12_was ∈ k_TT ∧ Cond.selects RX12 yX12_was yX12_was ∈ k_TT := ⟨k_tt (k_s9 183 (by decide +kernel)) rfl, k_tt (k_s9 184 (by decide +kernel)) rfl, k_tt (k_s9 185 (by decide +kernel)) rfl⟩
theorem g_l140 : Cond.methodLink RL 140 yX11_undo ∈ k_TT ∧ Cond.instanceMethod yX11_undo ∈ k_TT ∧ Cond.selects RX11 yX11_undo yX11_undo ∈ k_TT := ⟨k_tt (k_s6 8 (by decide +kernel)) rfl, k_tt (k_s6 9 (by decide +kernel)) rfl, k_tt (k_s6 10 (by decide +kernel)) rfl⟩
theorem g_l143 : Cond.methodLink RL 143 yX12_undo ∈ k_TT ∧ Cond.instanceMethod yX12_undo ∈ k_TT ∧ Cond.selects RX12 yX12_undo yX12_undo ∈ k_TT := ⟨k_tt (k_s9 187 (by decide +kernel)) rfl, k_tt (k_s9 188 (by decide +kernel)) rfl, k_tt (k_s9 189 (by decide +kernel)) rfl⟩
theorem g_l144 : Cond.methodLink RL 144 yX11_wet ∈ k_TT ∧ Cond.instanceMethod yX11_wet ∈ k_TT ∧ Cond.selects RX11 yX11_wet yX11_wet ∈ k_TT := ⟨k_tt (k_s4 120 (by decide +kernel)) rfl, k_tt (k_s4 121 (by decide +kernel)) rfl, k_tt (k_s4 122 (by decide +kernel)) rfl⟩
theorem g_l147 : Cond.methodLink RL 147 yX12_wet ∈ k_TT ∧ Cond.instanceMethod yX12_wet ∈ k_TT ∧ Cond.selects RX12 yX12_wet yX12_wet ∈ k_TT := ⟨k_tt (k_s9 153 (by decide +kernel)) rfl, k_tt (k_s9 154 (by decide +kernel)) rfl, k_tt (k_s9 155 (by decide +kernel)) rfl⟩
theorem g_l148 : Cond.methodLink RL 148 yX11_lone ∈ k_TT ∧ Cond.instanceMethod yX11_lone ∈ k_TT ∧ Cond.selects RX11 yX11_lone yX11_lone ∈ k_TT := ⟨k_tt (k_s6 48 (by decide +kernel)) rfl, k_tt (k_s6 49 (by decide +kernel)) rfl, k_tt (k_s6 50 (by decide +kernel)) rfl⟩
theorem g_l151 : Cond.methodLink RL 151 yX12_lone ∈ k_TT ∧ Cond.instanceMethod yX12_lone ∈ k_TT ∧ Cond.selects RX12 yX12_lone yX12_lone ∈ k_TT := ⟨k_tt (k_s9 24 (by decide +kernel)) rfl, k_tt (k_s9 25 (by decide +kernel)) rfl, k_tt (k_s9 26 (by decide +kernel)) rfl⟩
theorem g_l152 : Cond.methodLink RL 152 yX11_alone ∈ k_TT ∧ Cond.instanceMethod yX11_alone ∈ k_TT ∧ Cond.selects RX11 yX11_alone yX11_alone ∈ k_TT := ⟨k_tt (k_s6 64 (by decide +kernel)) rfl, k_tt (k_s6 65 (by decide +kernel)) rfl, k_tt (k_s6 66 (by decide +kernel)) rfl⟩
theorem g_l155 : Cond.methodLink RL 155 yX12_alone ∈ k_TT ∧ Cond.instanceMethod yX12_alone ∈ k_TT ∧ Cond.selects RX12 yX12_alone yX12_alone ∈ k_TT := ⟨k_tt (k_s9 39 (by decide +kernel)) rfl, k_tt (k_s9 40 (by decide +kernel)) rfl, k_tt (k_s9 41 (by decide +kernel)) rfl⟩
theorem g_l156 : Cond.methodLink RL 156 yX11_knots ∈ k_TT ∧ Cond.instanceMethod yX11_knots ∈ k_TT ∧ Cond.selects RX11 yX11_knots yX11_knots ∈ k_TT := ⟨k_tt (k_s6 69 (by decide +kernel)) rfl, k_tt (k_s6 70 (by decide +kernel)) rfl, k_tt (k_s6 71 (by decide +kernel)) rfl⟩
theorem g_l160 : Cond.methodLink RL 160 yX12_knots ∈ k_TT ∧ Cond.instanceMethod yX12_knots ∈ k_TT ∧ Cond.selects RX12 yX12_knots yX12_knots ∈ k_TT := ⟨k_tt (k_s9 43 (by decide +kernel)) rfl, k_tt (k_s9 44 (by decide +kernel)) rfl, k_tt (k_s9 45 (by decide +kernel)) rfl⟩
theorem g_l161 : Cond.methodLink RL 161 yX11_bestKnots ∈ k_TT ∧ Cond.instanceMethod yX11_bestKnots ∈ k_TT ∧ Cond.selects RX11 yX11_bestKnots yX11_bestKnots ∈ k_TT := ⟨k_tt (k_s6 87 (by decide +kernel)) rfl, k_tt (k_s6 88 (by decide +kernel)) rfl, k_tt (k_s6 89 (by decide +kernel)) rfl⟩
theorem g_l165 : Cond.methodLink RL 165 yX12_bestKnots ∈ k_TT ∧ Cond.instanceMethod yX12_bestKnots ∈ k_TT ∧ Cond.selects RX12 yX12_bestKnots yX12_bestKnots ∈ k_TT := ⟨k_tt (k_s9 67 (by decide +kernel)) rfl, k_tt (k_s9 68 (by decide +kernel)) rfl, k_tt (k_s9 69 (by decide +kernel)) rfl⟩
theorem g_l166 : Cond.methodLink RL 166 yX11_weather ∈ k_TT ∧ Cond.instanceMethod yX11_weather ∈ k_TT ∧ Cond.selects RX11 yX11_weather yX11_weather ∈ k_TT := ⟨k_tt (k_s6 95 (by decide +kernel)) rfl, k_tt (k_s6 96 (by decide +kernel)) rfl, k_tt (k_s6 97 (by decide +kernel)) rfl⟩
theorem g_l169 : Cond.methodLink RL 169 yX12_weather ∈ k_TT ∧ Cond.instanceMethod yX12_weather ∈ k_TT ∧ Cond.selects RX12 yX12_weather yX12_weather ∈ k_TT := ⟨k_tt (k_s9 71 (by decide +kernel)) rfl, k_tt (k_s9 72 (by decide +kernel)) rfl, k_tt (k_s9 73 (by decide +kernel)) rfl⟩
theorem g_l170 : Cond.methodLink RL 170 yX11_skill ∈ k_TT ∧ Cond.instanceMethod yX11_skill ∈ k_TT ∧ Cond.selects RX11 yX11_skill yX11_skill ∈ k_TT := ⟨k_tt (k_s6 105 (by decide +kernel)) rfl, k_tt (k_s6 106 (by decide +kernel)) rfl, k_tt (k_s6 107 (by decide +kernel)) rfl⟩
theorem g_l173 : Cond.methodLink RL 173 yX12_skill ∈ k_TT ∧ Cond.instanceMethod yX12_skill ∈ k_TT ∧ Cond.selects RX12 yX12_skill yX12_skill ∈ k_TT := ⟨k_tt (k_s9 75 (by decide +kernel)) rfl, k_tt (k_s9 76 (by decide +kernel)) rfl, k_tt (k_s9 77 (by decide +kernel)) rfl⟩
theorem g_l174 : Cond.methodLink RL 174 yX11_cases ∈ k_TT ∧ Cond.instanceMethod yX11_cases ∈ k_TT ∧ Cond.selects RX11 yX11_cases yX11_cases ∈ k_TT := ⟨k_tt (k_s6 110 (by decide +kernel)) rfl, k_tt (k_s6 111 (by decide +kernel)) rfl, k_tt (k_s6 112 (by decide +kernel)) rfl⟩
theorem g_l177 : Cond.methodLink RL 177 yX12_cases ∈ k_TT ∧ Cond.instanceMethod yX12_cases ∈ k_TT ∧ Cond.selects RX12 yX12_cases yX12_cases ∈ k_TT := ⟨k_tt (k_s9 84 (by decide +kernel)) rfl, k_tt (k_s9 85 (by decide +kernel)) rfl, k_tt (k_s9 86 (by decide +kernel)) rfl⟩
theorem g_l178 : Cond.methodLink RL 178 yX11_mixed ∈ k_TT ∧ Cond.instanceMethod yX11_mixed ∈ k_TT ∧ Cond.selects RX11 yX11_mixed yX11_mixed ∈ k_TT := ⟨k_tt (k_s6 115 (by decide +kernel)) rfl, k_tt (k_s6 116 (by decide +kernel)) rfl, k_tt (k_s6 117 (by decide +kernel)) rfl⟩
theorem g_l181 : Cond.methodLink RL 181 yX12_mixed ∈ k_TT ∧ Cond.instanceMethod yX12_mixed ∈ k_TT ∧ Cond.selects RX12 yX12_mixed yX12_mixed ∈ k_TT := ⟨k_tt (k_s9 88 (by decide +kernel)) rfl, k_tt (k_s9 89 (by decide +kernel)) rfl, k_tt (k_s9 90 (by decide +kernel)) rfl⟩
theorem g_l182 : Cond.methodLink RL 182 yX11_crossed ∈ k_TT ∧ Cond.instanceMethod yX11_crossed ∈ k_TT ∧ Cond.selects RX11 yX11_crossed yX11_crossed ∈ k_TT := ⟨k_tt (k_s5 148 (by decide +kernel)) rfl, k_tt (k_s5 149 (by decide +kernel)) rfl, k_tt (k_s5 150 (by decide +kernel)) rfl⟩
theorem g_l185 : Cond.methodLink RL 185 yX12_crossed ∈ k_TT ∧ Cond.instanceMethod yX12_crossed ∈ k_TT ∧ Cond.selects RX12 yX12_crossed yX12_crossed ∈ k_TT := ⟨k_tt (k_s9 92 (by decide +kernel)) rfl, k_tt (k_s9 93 (by decide +kernel)) rfl, k_tt (k_s9 94 (by decide +kernel)) rfl⟩
theorem g_l186 : Cond.methodLink RL 186 yX11_rests ∈ k_TT ∧ Cond.instanceMethod yX11_rests ∈ k_TT ∧ Cond.selects RX11 yX11_rests yX11_rests ∈ k_TT := ⟨k_tt (k_s5 173 (by decide +kernel)) rfl, k_tt (k_s5 174 (by decide +kernel)) rfl, k_tt (k_s5 175 (by decide +kernel)) rfl⟩
theorem g_l189 : Cond.methodLink RL 189 yX12_rests ∈ k_TT ∧ Cond.instanceMethod yX12_rests ∈ k_TT ∧ Cond.selects RX12 yX12_rests yX12_rests ∈ k_TT := ⟨k_tt (k_s9 108 (by decide +kernel)) rfl, k_tt (k_s9 109 (by decide +kernel)) rfl, k_tt (k_s9 110 (by decide +kernel)) rfl⟩
theorem g_l190 : Cond.methodLink RL 190 yX11_leavers ∈ k_TT ∧ Cond.instanceMethod yX11_leavers ∈ k_TT ∧ Cond.selects RX11 yX11_leavers yX11_leavers ∈ k_TT := ⟨k_tt (k_s5 123 (by decide +kernel)) rfl, k_tt (k_s5 124 (by decide +kernel)) rfl, k_tt (k_s5 125 (by decide +kernel)) rfl⟩
theorem g_l193 : Cond.methodLink RL 193 yX12_leavers ∈ k_TT ∧ Cond.instanceMethod yX12_leavers ∈ k_TT ∧ Cond.selects RX12 yX12_leavers yX12_leavers ∈ k_TT := ⟨k_tt (k_s9 120 (by decide +kernel)) rfl, k_tt (k_s9 121 (by decide +kernel)) rfl, k_tt (k_s9 122 (by decide +kernel)) rfl⟩
theorem g_l194 : Cond.methodLink RL 194 yX11_read ∈ k_TT ∧ Cond.instanceMethod yX11_read ∈ k_TT ∧ Cond.selects RX11 yX11_read yX11_read ∈ k_TT := ⟨k_tt (k_s5 63 (by decide +kernel)) rfl, k_tt (k_s5 64 (by decide +kernel)) rfl, k_tt (k_s5 65 (by decide +kernel)) rfl⟩
theorem g_l197 : Cond.methodLink RL 197 yX12_read ∈ k_TT ∧ Cond.instanceMethod yX12_read ∈ k_TT ∧ Cond.selects RX12 yX12_read yX12_read ∈ k_TT := ⟨k_tt (k_s9 128 (by decide +kernel)) rfl, k_tt (k_s9 129 (by decide +kernel)) rfl, k_tt (k_s9 130 (by decide +kernel)) rfl⟩
theorem g_l198 : Cond.methodLink RL 198 yX11_spread ∈ k_TT ∧ Cond.instanceMethod yX11_spread ∈ k_TT ∧ Cond.selects RX11 yX11_spread yX11_spread ∈ k_TT := ⟨k_tt (k_s5 71 (by decide +kernel)) rfl, k_tt (k_s5 72 (by decide +kernel)) rfl, k_tt (k_s5 73 (by decide +kernel)) rfl⟩
theorem g_l201 : Cond.methodLink RL 201 yX12_spread ∈ k_TT ∧ Cond.instanceMethod yX12_spread ∈ k_TT ∧ Cond.selects RX12 yX12_spread yX12_spread ∈ k_TT := ⟨k_tt (k_s9 133 (by decide +kernel)) rfl, k_tt (k_s9 134 (by decide +kernel)) rfl, k_tt (k_s9 135 (by decide +kernel)) rfl⟩
theorem g_l202 : Cond.methodLink RL 202 yX11_hoard ∈ k_TT ∧ Cond.instanceMethod yX11_hoard ∈ k_TT ∧ Cond.selects RX11 yX11_hoard yX11_hoard ∈ k_TT := ⟨k_tt (k_s6 16 (by decide +kernel)) rfl, k_tt (k_s6 17 (by decide +kernel)) rfl, k_tt (k_s6 18 (by decide +kernel)) rfl⟩
theorem g_l205 : Cond.methodLink RL 205 yX12_hoard ∈ k_TT ∧ Cond.instanceMethod yX12_hoard ∈ k_TT ∧ Cond.selects RX12 yX12_hoard yX12_hoard ∈ k_TT := ⟨k_tt (k_s9 137 (by decide +kernel)) rfl, k_tt (k_s9 138 (by decide +kernel)) rfl, k_tt (k_s9 139 (by decide +kernel)) rfl⟩
theorem g_l206 : Cond.methodLink RL 206 yX11_said ∈ k_TT ∧ Cond.instanceMethod yX11_said ∈ k_TT ∧ Cond.selects RX11 yX11_said yX11_said ∈ k_TT := ⟨k_tt (k_s6 20 (by decide +kernel)) rfl, k_tt (k_s6 21 (by decide +kernel)) rfl, k_tt (k_s6 22 (by decide +kernel)) rfl⟩
theorem g_l209 : Cond.methodLink RL 209 yX12_said ∈ k_TT ∧ Cond.instanceMethod yX12_said ∈ k_TT ∧ Cond.selects RX12 yX12_said yX12_said ∈ k_TT := ⟨k_tt (k_s9 141 (by decide +kernel)) rfl, k_tt (k_s9 142 (by decide +kernel)) rfl, k_tt (k_s9 143 (by decide +kernel)) rfl⟩
theorem g_l210 : Cond.methodLink RL 210 yX11_run ∈ k_TT ∧ Cond.instanceMethod yX11_run ∈ k_TT ∧ Cond.selects RX11 yX11_run yX11_run ∈ k_TT := ⟨k_tt (k_s6 25 (by decide +kernel)) rfl, k_tt (k_s6 26 (by decide +kernel)) rfl, k_tt (k_s6 27 (by decide +kernel)) rfl⟩
theorem g_l213 : Cond.methodLink RL 213 yX12_run ∈ k_TT ∧ Cond.instanceMethod yX12_run ∈ k_TT ∧ Cond.selects RX12 yX12_run yX12_run ∈ k_TT := ⟨k_tt (k_s9 145 (by decide +kernel)) rfl, k_tt (k_s9 146 (by decide +kernel)) rfl, k_tt (k_s9 147 (by decide +kernel)) rfl⟩
theorem g_l214 : Cond.methodLink RL 214 yX11_copy ∈ k_TT ∧ Cond.instanceMethod yX11_copy ∈ k_TT ∧ Cond.selects RX11 yX11_copy yX11_copy ∈ k_TT := ⟨k_tt (k_s6 30 (by decide +kernel)) rfl, k_tt (k_s6 31 (by decide +kernel)) rfl, k_tt (k_s6 32 (by decide +kernel)) rfl⟩
theorem g_l217 : Cond.methodLink RL 217 yX12_copy ∈ k_TT ∧ Cond.instanceMethod yX12_copy ∈ k_TT ∧ Cond.selects RX12 yX12_copy yX12_copy ∈ k_TT := ⟨k_tt (k_s9 149 (by decide +kernel)) rfl, k_tt (k_s9 150 (by decide +kernel)) rfl, k_tt (k_s9 151 (by decide +kernel)) rfl⟩
theorem g_l218 : Cond.methodLink RL 218 yX11_image ∈ k_TT ∧ Cond.instanceMethod yX11_image ∈ k_TT ∧ Cond.selects RX11 yX11_image yX11_image ∈ k_TT := ⟨k_tt (k_s6 34 (by decide +kernel)) rfl, k_tt (k_s6 35 (by decide +kernel)) rfl, k_tt (k_s6 36 (by decide +kernel)) rfl⟩
theorem g_l221 : Cond.methodLink RL 221 yX12_image ∈ k_TT ∧ Cond.instanceMethod yX12_image ∈ k_TT ∧ Cond.selects RX12 yX12_image yX12_image ∈ k_TT := ⟨k_tt (k_s9 191 (by decide +kernel)) rfl, k_tt (k_s9 192 (by decide +kernel)) rfl, k_tt (k_s9 193 (by decide +kernel)) rfl⟩
theorem g_l222 : Cond.methodLink RL 222 yX11_back ∈ k_TT ∧ Cond.instanceMethod yX11_back ∈ k_TT ∧ Cond.selects RX11 yX11_back yX11_back ∈ k_TT := ⟨k_tt (k_s6 44 (by decide +kernel)) rfl, k_tt (k_s6 45 (by decide +kernel)) rfl, k_tt (k_s6 46 (by decide +kernel)) rfl⟩
theorem g_l225 : Cond.methodLink RL 225 yX12_back ∈ k_TT ∧ Cond.instanceMethod yX12_back ∈ k_TT ∧ Cond.selects RX12 yX12_back yX12_back ∈ k_TT := ⟨k_tt (k_s9 195 (by decide +kernel)) rfl, k_tt (k_s9 196 (by decide +kernel)) rfl, k_tt (k_s9 197 (by decide +kernel)) rfl⟩
theorem g_l226 : Cond.methodLink RL 226 yX11_count ∈ k_TT ∧ Cond.instanceMethod yX11_count ∈ k_TT ∧ Cond.selects RX11 yX11_count yX11_count ∈ k_TT := ⟨k_tt (k_s6 123 (by decide +kernel)) rfl, k_tt (k_s6 124 (by decide +kernel)) rfl, k_tt (k_s6 125 (by decide +kernel)) rfl⟩
theorem g_l229 : Cond.methodLink RL 229 yX12_count ∈ k_TT ∧ Cond.instanceMethod yX12_count ∈ k_TT ∧ Cond.selects RX12 yX12_count yX12_count ∈ k_TT := ⟨k_tt (k_s9 199 (by decide +kernel)) rfl, k_tt (k_s9 200 (by decide +kernel)) rfl, k_tt (k_s9 201 (by decide +kernel)) rfl⟩
theorem g_c125 : Cond.constantLong RL 125 (4294967295) ∈ k_TT := k_tt (k_s9 207 (by decide +kernel)) rfl
def g_b (x : Int32) : Int32 := if x = 0 then 0 else 1
theorem g_b01 (x : Int32) : g_b x = 0 ∨ g_b x = 1 := by
  unfold g_b
  by_cases h : x = 0
  · rw [if_pos h]; exact Or.inl rfl
  · rw [if_neg h]; exact Or.inr rfl
theorem g_cmp (x : Int64) : lg_cmp x x = 0 := by
  unfold lg_cmp
  rw [if_neg (show ¬ x > x from Int64.lt_irrefl), if_pos rfl]
/-- what stays while the law runs -/
def g_St (p : Program) (l : Launch) (s : State) (m : MethodId) (meth : Method) (c : Code) (b L : Nat) (xs : Nat → Int32) (wX wM : k_WC) (ao : Nat) : Prop :=
  (p.tables.exec = Jvm.exec ∧ c.code = code ∧ meth.sig.returnType = ret ∧ c.maxLocals = 7 ∧ s.vm.findClass RL = some m.cls) ∧ (∀ w ∈ k_TT, w.before #[Value.ref b] s = true) ∧ (va_X b L xs s s.heap ∧ b < s.heap.size ∧ meth.locks = false ∧ l.stackTraces = false ∧ L ≤ 3072) ∧ ((∀ q, (k_PX wX).2.2.1 q → ¬ (k_PM wM).2.2.1 q ∧ q ≠ ao ∧ s.heap.size ≤ q) ∧ (∀ q, (k_PM wM).2.2.1 q → ¬ (k_PX wX).2.2.1 q ∧ q ≠ ao ∧ s.heap.size ≤ q) ∧ s.heap.size ≤ ao) ∧ (∀ w ∈ g_DN, va_Nw w s) ∧ g_Ex (k_PX wX).2.2.1 s s.heap
def g_O (wX : k_WC) (ao : Nat) (fo : Nat → Int64) (H : Heap) : Prop := va_P (k_PX wX).1 vwCl [(ao, .inl (wX.2.2.2.1, 1, .inr (.inl fo)))] H
def g_Dy (s : State) (wX wM : k_WC) (ao : Nat) (σX σM : k_St) (fo : Nat → Int64) (H : Heap) : Prop := g_H (k_PX wX) σX s H ∧ g_H (k_PM wM) σM s H ∧ g_O wX ao fo H
abbrev g_A (s : State) : Nat → Prop := fun q => s.heap.size ≤ q
abbrev g_L (b i ao : Nat) (wX wM : k_WC) : List (Nat × Value) := [(0, .ref b), (1, .ref (wX.2.1 0)), (2, .ref (wM.2.1 0)), (3, .ref ao), (4, .int (nI i))]
theorem g_keep1 {D : va_G} {cl : List vw_C} {ws : va_W} {H H1 : Heap} (h : va_P D cl ws H) (hk : ∀ (k : Nat) (q : Nat × va_E), ws[k]? = some q → H1[q.1]? = H[q.1]?) : va_P D cl ws H1 := va_P.kept h hk
theorem g_H.keep {P : k_WP} {σ : k_St} {s : State} {H H1 : Heap} (h : g_H P σ s H) (A : Nat → Prop) (hz : s.heap.size ≤ H.size) (hk : ∀ q : Nat, q < H.size → ¬ A q → H1[q]? = H[q]?) (hA : ∀ q, A q → ¬ P.2.2.1 q ∧ s.heap.size ≤ q) : g_H P σ s H1 := ⟨va_P.kept h.1 (fun k x hx => hk x.1 (h.1 k x hx).lt (fun ha => (hA _ ha).1 ((h.2.2.1 σ).2 k x hx))), h.2.1, h.2.2.1, h.2.2.2.1, h.2.2.2.2.1, h.2.2.2.2.2.1, fun q hq hn => (hk q (Nat.lt_of_lt_of_le hq hz) (fun ha => absurd (hA q ha).2 (Nat.not_le.mpr hq))).trans (h.2.2.2.2.2.2 q hq hn)⟩
theorem g_O.keep {wX : k_WC} {ao : Nat} {fo : Nat → Int64} {H H1 : Heap} (h : g_O wX ao fo H) (A : Nat → Prop) (hk : ∀ q : Nat, q < H.size → ¬ A q → H1[q]? = H[q]?) (hA : ¬ A ao) : g_O wX ao fo H1 := va_P.kept h (fun k x hx => by
  have hlt := (h k x hx).lt
  have h1 : k = 0 := by
    have := (List.getElem?_eq_some_iff.mp hx).1
    simp at this
    exact this
  subst h1
  cases hx
  exact hk ao hlt hA)
section GL
variable {p : Program} {l : Launch} {e : Env} {s : State} {m : MethodId} {below : List Frame} {meth : Method} {c : Code} {b L i : Nat} {xs : Nat → Int32} {wX wM : k_WC} {ao : Nat} {σX σM σ' : k_St} {fo : Nat → Int64} {H : Heap} {locs : List Loc} {cells slots pc : Nat} {Q : State → Prop} {ls : Array Slot} {st rest : List Value} {y : MethodName} {yb : ByteArray} {ml d2 idx : Nat} {As : List Value} {lv : List (Nat × Value)}
/-- script[i + k] -/
theorem g_ld (hs : g_St p l s m meth c b L xs wX wM ao) (hS : va_S (g_A s) s.heap H locs) {k : Nat} (d0 : decode code pc = .ok (.aload_n 0, 1)) (d1 : decode code (pc + 1) = .ok (.iload 4, 2)) (d3 : decode code (pc + 3) = .ok (.iconst (k : Int), 1)) (d4 : decode code (pc + 4) = .ok (.iadd, 1)) (d5 : decode code (pc + 5) = .ok (.iaload, 1)) (hl : lv_has ls 7 lv) (h0 : lv[0]? = some (0, .ref b)) (h4 : lv[4]? = some (4, .int (nI i))) (hk : i + k < L)
    (kk : W p l e room_1 s m #[Value.ref b] below meth c H locs cells slots Q (F0 m (pc + 6) ls (.int (xs (i + k)) :: st))) : W p l e room_1 s m #[Value.ref b] below meth c H locs cells slots Q (F0 m pc ls st) := by
  obtain ⟨⟨hx, hb, hr, hml, hown⟩, hT, ⟨hX, hbl, hlocks, hfl, hL⟩, -, -, -⟩ := hs
  refine lv_aload_n hx hb d0 rfl (lv_at hl 0 h0) ?_
  refine lv_iload hx hb d1 (lv_at hl 4 h4) ?_
  refine lv_iconst (v := nI k) hx hb d3 Int32.ofInt_eq_ofNat ?_
  refine lv_iadd hx hb d4 ?_
  refine lv_topi (fun z ez => ?_)
  rw [nI_add] at ez
  subst ez
  refine va_sld hx hb hX hbl (Nat.not_le.mpr hbl) hS (vp_in_nI hk (by omega)) d5 ?_
  rw [nI_clamp (by omega)]
  exact kk
/-- script[i + k] != 0 -/
theorem g_ldb (hs : g_St p l s m meth c b L xs wX wM ao) (hS : va_S (g_A s) s.heap H locs) {k : Nat} (d0 : decode code pc = .ok (.aload_n 0, 1)) (d1 : decode code (pc + 1) = .ok (.iload 4, 2)) (d3 : decode code (pc + 3) = .ok (.iconst (k : Int), 1)) (d4 : decode code (pc + 4) = .ok (.iadd, 1)) (d5 : decode code (pc + 5) = .ok (.iaload, 1)) (d6 : decode code (pc + 6) = .ok (.ifCond .eq 7, 3)) (d9 : decode code (pc + 9) = .ok (.iconst 1, 1)) (d10 : decode code (pc + 10) = .ok (.goto 4, 3)) (d13 : decode code (pc + 13) = .ok (.iconst 0, 1)) (hl : lv_has ls 7 lv) (h0 : lv[0]? = some (0, .ref b)) (h4 : lv[4]? = some (4, .int (nI i))) (hk : i + k < L)
    (kk : W p l e room_1 s m #[Value.ref b] below meth c H locs cells slots Q (F0 m (pc + 14) ls (.int (g_b (xs (i + k))) :: st))) : W p l e room_1 s m #[Value.ref b] below meth c H locs cells slots Q (F0 m pc ls st) := by
  refine g_ld hs hS d0 d1 d3 d4 d5 hl h0 h4 hk ?_
  obtain ⟨⟨hx, hb, hr, hml, hown⟩, hT, ⟨hX, hbl, hlocks, hfl, hL⟩, -, -, -⟩ := hs
  refine lv_if_eq (tgt := pc + 13) hx hb d6 (by omega) (fun c6 => ?_) (fun c6 => ?_)
  · refine lv_iconst (v := 0) hx hb d13 rfl ?_
    unfold g_b at kk
    rw [if_pos c6] at kk
    exact kk
  · refine lv_iconst (v := 1) hx hb d9 rfl ?_
    refine lv_goto (tgt := pc + 14) hx hb d10 (by omega) ?_
    unfold g_b at kk
    rw [if_neg c6] at kk
    exact kk
theorem g_SF (hs : g_St p l s m meth c b L xs wX wM ao) : CallFix p m c code 7 s #[Value.ref b] k_TT RL := ⟨hs.1.1, hs.1.2.1, hs.1.2.2.2.1, hs.1.2.2.2.2, hs.2.1⟩
theorem g_callXI (hs : g_St p l s m meth c b L xs wX wM ao) (hD : g_Dy s wX wM ao σX σM fo H) (hS : va_S (g_A s) s.heap H locs) {rt : Option FieldType} {r : Int32} (hE : k_EI l (k_PX wX) y yb ml rt d2 (.ref (wX.2.1 0) :: As) σX r σ') (hL : Cond.methodLink RL idx y ∈ k_TT ∧ Cond.instanceMethod y ∈ k_TT ∧ Cond.selects RX11 y y ∈ k_TT) (hy : k_Ly y yb ml rt As.length) (hR : d2 + 1 ≤ 2048 ∧ 8 + (ml + 11) + 40 * d2 ≤ 84000) (hd : decode code pc = .ok (.invokevirtual idx, 3)) (hls : lv_has ls 7 lv) (hst : As.reverse ++ .ref (wX.2.1 0) :: rest = st) (hw : (rest.map fun v => v.category).sum ≤ 8) (hc : cells ≤ 601024) (hsl : slots ≤ 7293034)
    (kk : ∀ (H1 : Heap) (locs1 : List Loc), g_Dy s wX wM ao σ' σM fo H1 → va_S (g_A s) s.heap H1 locs1 → W p l e room_1 s m #[Value.ref b] below meth c H1 locs1 cells slots Q (F0 m (pc + 3) ls (.int r :: rest))) : W p l e room_1 s m #[Value.ref b] below meth c H locs cells slots Q (F0 m pc ls st) := by
  subst hst
  obtain ⟨-, -, -, ⟨a1, a2, a3⟩, -, -⟩ := id hs
  refine va_calli (g_runV (R := room_1) (g_SF hs) hD.1 (k_oX0 wX) hE hL hy hR hd hls.1 hw hc hsl) hS (fun q _ h => (a1 q h).2.2) (fun q h => (a1 q h).2.2) (fun r1 u t H1 locs1 ht hvm hw1 hB hz hk hS1 => ?_)
  obtain ⟨rfl, rfl⟩ := hw1
  subst ht
  exact kk _ _ ⟨hD.1.next hB hS.1 hk, hD.2.1.keep _ hS.1 hk (fun q h => ⟨(a1 q h).1, (a1 q h).2.2⟩), hD.2.2.keep _ hk (fun h => (a1 _ h).2.1 rfl)⟩ hS1
theorem g_callXL (hs : g_St p l s m meth c b L xs wX wM ao) (hD : g_Dy s wX wM ao σX σM fo H) (hS : va_S (g_A s) s.heap H locs) {r : Int64} (hE : k_EL l (k_PX wX) y yb ml d2 (.ref (wX.2.1 0) :: As) σX r σ') (hL : Cond.methodLink RL idx y ∈ k_TT ∧ Cond.instanceMethod y ∈ k_TT ∧ Cond.selects RX11 y y ∈ k_TT) (hy : k_Ly y yb ml (some .long) As.length) (hR : d2 + 1 ≤ 2048 ∧ 8 + (ml + 11) + 40 * d2 ≤ 84000) (hd : decode code pc = .ok (.invokevirtual idx, 3)) (hls : lv_has ls 7 lv) (hst : As.reverse ++ .ref (wX.2.1 0) :: rest = st) (hw : (rest.map fun v => v.category).sum ≤ 8) (hc : cells ≤ 601024) (hsl : slots ≤ 7293034)
    (kk : ∀ (H1 : Heap) (locs1 : List Loc), g_Dy s wX wM ao σ' σM fo H1 → va_S (g_A s) s.heap H1 locs1 → W p l e room_1 s m #[Value.ref b] below meth c H1 locs1 cells slots Q (F0 m (pc + 3) ls (.long r :: rest))) : W p l e room_1 s m #[Value.ref b] below meth c H locs cells slots Q (F0 m pc ls st) := by
  subst hst
  obtain ⟨-, -, -, ⟨a1, a2, a3⟩, -, -⟩ := id hs
  refine va_calll (g_runV (R := room_1) (g_SF hs) hD.1 (k_oX0 wX) hE hL hy hR hd hls.1 hw hc hsl) hS (fun q _ h => (a1 q h).2.2) (fun q h => (a1 q h).2.2) (fun r1 u t H1 locs1 ht hvm hw1 hB hz hk hS1 => ?_)
  obtain ⟨rfl, rfl⟩ := hw1
  subst ht
  exact kk _ _ ⟨hD.1.next hB hS.1 hk, hD.2.1.keep _ hS.1 hk (fun q h => ⟨(a1 q h).1, (a1 q h).2.2⟩), hD.2.2.keep _ hk (fun h => (a1 _ h).2.1 rfl)⟩ hS1
theorem g_callMI (hs : g_St p l s m meth c b L xs wX wM ao) (hD : g_Dy s wX wM ao σX σM fo H) (hS : va_S (g_A s) s.heap H locs) {rt : Option FieldType} {r : Int32} (hE : k_EI l (k_PM wM) y yb ml rt d2 (.ref (wM.2.1 0) :: As) σM r σ') (hL : Cond.methodLink RL idx y ∈ k_TT ∧ Cond.instanceMethod y ∈ k_TT ∧ Cond.selects RX12 y y ∈ k_TT) (hy : k_Ly y yb ml rt As.length) (hR : d2 + 1 ≤ 2048 ∧ 8 + (ml + 11) + 40 * d2 ≤ 84000) (hd : decode code pc = .ok (.invokevirtual idx, 3)) (hls : lv_has ls 7 lv) (hst : As.reverse ++ .ref (wM.2.1 0) :: rest = st) (hw : (rest.map fun v => v.category).sum ≤ 8) (hc : cells ≤ 601024) (hsl : slots ≤ 7293034)
    (kk : ∀ (H1 : Heap) (locs1 : List Loc), g_Dy s wX wM ao σX σ' fo H1 → va_S (g_A s) s.heap H1 locs1 → W p l e room_1 s m #[Value.ref b] below meth c H1 locs1 cells slots Q (F0 m (pc + 3) ls (.int r :: rest))) : W p l e room_1 s m #[Value.ref b] below meth c H locs cells slots Q (F0 m pc ls st) := by
  subst hst
  obtain ⟨-, -, -, ⟨a1, a2, a3⟩, -, -⟩ := id hs
  refine va_calli (g_runV (R := room_1) (g_SF hs) hD.2.1 (k_oM0 wM) hE hL hy hR hd hls.1 hw hc hsl) hS (fun q _ h => (a2 q h).2.2) (fun q h => (a2 q h).2.2) (fun r1 u t H1 locs1 ht hvm hw1 hB hz hk hS1 => ?_)
  obtain ⟨rfl, rfl⟩ := hw1
  subst ht
  exact kk _ _ ⟨hD.1.keep _ hS.1 hk (fun q h => ⟨(a2 q h).1, (a2 q h).2.2⟩), hD.2.1.next hB hS.1 hk, hD.2.2.keep _ hk (fun h => (a2 _ h).2.1 rfl)⟩ hS1
theorem g_callML (hs : g_St p l s m meth c b L xs wX wM ao) (hD : g_Dy s wX wM ao σX σM fo H) (hS : va_S (g_A s) s.heap H locs) {r : Int64} (hE : k_EL l (k_PM wM) y yb ml d2 (.ref (wM.2.1 0) :: As) σM r σ') (hL : Cond.methodLink RL idx y ∈ k_TT ∧ Cond.instanceMethod y ∈ k_TT ∧ Cond.selects RX12 y y ∈ k_TT) (hy : k_Ly y yb ml (some .long) As.length) (hR : d2 + 1 ≤ 2048 ∧ 8 + (ml + 11) + 40 * d2 ≤ 84000) (hd : decode code pc = .ok (.invokevirtual idx, 3)) (hls : lv_has ls 7 lv) (hst : As.reverse ++ .ref (wM.2.1 0) :: rest = st) (hw : (rest.map fun v => v.category).sum ≤ 8) (hc : cells ≤ 601024) (hsl : slots ≤ 7293034)
    (kk : ∀ (H1 : Heap) (locs1 : List Loc), g_Dy s wX wM ao σX σ' fo H1 → va_S (g_A s) s.heap H1 locs1 → W p l e room_1 s m #[Value.ref b] below meth c H1 locs1 cells slots Q (F0 m (pc + 3) ls (.long r :: rest))) : W p l e room_1 s m #[Value.ref b] below meth c H locs cells slots Q (F0 m pc ls st) := by
  subst hst
  obtain ⟨-, -, -, ⟨a1, a2, a3⟩, -, -⟩ := id hs
  refine va_calll (g_runV (R := room_1) (g_SF hs) hD.2.1 (k_oM0 wM) hE hL hy hR hd hls.1 hw hc hsl) hS (fun q _ h => (a2 q h).2.2) (fun q h => (a2 q h).2.2) (fun r1 u t H1 locs1 ht hvm hw1 hB hz hk hS1 => ?_)
  obtain ⟨rfl, rfl⟩ := hw1
  subst ht
  exact kk _ _ ⟨hD.1.keep _ hS.1 hk (fun q h => ⟨(a2 q h).1, (a2 q h).2.2⟩), hD.2.1.next hB hS.1 hk, hD.2.2.keep _ hk (fun h => (a2 _ h).2.1 rfl)⟩ hS1
/-- the end of a case: on with the loop -/
def g_Nx (Inv : k_St → k_St → Prop) (p : Program) (l : Launch) (e : Env) (s : State) (m : MethodId) (below : List Frame) (meth : Method) (c : Code) (b i : Nat) (wX wM : k_WC) (ao : Nat) (cells slots : Nat) (Q : State → Prop) : Prop := ∀ (σX σM : k_St) (fo : Nat → Int64) (H : Heap) (locs : List Loc) (ls : Array Slot), Inv σX σM → g_Dy s wX wM ao σX σM fo H → va_S (g_A s) s.heap H locs → lv_has ls 7 (g_L b i ao wX wM) → W p l e room_1 s m #[Value.ref b] below meth c H locs cells slots Q (F0 m 1963 ls [])
end GL
