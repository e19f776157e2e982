/-- the tables' words that a call hands on -/
def wA : List Cond := lw_tbl.filter goodWord
theorem wA_t {w : Cond} (i : Nat) (h : tables_1[i]? = some w) (g : goodWord w = true) : w ∈ wA := List.mem_filter.mpr ⟨List.mem_append_right _ (List.mem_of_getElem? h), g⟩
theorem wA_s {y : MethodName} {n : Nat} (i : Nat) (h : lw_privs[i]? = some (y, n)) : Cond.selects y.cls y y ∈ wA := List.mem_filter.mpr ⟨List.mem_append_left _ (List.mem_map.mpr ⟨(y, n), List.mem_of_getElem? h, rfl⟩), rfl⟩
theorem wA_u {w : Cond} (h : w ∈ tables_1) (g : goodWord w = true) : w ∈ wA := List.mem_filter.mpr ⟨List.mem_append_right _ h, g⟩
theorem wA_t1 {w : Cond} (i : Nat) (h : tables_1_1[i]? = some w) (g : goodWord w = true) : w ∈ wA := wA_u (List.mem_append_left _ (List.mem_of_getElem? h)) g
theorem wA_t2 {w : Cond} (i : Nat) (h : tables_1_2[i]? = some w) (g : goodWord w = true) : w ∈ wA := wA_u (List.mem_append_right _ (List.mem_append_left _ (List.mem_of_getElem? h))) g
theorem wA_t3 {w : Cond} (i : Nat) (h : tables_1_3[i]? = some w) (g : goodWord w = true) : w ∈ wA := wA_u (List.mem_append_right _ (List.mem_append_right _ (List.mem_append_left _ (List.mem_of_getElem? h)))) g
theorem wA_t4 {w : Cond} (i : Nat) (h : tables_1_4[i]? = some w) (g : goodWord w = true) : w ∈ wA := wA_u (List.mem_append_right _ (List.mem_append_right _ (List.mem_append_right _ (List.mem_append_left _ (List.mem_of_getElem? h))))) g
theorem wA_t5 {w : Cond} (i : Nat) (h : tables_1_5[i]? = some w) (g : goodWord w = true) : w ∈ wA := wA_u (List.mem_append_right _ (List.mem_append_right _ (List.mem_append_right _ (List.mem_append_right _ (List.mem_of_getElem? h))))) g
theorem wA_tbl {w : Cond} (h : w ∈ wA) : w ∈ lw_tbl := (List.mem_filter.mp h).1
theorem wA_ps (ws : List Cond) (ps : List Nat) (hp : ws = ps.filterMap (fun i => tables_1[i]?)) (h : ws.all goodWord = true) : ∀ w ∈ ws, w ∈ wA := by
  intro w hw
  have h1 := List.all_eq_true.mp h w hw
  rw [hp] at hw
  obtain ⟨i, -, hi⟩ := List.mem_filterMap.mp hw
  exact wA_t i hi h1
theorem gd_all {hd : Cond} {ws : List Cond} (h : ∀ w ∈ ws, w ∈ wA) : GoodIn (hd :: wA) ws := fun w hw => ⟨List.mem_cons_of_mem _ (h w hw), good_of_word (List.mem_filter.mp (h w hw)).2⟩
theorem gd_cons {hd c : Cond} (h : c ∈ wA) : GoodIn (hd :: wA) (c :: wA) := gd_all (fun w hw => (List.mem_cons.mp hw).elim (fun e => e ▸ h) id)
theorem q_in_RL : Cond.initialized RL ∈ wA := wA_t1 0 (by decide +kernel) rfl
theorem q_in_RX4 : Cond.initialized RX4 ∈ wA := wA_t1 1 (by decide +kernel) rfl
theorem q_in_RX3 : Cond.initialized RX3 ∈ wA := wA_t1 2 (by decide +kernel) rfl
theorem q_in_RX0 : Cond.initialized RX0 ∈ wA := wA_t1 3 (by decide +kernel) rfl
theorem q_in_RX2 : Cond.initialized RX2 ∈ wA := wA_t1 4 (by decide +kernel) rfl
theorem q_in_RX1 : Cond.initialized RX1 ∈ wA := wA_t1 5 (by decide +kernel) rfl
theorem q_in_RX5 : Cond.initialized RX5 ∈ wA := wA_t1 6 (by decide +kernel) rfl
theorem q_in_RJ0 : Cond.initialized RJ0 ∈ wA := wA_t1 7 (by decide +kernel) rfl
theorem q_in_RJ1 : Cond.initialized RJ1 ∈ wA := wA_t1 8 (by decide +kernel) rfl
theorem q_in_RJ9 : Cond.initialized RJ9 ∈ wA := wA_t1 9 (by decide +kernel) rfl
theorem q_in_RJ2 : Cond.initialized RJ2 ∈ wA := wA_t1 10 (by decide +kernel) rfl
theorem q_in_RJ11 : Cond.initialized RJ11 ∈ wA := wA_t1 12 (by decide +kernel) rfl
theorem q_in_RJ10 : Cond.initialized RJ10 ∈ wA := wA_t1 13 (by decide +kernel) rfl
theorem q_in_RJ6 : Cond.initialized RJ6 ∈ wA := wA_t1 14 (by decide +kernel) rfl
theorem q_cl_RL_7 : Cond.classLink RL 7 RX4 ∈ wA := wA_t1 15 (by decide +kernel) rfl
theorem q_new_RX4 : Cond.instantiable RX4 6 ∈ wA := wA_t1 16 (by decide +kernel) rfl
theorem q_m_RL_9 : Cond.methodLink RL 9 yX4_init ∈ wA := wA_t1 17 (by decide +kernel) rfl
theorem q_i_yX4_init : Cond.instanceMethod yX4_init ∈ wA := wA_t1 18 (by decide +kernel) rfl
theorem q_c_yX4_init : Cond.code yX4_init cX4_init 2 none ∈ wA := wA_t1 19 (by decide +kernel) rfl
theorem q_m_RX4_3 : Cond.methodLink RX4 3 objectInit ∈ wA := wA_t1 20 (by decide +kernel) rfl
theorem q_i_objectInit : Cond.instanceMethod objectInit ∈ wA := wA_t1 21 (by decide +kernel) rfl
theorem q_c_objectInit : Cond.code objectInit ⟨#[0xb1]⟩ 1 none ∈ wA := wA_t1 22 (by decide +kernel) rfl
theorem q_cl_RX4_9 : Cond.classLink RX4 9 RX3 ∈ wA := wA_t1 23 (by decide +kernel) rfl
theorem q_new_RX3 : Cond.instantiable RX3 7 ∈ wA := wA_t1 24 (by decide +kernel) rfl
theorem q_i_yX3_init : Cond.instanceMethod yX3_init ∈ wA := wA_t1 26 (by decide +kernel) rfl
theorem q_c_yX3_init : Cond.code yX3_init cX3_init 1 none ∈ wA := wA_t1 27 (by decide +kernel) rfl
theorem q_m_RX3_3 : Cond.methodLink RX3 3 objectInit ∈ wA := wA_t1 28 (by decide +kernel) rfl
theorem q_cl_RX3_9 : Cond.classLink RX3 9 RX0 ∈ wA := wA_t1 29 (by decide +kernel) rfl
theorem q_new_RX0 : Cond.instantiable RX0 9 ∈ wA := wA_t1 30 (by decide +kernel) rfl
theorem q_i_yX0_init : Cond.instanceMethod yX0_init ∈ wA := wA_t1 32 (by decide +kernel) rfl
theorem q_c_yX0_init : Cond.code yX0_init cX0_init 1 none ∈ wA := wA_t1 33 (by decide +kernel) rfl
theorem q_m_RX0_3 : Cond.methodLink RX0 3 objectInit ∈ wA := wA_t1 34 (by decide +kernel) rfl
theorem q_f_RX0_9 : Cond.fieldLink RX0 9 "CountOut$Circle" "size" "I" ∈ wA := wA_t1 35 (by decide +kernel) rfl
theorem q_f_RX0_15 : Cond.fieldLink RX0 15 "CountOut$Circle" "twins" "I" ∈ wA := wA_t1 39 (by decide +kernel) rfl
theorem q_f_RX0_18 : Cond.fieldLink RX0 18 "CountOut$Circle" "babies" "I" ∈ wA := wA_t1 40 (by decide +kernel) rfl
theorem q_f_RX0_21 : Cond.fieldLink RX0 21 "CountOut$Circle" "sly" "I" ∈ wA := wA_t1 41 (by decide +kernel) rfl
theorem q_f_RX0_24 : Cond.fieldLink RX0 24 "CountOut$Circle" "kings" "I" ∈ wA := wA_t1 42 (by decide +kernel) rfl
theorem q_f_RX0_27 : Cond.fieldLink RX0 27 "CountOut$Circle" "inside" "I" ∈ wA := wA_t1 43 (by decide +kernel) rfl
theorem q_f_RX0_30 : Cond.fieldLink RX0 30 "CountOut$Circle" "slipped" "I" ∈ wA := wA_t1 45 (by decide +kernel) rfl
theorem q_f_RX0_33 : Cond.fieldLink RX0 33 "CountOut$Circle" "first" "I" ∈ wA := wA_t1 48 (by decide +kernel) rfl
theorem q_f_RX0_36 : Cond.fieldLink RX0 36 "CountOut$Circle" "onward" "Z" ∈ wA := wA_t1 50 (by decide +kernel) rfl
theorem q_f_RX3_12 : Cond.fieldLink RX3 12 "CountOut$Scene" "circle" "LCountOut$Circle;" ∈ wA := wA_t1 71 (by decide +kernel) rfl
theorem q_f_RX3_18 : Cond.fieldLink RX3 18 "CountOut$Scene" "beats" "[I" ∈ wA := wA_t1 74 (by decide +kernel) rfl
theorem q_f_RX3_32 : Cond.fieldLink RX3 32 "CountOut$Scene" "verses" "I" ∈ wA := wA_t1 77 (by decide +kernel) rfl
theorem q_f_RX3_61 : Cond.fieldLink RX3 61 "CountOut$Scene" "counts" "I" ∈ wA := wA_t1 80 (by decide +kernel) rfl
theorem q_f_RX3_22 : Cond.fieldLink RX3 22 "CountOut$Scene" "seenFrom" "[I" ∈ wA := wA_t1 82 (by decide +kernel) rfl
theorem q_f_RX3_25 : Cond.fieldLink RX3 25 "CountOut$Scene" "seenOut" "[I" ∈ wA := wA_t1 84 (by decide +kernel) rfl
theorem q_f_RX3_35 : Cond.fieldLink RX3 35 "CountOut$Scene" "seen" "I" ∈ wA := wA_t1 86 (by decide +kernel) rfl
theorem q_arr_int : Cond.arrayClass .int ∈ wA := wA_t1 104 (by decide +kernel) rfl
theorem q_cl_RX4_12 : Cond.classLink RX4 12 RX2 ∈ wA := wA_t1 105 (by decide +kernel) rfl
theorem q_new_RX2 : Cond.instantiable RX2 8 ∈ wA := wA_t1 106 (by decide +kernel) rfl
theorem q_i_yX2_init : Cond.instanceMethod yX2_init ∈ wA := wA_t1 108 (by decide +kernel) rfl
theorem q_c_yX2_init : Cond.code yX2_init cX2_init 1 none ∈ wA := wA_t1 109 (by decide +kernel) rfl
theorem q_m_RX2_3 : Cond.methodLink RX2 3 objectInit ∈ wA := wA_t1 110 (by decide +kernel) rfl
theorem q_f_RX2_9 : Cond.fieldLink RX2 9 "CountOut$Page" "letters" "[I" ∈ wA := wA_t1 111 (by decide +kernel) rfl
theorem q_f_RX2_21 : Cond.fieldLink RX2 21 "CountOut$Page" "size" "I" ∈ wA := wA_t1 113 (by decide +kernel) rfl
theorem q_f_RX2_32 : Cond.fieldLink RX2 32 "CountOut$Page" "due" "I" ∈ wA := wA_t1 115 (by decide +kernel) rfl
theorem q_f_RX2_54 : Cond.fieldLink RX2 54 "CountOut$Page" "tens" "I" ∈ wA := wA_t1 116 (by decide +kernel) rfl
theorem q_f_RX2_15 : Cond.fieldLink RX2 15 "CountOut$Page" "beats" "[I" ∈ wA := wA_t1 117 (by decide +kernel) rfl
theorem q_f_RX2_35 : Cond.fieldLink RX2 35 "CountOut$Page" "verses" "I" ∈ wA := wA_t1 119 (by decide +kernel) rfl
theorem q_f_RX2_18 : Cond.fieldLink RX2 18 "CountOut$Page" "kinds" "[I" ∈ wA := wA_t1 121 (by decide +kernel) rfl
theorem q_f_RX2_29 : Cond.fieldLink RX2 29 "CountOut$Page" "children" "I" ∈ wA := wA_t1 123 (by decide +kernel) rfl
theorem q_cl_RX4_26 : Cond.classLink RX4 26 RX1 ∈ wA := wA_t1 142 (by decide +kernel) rfl
theorem q_new_RX1 : Cond.instantiable RX1 8 ∈ wA := wA_t1 143 (by decide +kernel) rfl
theorem q_m_RX4_28 : Cond.methodLink RX4 28 yX1_init ∈ wA := wA_t1 144 (by decide +kernel) rfl
theorem q_i_yX1_init : Cond.instanceMethod yX1_init ∈ wA := wA_t1 145 (by decide +kernel) rfl
theorem q_c_yX1_init : Cond.code yX1_init cX1_init 2 none ∈ wA := wA_t1 146 (by decide +kernel) rfl
theorem q_m_RX1_3 : Cond.methodLink RX1 3 objectInit ∈ wA := wA_t1 147 (by decide +kernel) rfl
theorem q_cl_RX1_9 : Cond.classLink RX1 9 RX0 ∈ wA := wA_t1 148 (by decide +kernel) rfl
theorem q_kl_RX1_22 : Cond.constantLong RX1 22 (-1) ∈ wA := wA_t1 150 (by decide +kernel) rfl
theorem q_f_RX1_37 : Cond.fieldLink RX1 37 "CountOut$Foresight" "scene" "LCountOut$Scene;" ∈ wA := wA_t1 151 (by decide +kernel) rfl
theorem q_f_RX1_12 : Cond.fieldLink RX1 12 "CountOut$Foresight" "trial" "LCountOut$Circle;" ∈ wA := wA_t1 152 (by decide +kernel) rfl
theorem q_f_RX1_18 : Cond.fieldLink RX1 18 "CountOut$Foresight" "lasts" "[I" ∈ wA := wA_t1 153 (by decide +kernel) rfl
theorem q_f_RX1_24 : Cond.fieldLink RX1 24 "CountOut$Foresight" "lastsKey" "J" ∈ wA := wA_t1 154 (by decide +kernel) rfl
theorem q_f_RX1_28 : Cond.fieldLink RX1 28 "CountOut$Foresight" "ways" "[I" ∈ wA := wA_t1 155 (by decide +kernel) rfl
theorem q_f_RX1_31 : Cond.fieldLink RX1 31 "CountOut$Foresight" "waysKey" "J" ∈ wA := wA_t1 156 (by decide +kernel) rfl
theorem q_f_RX1_34 : Cond.fieldLink RX1 34 "CountOut$Foresight" "tally" "[I" ∈ wA := wA_t1 157 (by decide +kernel) rfl
theorem q_f_RX1_83 : Cond.fieldLink RX1 83 "CountOut$Foresight" "verseSaid" "I" ∈ wA := wA_t1 158 (by decide +kernel) rfl
theorem q_f_RX4_15 : Cond.fieldLink RX4 15 "CountOut" "page" "LCountOut$Page;" ∈ wA := wA_t1 176 (by decide +kernel) rfl
theorem q_f_RX4_19 : Cond.fieldLink RX4 19 "CountOut" "scene" "LCountOut$Scene;" ∈ wA := wA_t1 177 (by decide +kernel) rfl
theorem q_f_RX4_23 : Cond.fieldLink RX4 23 "CountOut" "kept" "LCountOut$Scene;" ∈ wA := wA_t1 178 (by decide +kernel) rfl
theorem q_f_RX4_31 : Cond.fieldLink RX4 31 "CountOut" "foresight" "LCountOut$Foresight;" ∈ wA := wA_t1 179 (by decide +kernel) rfl
theorem q_f_RX4_55 : Cond.fieldLink RX4 55 "CountOut" "isKept" "Z" ∈ wA := wA_t1 180 (by decide +kernel) rfl
theorem q_f_RX4_59 : Cond.fieldLink RX4 59 "CountOut" "ringsRead" "I" ∈ wA := wA_t1 181 (by decide +kernel) rfl
theorem q_m_RL_13 : Cond.methodLink RL 13 yX4_letter ∈ wA := wA_t1 195 (by decide +kernel) rfl
theorem q_i_yX4_letter : Cond.instanceMethod yX4_letter ∈ wA := wA_t1 196 (by decide +kernel) rfl
theorem q_s_yX4_letter : Cond.selects RX4 yX4_letter yX4_letter ∈ wA := wA_t1 197 (by decide +kernel) rfl
theorem q_c_yX4_letter : Cond.code yX4_letter cX4_letter 2 (some .int) ∈ wA := wA_t1 198 (by decide +kernel) rfl
theorem q_m_RX4_35 : Cond.methodLink RX4 35 yX2_append ∈ wA := wA_t1 199 (by decide +kernel) rfl
theorem q_i_yX2_append : Cond.instanceMethod yX2_append ∈ wA := wA_t1 200 (by decide +kernel) rfl
theorem q_s_yX2_append : Cond.selects RX2 yX2_append yX2_append ∈ wA := wA_t1 201 (by decide +kernel) rfl
theorem q_c_yX2_append : Cond.code yX2_append cX2_append 2 (some .boolean) ∈ wA := wA_t1 202 (by decide +kernel) rfl
theorem q_m_RL_18 : Cond.methodLink RL 18 yX4_blank ∈ wA := wA_t1 203 (by decide +kernel) rfl
theorem q_i_yX4_blank : Cond.instanceMethod yX4_blank ∈ wA := wA_t1 204 (by decide +kernel) rfl
theorem q_s_yX4_blank : Cond.selects RX4 yX4_blank yX4_blank ∈ wA := wA_t1 205 (by decide +kernel) rfl
theorem q_c_yX4_blank : Cond.code yX4_blank cX4_blank 2 (some .int) ∈ wA := wA_t1 206 (by decide +kernel) rfl
theorem q_m_RL_23 : Cond.methodLink RL 23 yX4_fault ∈ wA := wA_t1 207 (by decide +kernel) rfl
theorem q_i_yX4_fault : Cond.instanceMethod yX4_fault ∈ wA := wA_t1 208 (by decide +kernel) rfl
theorem q_s_yX4_fault : Cond.selects RX4 yX4_fault yX4_fault ∈ wA := wA_t1 209 (by decide +kernel) rfl
theorem q_c_yX4_fault : Cond.code yX4_fault cX4_fault 1 (some .int) ∈ wA := wA_t1 210 (by decide +kernel) rfl
theorem q_m_RX4_43 : Cond.methodLink RX4 43 yX2_firstFault ∈ wA := wA_t1 211 (by decide +kernel) rfl
theorem q_i_yX2_firstFault : Cond.instanceMethod yX2_firstFault ∈ wA := wA_t1 212 (by decide +kernel) rfl
theorem q_s_yX2_firstFault : Cond.selects RX2 yX2_firstFault yX2_firstFault ∈ wA := wA_t1 213 (by decide +kernel) rfl
theorem q_c_yX2_firstFault : Cond.code yX2_firstFault cX2_firstFault 2 (some .int) ∈ wA := wA_t1 214 (by decide +kernel) rfl
theorem q_m_RX2_38 : Cond.methodLink RX2 38 yX2_reads ∈ wA := wA_t1 215 (by decide +kernel) rfl
theorem q_i_yX2_reads : Cond.instanceMethod yX2_reads ∈ wA := wA_t1 217 (by decide +kernel) rfl
theorem q_c_yX2_reads : Cond.code yX2_reads cX2_reads 2 (some .boolean) ∈ wA := wA_t1 218 (by decide +kernel) rfl
theorem q_m_RX2_42 : Cond.methodLink RX2 42 yX2_readsTens ∈ wA := wA_t1 219 (by decide +kernel) rfl
theorem q_i_yX2_readsTens : Cond.instanceMethod yX2_readsTens ∈ wA := wA_t1 221 (by decide +kernel) rfl
theorem q_c_yX2_readsTens : Cond.code yX2_readsTens cX2_readsTens 2 (some .boolean) ∈ wA := wA_t1 222 (by decide +kernel) rfl
theorem q_m_RX2_45 : Cond.methodLink RX2 45 yX2_readsOnes ∈ wA := wA_t1 223 (by decide +kernel) rfl
theorem q_i_yX2_readsOnes : Cond.instanceMethod yX2_readsOnes ∈ wA := wA_t1 225 (by decide +kernel) rfl
theorem q_c_yX2_readsOnes : Cond.code yX2_readsOnes cX2_readsOnes 3 (some .boolean) ∈ wA := wA_t1 226 (by decide +kernel) rfl
theorem q_m_RX2_48 : Cond.methodLink RX2 48 yX2_readsBetween ∈ wA := wA_t1 227 (by decide +kernel) rfl
theorem q_i_yX2_readsBetween : Cond.instanceMethod yX2_readsBetween ∈ wA := wA_t1 229 (by decide +kernel) rfl
theorem q_c_yX2_readsBetween : Cond.code yX2_readsBetween cX2_readsBetween 2 (some .boolean) ∈ wA := wA_t1 230 (by decide +kernel) rfl
theorem q_m_RX2_51 : Cond.methodLink RX2 51 yX2_readsChild ∈ wA := wA_t1 231 (by decide +kernel) rfl
theorem q_i_yX2_readsChild : Cond.instanceMethod yX2_readsChild ∈ wA := wA_t1 233 (by decide +kernel) rfl
theorem q_c_yX2_readsChild : Cond.code yX2_readsChild cX2_readsChild 3 (some .boolean) ∈ wA := wA_t1 234 (by decide +kernel) rfl
theorem q_m_RX2_59 : Cond.methodLink RX2 59 yJ0_indexOf_0f7a4 ∈ wA := wA_t1 236 (by decide +kernel) rfl
theorem q_i_yJ0_indexOf_0f7a4 : Cond.instanceMethod yJ0_indexOf_0f7a4 ∈ wA := wA_t1 237 (by decide +kernel) rfl
theorem q_s_yJ0_indexOf_0f7a4 : Cond.selects RJ0 yJ0_indexOf_0f7a4 yJ0_indexOf_0f7a4 ∈ wA := wA_t1 238 (by decide +kernel) rfl
theorem q_c_yJ0_indexOf_0f7a4 : Cond.code yJ0_indexOf_0f7a4 cJ0_indexOf_0f7a4 2 (some .int) ∈ wA := wA_t1 239 (by decide +kernel) rfl
theorem q_m_RJ0_633 : Cond.methodLink RJ0 633 yJ0_indexOf_7cf53 ∈ wA := wA_t2 0 (by decide +kernel) rfl
theorem q_i_yJ0_indexOf_7cf53 : Cond.instanceMethod yJ0_indexOf_7cf53 ∈ wA := wA_t2 1 (by decide +kernel) rfl
theorem q_s_yJ0_indexOf_7cf53 : Cond.selects RJ0 yJ0_indexOf_7cf53 yJ0_indexOf_7cf53 ∈ wA := wA_t2 2 (by decide +kernel) rfl
theorem q_c_yJ0_indexOf_7cf53 : Cond.code yJ0_indexOf_7cf53 cJ0_indexOf_7cf53 3 (some .int) ∈ wA := wA_t2 3 (by decide +kernel) rfl
theorem q_m_RJ0_492 : Cond.methodLink RJ0 492 yJ0_isLatin1_aae02 ∈ wA := wA_t2 4 (by decide +kernel) rfl
theorem q_i_yJ0_isLatin1_aae02 : Cond.instanceMethod yJ0_isLatin1_aae02 ∈ wA := wA_t2 5 (by decide +kernel) rfl
theorem q_s_yJ0_isLatin1_aae02 : Cond.selects RJ0 yJ0_isLatin1_aae02 yJ0_isLatin1_aae02 ∈ wA := wA_t2 6 (by decide +kernel) rfl
theorem q_c_yJ0_isLatin1_aae02 : Cond.code yJ0_isLatin1_aae02 cJ0_isLatin1_aae02 1 (some .boolean) ∈ wA := wA_t2 7 (by decide +kernel) rfl
theorem q_f_RJ0_38 : Cond.fieldLink RJ0 38 "java/lang/String" "COMPACT_STRINGS" "Z" ∈ wA := wA_t2 8 (by decide +kernel) rfl
theorem q_m_RJ0_505 : Cond.methodLink RJ0 505 yJ0_length_8abf5 ∈ wA := wA_t2 10 (by decide +kernel) rfl
theorem q_i_yJ0_length_8abf5 : Cond.instanceMethod yJ0_length_8abf5 ∈ wA := wA_t2 11 (by decide +kernel) rfl
theorem q_s_yJ0_length_8abf5 : Cond.selects RJ0 yJ0_length_8abf5 yJ0_length_8abf5 ∈ wA := wA_t2 12 (by decide +kernel) rfl
theorem q_c_yJ0_length_8abf5 : Cond.code yJ0_length_8abf5 cJ0_length_8abf5 1 (some .int) ∈ wA := wA_t2 13 (by decide +kernel) rfl
theorem q_m_RJ0_335 : Cond.methodLink RJ0 335 yJ0_coder_7d493 ∈ wA := wA_t2 14 (by decide +kernel) rfl
theorem q_i_yJ0_coder_7d493 : Cond.instanceMethod yJ0_coder_7d493 ∈ wA := wA_t2 15 (by decide +kernel) rfl
theorem q_s_yJ0_coder_7d493 : Cond.selects RJ0 yJ0_coder_7d493 yJ0_coder_7d493 ∈ wA := wA_t2 16 (by decide +kernel) rfl
theorem q_c_yJ0_coder_7d493 : Cond.code yJ0_coder_7d493 cJ0_coder_7d493 1 (some .byte) ∈ wA := wA_t2 17 (by decide +kernel) rfl
theorem q_m_RJ0_637 : Cond.methodLink RJ0 637 yJ1_indexOf_4cfef ∈ wA := wA_t2 18 (by decide +kernel) rfl
theorem q_st_yJ1_indexOf_4cfef : Cond.static yJ1_indexOf_4cfef ∈ wA := wA_t2 19 (by decide +kernel) rfl
theorem q_c_yJ1_indexOf_4cfef : Cond.code yJ1_indexOf_4cfef cJ1_indexOf_4cfef 4 (some .int) ∈ wA := wA_t2 20 (by decide +kernel) rfl
theorem q_m_RJ1_88 : Cond.methodLink RJ1 88 yJ1_canEncode_9a6ad ∈ wA := wA_t2 21 (by decide +kernel) rfl
theorem q_st_yJ1_canEncode_9a6ad : Cond.static yJ1_canEncode_9a6ad ∈ wA := wA_t2 22 (by decide +kernel) rfl
theorem q_c_yJ1_canEncode_9a6ad : Cond.code yJ1_canEncode_9a6ad cJ1_canEncode_9a6ad 1 (some .boolean) ∈ wA := wA_t2 23 (by decide +kernel) rfl
theorem q_m_RJ1_92 : Cond.methodLink RJ1 92 yJ9_max_7cf53 ∈ wA := wA_t2 24 (by decide +kernel) rfl
theorem q_st_yJ9_max_7cf53 : Cond.static yJ9_max_7cf53 ∈ wA := wA_t2 25 (by decide +kernel) rfl
theorem q_c_yJ9_max_7cf53 : Cond.code yJ9_max_7cf53 cJ9_max_7cf53 2 (some .int) ∈ wA := wA_t2 26 (by decide +kernel) rfl
theorem q_m_RJ1_38 : Cond.methodLink RJ1 38 yJ9_min_7cf53 ∈ wA := wA_t2 27 (by decide +kernel) rfl
theorem q_st_yJ9_min_7cf53 : Cond.static yJ9_min_7cf53 ∈ wA := wA_t2 28 (by decide +kernel) rfl
theorem q_c_yJ9_min_7cf53 : Cond.code yJ9_min_7cf53 cJ9_min_7cf53 2 (some .int) ∈ wA := wA_t2 29 (by decide +kernel) rfl
theorem q_m_RJ1_95 : Cond.methodLink RJ1 95 yJ1_indexOfChar_4cfef ∈ wA := wA_t2 30 (by decide +kernel) rfl
theorem q_st_yJ1_indexOfChar_4cfef : Cond.static yJ1_indexOfChar_4cfef ∈ wA := wA_t2 31 (by decide +kernel) rfl
theorem q_c_yJ1_indexOfChar_4cfef : Cond.code yJ1_indexOfChar_4cfef cJ1_indexOfChar_4cfef 6 (some .int) ∈ wA := wA_t2 32 (by decide +kernel) rfl
theorem q_m_RJ0_640 : Cond.methodLink RJ0 640 yJ2_indexOf_4cfef ∈ wA := wA_t2 33 (by decide +kernel) rfl
theorem q_st_yJ0_checkBoundsBeginEnd_23922 : Cond.static yJ0_checkBoundsBeginEnd_23922 ∈ wA := wA_t2 49 (by decide +kernel) rfl
theorem q_c_yJ0_checkBoundsBeginEnd_23922 : Cond.code yJ0_checkBoundsBeginEnd_23922 cJ0_checkBoundsBeginEnd_23922 3 none ∈ wA := wA_t2 50 (by decide +kernel) rfl
theorem q_f_RJ0_1053 : Cond.fieldLink RJ0 1053 "jdk/internal/util/Preconditions" "SIOOBE_FORMATTER" "Ljava/util/function/BiFunction;" ∈ wA := wA_t2 51 (by decide +kernel) rfl
theorem q_m_RJ0_1062 : Cond.methodLink RJ0 1062 yJ3_checkFromToIndex_8c36e ∈ wA := wA_t2 53 (by decide +kernel) rfl
theorem q_arr_byte : Cond.arrayClass .byte ∈ wA := wA_t2 82 (by decide +kernel) rfl
theorem q_m_RL_27 : Cond.methodLink RL 27 yX4_ring ∈ wA := wA_t2 83 (by decide +kernel) rfl
theorem q_i_yX4_ring : Cond.instanceMethod yX4_ring ∈ wA := wA_t2 84 (by decide +kernel) rfl
theorem q_s_yX4_ring : Cond.selects RX4 yX4_ring yX4_ring ∈ wA := wA_t2 85 (by decide +kernel) rfl
theorem q_c_yX4_ring : Cond.code yX4_ring cX4_ring 1 (some .int) ∈ wA := wA_t2 86 (by decide +kernel) rfl
theorem q_m_RX4_47 : Cond.methodLink RX4 47 yX2_isRing ∈ wA := wA_t2 87 (by decide +kernel) rfl
theorem q_i_yX2_isRing : Cond.instanceMethod yX2_isRing ∈ wA := wA_t2 88 (by decide +kernel) rfl
theorem q_s_yX2_isRing : Cond.selects RX2 yX2_isRing yX2_isRing ∈ wA := wA_t2 89 (by decide +kernel) rfl
theorem q_c_yX2_isRing : Cond.code yX2_isRing cX2_isRing 1 (some .boolean) ∈ wA := wA_t2 90 (by decide +kernel) rfl
theorem q_m_RX2_25 : Cond.methodLink RX2 25 yX2_firstFault ∈ wA := wA_t2 91 (by decide +kernel) rfl
theorem q_m_RX4_51 : Cond.methodLink RX4 51 yX3_setUp ∈ wA := wA_t2 92 (by decide +kernel) rfl
theorem q_i_yX3_setUp : Cond.instanceMethod yX3_setUp ∈ wA := wA_t2 93 (by decide +kernel) rfl
theorem q_s_yX3_setUp : Cond.selects RX3 yX3_setUp yX3_setUp ∈ wA := wA_t2 94 (by decide +kernel) rfl
theorem q_c_yX3_setUp : Cond.code yX3_setUp cX3_setUp 3 none ∈ wA := wA_t2 95 (by decide +kernel) rfl
theorem q_m_RX3_38 : Cond.methodLink RX3 38 yX0_clear ∈ wA := wA_t2 96 (by decide +kernel) rfl
theorem q_i_yX0_clear : Cond.instanceMethod yX0_clear ∈ wA := wA_t2 97 (by decide +kernel) rfl
theorem q_s_yX0_clear : Cond.selects RX0 yX0_clear yX0_clear ∈ wA := wA_t2 98 (by decide +kernel) rfl
theorem q_c_yX0_clear : Cond.code yX0_clear cX0_clear 1 none ∈ wA := wA_t2 99 (by decide +kernel) rfl
theorem q_m_RX3_49 : Cond.methodLink RX3 49 yX0_addBehind ∈ wA := wA_t2 100 (by decide +kernel) rfl
theorem q_i_yX0_addBehind : Cond.instanceMethod yX0_addBehind ∈ wA := wA_t2 101 (by decide +kernel) rfl
theorem q_s_yX0_addBehind : Cond.selects RX0 yX0_addBehind yX0_addBehind ∈ wA := wA_t2 102 (by decide +kernel) rfl
theorem q_c_yX0_addBehind : Cond.code yX0_addBehind cX0_addBehind 2 none ∈ wA := wA_t2 103 (by decide +kernel) rfl
theorem q_m_RX0_40 : Cond.methodLink RX0 40 yX0_become ∈ wA := wA_t2 104 (by decide +kernel) rfl
theorem q_i_yX0_become : Cond.instanceMethod yX0_become ∈ wA := wA_t2 105 (by decide +kernel) rfl
theorem q_s_yX0_become : Cond.selects RX0 yX0_become yX0_become ∈ wA := wA_t2 106 (by decide +kernel) rfl
theorem q_c_yX0_become : Cond.code yX0_become cX0_become 4 none ∈ wA := wA_t2 107 (by decide +kernel) rfl
theorem q_m_RX3_55 : Cond.methodLink RX3 55 arraycopyName ∈ wA := wA_t2 108 (by decide +kernel) rfl
theorem q_st_arraycopyName : Cond.static arraycopyName ∈ wA := wA_t2 109 (by decide +kernel) rfl
theorem q_nat : Cond.native arraycopyName ∈ wA := wA_t2 110 (by decide +kernel) rfl
theorem q_m_RL_31 : Cond.methodLink RL 31 yX4_child ∈ wA := wA_t2 111 (by decide +kernel) rfl
theorem q_i_yX4_child : Cond.instanceMethod yX4_child ∈ wA := wA_t2 112 (by decide +kernel) rfl
theorem q_s_yX4_child : Cond.selects RX4 yX4_child yX4_child ∈ wA := wA_t2 113 (by decide +kernel) rfl
theorem q_c_yX4_child : Cond.code yX4_child cX4_child 4 (some .int) ∈ wA := wA_t2 114 (by decide +kernel) rfl
theorem q_m_RX4_69 : Cond.methodLink RX4 69 yX3_hasChild ∈ wA := wA_t2 115 (by decide +kernel) rfl
theorem q_i_yX3_hasChild : Cond.instanceMethod yX3_hasChild ∈ wA := wA_t2 116 (by decide +kernel) rfl
theorem q_s_yX3_hasChild : Cond.selects RX3 yX3_hasChild yX3_hasChild ∈ wA := wA_t2 117 (by decide +kernel) rfl
theorem q_c_yX3_hasChild : Cond.code yX3_hasChild cX3_hasChild 2 (some .boolean) ∈ wA := wA_t2 118 (by decide +kernel) rfl
theorem q_m_RX4_72 : Cond.methodLink RX4 72 yX0_kindOf ∈ wA := wA_t2 119 (by decide +kernel) rfl
theorem q_i_yX0_kindOf : Cond.instanceMethod yX0_kindOf ∈ wA := wA_t2 120 (by decide +kernel) rfl
theorem q_s_yX0_kindOf : Cond.selects RX0 yX0_kindOf yX0_kindOf ∈ wA := wA_t2 121 (by decide +kernel) rfl
theorem q_c_yX0_kindOf : Cond.code yX0_kindOf cX0_kindOf 3 (some .int) ∈ wA := wA_t2 122 (by decide +kernel) rfl
theorem q_m_RX4_76 : Cond.methodLink RX4 76 yX0_isIn ∈ wA := wA_t2 123 (by decide +kernel) rfl
theorem q_i_yX0_isIn : Cond.instanceMethod yX0_isIn ∈ wA := wA_t2 124 (by decide +kernel) rfl
theorem q_s_yX0_isIn : Cond.selects RX0 yX0_isIn yX0_isIn ∈ wA := wA_t2 125 (by decide +kernel) rfl
theorem q_c_yX0_isIn : Cond.code yX0_isIn cX0_isIn 2 (some .boolean) ∈ wA := wA_t2 126 (by decide +kernel) rfl
theorem q_m_RX4_79 : Cond.methodLink RX4 79 yX0_hasSlipped ∈ wA := wA_t2 127 (by decide +kernel) rfl
theorem q_i_yX0_hasSlipped : Cond.instanceMethod yX0_hasSlipped ∈ wA := wA_t2 128 (by decide +kernel) rfl
theorem q_s_yX0_hasSlipped : Cond.selects RX0 yX0_hasSlipped yX0_hasSlipped ∈ wA := wA_t2 129 (by decide +kernel) rfl
theorem q_c_yX0_hasSlipped : Cond.code yX0_hasSlipped cX0_hasSlipped 2 (some .boolean) ∈ wA := wA_t2 130 (by decide +kernel) rfl
theorem q_m_RX4_82 : Cond.methodLink RX4 82 yX0_takenBy ∈ wA := wA_t2 131 (by decide +kernel) rfl
theorem q_i_yX0_takenBy : Cond.instanceMethod yX0_takenBy ∈ wA := wA_t2 132 (by decide +kernel) rfl
theorem q_s_yX0_takenBy : Cond.selects RX0 yX0_takenBy yX0_takenBy ∈ wA := wA_t2 133 (by decide +kernel) rfl
theorem q_c_yX0_takenBy : Cond.code yX0_takenBy cX0_takenBy 3 (some .int) ∈ wA := wA_t2 134 (by decide +kernel) rfl
theorem q_m_RX4_85 : Cond.methodLink RX4 85 yX1_fewestBeats ∈ wA := wA_t2 135 (by decide +kernel) rfl
theorem q_i_yX1_fewestBeats : Cond.instanceMethod yX1_fewestBeats ∈ wA := wA_t2 136 (by decide +kernel) rfl
theorem q_s_yX1_fewestBeats : Cond.selects RX1 yX1_fewestBeats yX1_fewestBeats ∈ wA := wA_t2 137 (by decide +kernel) rfl
theorem q_c_yX1_fewestBeats : Cond.code yX1_fewestBeats cX1_fewestBeats 5 (some .int) ∈ wA := wA_t2 138 (by decide +kernel) rfl
theorem q_m_RX1_61 : Cond.methodLink RX1 61 yX0_key ∈ wA := wA_t2 139 (by decide +kernel) rfl
theorem q_i_yX0_key : Cond.instanceMethod yX0_key ∈ wA := wA_t2 140 (by decide +kernel) rfl
theorem q_s_yX0_key : Cond.selects RX0 yX0_key yX0_key ∈ wA := wA_t2 141 (by decide +kernel) rfl
theorem q_c_yX0_key : Cond.code yX0_key cX0_key 3 (some .long) ∈ wA := wA_t2 142 (by decide +kernel) rfl
theorem q_m_RX0_80 : Cond.methodLink RX0 80 yX0_pose ∈ wA := wA_t2 143 (by decide +kernel) rfl
theorem q_i_yX0_pose : Cond.instanceMethod yX0_pose ∈ wA := wA_t2 144 (by decide +kernel) rfl
theorem q_s_yX0_pose : Cond.selects RX0 yX0_pose yX0_pose ∈ wA := wA_t2 145 (by decide +kernel) rfl
theorem q_c_yX0_pose : Cond.code yX0_pose cX0_pose 2 (some .int) ∈ wA := wA_t2 146 (by decide +kernel) rfl
theorem q_m_RX1_65 : Cond.methodLink RX1 65 yX1_leftBy ∈ wA := wA_t2 147 (by decide +kernel) rfl
theorem q_i_yX1_leftBy : Cond.instanceMethod yX1_leftBy ∈ wA := wA_t2 148 (by decide +kernel) rfl
theorem q_s_yX1_leftBy : Cond.selects RX1 yX1_leftBy yX1_leftBy ∈ wA := wA_t2 149 (by decide +kernel) rfl
theorem q_c_yX1_leftBy : Cond.code yX1_leftBy cX1_leftBy 2 (some .int) ∈ wA := wA_t2 150 (by decide +kernel) rfl
theorem q_m_RX1_46 : Cond.methodLink RX1 46 yX0_takeAll ∈ wA := wA_t2 151 (by decide +kernel) rfl
theorem q_i_yX0_takeAll : Cond.instanceMethod yX0_takeAll ∈ wA := wA_t2 152 (by decide +kernel) rfl
theorem q_s_yX0_takeAll : Cond.selects RX0 yX0_takeAll yX0_takeAll ∈ wA := wA_t2 153 (by decide +kernel) rfl
theorem q_c_yX0_takeAll : Cond.code yX0_takeAll cX0_takeAll 2 none ∈ wA := wA_t2 154 (by decide +kernel) rfl
theorem q_m_RX1_58 : Cond.methodLink RX1 58 yX0_countDown ∈ wA := wA_t2 155 (by decide +kernel) rfl
theorem q_i_yX0_countDown : Cond.instanceMethod yX0_countDown ∈ wA := wA_t2 156 (by decide +kernel) rfl
theorem q_s_yX0_countDown : Cond.selects RX0 yX0_countDown yX0_countDown ∈ wA := wA_t2 157 (by decide +kernel) rfl
theorem q_c_yX0_countDown : Cond.code yX0_countDown cX0_countDown 3 (some .int) ∈ wA := wA_t2 158 (by decide +kernel) rfl
theorem q_m_RX0_57 : Cond.methodLink RX0 57 yX0_canCount ∈ wA := wA_t2 159 (by decide +kernel) rfl
theorem q_i_yX0_canCount : Cond.instanceMethod yX0_canCount ∈ wA := wA_t2 160 (by decide +kernel) rfl
theorem q_s_yX0_canCount : Cond.selects RX0 yX0_canCount yX0_canCount ∈ wA := wA_t2 161 (by decide +kernel) rfl
theorem q_c_yX0_canCount : Cond.code yX0_canCount cX0_canCount 1 (some .boolean) ∈ wA := wA_t2 162 (by decide +kernel) rfl
theorem q_m_RX0_48 : Cond.methodLink RX0 48 yJ6_bitCount_0f7a4 ∈ wA := wA_t2 163 (by decide +kernel) rfl
theorem q_st_yJ6_bitCount_0f7a4 : Cond.static yJ6_bitCount_0f7a4 ∈ wA := wA_t2 164 (by decide +kernel) rfl
theorem q_c_yJ6_bitCount_0f7a4 : Cond.code yJ6_bitCount_0f7a4 cJ6_bitCount_0f7a4 1 (some .int) ∈ wA := wA_t2 165 (by decide +kernel) rfl
theorem q_k_RJ6_265 : Cond.constant RJ6 265 (1431655765) ∈ wA := wA_t2 166 (by decide +kernel) rfl
theorem q_k_RJ6_266 : Cond.constant RJ6 266 (858993459) ∈ wA := wA_t2 167 (by decide +kernel) rfl
theorem q_k_RJ6_267 : Cond.constant RJ6 267 (252645135) ∈ wA := wA_t2 168 (by decide +kernel) rfl
theorem q_m_RX0_70 : Cond.methodLink RX0 70 yX0_putOut ∈ wA := wA_t2 169 (by decide +kernel) rfl
theorem q_i_yX0_putOut : Cond.instanceMethod yX0_putOut ∈ wA := wA_t2 170 (by decide +kernel) rfl
theorem q_s_yX0_putOut : Cond.selects RX0 yX0_putOut yX0_putOut ∈ wA := wA_t2 171 (by decide +kernel) rfl
theorem q_c_yX0_putOut : Cond.code yX0_putOut cX0_putOut 3 (some .int) ∈ wA := wA_t2 172 (by decide +kernel) rfl
theorem q_m_RX0_61 : Cond.methodLink RX0 61 yX0_fallsOn ∈ wA := wA_t2 173 (by decide +kernel) rfl
theorem q_i_yX0_fallsOn : Cond.instanceMethod yX0_fallsOn ∈ wA := wA_t2 175 (by decide +kernel) rfl
theorem q_c_yX0_fallsOn : Cond.code yX0_fallsOn cX0_fallsOn 7 (some .int) ∈ wA := wA_t2 176 (by decide +kernel) rfl
theorem q_m_RX0_67 : Cond.methodLink RX0 67 yX0_nextOf ∈ wA := wA_t2 177 (by decide +kernel) rfl
theorem q_i_yX0_nextOf : Cond.instanceMethod yX0_nextOf ∈ wA := wA_t2 179 (by decide +kernel) rfl
theorem q_c_yX0_nextOf : Cond.code yX0_nextOf cX0_nextOf 5 (some .int) ∈ wA := wA_t2 180 (by decide +kernel) rfl
theorem q_m_RX0_77 : Cond.methodLink RX0 77 yX0_takenBy ∈ wA := wA_t2 181 (by decide +kernel) rfl
theorem q_m_RX0_64 : Cond.methodLink RX0 64 yX0_slipOn ∈ wA := wA_t2 182 (by decide +kernel) rfl
theorem q_i_yX0_slipOn : Cond.instanceMethod yX0_slipOn ∈ wA := wA_t2 184 (by decide +kernel) rfl
theorem q_c_yX0_slipOn : Cond.code yX0_slipOn cX0_slipOn 6 (some .int) ∈ wA := wA_t2 185 (by decide +kernel) rfl
theorem q_m_RX0_73 : Cond.methodLink RX0 73 yX0_onlyOneIn ∈ wA := wA_t2 186 (by decide +kernel) rfl
theorem q_i_yX0_onlyOneIn : Cond.instanceMethod yX0_onlyOneIn ∈ wA := wA_t2 187 (by decide +kernel) rfl
theorem q_s_yX0_onlyOneIn : Cond.selects RX0 yX0_onlyOneIn yX0_onlyOneIn ∈ wA := wA_t2 188 (by decide +kernel) rfl
theorem q_c_yX0_onlyOneIn : Cond.code yX0_onlyOneIn cX0_onlyOneIn 1 (some .int) ∈ wA := wA_t2 189 (by decide +kernel) rfl
theorem q_m_RX0_54 : Cond.methodLink RX0 54 yJ6_numberOfTrailingZeros_0f7a4 ∈ wA := wA_t2 190 (by decide +kernel) rfl
theorem q_st_yJ6_numberOfTrailingZeros_0f7a4 : Cond.static yJ6_numberOfTrailingZeros_0f7a4 ∈ wA := wA_t2 191 (by decide +kernel) rfl
theorem q_c_yJ6_numberOfTrailingZeros_0f7a4 : Cond.code yJ6_numberOfTrailingZeros_0f7a4 cJ6_numberOfTrailingZeros_0f7a4 2 (some .int) ∈ wA := wA_t2 192 (by decide +kernel) rfl
theorem q_k_RJ6_264 : Cond.constant RJ6 264 (65536) ∈ wA := wA_t2 193 (by decide +kernel) rfl
theorem q_m_RL_36 : Cond.methodLink RL 36 yX4_as ∈ wA := wA_t2 194 (by decide +kernel) rfl
theorem q_i_yX4_as : Cond.instanceMethod yX4_as ∈ wA := wA_t2 195 (by decide +kernel) rfl
theorem q_s_yX4_as : Cond.selects RX4 yX4_as yX4_as ∈ wA := wA_t2 196 (by decide +kernel) rfl
theorem q_c_yX4_as : Cond.code yX4_as cX4_as 5 (some .int) ∈ wA := wA_t2 197 (by decide +kernel) rfl
theorem q_m_RX4_91 : Cond.methodLink RX4 91 yX4_isKind ∈ wA := wA_t2 198 (by decide +kernel) rfl
theorem q_st_yX4_isKind : Cond.static yX4_isKind ∈ wA := wA_t2 199 (by decide +kernel) rfl
theorem q_c_yX4_isKind : Cond.code yX4_isKind cX4_isKind 1 (some .boolean) ∈ wA := wA_t2 200 (by decide +kernel) rfl
theorem q_m_RL_40 : Cond.methodLink RL 40 yX4_verse ∈ wA := wA_t2 201 (by decide +kernel) rfl
theorem q_i_yX4_verse : Cond.instanceMethod yX4_verse ∈ wA := wA_t2 202 (by decide +kernel) rfl
theorem q_s_yX4_verse : Cond.selects RX4 yX4_verse yX4_verse ∈ wA := wA_t2 203 (by decide +kernel) rfl
theorem q_c_yX4_verse : Cond.code yX4_verse cX4_verse 4 (some .int) ∈ wA := wA_t2 204 (by decide +kernel) rfl
theorem q_m_RX4_94 : Cond.methodLink RX4 94 yX3_hasVerse ∈ wA := wA_t2 205 (by decide +kernel) rfl
theorem q_i_yX3_hasVerse : Cond.instanceMethod yX3_hasVerse ∈ wA := wA_t2 206 (by decide +kernel) rfl
theorem q_s_yX3_hasVerse : Cond.selects RX3 yX3_hasVerse yX3_hasVerse ∈ wA := wA_t2 207 (by decide +kernel) rfl
theorem q_c_yX3_hasVerse : Cond.code yX3_hasVerse cX3_hasVerse 2 (some .boolean) ∈ wA := wA_t2 208 (by decide +kernel) rfl
theorem q_m_RX4_101 : Cond.methodLink RX4 101 yX1_outBy ∈ wA := wA_t2 209 (by decide +kernel) rfl
theorem q_i_yX1_outBy : Cond.instanceMethod yX1_outBy ∈ wA := wA_t2 210 (by decide +kernel) rfl
theorem q_s_yX1_outBy : Cond.selects RX1 yX1_outBy yX1_outBy ∈ wA := wA_t2 211 (by decide +kernel) rfl
theorem q_c_yX1_outBy : Cond.code yX1_outBy cX1_outBy 3 (some .int) ∈ wA := wA_t2 212 (by decide +kernel) rfl
theorem q_m_RX1_54 : Cond.methodLink RX1 54 yX0_putOut ∈ wA := wA_t2 213 (by decide +kernel) rfl
theorem q_m_RX4_105 : Cond.methodLink RX4 105 yX1_leftBy ∈ wA := wA_t2 214 (by decide +kernel) rfl
theorem q_m_RL_44 : Cond.methodLink RL 44 yX4_say ∈ wA := wA_t2 215 (by decide +kernel) rfl
theorem q_i_yX4_say : Cond.instanceMethod yX4_say ∈ wA := wA_t2 216 (by decide +kernel) rfl
theorem q_s_yX4_say : Cond.selects RX4 yX4_say yX4_say ∈ wA := wA_t2 217 (by decide +kernel) rfl
theorem q_c_yX4_say : Cond.code yX4_say cX4_say 2 (some .int) ∈ wA := wA_t2 218 (by decide +kernel) rfl
theorem q_m_RX4_108 : Cond.methodLink RX4 108 yX0_canCount ∈ wA := wA_t2 219 (by decide +kernel) rfl
theorem q_m_RX4_114 : Cond.methodLink RX4 114 yX0_putOut ∈ wA := wA_t2 220 (by decide +kernel) rfl
theorem q_m_RL_48 : Cond.methodLink RL 48 yX4_back ∈ wA := wA_t2 221 (by decide +kernel) rfl
theorem q_i_yX4_back : Cond.instanceMethod yX4_back ∈ wA := wA_t2 222 (by decide +kernel) rfl
theorem q_s_yX4_back : Cond.selects RX4 yX4_back yX4_back ∈ wA := wA_t2 223 (by decide +kernel) rfl
theorem q_c_yX4_back : Cond.code yX4_back cX4_back 2 (some .int) ∈ wA := wA_t2 224 (by decide +kernel) rfl
theorem q_m_RX4_120 : Cond.methodLink RX4 120 yX0_howManyIn ∈ wA := wA_t2 225 (by decide +kernel) rfl
theorem q_i_yX0_howManyIn : Cond.instanceMethod yX0_howManyIn ∈ wA := wA_t2 226 (by decide +kernel) rfl
theorem q_s_yX0_howManyIn : Cond.selects RX0 yX0_howManyIn yX0_howManyIn ∈ wA := wA_t2 227 (by decide +kernel) rfl
theorem q_c_yX0_howManyIn : Cond.code yX0_howManyIn cX0_howManyIn 1 (some .int) ∈ wA := wA_t2 228 (by decide +kernel) rfl
theorem q_m_RL_52 : Cond.methodLink RL 52 yX4_first ∈ wA := wA_t2 229 (by decide +kernel) rfl
theorem q_i_yX4_first : Cond.instanceMethod yX4_first ∈ wA := wA_t2 230 (by decide +kernel) rfl
theorem q_s_yX4_first : Cond.selects RX4 yX4_first yX4_first ∈ wA := wA_t2 231 (by decide +kernel) rfl
theorem q_c_yX4_first : Cond.code yX4_first cX4_first 3 (some .int) ∈ wA := wA_t2 232 (by decide +kernel) rfl
theorem q_m_RL_56 : Cond.methodLink RL 56 yX4_turn ∈ wA := wA_t2 233 (by decide +kernel) rfl
theorem q_i_yX4_turn : Cond.instanceMethod yX4_turn ∈ wA := wA_t2 234 (by decide +kernel) rfl
theorem q_s_yX4_turn : Cond.selects RX4 yX4_turn yX4_turn ∈ wA := wA_t2 235 (by decide +kernel) rfl
theorem q_c_yX4_turn : Cond.code yX4_turn cX4_turn 2 (some .int) ∈ wA := wA_t2 236 (by decide +kernel) rfl
theorem q_m_RX4_123 : Cond.methodLink RX4 123 yX3_hasRing ∈ wA := wA_t2 237 (by decide +kernel) rfl
theorem q_i_yX3_hasRing : Cond.instanceMethod yX3_hasRing ∈ wA := wA_t2 238 (by decide +kernel) rfl
theorem q_s_yX3_hasRing : Cond.selects RX3 yX3_hasRing yX3_hasRing ∈ wA := wA_t2 239 (by decide +kernel) rfl
theorem q_c_yX3_hasRing : Cond.code yX3_hasRing cX3_hasRing 1 (some .boolean) ∈ wA := wA_t3 0 (by decide +kernel) rfl
theorem q_m_RL_60 : Cond.methodLink RL 60 yX4_beats ∈ wA := wA_t3 1 (by decide +kernel) rfl
theorem q_i_yX4_beats : Cond.instanceMethod yX4_beats ∈ wA := wA_t3 2 (by decide +kernel) rfl
theorem q_s_yX4_beats : Cond.selects RX4 yX4_beats yX4_beats ∈ wA := wA_t3 3 (by decide +kernel) rfl
theorem q_c_yX4_beats : Cond.code yX4_beats cX4_beats 4 (some .int) ∈ wA := wA_t3 4 (by decide +kernel) rfl
theorem q_m_RX4_129 : Cond.methodLink RX4 129 yX4_isBeats ∈ wA := wA_t3 5 (by decide +kernel) rfl
theorem q_st_yX4_isBeats : Cond.static yX4_isBeats ∈ wA := wA_t3 6 (by decide +kernel) rfl
theorem q_c_yX4_isBeats : Cond.code yX4_isBeats cX4_isBeats 1 (some .boolean) ∈ wA := wA_t3 7 (by decide +kernel) rfl
theorem q_m_RL_64 : Cond.methodLink RL 64 yX4_be ∈ wA := wA_t3 8 (by decide +kernel) rfl
theorem q_i_yX4_be : Cond.instanceMethod yX4_be ∈ wA := wA_t3 9 (by decide +kernel) rfl
theorem q_s_yX4_be : Cond.selects RX4 yX4_be yX4_be ∈ wA := wA_t3 10 (by decide +kernel) rfl
theorem q_c_yX4_be : Cond.code yX4_be cX4_be 4 (some .int) ∈ wA := wA_t3 11 (by decide +kernel) rfl
theorem q_m_RX4_132 : Cond.methodLink RX4 132 yX0_become ∈ wA := wA_t3 12 (by decide +kernel) rfl
theorem q_m_RL_68 : Cond.methodLink RL 68 yX4_last ∈ wA := wA_t3 13 (by decide +kernel) rfl
theorem q_i_yX4_last : Cond.instanceMethod yX4_last ∈ wA := wA_t3 14 (by decide +kernel) rfl
theorem q_s_yX4_last : Cond.selects RX4 yX4_last yX4_last ∈ wA := wA_t3 15 (by decide +kernel) rfl
theorem q_c_yX4_last : Cond.code yX4_last cX4_last 2 (some .int) ∈ wA := wA_t3 16 (by decide +kernel) rfl
theorem q_m_RL_72 : Cond.methodLink RL 72 yX4_begin ∈ wA := wA_t3 17 (by decide +kernel) rfl
theorem q_i_yX4_begin : Cond.instanceMethod yX4_begin ∈ wA := wA_t3 18 (by decide +kernel) rfl
theorem q_s_yX4_begin : Cond.selects RX4 yX4_begin yX4_begin ∈ wA := wA_t3 19 (by decide +kernel) rfl
theorem q_c_yX4_begin : Cond.code yX4_begin cX4_begin 3 (some .int) ∈ wA := wA_t3 20 (by decide +kernel) rfl
theorem q_m_RX4_136 : Cond.methodLink RX4 136 yX1_startsFor ∈ wA := wA_t3 21 (by decide +kernel) rfl
theorem q_i_yX1_startsFor : Cond.instanceMethod yX1_startsFor ∈ wA := wA_t3 22 (by decide +kernel) rfl
theorem q_s_yX1_startsFor : Cond.selects RX1 yX1_startsFor yX1_startsFor ∈ wA := wA_t3 23 (by decide +kernel) rfl
theorem q_c_yX1_startsFor : Cond.code yX1_startsFor cX1_startsFor 5 (some .int) ∈ wA := wA_t3 24 (by decide +kernel) rfl
theorem q_m_RX1_71 : Cond.methodLink RX1 71 yX0_isIn ∈ wA := wA_t3 25 (by decide +kernel) rfl
theorem q_m_RL_76 : Cond.methodLink RL 76 yX4_stand ∈ wA := wA_t3 26 (by decide +kernel) rfl
theorem q_i_yX4_stand : Cond.instanceMethod yX4_stand ∈ wA := wA_t3 27 (by decide +kernel) rfl
theorem q_s_yX4_stand : Cond.selects RX4 yX4_stand yX4_stand ∈ wA := wA_t3 28 (by decide +kernel) rfl
theorem q_c_yX4_stand : Cond.code yX4_stand cX4_stand 3 (some .int) ∈ wA := wA_t3 29 (by decide +kernel) rfl
theorem q_m_RX4_139 : Cond.methodLink RX4 139 yX1_placesFor ∈ wA := wA_t3 30 (by decide +kernel) rfl
theorem q_i_yX1_placesFor : Cond.instanceMethod yX1_placesFor ∈ wA := wA_t3 31 (by decide +kernel) rfl
theorem q_s_yX1_placesFor : Cond.selects RX1 yX1_placesFor yX1_placesFor ∈ wA := wA_t3 32 (by decide +kernel) rfl
theorem q_c_yX1_placesFor : Cond.code yX1_placesFor cX1_placesFor 5 (some .int) ∈ wA := wA_t3 33 (by decide +kernel) rfl
theorem q_m_RX1_75 : Cond.methodLink RX1 75 yX0_addAhead ∈ wA := wA_t3 34 (by decide +kernel) rfl
theorem q_i_yX0_addAhead : Cond.instanceMethod yX0_addAhead ∈ wA := wA_t3 35 (by decide +kernel) rfl
theorem q_s_yX0_addAhead : Cond.selects RX0 yX0_addAhead yX0_addAhead ∈ wA := wA_t3 36 (by decide +kernel) rfl
theorem q_c_yX0_addAhead : Cond.code yX0_addAhead cX0_addAhead 3 none ∈ wA := wA_t3 37 (by decide +kernel) rfl
theorem q_m_RX0_44 : Cond.methodLink RX0 44 yX0_movedUp ∈ wA := wA_t3 38 (by decide +kernel) rfl
theorem q_st_yX0_movedUp : Cond.static yX0_movedUp ∈ wA := wA_t3 39 (by decide +kernel) rfl
theorem q_c_yX0_movedUp : Cond.code yX0_movedUp cX0_movedUp 3 (some .int) ∈ wA := wA_t3 40 (by decide +kernel) rfl
theorem q_m_RL_80 : Cond.methodLink RL 80 yX4_game ∈ wA := wA_t3 41 (by decide +kernel) rfl
theorem q_i_yX4_game : Cond.instanceMethod yX4_game ∈ wA := wA_t3 42 (by decide +kernel) rfl
theorem q_s_yX4_game : Cond.selects RX4 yX4_game yX4_game ∈ wA := wA_t3 43 (by decide +kernel) rfl
theorem q_c_yX4_game : Cond.code yX4_game cX4_game 4 (some .int) ∈ wA := wA_t3 44 (by decide +kernel) rfl
theorem q_m_RX4_142 : Cond.methodLink RX4 142 yX1_bestFor ∈ wA := wA_t3 45 (by decide +kernel) rfl
theorem q_i_yX1_bestFor : Cond.instanceMethod yX1_bestFor ∈ wA := wA_t3 46 (by decide +kernel) rfl
theorem q_s_yX1_bestFor : Cond.selects RX1 yX1_bestFor yX1_bestFor ∈ wA := wA_t3 47 (by decide +kernel) rfl
theorem q_c_yX1_bestFor : Cond.code yX1_bestFor cX1_bestFor 3 (some .int) ∈ wA := wA_t3 48 (by decide +kernel) rfl
theorem q_m_RX1_79 : Cond.methodLink RX1 79 yX1_worth ∈ wA := wA_t3 49 (by decide +kernel) rfl
theorem q_i_yX1_worth : Cond.instanceMethod yX1_worth ∈ wA := wA_t3 51 (by decide +kernel) rfl
theorem q_c_yX1_worth : Cond.code yX1_worth cX1_worth 10 (some .int) ∈ wA := wA_t3 52 (by decide +kernel) rfl
theorem q_m_RX1_86 : Cond.methodLink RX1 86 yX0_canCount ∈ wA := wA_t3 53 (by decide +kernel) rfl
theorem q_m_RX1_90 : Cond.methodLink RX1 90 yX0_pose ∈ wA := wA_t3 54 (by decide +kernel) rfl
theorem q_m_RX1_94 : Cond.methodLink RX1 94 yX3_hasVerse ∈ wA := wA_t3 55 (by decide +kernel) rfl
theorem q_m_RX1_100 : Cond.methodLink RX1 100 yX0_takePose ∈ wA := wA_t3 56 (by decide +kernel) rfl
theorem q_i_yX0_takePose : Cond.instanceMethod yX0_takePose ∈ wA := wA_t3 57 (by decide +kernel) rfl
theorem q_s_yX0_takePose : Cond.selects RX0 yX0_takePose yX0_takePose ∈ wA := wA_t3 58 (by decide +kernel) rfl
theorem q_c_yX0_takePose : Cond.code yX0_takePose cX0_takePose 2 none ∈ wA := wA_t3 59 (by decide +kernel) rfl
theorem q_m_RX4_145 : Cond.methodLink RX4 145 yX1_verseFor ∈ wA := wA_t3 60 (by decide +kernel) rfl
theorem q_i_yX1_verseFor : Cond.instanceMethod yX1_verseFor ∈ wA := wA_t3 61 (by decide +kernel) rfl
theorem q_s_yX1_verseFor : Cond.selects RX1 yX1_verseFor yX1_verseFor ∈ wA := wA_t3 62 (by decide +kernel) rfl
theorem q_c_yX1_verseFor : Cond.code yX1_verseFor cX1_verseFor 3 (some .int) ∈ wA := wA_t3 63 (by decide +kernel) rfl
theorem q_m_RL_85 : Cond.methodLink RL 85 yX4_likely ∈ wA := wA_t3 64 (by decide +kernel) rfl
theorem q_i_yX4_likely : Cond.instanceMethod yX4_likely ∈ wA := wA_t3 65 (by decide +kernel) rfl
theorem q_s_yX4_likely : Cond.selects RX4 yX4_likely yX4_likely ∈ wA := wA_t3 66 (by decide +kernel) rfl
theorem q_c_yX4_likely : Cond.code yX4_likely cX4_likely 3 (some .int) ∈ wA := wA_t3 67 (by decide +kernel) rfl
theorem q_m_RX4_148 : Cond.methodLink RX4 148 yX1_chanceOf ∈ wA := wA_t3 68 (by decide +kernel) rfl
theorem q_i_yX1_chanceOf : Cond.instanceMethod yX1_chanceOf ∈ wA := wA_t3 69 (by decide +kernel) rfl
theorem q_s_yX1_chanceOf : Cond.selects RX1 yX1_chanceOf yX1_chanceOf ∈ wA := wA_t3 70 (by decide +kernel) rfl
theorem q_c_yX1_chanceOf : Cond.code yX1_chanceOf cX1_chanceOf 8 (some .int) ∈ wA := wA_t3 71 (by decide +kernel) rfl
theorem q_m_RX1_104 : Cond.methodLink RX1 104 yX1_shareOut ∈ wA := wA_t3 72 (by decide +kernel) rfl
theorem q_i_yX1_shareOut : Cond.instanceMethod yX1_shareOut ∈ wA := wA_t3 74 (by decide +kernel) rfl
theorem q_c_yX1_shareOut : Cond.code yX1_shareOut cX1_shareOut 5 none ∈ wA := wA_t3 75 (by decide +kernel) rfl
theorem q_m_RX1_107 : Cond.methodLink RX1 107 yX0_onlyOneIn ∈ wA := wA_t3 76 (by decide +kernel) rfl
theorem q_m_RL_89 : Cond.methodLink RL 89 yX4_see ∈ wA := wA_t3 77 (by decide +kernel) rfl
theorem q_i_yX4_see : Cond.instanceMethod yX4_see ∈ wA := wA_t3 78 (by decide +kernel) rfl
theorem q_s_yX4_see : Cond.selects RX4 yX4_see yX4_see ∈ wA := wA_t3 79 (by decide +kernel) rfl
theorem q_c_yX4_see : Cond.code yX4_see cX4_see 3 (some .int) ∈ wA := wA_t3 80 (by decide +kernel) rfl
theorem q_m_RX4_152 : Cond.methodLink RX4 152 yX3_keepSeen ∈ wA := wA_t3 81 (by decide +kernel) rfl
theorem q_i_yX3_keepSeen : Cond.instanceMethod yX3_keepSeen ∈ wA := wA_t3 82 (by decide +kernel) rfl
theorem q_s_yX3_keepSeen : Cond.selects RX3 yX3_keepSeen yX3_keepSeen ∈ wA := wA_t3 83 (by decide +kernel) rfl
theorem q_c_yX3_keepSeen : Cond.code yX3_keepSeen cX3_keepSeen 3 (some .boolean) ∈ wA := wA_t3 84 (by decide +kernel) rfl
theorem q_m_RL_93 : Cond.methodLink RL 93 yX4_forget ∈ wA := wA_t3 85 (by decide +kernel) rfl
theorem q_i_yX4_forget : Cond.instanceMethod yX4_forget ∈ wA := wA_t3 86 (by decide +kernel) rfl
theorem q_s_yX4_forget : Cond.selects RX4 yX4_forget yX4_forget ∈ wA := wA_t3 87 (by decide +kernel) rfl
theorem q_c_yX4_forget : Cond.code yX4_forget cX4_forget 2 (some .int) ∈ wA := wA_t3 88 (by decide +kernel) rfl
theorem q_m_RL_97 : Cond.methodLink RL 97 yX4_lengths ∈ wA := wA_t3 89 (by decide +kernel) rfl
theorem q_i_yX4_lengths : Cond.instanceMethod yX4_lengths ∈ wA := wA_t3 90 (by decide +kernel) rfl
theorem q_s_yX4_lengths : Cond.selects RX4 yX4_lengths yX4_lengths ∈ wA := wA_t3 91 (by decide +kernel) rfl
theorem q_c_yX4_lengths : Cond.code yX4_lengths cX4_lengths 1 (some .int) ∈ wA := wA_t3 92 (by decide +kernel) rfl
theorem q_m_RX4_159 : Cond.methodLink RX4 159 yX1_lengthBits ∈ wA := wA_t3 93 (by decide +kernel) rfl
theorem q_i_yX1_lengthBits : Cond.instanceMethod yX1_lengthBits ∈ wA := wA_t3 94 (by decide +kernel) rfl
theorem q_s_yX1_lengthBits : Cond.selects RX1 yX1_lengthBits yX1_lengthBits ∈ wA := wA_t3 95 (by decide +kernel) rfl
theorem q_c_yX1_lengthBits : Cond.code yX1_lengthBits cX1_lengthBits 4 (some .int) ∈ wA := wA_t3 96 (by decide +kernel) rfl
theorem q_k_RX1_110 : Cond.constant RX1 110 (16777215) ∈ wA := wA_t3 97 (by decide +kernel) rfl
theorem q_m_RX1_117 : Cond.methodLink RX1 117 yX1_outBy ∈ wA := wA_t3 98 (by decide +kernel) rfl
theorem q_m_RL_101 : Cond.methodLink RL 101 yX4_from ∈ wA := wA_t3 99 (by decide +kernel) rfl
theorem q_i_yX4_from : Cond.instanceMethod yX4_from ∈ wA := wA_t3 100 (by decide +kernel) rfl
theorem q_s_yX4_from : Cond.selects RX4 yX4_from yX4_from ∈ wA := wA_t3 101 (by decide +kernel) rfl
theorem q_c_yX4_from : Cond.code yX4_from cX4_from 1 (some .int) ∈ wA := wA_t3 102 (by decide +kernel) rfl
theorem q_m_RX4_162 : Cond.methodLink RX4 162 yX1_tellingStart ∈ wA := wA_t3 103 (by decide +kernel) rfl
theorem q_i_yX1_tellingStart : Cond.instanceMethod yX1_tellingStart ∈ wA := wA_t3 104 (by decide +kernel) rfl
theorem q_s_yX1_tellingStart : Cond.selects RX1 yX1_tellingStart yX1_tellingStart ∈ wA := wA_t3 105 (by decide +kernel) rfl
theorem q_c_yX1_tellingStart : Cond.code yX1_tellingStart cX1_tellingStart 6 (some .int) ∈ wA := wA_t3 106 (by decide +kernel) rfl
theorem q_m_RX1_124 : Cond.methodLink RX1 124 yX1_mostLeft ∈ wA := wA_t3 107 (by decide +kernel) rfl
theorem q_i_yX1_mostLeft : Cond.instanceMethod yX1_mostLeft ∈ wA := wA_t3 109 (by decide +kernel) rfl
theorem q_c_yX1_mostLeft : Cond.code yX1_mostLeft cX1_mostLeft 6 (some .int) ∈ wA := wA_t3 110 (by decide +kernel) rfl
theorem q_m_RX1_127 : Cond.methodLink RX1 127 yJ9_max_7cf53 ∈ wA := wA_t3 111 (by decide +kernel) rfl
theorem q_m_RL_105 : Cond.methodLink RL 105 yX4_rounds ∈ wA := wA_t3 112 (by decide +kernel) rfl
theorem q_i_yX4_rounds : Cond.instanceMethod yX4_rounds ∈ wA := wA_t3 113 (by decide +kernel) rfl
theorem q_s_yX4_rounds : Cond.selects RX4 yX4_rounds yX4_rounds ∈ wA := wA_t3 114 (by decide +kernel) rfl
theorem q_c_yX4_rounds : Cond.code yX4_rounds cX4_rounds 4 (some .int) ∈ wA := wA_t3 115 (by decide +kernel) rfl
theorem q_m_RX4_165 : Cond.methodLink RX4 165 yX1_playRounds ∈ wA := wA_t3 116 (by decide +kernel) rfl
theorem q_i_yX1_playRounds : Cond.instanceMethod yX1_playRounds ∈ wA := wA_t3 117 (by decide +kernel) rfl
theorem q_s_yX1_playRounds : Cond.selects RX1 yX1_playRounds yX1_playRounds ∈ wA := wA_t3 118 (by decide +kernel) rfl
theorem q_c_yX1_playRounds : Cond.code yX1_playRounds cX1_playRounds 7 (some .int) ∈ wA := wA_t3 119 (by decide +kernel) rfl
theorem q_kl_RX1_132 : Cond.constantLong RX1 132 (1103515245) ∈ wA := wA_t3 120 (by decide +kernel) rfl
theorem q_kl_RX1_134 : Cond.constantLong RX1 134 (12345) ∈ wA := wA_t3 121 (by decide +kernel) rfl
theorem q_kl_RX1_136 : Cond.constantLong RX1 136 (2147483648) ∈ wA := wA_t3 122 (by decide +kernel) rfl
theorem q_m_RX1_138 : Cond.methodLink RX1 138 yX1_beatsDrawn ∈ wA := wA_t3 123 (by decide +kernel) rfl
theorem q_i_yX1_beatsDrawn : Cond.instanceMethod yX1_beatsDrawn ∈ wA := wA_t3 125 (by decide +kernel) rfl
theorem q_c_yX1_beatsDrawn : Cond.code yX1_beatsDrawn cX1_beatsDrawn 3 (some .int) ∈ wA := wA_t3 126 (by decide +kernel) rfl
theorem q_k_RX1_147 : Cond.constant RX1 147 (65536) ∈ wA := wA_t3 127 (by decide +kernel) rfl
theorem q_m_RX1_141 : Cond.methodLink RX1 141 yX0_allComeBack ∈ wA := wA_t3 128 (by decide +kernel) rfl
theorem q_i_yX0_allComeBack : Cond.instanceMethod yX0_allComeBack ∈ wA := wA_t3 129 (by decide +kernel) rfl
theorem q_s_yX0_allComeBack : Cond.selects RX0 yX0_allComeBack yX0_allComeBack ∈ wA := wA_t3 130 (by decide +kernel) rfl
theorem q_c_yX0_allComeBack : Cond.code yX0_allComeBack cX0_allComeBack 1 none ∈ wA := wA_t3 131 (by decide +kernel) rfl
theorem q_m_RL_109 : Cond.methodLink RL 109 yX4_image ∈ wA := wA_t3 132 (by decide +kernel) rfl
theorem q_i_yX4_image : Cond.instanceMethod yX4_image ∈ wA := wA_t3 133 (by decide +kernel) rfl
theorem q_s_yX4_image : Cond.selects RX4 yX4_image yX4_image ∈ wA := wA_t3 134 (by decide +kernel) rfl
theorem q_c_yX4_image : Cond.code yX4_image cX4_image 1 (some .int) ∈ wA := wA_t3 135 (by decide +kernel) rfl
theorem q_m_RX4_169 : Cond.methodLink RX4 169 yX3_takeAll ∈ wA := wA_t3 136 (by decide +kernel) rfl
theorem q_i_yX3_takeAll : Cond.instanceMethod yX3_takeAll ∈ wA := wA_t3 137 (by decide +kernel) rfl
theorem q_s_yX3_takeAll : Cond.selects RX3 yX3_takeAll yX3_takeAll ∈ wA := wA_t3 138 (by decide +kernel) rfl
theorem q_c_yX3_takeAll : Cond.code yX3_takeAll cX3_takeAll 2 none ∈ wA := wA_t3 139 (by decide +kernel) rfl
theorem q_m_RX3_64 : Cond.methodLink RX3 64 yX0_takeAll ∈ wA := wA_t3 140 (by decide +kernel) rfl
theorem q_m_RL_113 : Cond.methodLink RL 113 yX4_restore ∈ wA := wA_t3 141 (by decide +kernel) rfl
theorem q_i_yX4_restore : Cond.instanceMethod yX4_restore ∈ wA := wA_t3 142 (by decide +kernel) rfl
theorem q_s_yX4_restore : Cond.selects RX4 yX4_restore yX4_restore ∈ wA := wA_t3 143 (by decide +kernel) rfl
theorem q_c_yX4_restore : Cond.code yX4_restore cX4_restore 1 (some .int) ∈ wA := wA_t3 144 (by decide +kernel) rfl
theorem q_m_RL_117 : Cond.methodLink RL 117 yX4_count ∈ wA := wA_t3 145 (by decide +kernel) rfl
theorem q_i_yX4_count : Cond.instanceMethod yX4_count ∈ wA := wA_t3 146 (by decide +kernel) rfl
theorem q_s_yX4_count : Cond.selects RX4 yX4_count yX4_count ∈ wA := wA_t3 147 (by decide +kernel) rfl
theorem q_c_yX4_count : Cond.code yX4_count cX4_count 3 (some .int) ∈ wA := wA_t3 148 (by decide +kernel) rfl
theorem q_m_RX4_178 : Cond.methodLink RX4 178 yJ6_bitCount_0f7a4 ∈ wA := wA_t3 149 (by decide +kernel) rfl
theorem q_m_RX4_183 : Cond.methodLink RX4 183 yX0_takenTogether ∈ wA := wA_t3 150 (by decide +kernel) rfl
theorem q_i_yX0_takenTogether : Cond.instanceMethod yX0_takenTogether ∈ wA := wA_t3 151 (by decide +kernel) rfl
theorem q_s_yX0_takenTogether : Cond.selects RX0 yX0_takenTogether yX0_takenTogether ∈ wA := wA_t3 152 (by decide +kernel) rfl
theorem q_c_yX0_takenTogether : Cond.code yX0_takenTogether cX0_takenTogether 1 (some .int) ∈ wA := wA_t3 153 (by decide +kernel) rfl
theorem q_m_RL_121 : Cond.methodLink RL 121 yX4_digest ∈ wA := wA_t3 154 (by decide +kernel) rfl
theorem q_i_yX4_digest : Cond.instanceMethod yX4_digest ∈ wA := wA_t3 155 (by decide +kernel) rfl
theorem q_s_yX4_digest : Cond.selects RX4 yX4_digest yX4_digest ∈ wA := wA_t3 156 (by decide +kernel) rfl
theorem q_c_yX4_digest : Cond.code yX4_digest cX4_digest 6 (some .long) ∈ wA := wA_t3 157 (by decide +kernel) rfl
theorem q_kl_RX4_186 : Cond.constantLong RX4 186 (1289) ∈ wA := wA_t3 158 (by decide +kernel) rfl
theorem q_kl_RX4_188 : Cond.constantLong RX4 188 (31) ∈ wA := wA_t3 159 (by decide +kernel) rfl
theorem q_m_RX4_190 : Cond.methodLink RX4 190 yX4_child ∈ wA := wA_t3 160 (by decide +kernel) rfl
theorem q_m_RX4_193 : Cond.methodLink RX4 193 yX4_begin ∈ wA := wA_t3 161 (by decide +kernel) rfl
theorem q_m_RX4_196 : Cond.methodLink RX4 196 yX4_verse ∈ wA := wA_t3 162 (by decide +kernel) rfl
theorem q_m_RX4_199 : Cond.methodLink RX4 199 yX4_last ∈ wA := wA_t3 163 (by decide +kernel) rfl
theorem q_m_RX4_202 : Cond.methodLink RX4 202 yX4_stand ∈ wA := wA_t3 164 (by decide +kernel) rfl
theorem q_m_RX4_205 : Cond.methodLink RX4 205 yX4_lengths ∈ wA := wA_t3 165 (by decide +kernel) rfl
theorem q_m_RX4_208 : Cond.methodLink RX4 208 yX4_from ∈ wA := wA_t3 166 (by decide +kernel) rfl
theorem q_m_RX4_211 : Cond.methodLink RX4 211 yX4_game ∈ wA := wA_t3 167 (by decide +kernel) rfl
theorem q_m_RX4_214 : Cond.methodLink RX4 214 yX4_likely ∈ wA := wA_t3 168 (by decide +kernel) rfl
theorem q_m_RX4_220 : Cond.methodLink RX4 220 yX4_count ∈ wA := wA_t3 169 (by decide +kernel) rfl
theorem q_cl_RL_10 : Cond.classLink RL 10 RX5 ∈ wA := wA_t3 170 (by decide +kernel) rfl
theorem q_new_RX5 : Cond.instantiable RX5 50 ∈ wA := wA_t3 171 (by decide +kernel) rfl
theorem q_m_RL_12 : Cond.methodLink RL 12 yX5_init ∈ wA := wA_t3 172 (by decide +kernel) rfl
theorem q_i_yX5_init : Cond.instanceMethod yX5_init ∈ wA := wA_t3 173 (by decide +kernel) rfl
theorem q_c_yX5_init : Cond.code yX5_init cX5_init 1 none ∈ wA := wA_t3 174 (by decide +kernel) rfl
theorem q_m_RX5_1 : Cond.methodLink RX5 1 objectInit ∈ wA := wA_t3 175 (by decide +kernel) rfl
theorem q_f_RX5_134 : Cond.fieldLink RX5 134 "CountOutModel" "rings" "I" ∈ wA := wA_t3 176 (by decide +kernel) rfl
theorem q_f_RX5_116 : Cond.fieldLink RX5 116 "CountOutModel" "children" "I" ∈ wA := wA_t3 177 (by decide +kernel) rfl
theorem q_f_RX5_113 : Cond.fieldLink RX5 113 "CountOutModel" "verses" "I" ∈ wA := wA_t3 178 (by decide +kernel) rfl
theorem q_f_RX5_7 : Cond.fieldLink RX5 7 "CountOutModel" "beatsOf" "[I" ∈ wA := wA_t3 179 (by decide +kernel) rfl
theorem q_f_RX5_13 : Cond.fieldLink RX5 13 "CountOutModel" "kindOf" "[I" ∈ wA := wA_t3 180 (by decide +kernel) rfl
theorem q_f_RX5_119 : Cond.fieldLink RX5 119 "CountOutModel" "in" "I" ∈ wA := wA_t3 181 (by decide +kernel) rfl
theorem q_f_RX5_122 : Cond.fieldLink RX5 122 "CountOutModel" "slipped" "I" ∈ wA := wA_t3 182 (by decide +kernel) rfl
theorem q_f_RX5_125 : Cond.fieldLink RX5 125 "CountOutModel" "first" "I" ∈ wA := wA_t3 183 (by decide +kernel) rfl
theorem q_f_RX5_128 : Cond.fieldLink RX5 128 "CountOutModel" "onward" "Z" ∈ wA := wA_t3 184 (by decide +kernel) rfl
theorem q_f_RX5_131 : Cond.fieldLink RX5 131 "CountOutModel" "counts" "I" ∈ wA := wA_t3 185 (by decide +kernel) rfl
theorem q_f_RX5_137 : Cond.fieldLink RX5 137 "CountOutModel" "seen" "I" ∈ wA := wA_t3 186 (by decide +kernel) rfl
theorem q_f_RX5_16 : Cond.fieldLink RX5 16 "CountOutModel" "seenFrom" "[I" ∈ wA := wA_t3 187 (by decide +kernel) rfl
theorem q_f_RX5_19 : Cond.fieldLink RX5 19 "CountOutModel" "seenOut" "[I" ∈ wA := wA_t3 188 (by decide +kernel) rfl
theorem q_f_RX5_81 : Cond.fieldLink RX5 81 "CountOutModel" "pageLength" "I" ∈ wA := wA_t3 189 (by decide +kernel) rfl
theorem q_f_RX5_22 : Cond.fieldLink RX5 22 "CountOutModel" "page" "[B" ∈ wA := wA_t3 190 (by decide +kernel) rfl
theorem q_f_RX5_95 : Cond.fieldLink RX5 95 "CountOutModel" "isWhole" "Z" ∈ wA := wA_t3 191 (by decide +kernel) rfl
theorem q_f_RX5_99 : Cond.fieldLink RX5 99 "CountOutModel" "newVerses" "I" ∈ wA := wA_t3 192 (by decide +kernel) rfl
theorem q_f_RX5_89 : Cond.fieldLink RX5 89 "CountOutModel" "newChildren" "I" ∈ wA := wA_t3 193 (by decide +kernel) rfl
theorem q_f_RX5_163 : Cond.fieldLink RX5 163 "CountOutModel" "savedIn" "I" ∈ wA := wA_t3 194 (by decide +kernel) rfl
theorem q_f_RX5_166 : Cond.fieldLink RX5 166 "CountOutModel" "savedSlipped" "I" ∈ wA := wA_t3 195 (by decide +kernel) rfl
theorem q_f_RX5_169 : Cond.fieldLink RX5 169 "CountOutModel" "savedFirst" "I" ∈ wA := wA_t3 196 (by decide +kernel) rfl
theorem q_f_RX5_172 : Cond.fieldLink RX5 172 "CountOutModel" "savedOnward" "Z" ∈ wA := wA_t3 197 (by decide +kernel) rfl
theorem q_f_RX5_26 : Cond.fieldLink RX5 26 "CountOutModel" "comesTo" "[I" ∈ wA := wA_t3 198 (by decide +kernel) rfl
theorem q_f_RX5_225 : Cond.fieldLink RX5 225 "CountOutModel" "ending" "I" ∈ wA := wA_t3 199 (by decide +kernel) rfl
theorem q_f_RX5_29 : Cond.fieldLink RX5 29 "CountOutModel" "deepIn" "[I" ∈ wA := wA_t3 200 (by decide +kernel) rfl
theorem q_f_RX5_32 : Cond.fieldLink RX5 32 "CountOutModel" "deepSlipped" "[I" ∈ wA := wA_t3 201 (by decide +kernel) rfl
theorem q_f_RX5_35 : Cond.fieldLink RX5 35 "CountOutModel" "deepFirst" "[I" ∈ wA := wA_t3 202 (by decide +kernel) rfl
theorem q_f_RX5_38 : Cond.fieldLink RX5 38 "CountOutModel" "deepOnward" "[I" ∈ wA := wA_t3 203 (by decide +kernel) rfl
theorem q_f_RX5_41 : Cond.fieldLink RX5 41 "CountOutModel" "deepWays" "[I" ∈ wA := wA_t3 204 (by decide +kernel) rfl
theorem q_f_RX5_44 : Cond.fieldLink RX5 44 "CountOutModel" "deepFace" "[I" ∈ wA := wA_t3 205 (by decide +kernel) rfl
theorem q_f_RX5_47 : Cond.fieldLink RX5 47 "CountOutModel" "faceIn" "[I" ∈ wA := wA_t3 206 (by decide +kernel) rfl
theorem q_f_RX5_50 : Cond.fieldLink RX5 50 "CountOutModel" "faceSlipped" "[I" ∈ wA := wA_t3 207 (by decide +kernel) rfl
theorem q_f_RX5_53 : Cond.fieldLink RX5 53 "CountOutModel" "faceFirst" "[I" ∈ wA := wA_t3 208 (by decide +kernel) rfl
theorem q_f_RX5_56 : Cond.fieldLink RX5 56 "CountOutModel" "faceOnward" "[I" ∈ wA := wA_t3 209 (by decide +kernel) rfl
theorem q_f_RX5_59 : Cond.fieldLink RX5 59 "CountOutModel" "partsOf" "[I" ∈ wA := wA_t3 210 (by decide +kernel) rfl
theorem q_f_RX5_62 : Cond.fieldLink RX5 62 "CountOutModel" "outOf" "[I" ∈ wA := wA_t3 211 (by decide +kernel) rfl
theorem q_f_RX5_286 : Cond.fieldLink RX5 286 "CountOutModel" "seedNow" "J" ∈ wA := wA_t3 212 (by decide +kernel) rfl
theorem q_f_RX5_302 : Cond.fieldLink RX5 302 "CountOutModel" "isKept" "Z" ∈ wA := wA_t3 213 (by decide +kernel) rfl
theorem q_f_RX5_305 : Cond.fieldLink RX5 305 "CountOutModel" "keptRing" "I" ∈ wA := wA_t3 214 (by decide +kernel) rfl
theorem q_f_RX5_308 : Cond.fieldLink RX5 308 "CountOutModel" "keptIn" "I" ∈ wA := wA_t3 215 (by decide +kernel) rfl
theorem q_f_RX5_311 : Cond.fieldLink RX5 311 "CountOutModel" "keptSlipped" "I" ∈ wA := wA_t3 216 (by decide +kernel) rfl
theorem q_f_RX5_314 : Cond.fieldLink RX5 314 "CountOutModel" "keptFirst" "I" ∈ wA := wA_t3 217 (by decide +kernel) rfl
theorem q_f_RX5_317 : Cond.fieldLink RX5 317 "CountOutModel" "keptOnward" "Z" ∈ wA := wA_t3 218 (by decide +kernel) rfl
theorem q_f_RX5_320 : Cond.fieldLink RX5 320 "CountOutModel" "keptCounts" "I" ∈ wA := wA_t3 219 (by decide +kernel) rfl
theorem q_f_RX5_323 : Cond.fieldLink RX5 323 "CountOutModel" "keptSeen" "I" ∈ wA := wA_t3 220 (by decide +kernel) rfl
theorem q_f_RX5_65 : Cond.fieldLink RX5 65 "CountOutModel" "keptKind" "[I" ∈ wA := wA_t3 221 (by decide +kernel) rfl
theorem q_f_RX5_68 : Cond.fieldLink RX5 68 "CountOutModel" "keptBeats" "[I" ∈ wA := wA_t3 222 (by decide +kernel) rfl
theorem q_f_RX5_71 : Cond.fieldLink RX5 71 "CountOutModel" "keptFrom" "[I" ∈ wA := wA_t3 223 (by decide +kernel) rfl
theorem q_f_RX5_74 : Cond.fieldLink RX5 74 "CountOutModel" "keptOut" "[I" ∈ wA := wA_t3 224 (by decide +kernel) rfl
theorem q_f_RX5_331 : Cond.fieldLink RX5 331 "CountOutModel" "h" "J" ∈ wA := wA_t3 225 (by decide +kernel) rfl
theorem q_m_RL_17 : Cond.methodLink RL 17 yX5_letter ∈ wA := wA_t4 87 (by decide +kernel) rfl
theorem q_i_yX5_letter : Cond.instanceMethod yX5_letter ∈ wA := wA_t4 88 (by decide +kernel) rfl
theorem q_s_yX5_letter : Cond.selects RX5 yX5_letter yX5_letter ∈ wA := wA_t4 89 (by decide +kernel) rfl
theorem q_c_yX5_letter : Cond.code yX5_letter cX5_letter 2 (some .int) ∈ wA := wA_t4 90 (by decide +kernel) rfl
theorem q_m_RX5_77 : Cond.methodLink RX5 77 yX5_within ∈ wA := wA_t4 91 (by decide +kernel) rfl
theorem q_st_yX5_within : Cond.static yX5_within ∈ wA := wA_t4 92 (by decide +kernel) rfl
theorem q_c_yX5_within : Cond.code yX5_within cX5_within 3 (some .boolean) ∈ wA := wA_t4 93 (by decide +kernel) rfl
theorem q_m_RL_22 : Cond.methodLink RL 22 yX5_blank ∈ wA := wA_t4 94 (by decide +kernel) rfl
theorem q_i_yX5_blank : Cond.instanceMethod yX5_blank ∈ wA := wA_t4 95 (by decide +kernel) rfl
theorem q_s_yX5_blank : Cond.selects RX5 yX5_blank yX5_blank ∈ wA := wA_t4 96 (by decide +kernel) rfl
theorem q_c_yX5_blank : Cond.code yX5_blank cX5_blank 2 (some .int) ∈ wA := wA_t4 97 (by decide +kernel) rfl
theorem q_m_RL_26 : Cond.methodLink RL 26 yX5_fault ∈ wA := wA_t4 98 (by decide +kernel) rfl
theorem q_i_yX5_fault : Cond.instanceMethod yX5_fault ∈ wA := wA_t4 99 (by decide +kernel) rfl
theorem q_s_yX5_fault : Cond.selects RX5 yX5_fault yX5_fault ∈ wA := wA_t4 100 (by decide +kernel) rfl
theorem q_c_yX5_fault : Cond.code yX5_fault cX5_fault 1 (some .int) ∈ wA := wA_t4 101 (by decide +kernel) rfl
theorem q_m_RX5_109 : Cond.methodLink RX5 109 yX5_read ∈ wA := wA_t4 102 (by decide +kernel) rfl
theorem q_i_yX5_read : Cond.instanceMethod yX5_read ∈ wA := wA_t4 104 (by decide +kernel) rfl
theorem q_c_yX5_read : Cond.code yX5_read cX5_read 2 (some .int) ∈ wA := wA_t4 105 (by decide +kernel) rfl
theorem q_m_RX5_102 : Cond.methodLink RX5 102 yX5_isFigure ∈ wA := wA_t4 106 (by decide +kernel) rfl
theorem q_i_yX5_isFigure : Cond.instanceMethod yX5_isFigure ∈ wA := wA_t4 108 (by decide +kernel) rfl
theorem q_c_yX5_isFigure : Cond.code yX5_isFigure cX5_isFigure 3 (some .boolean) ∈ wA := wA_t4 109 (by decide +kernel) rfl
theorem q_m_RX5_85 : Cond.methodLink RX5 85 yX5_at ∈ wA := wA_t4 110 (by decide +kernel) rfl
theorem q_i_yX5_at : Cond.instanceMethod yX5_at ∈ wA := wA_t4 112 (by decide +kernel) rfl
theorem q_c_yX5_at : Cond.code yX5_at cX5_at 2 (some .int) ∈ wA := wA_t4 113 (by decide +kernel) rfl
theorem q_m_RX5_106 : Cond.methodLink RX5 106 yX5_readChildren ∈ wA := wA_t4 114 (by decide +kernel) rfl
theorem q_i_yX5_readChildren : Cond.instanceMethod yX5_readChildren ∈ wA := wA_t4 116 (by decide +kernel) rfl
theorem q_c_yX5_readChildren : Cond.code yX5_readChildren cX5_readChildren 3 (some .int) ∈ wA := wA_t4 117 (by decide +kernel) rfl
theorem q_m_RX5_92 : Cond.methodLink RX5 92 yX5_kindBy ∈ wA := wA_t4 118 (by decide +kernel) rfl
theorem q_st_yX5_kindBy : Cond.static yX5_kindBy ∈ wA := wA_t4 119 (by decide +kernel) rfl
theorem q_c_yX5_kindBy : Cond.code yX5_kindBy cX5_kindBy 1 (some .int) ∈ wA := wA_t4 120 (by decide +kernel) rfl
theorem q_m_RL_30 : Cond.methodLink RL 30 yX5_ring ∈ wA := wA_t4 121 (by decide +kernel) rfl
theorem q_i_yX5_ring : Cond.instanceMethod yX5_ring ∈ wA := wA_t4 122 (by decide +kernel) rfl
theorem q_s_yX5_ring : Cond.selects RX5 yX5_ring yX5_ring ∈ wA := wA_t4 123 (by decide +kernel) rfl
theorem q_c_yX5_ring : Cond.code yX5_ring cX5_ring 2 (some .int) ∈ wA := wA_t4 124 (by decide +kernel) rfl
theorem q_m_RL_35 : Cond.methodLink RL 35 yX5_child ∈ wA := wA_t4 125 (by decide +kernel) rfl
theorem q_i_yX5_child : Cond.instanceMethod yX5_child ∈ wA := wA_t4 126 (by decide +kernel) rfl
theorem q_s_yX5_child : Cond.selects RX5 yX5_child yX5_child ∈ wA := wA_t4 127 (by decide +kernel) rfl
theorem q_c_yX5_child : Cond.code yX5_child cX5_child 3 (some .int) ∈ wA := wA_t4 128 (by decide +kernel) rfl
theorem q_m_RX5_197 : Cond.methodLink RX5 197 yX5_isChild ∈ wA := wA_t4 129 (by decide +kernel) rfl
theorem q_i_yX5_isChild : Cond.instanceMethod yX5_isChild ∈ wA := wA_t4 131 (by decide +kernel) rfl
theorem q_c_yX5_isChild : Cond.code yX5_isChild cX5_isChild 2 (some .boolean) ∈ wA := wA_t4 132 (by decide +kernel) rfl
theorem q_m_RX5_200 : Cond.methodLink RX5 200 yX5_childNow ∈ wA := wA_t4 133 (by decide +kernel) rfl
theorem q_i_yX5_childNow : Cond.instanceMethod yX5_childNow ∈ wA := wA_t4 135 (by decide +kernel) rfl
theorem q_c_yX5_childNow : Cond.code yX5_childNow cX5_childNow 3 (some .int) ∈ wA := wA_t4 136 (by decide +kernel) rfl
theorem q_m_RX5_140 : Cond.methodLink RX5 140 yX5_isIn ∈ wA := wA_t4 137 (by decide +kernel) rfl
theorem q_st_yX5_isIn : Cond.static yX5_isIn ∈ wA := wA_t4 138 (by decide +kernel) rfl
theorem q_c_yX5_isIn : Cond.code yX5_isIn cX5_isIn 2 (some .boolean) ∈ wA := wA_t4 139 (by decide +kernel) rfl
theorem q_m_RX5_143 : Cond.methodLink RX5 143 yX5_takes ∈ wA := wA_t4 140 (by decide +kernel) rfl
theorem q_st_yX5_takes : Cond.static yX5_takes ∈ wA := wA_t4 141 (by decide +kernel) rfl
theorem q_c_yX5_takes : Cond.code yX5_takes cX5_takes 1 (some .int) ∈ wA := wA_t4 142 (by decide +kernel) rfl
theorem q_m_RX5_194 : Cond.methodLink RX5 194 yX5_beatsFor ∈ wA := wA_t4 143 (by decide +kernel) rfl
theorem q_i_yX5_beatsFor : Cond.instanceMethod yX5_beatsFor ∈ wA := wA_t4 145 (by decide +kernel) rfl
theorem q_c_yX5_beatsFor : Cond.code yX5_beatsFor cX5_beatsFor 3 (some .int) ∈ wA := wA_t4 146 (by decide +kernel) rfl
theorem q_m_RX5_191 : Cond.methodLink RX5 191 yX5_lastBy ∈ wA := wA_t4 147 (by decide +kernel) rfl
theorem q_i_yX5_lastBy : Cond.instanceMethod yX5_lastBy ∈ wA := wA_t4 149 (by decide +kernel) rfl
theorem q_c_yX5_lastBy : Cond.code yX5_lastBy cX5_lastBy 3 (some .int) ∈ wA := wA_t4 150 (by decide +kernel) rfl
theorem q_m_RX5_182 : Cond.methodLink RX5 182 yX5_save ∈ wA := wA_t4 151 (by decide +kernel) rfl
theorem q_i_yX5_save : Cond.instanceMethod yX5_save ∈ wA := wA_t4 153 (by decide +kernel) rfl
theorem q_c_yX5_save : Cond.code yX5_save cX5_save 1 none ∈ wA := wA_t4 154 (by decide +kernel) rfl
theorem q_m_RX5_185 : Cond.methodLink RX5 185 yX5_lastNow ∈ wA := wA_t4 155 (by decide +kernel) rfl
theorem q_i_yX5_lastNow : Cond.instanceMethod yX5_lastNow ∈ wA := wA_t4 157 (by decide +kernel) rfl
theorem q_c_yX5_lastNow : Cond.code yX5_lastNow cX5_lastNow 4 (some .int) ∈ wA := wA_t4 158 (by decide +kernel) rfl
theorem q_m_RX5_175 : Cond.methodLink RX5 175 yX5_isCount ∈ wA := wA_t4 159 (by decide +kernel) rfl
theorem q_i_yX5_isCount : Cond.instanceMethod yX5_isCount ∈ wA := wA_t4 161 (by decide +kernel) rfl
theorem q_c_yX5_isCount : Cond.code yX5_isCount cX5_isCount 1 (some .boolean) ∈ wA := wA_t4 162 (by decide +kernel) rfl
theorem q_m_RX5_146 : Cond.methodLink RX5 146 yX5_size ∈ wA := wA_t4 163 (by decide +kernel) rfl
theorem q_st_yX5_size : Cond.static yX5_size ∈ wA := wA_t4 164 (by decide +kernel) rfl
theorem q_c_yX5_size : Cond.code yX5_size cX5_size 3 (some .int) ∈ wA := wA_t4 165 (by decide +kernel) rfl
theorem q_m_RX5_149 : Cond.methodLink RX5 149 yX5_beatsIn ∈ wA := wA_t4 166 (by decide +kernel) rfl
theorem q_i_yX5_beatsIn : Cond.instanceMethod yX5_beatsIn ∈ wA := wA_t4 168 (by decide +kernel) rfl
theorem q_c_yX5_beatsIn : Cond.code yX5_beatsIn cX5_beatsIn 3 (some .int) ∈ wA := wA_t4 169 (by decide +kernel) rfl
theorem q_m_RX5_179 : Cond.methodLink RX5 179 yX5_goCount ∈ wA := wA_t4 170 (by decide +kernel) rfl
theorem q_i_yX5_goCount : Cond.instanceMethod yX5_goCount ∈ wA := wA_t4 172 (by decide +kernel) rfl
theorem q_c_yX5_goCount : Cond.code yX5_goCount cX5_goCount 4 (some .int) ∈ wA := wA_t4 173 (by decide +kernel) rfl
theorem q_m_RX5_152 : Cond.methodLink RX5 152 yX5_nextFrom ∈ wA := wA_t4 174 (by decide +kernel) rfl
theorem q_i_yX5_nextFrom : Cond.instanceMethod yX5_nextFrom ∈ wA := wA_t4 176 (by decide +kernel) rfl
theorem q_c_yX5_nextFrom : Cond.code yX5_nextFrom cX5_nextFrom 5 (some .int) ∈ wA := wA_t4 177 (by decide +kernel) rfl
theorem q_m_RX5_156 : Cond.methodLink RX5 156 yX5_isSly ∈ wA := wA_t4 178 (by decide +kernel) rfl
theorem q_i_yX5_isSly : Cond.instanceMethod yX5_isSly ∈ wA := wA_t4 180 (by decide +kernel) rfl
theorem q_c_yX5_isSly : Cond.code yX5_isSly cX5_isSly 2 (some .boolean) ∈ wA := wA_t4 181 (by decide +kernel) rfl
theorem q_m_RX5_160 : Cond.methodLink RX5 160 yX5_isOther ∈ wA := wA_t4 182 (by decide +kernel) rfl
theorem q_i_yX5_isOther : Cond.instanceMethod yX5_isOther ∈ wA := wA_t4 184 (by decide +kernel) rfl
theorem q_c_yX5_isOther : Cond.code yX5_isOther cX5_isOther 4 (some .boolean) ∈ wA := wA_t4 185 (by decide +kernel) rfl
theorem q_m_RX5_188 : Cond.methodLink RX5 188 yX5_load ∈ wA := wA_t4 186 (by decide +kernel) rfl
theorem q_i_yX5_load : Cond.instanceMethod yX5_load ∈ wA := wA_t4 188 (by decide +kernel) rfl
theorem q_c_yX5_load : Cond.code yX5_load cX5_load 1 none ∈ wA := wA_t4 189 (by decide +kernel) rfl
theorem q_m_RL_39 : Cond.methodLink RL 39 yX5_as ∈ wA := wA_t4 190 (by decide +kernel) rfl
theorem q_i_yX5_as : Cond.instanceMethod yX5_as ∈ wA := wA_t4 191 (by decide +kernel) rfl
theorem q_s_yX5_as : Cond.selects RX5 yX5_as yX5_as ∈ wA := wA_t4 192 (by decide +kernel) rfl
theorem q_c_yX5_as : Cond.code yX5_as cX5_as 4 (some .int) ∈ wA := wA_t4 193 (by decide +kernel) rfl
theorem q_m_RL_43 : Cond.methodLink RL 43 yX5_verse ∈ wA := wA_t4 194 (by decide +kernel) rfl
theorem q_i_yX5_verse : Cond.instanceMethod yX5_verse ∈ wA := wA_t4 195 (by decide +kernel) rfl
theorem q_s_yX5_verse : Cond.selects RX5 yX5_verse yX5_verse ∈ wA := wA_t4 196 (by decide +kernel) rfl
theorem q_c_yX5_verse : Cond.code yX5_verse cX5_verse 3 (some .int) ∈ wA := wA_t4 197 (by decide +kernel) rfl
theorem q_m_RX5_207 : Cond.methodLink RX5 207 yX5_isVerse ∈ wA := wA_t4 198 (by decide +kernel) rfl
theorem q_i_yX5_isVerse : Cond.instanceMethod yX5_isVerse ∈ wA := wA_t4 200 (by decide +kernel) rfl
theorem q_c_yX5_isVerse : Cond.code yX5_isVerse cX5_isVerse 2 (some .boolean) ∈ wA := wA_t4 201 (by decide +kernel) rfl
theorem q_m_RX5_210 : Cond.methodLink RX5 210 yX5_verseNow ∈ wA := wA_t4 202 (by decide +kernel) rfl
theorem q_i_yX5_verseNow : Cond.instanceMethod yX5_verseNow ∈ wA := wA_t4 204 (by decide +kernel) rfl
theorem q_c_yX5_verseNow : Cond.code yX5_verseNow cX5_verseNow 3 (some .int) ∈ wA := wA_t4 205 (by decide +kernel) rfl
theorem q_m_RX5_204 : Cond.methodLink RX5 204 yX5_outBy ∈ wA := wA_t4 206 (by decide +kernel) rfl
theorem q_i_yX5_outBy : Cond.instanceMethod yX5_outBy ∈ wA := wA_t4 208 (by decide +kernel) rfl
theorem q_c_yX5_outBy : Cond.code yX5_outBy cX5_outBy 4 (some .int) ∈ wA := wA_t4 209 (by decide +kernel) rfl
theorem q_m_RL_47 : Cond.methodLink RL 47 yX5_say ∈ wA := wA_t4 210 (by decide +kernel) rfl
theorem q_i_yX5_say : Cond.instanceMethod yX5_say ∈ wA := wA_t4 211 (by decide +kernel) rfl
theorem q_s_yX5_say : Cond.selects RX5 yX5_say yX5_say ∈ wA := wA_t4 212 (by decide +kernel) rfl
theorem q_c_yX5_say : Cond.code yX5_say cX5_say 2 (some .int) ∈ wA := wA_t4 213 (by decide +kernel) rfl
theorem q_m_RL_51 : Cond.methodLink RL 51 yX5_back ∈ wA := wA_t4 214 (by decide +kernel) rfl
theorem q_i_yX5_back : Cond.instanceMethod yX5_back ∈ wA := wA_t4 215 (by decide +kernel) rfl
theorem q_s_yX5_back : Cond.selects RX5 yX5_back yX5_back ∈ wA := wA_t4 216 (by decide +kernel) rfl
theorem q_c_yX5_back : Cond.code yX5_back cX5_back 2 (some .int) ∈ wA := wA_t4 217 (by decide +kernel) rfl
theorem q_m_RL_55 : Cond.methodLink RL 55 yX5_first ∈ wA := wA_t4 218 (by decide +kernel) rfl
theorem q_i_yX5_first : Cond.instanceMethod yX5_first ∈ wA := wA_t4 219 (by decide +kernel) rfl
theorem q_s_yX5_first : Cond.selects RX5 yX5_first yX5_first ∈ wA := wA_t4 220 (by decide +kernel) rfl
theorem q_c_yX5_first : Cond.code yX5_first cX5_first 3 (some .int) ∈ wA := wA_t4 221 (by decide +kernel) rfl
theorem q_m_RL_59 : Cond.methodLink RL 59 yX5_turn ∈ wA := wA_t4 222 (by decide +kernel) rfl
theorem q_i_yX5_turn : Cond.instanceMethod yX5_turn ∈ wA := wA_t4 223 (by decide +kernel) rfl
theorem q_s_yX5_turn : Cond.selects RX5 yX5_turn yX5_turn ∈ wA := wA_t4 224 (by decide +kernel) rfl
theorem q_c_yX5_turn : Cond.code yX5_turn cX5_turn 1 (some .int) ∈ wA := wA_t4 225 (by decide +kernel) rfl
theorem q_m_RL_63 : Cond.methodLink RL 63 yX5_beats ∈ wA := wA_t4 226 (by decide +kernel) rfl
theorem q_i_yX5_beats : Cond.instanceMethod yX5_beats ∈ wA := wA_t4 227 (by decide +kernel) rfl
theorem q_s_yX5_beats : Cond.selects RX5 yX5_beats yX5_beats ∈ wA := wA_t4 228 (by decide +kernel) rfl
theorem q_c_yX5_beats : Cond.code yX5_beats cX5_beats 4 (some .int) ∈ wA := wA_t4 229 (by decide +kernel) rfl
theorem q_m_RL_67 : Cond.methodLink RL 67 yX5_be ∈ wA := wA_t4 230 (by decide +kernel) rfl
theorem q_i_yX5_be : Cond.instanceMethod yX5_be ∈ wA := wA_t4 231 (by decide +kernel) rfl
theorem q_s_yX5_be : Cond.selects RX5 yX5_be yX5_be ∈ wA := wA_t4 232 (by decide +kernel) rfl
theorem q_c_yX5_be : Cond.code yX5_be cX5_be 4 (some .int) ∈ wA := wA_t4 233 (by decide +kernel) rfl
theorem q_m_RL_71 : Cond.methodLink RL 71 yX5_last ∈ wA := wA_t4 234 (by decide +kernel) rfl
theorem q_i_yX5_last : Cond.instanceMethod yX5_last ∈ wA := wA_t4 235 (by decide +kernel) rfl
theorem q_s_yX5_last : Cond.selects RX5 yX5_last yX5_last ∈ wA := wA_t4 236 (by decide +kernel) rfl
theorem q_c_yX5_last : Cond.code yX5_last cX5_last 2 (some .int) ∈ wA := wA_t4 237 (by decide +kernel) rfl
theorem q_m_RX5_213 : Cond.methodLink RX5 213 yX5_areBeats ∈ wA := wA_t4 238 (by decide +kernel) rfl
theorem q_st_yX5_areBeats : Cond.static yX5_areBeats ∈ wA := wA_t4 239 (by decide +kernel) rfl
theorem q_c_yX5_areBeats : Cond.code yX5_areBeats cX5_areBeats 1 (some .boolean) ∈ wA := wA_t5 0 (by decide +kernel) rfl
theorem q_m_RL_75 : Cond.methodLink RL 75 yX5_begin ∈ wA := wA_t5 1 (by decide +kernel) rfl
theorem q_i_yX5_begin : Cond.instanceMethod yX5_begin ∈ wA := wA_t5 2 (by decide +kernel) rfl
theorem q_s_yX5_begin : Cond.selects RX5 yX5_begin yX5_begin ∈ wA := wA_t5 3 (by decide +kernel) rfl
theorem q_c_yX5_begin : Cond.code yX5_begin cX5_begin 3 (some .int) ∈ wA := wA_t5 4 (by decide +kernel) rfl
theorem q_m_RX5_216 : Cond.methodLink RX5 216 yX5_beginNow ∈ wA := wA_t5 5 (by decide +kernel) rfl
theorem q_i_yX5_beginNow : Cond.instanceMethod yX5_beginNow ∈ wA := wA_t5 7 (by decide +kernel) rfl
theorem q_c_yX5_beginNow : Cond.code yX5_beginNow cX5_beginNow 5 (some .int) ∈ wA := wA_t5 8 (by decide +kernel) rfl
theorem q_m_RL_79 : Cond.methodLink RL 79 yX5_stand ∈ wA := wA_t5 9 (by decide +kernel) rfl
theorem q_i_yX5_stand : Cond.instanceMethod yX5_stand ∈ wA := wA_t5 10 (by decide +kernel) rfl
theorem q_s_yX5_stand : Cond.selects RX5 yX5_stand yX5_stand ∈ wA := wA_t5 11 (by decide +kernel) rfl
theorem q_c_yX5_stand : Cond.code yX5_stand cX5_stand 3 (some .int) ∈ wA := wA_t5 12 (by decide +kernel) rfl
theorem q_m_RX5_222 : Cond.methodLink RX5 222 yX5_standNow ∈ wA := wA_t5 13 (by decide +kernel) rfl
theorem q_i_yX5_standNow : Cond.instanceMethod yX5_standNow ∈ wA := wA_t5 15 (by decide +kernel) rfl
theorem q_c_yX5_standNow : Cond.code yX5_standNow cX5_standNow 6 (some .int) ∈ wA := wA_t5 16 (by decide +kernel) rfl
theorem q_m_RX5_219 : Cond.methodLink RX5 219 yX5_opened ∈ wA := wA_t5 17 (by decide +kernel) rfl
theorem q_st_yX5_opened : Cond.static yX5_opened ∈ wA := wA_t5 18 (by decide +kernel) rfl
theorem q_c_yX5_opened : Cond.code yX5_opened cX5_opened 3 (some .int) ∈ wA := wA_t5 19 (by decide +kernel) rfl
theorem q_m_RL_84 : Cond.methodLink RL 84 yX5_game ∈ wA := wA_t5 20 (by decide +kernel) rfl
theorem q_i_yX5_game : Cond.instanceMethod yX5_game ∈ wA := wA_t5 21 (by decide +kernel) rfl
theorem q_s_yX5_game : Cond.selects RX5 yX5_game yX5_game ∈ wA := wA_t5 22 (by decide +kernel) rfl
theorem q_c_yX5_game : Cond.code yX5_game cX5_game 4 (some .int) ∈ wA := wA_t5 23 (by decide +kernel) rfl
theorem q_m_RX5_239 : Cond.methodLink RX5 239 yX5_gameNow ∈ wA := wA_t5 24 (by decide +kernel) rfl
theorem q_i_yX5_gameNow : Cond.instanceMethod yX5_gameNow ∈ wA := wA_t5 26 (by decide +kernel) rfl
theorem q_c_yX5_gameNow : Cond.code yX5_gameNow cX5_gameNow 6 (some .int) ∈ wA := wA_t5 27 (by decide +kernel) rfl
theorem q_m_RX5_232 : Cond.methodLink RX5 232 yX5_layGame ∈ wA := wA_t5 28 (by decide +kernel) rfl
theorem q_i_yX5_layGame : Cond.instanceMethod yX5_layGame ∈ wA := wA_t5 30 (by decide +kernel) rfl
theorem q_c_yX5_layGame : Cond.code yX5_layGame cX5_layGame 8 (some .int) ∈ wA := wA_t5 31 (by decide +kernel) rfl
theorem q_m_RX5_228 : Cond.methodLink RX5 228 yX5_playBy ∈ wA := wA_t5 32 (by decide +kernel) rfl
theorem q_i_yX5_playBy : Cond.instanceMethod yX5_playBy ∈ wA := wA_t5 34 (by decide +kernel) rfl
theorem q_c_yX5_playBy : Cond.code yX5_playBy cX5_playBy 8 (some .int) ∈ wA := wA_t5 35 (by decide +kernel) rfl
theorem q_m_RX5_235 : Cond.methodLink RX5 235 yX5_foldGame ∈ wA := wA_t5 36 (by decide +kernel) rfl
theorem q_i_yX5_foldGame : Cond.instanceMethod yX5_foldGame ∈ wA := wA_t5 38 (by decide +kernel) rfl
theorem q_c_yX5_foldGame : Cond.code yX5_foldGame cX5_foldGame 9 none ∈ wA := wA_t5 39 (by decide +kernel) rfl
theorem q_m_RL_88 : Cond.methodLink RL 88 yX5_likely ∈ wA := wA_t5 40 (by decide +kernel) rfl
theorem q_i_yX5_likely : Cond.instanceMethod yX5_likely ∈ wA := wA_t5 41 (by decide +kernel) rfl
theorem q_s_yX5_likely : Cond.selects RX5 yX5_likely yX5_likely ∈ wA := wA_t5 42 (by decide +kernel) rfl
theorem q_c_yX5_likely : Cond.code yX5_likely cX5_likely 3 (some .int) ∈ wA := wA_t5 43 (by decide +kernel) rfl
theorem q_m_RX5_268 : Cond.methodLink RX5 268 yX5_layLikely ∈ wA := wA_t5 44 (by decide +kernel) rfl
theorem q_i_yX5_layLikely : Cond.instanceMethod yX5_layLikely ∈ wA := wA_t5 46 (by decide +kernel) rfl
theorem q_c_yX5_layLikely : Cond.code yX5_layLikely cX5_layLikely 5 none ∈ wA := wA_t5 47 (by decide +kernel) rfl
theorem q_m_RX5_259 : Cond.methodLink RX5 259 yX5_enter ∈ wA := wA_t5 48 (by decide +kernel) rfl
theorem q_i_yX5_enter : Cond.instanceMethod yX5_enter ∈ wA := wA_t5 50 (by decide +kernel) rfl
theorem q_c_yX5_enter : Cond.code yX5_enter cX5_enter 3 none ∈ wA := wA_t5 51 (by decide +kernel) rfl
theorem q_m_RX5_249 : Cond.methodLink RX5 249 yX5_putDeep ∈ wA := wA_t5 52 (by decide +kernel) rfl
theorem q_i_yX5_putDeep : Cond.instanceMethod yX5_putDeep ∈ wA := wA_t5 54 (by decide +kernel) rfl
theorem q_c_yX5_putDeep : Cond.code yX5_putDeep cX5_putDeep 3 none ∈ wA := wA_t5 55 (by decide +kernel) rfl
theorem q_m_RX5_253 : Cond.methodLink RX5 253 yX5_layFaces ∈ wA := wA_t5 56 (by decide +kernel) rfl
theorem q_i_yX5_layFaces : Cond.instanceMethod yX5_layFaces ∈ wA := wA_t5 58 (by decide +kernel) rfl
theorem q_c_yX5_layFaces : Cond.code yX5_layFaces cX5_layFaces 4 none ∈ wA := wA_t5 59 (by decide +kernel) rfl
theorem q_m_RX5_243 : Cond.methodLink RX5 243 yX5_setDeep ∈ wA := wA_t5 60 (by decide +kernel) rfl
theorem q_i_yX5_setDeep : Cond.instanceMethod yX5_setDeep ∈ wA := wA_t5 62 (by decide +kernel) rfl
theorem q_c_yX5_setDeep : Cond.code yX5_setDeep cX5_setDeep 2 none ∈ wA := wA_t5 63 (by decide +kernel) rfl
theorem q_m_RX5_256 : Cond.methodLink RX5 256 yX5_endDeep ∈ wA := wA_t5 64 (by decide +kernel) rfl
theorem q_i_yX5_endDeep : Cond.instanceMethod yX5_endDeep ∈ wA := wA_t5 66 (by decide +kernel) rfl
theorem q_c_yX5_endDeep : Cond.code yX5_endDeep cX5_endDeep 4 none ∈ wA := wA_t5 67 (by decide +kernel) rfl
theorem q_m_RX5_262 : Cond.methodLink RX5 262 yX5_likeFaces ∈ wA := wA_t5 68 (by decide +kernel) rfl
theorem q_i_yX5_likeFaces : Cond.instanceMethod yX5_likeFaces ∈ wA := wA_t5 70 (by decide +kernel) rfl
theorem q_c_yX5_likeFaces : Cond.code yX5_likeFaces cX5_likeFaces 5 (some .int) ∈ wA := wA_t5 71 (by decide +kernel) rfl
theorem q_m_RX5_246 : Cond.methodLink RX5 246 yX5_areAlike ∈ wA := wA_t5 72 (by decide +kernel) rfl
theorem q_i_yX5_areAlike : Cond.instanceMethod yX5_areAlike ∈ wA := wA_t5 74 (by decide +kernel) rfl
theorem q_c_yX5_areAlike : Cond.code yX5_areAlike cX5_areAlike 3 (some .boolean) ∈ wA := wA_t5 75 (by decide +kernel) rfl
theorem q_m_RX5_271 : Cond.methodLink RX5 271 yX5_likelyNow ∈ wA := wA_t5 76 (by decide +kernel) rfl
theorem q_i_yX5_likelyNow : Cond.instanceMethod yX5_likelyNow ∈ wA := wA_t5 78 (by decide +kernel) rfl
theorem q_c_yX5_likelyNow : Cond.code yX5_likelyNow cX5_likelyNow 5 (some .int) ∈ wA := wA_t5 79 (by decide +kernel) rfl
theorem q_m_RX5_265 : Cond.methodLink RX5 265 yX5_divisor ∈ wA := wA_t5 80 (by decide +kernel) rfl
theorem q_st_yX5_divisor : Cond.static yX5_divisor ∈ wA := wA_t5 81 (by decide +kernel) rfl
theorem q_c_yX5_divisor : Cond.code yX5_divisor cX5_divisor 5 (some .int) ∈ wA := wA_t5 82 (by decide +kernel) rfl
theorem q_m_RL_92 : Cond.methodLink RL 92 yX5_see ∈ wA := wA_t5 83 (by decide +kernel) rfl
theorem q_i_yX5_see : Cond.instanceMethod yX5_see ∈ wA := wA_t5 84 (by decide +kernel) rfl
theorem q_s_yX5_see : Cond.selects RX5 yX5_see yX5_see ∈ wA := wA_t5 85 (by decide +kernel) rfl
theorem q_c_yX5_see : Cond.code yX5_see cX5_see 3 (some .int) ∈ wA := wA_t5 86 (by decide +kernel) rfl
theorem q_m_RL_96 : Cond.methodLink RL 96 yX5_forget ∈ wA := wA_t5 87 (by decide +kernel) rfl
theorem q_i_yX5_forget : Cond.instanceMethod yX5_forget ∈ wA := wA_t5 88 (by decide +kernel) rfl
theorem q_s_yX5_forget : Cond.selects RX5 yX5_forget yX5_forget ∈ wA := wA_t5 89 (by decide +kernel) rfl
theorem q_c_yX5_forget : Cond.code yX5_forget cX5_forget 2 (some .int) ∈ wA := wA_t5 90 (by decide +kernel) rfl
theorem q_m_RL_100 : Cond.methodLink RL 100 yX5_lengths ∈ wA := wA_t5 91 (by decide +kernel) rfl
theorem q_i_yX5_lengths : Cond.instanceMethod yX5_lengths ∈ wA := wA_t5 92 (by decide +kernel) rfl
theorem q_s_yX5_lengths : Cond.selects RX5 yX5_lengths yX5_lengths ∈ wA := wA_t5 93 (by decide +kernel) rfl
theorem q_c_yX5_lengths : Cond.code yX5_lengths cX5_lengths 1 (some .int) ∈ wA := wA_t5 94 (by decide +kernel) rfl
theorem q_m_RX5_274 : Cond.methodLink RX5 274 yX5_lengthsNow ∈ wA := wA_t5 95 (by decide +kernel) rfl
theorem q_i_yX5_lengthsNow : Cond.instanceMethod yX5_lengthsNow ∈ wA := wA_t5 97 (by decide +kernel) rfl
theorem q_c_yX5_lengthsNow : Cond.code yX5_lengthsNow cX5_lengthsNow 5 (some .int) ∈ wA := wA_t5 98 (by decide +kernel) rfl
theorem q_m_RL_104 : Cond.methodLink RL 104 yX5_from ∈ wA := wA_t5 99 (by decide +kernel) rfl
theorem q_i_yX5_from : Cond.instanceMethod yX5_from ∈ wA := wA_t5 100 (by decide +kernel) rfl
theorem q_s_yX5_from : Cond.selects RX5 yX5_from yX5_from ∈ wA := wA_t5 101 (by decide +kernel) rfl
theorem q_c_yX5_from : Cond.code yX5_from cX5_from 1 (some .int) ∈ wA := wA_t5 102 (by decide +kernel) rfl
theorem q_m_RX5_281 : Cond.methodLink RX5 281 yX5_fromNow ∈ wA := wA_t5 103 (by decide +kernel) rfl
theorem q_i_yX5_fromNow : Cond.instanceMethod yX5_fromNow ∈ wA := wA_t5 105 (by decide +kernel) rfl
theorem q_c_yX5_fromNow : Cond.code yX5_fromNow cX5_fromNow 6 (some .int) ∈ wA := wA_t5 106 (by decide +kernel) rfl
theorem q_k_RX5_277 : Cond.constant RX5 277 (268435456) ∈ wA := wA_t5 107 (by decide +kernel) rfl
theorem q_m_RX5_278 : Cond.methodLink RX5 278 yX5_worstFrom ∈ wA := wA_t5 108 (by decide +kernel) rfl
theorem q_i_yX5_worstFrom : Cond.instanceMethod yX5_worstFrom ∈ wA := wA_t5 110 (by decide +kernel) rfl
theorem q_c_yX5_worstFrom : Cond.code yX5_worstFrom cX5_worstFrom 6 (some .int) ∈ wA := wA_t5 111 (by decide +kernel) rfl
theorem q_m_RL_108 : Cond.methodLink RL 108 yX5_rounds ∈ wA := wA_t5 112 (by decide +kernel) rfl
theorem q_i_yX5_rounds : Cond.instanceMethod yX5_rounds ∈ wA := wA_t5 113 (by decide +kernel) rfl
theorem q_s_yX5_rounds : Cond.selects RX5 yX5_rounds yX5_rounds ∈ wA := wA_t5 114 (by decide +kernel) rfl
theorem q_c_yX5_rounds : Cond.code yX5_rounds cX5_rounds 4 (some .int) ∈ wA := wA_t5 115 (by decide +kernel) rfl
theorem q_m_RX5_299 : Cond.methodLink RX5 299 yX5_roundsNow ∈ wA := wA_t5 116 (by decide +kernel) rfl
theorem q_i_yX5_roundsNow : Cond.instanceMethod yX5_roundsNow ∈ wA := wA_t5 118 (by decide +kernel) rfl
theorem q_c_yX5_roundsNow : Cond.code yX5_roundsNow cX5_roundsNow 6 (some .int) ∈ wA := wA_t5 119 (by decide +kernel) rfl
theorem q_m_RX5_296 : Cond.methodLink RX5 296 yX5_draw ∈ wA := wA_t5 120 (by decide +kernel) rfl
theorem q_i_yX5_draw : Cond.instanceMethod yX5_draw ∈ wA := wA_t5 122 (by decide +kernel) rfl
theorem q_c_yX5_draw : Cond.code yX5_draw cX5_draw 2 (some .int) ∈ wA := wA_t5 123 (by decide +kernel) rfl
theorem q_kl_RX5_284 : Cond.constantLong RX5 284 (1103515245) ∈ wA := wA_t5 124 (by decide +kernel) rfl
theorem q_kl_RX5_290 : Cond.constantLong RX5 290 (12345) ∈ wA := wA_t5 125 (by decide +kernel) rfl
theorem q_kl_RX5_292 : Cond.constantLong RX5 292 (2147483647) ∈ wA := wA_t5 126 (by decide +kernel) rfl
theorem q_kl_RX5_294 : Cond.constantLong RX5 294 (65536) ∈ wA := wA_t5 127 (by decide +kernel) rfl
theorem q_m_RL_112 : Cond.methodLink RL 112 yX5_image ∈ wA := wA_t5 128 (by decide +kernel) rfl
theorem q_i_yX5_image : Cond.instanceMethod yX5_image ∈ wA := wA_t5 129 (by decide +kernel) rfl
theorem q_s_yX5_image : Cond.selects RX5 yX5_image yX5_image ∈ wA := wA_t5 130 (by decide +kernel) rfl
theorem q_c_yX5_image : Cond.code yX5_image cX5_image 2 (some .int) ∈ wA := wA_t5 131 (by decide +kernel) rfl
theorem q_m_RL_116 : Cond.methodLink RL 116 yX5_restore ∈ wA := wA_t5 132 (by decide +kernel) rfl
theorem q_i_yX5_restore : Cond.instanceMethod yX5_restore ∈ wA := wA_t5 133 (by decide +kernel) rfl
theorem q_s_yX5_restore : Cond.selects RX5 yX5_restore yX5_restore ∈ wA := wA_t5 134 (by decide +kernel) rfl
theorem q_c_yX5_restore : Cond.code yX5_restore cX5_restore 2 (some .int) ∈ wA := wA_t5 135 (by decide +kernel) rfl
theorem q_m_RL_120 : Cond.methodLink RL 120 yX5_count ∈ wA := wA_t5 136 (by decide +kernel) rfl
theorem q_i_yX5_count : Cond.instanceMethod yX5_count ∈ wA := wA_t5 137 (by decide +kernel) rfl
theorem q_s_yX5_count : Cond.selects RX5 yX5_count yX5_count ∈ wA := wA_t5 138 (by decide +kernel) rfl
theorem q_c_yX5_count : Cond.code yX5_count cX5_count 2 (some .int) ∈ wA := wA_t5 139 (by decide +kernel) rfl
theorem q_m_RX5_326 : Cond.methodLink RX5 326 yX5_howMany ∈ wA := wA_t5 140 (by decide +kernel) rfl
theorem q_i_yX5_howMany : Cond.instanceMethod yX5_howMany ∈ wA := wA_t5 142 (by decide +kernel) rfl
theorem q_c_yX5_howMany : Cond.code yX5_howMany cX5_howMany 2 (some .int) ∈ wA := wA_t5 143 (by decide +kernel) rfl
theorem q_m_RL_125 : Cond.methodLink RL 125 yX5_digest ∈ wA := wA_t5 144 (by decide +kernel) rfl
theorem q_i_yX5_digest : Cond.instanceMethod yX5_digest ∈ wA := wA_t5 145 (by decide +kernel) rfl
theorem q_s_yX5_digest : Cond.selects RX5 yX5_digest yX5_digest ∈ wA := wA_t5 146 (by decide +kernel) rfl
theorem q_c_yX5_digest : Cond.code yX5_digest cX5_digest 3 (some .long) ∈ wA := wA_t5 147 (by decide +kernel) rfl
theorem q_kl_RX5_338 : Cond.constantLong RX5 338 (1289) ∈ wA := wA_t5 148 (by decide +kernel) rfl
theorem q_m_RX5_334 : Cond.methodLink RX5 334 yX5_mix ∈ wA := wA_t5 149 (by decide +kernel) rfl
theorem q_i_yX5_mix : Cond.instanceMethod yX5_mix ∈ wA := wA_t5 151 (by decide +kernel) rfl
theorem q_c_yX5_mix : Cond.code yX5_mix cX5_mix 3 none ∈ wA := wA_t5 152 (by decide +kernel) rfl
theorem q_kl_RX5_329 : Cond.constantLong RX5 329 (31) ∈ wA := wA_t5 153 (by decide +kernel) rfl
theorem q_m_RX5_340 : Cond.methodLink RX5 340 yX5_mixRing ∈ wA := wA_t5 154 (by decide +kernel) rfl
theorem q_i_yX5_mixRing : Cond.instanceMethod yX5_mixRing ∈ wA := wA_t5 156 (by decide +kernel) rfl
theorem q_c_yX5_mixRing : Cond.code yX5_mixRing cX5_mixRing 2 none ∈ wA := wA_t5 157 (by decide +kernel) rfl
theorem q_f_RJ0_15 : Cond.fieldLink RJ0 15 "java/lang/String" "coder" "B" ∈ wA := wA_t5 158 (by decide +kernel) rfl
theorem q_f_RJ0_9 : Cond.fieldLink RJ0 9 "java/lang/String" "value" "[B" ∈ wA := wA_t5 159 (by decide +kernel) rfl
theorem q_s_yX2_reads : Cond.selects RX2 yX2_reads yX2_reads ∈ wA := wA_s (y := yX2_reads) (n := 8) 0 (by decide +kernel)
theorem q_s_yX2_readsTens : Cond.selects RX2 yX2_readsTens yX2_readsTens ∈ wA := wA_s (y := yX2_readsTens) (n := 8) 1 (by decide +kernel)
theorem q_s_yX2_readsOnes : Cond.selects RX2 yX2_readsOnes yX2_readsOnes ∈ wA := wA_s (y := yX2_readsOnes) (n := 8) 2 (by decide +kernel)
theorem q_s_yX2_readsBetween : Cond.selects RX2 yX2_readsBetween yX2_readsBetween ∈ wA := wA_s (y := yX2_readsBetween) (n := 8) 3 (by decide +kernel)
theorem q_s_yX2_readsChild : Cond.selects RX2 yX2_readsChild yX2_readsChild ∈ wA := wA_s (y := yX2_readsChild) (n := 8) 4 (by decide +kernel)
theorem q_s_yX0_fallsOn : Cond.selects RX0 yX0_fallsOn yX0_fallsOn ∈ wA := wA_s (y := yX0_fallsOn) (n := 9) 5 (by decide +kernel)
theorem q_s_yX0_nextOf : Cond.selects RX0 yX0_nextOf yX0_nextOf ∈ wA := wA_s (y := yX0_nextOf) (n := 9) 6 (by decide +kernel)
theorem q_s_yX0_slipOn : Cond.selects RX0 yX0_slipOn yX0_slipOn ∈ wA := wA_s (y := yX0_slipOn) (n := 9) 7 (by decide +kernel)
theorem q_s_yX1_worth : Cond.selects RX1 yX1_worth yX1_worth ∈ wA := wA_s (y := yX1_worth) (n := 8) 8 (by decide +kernel)
theorem q_s_yX1_shareOut : Cond.selects RX1 yX1_shareOut yX1_shareOut ∈ wA := wA_s (y := yX1_shareOut) (n := 8) 9 (by decide +kernel)
theorem q_s_yX1_mostLeft : Cond.selects RX1 yX1_mostLeft yX1_mostLeft ∈ wA := wA_s (y := yX1_mostLeft) (n := 8) 10 (by decide +kernel)
theorem q_s_yX1_beatsDrawn : Cond.selects RX1 yX1_beatsDrawn yX1_beatsDrawn ∈ wA := wA_s (y := yX1_beatsDrawn) (n := 8) 11 (by decide +kernel)
theorem q_s_yX5_read : Cond.selects RX5 yX5_read yX5_read ∈ wA := wA_s (y := yX5_read) (n := 50) 12 (by decide +kernel)
theorem q_s_yX5_isFigure : Cond.selects RX5 yX5_isFigure yX5_isFigure ∈ wA := wA_s (y := yX5_isFigure) (n := 50) 13 (by decide +kernel)
theorem q_s_yX5_at : Cond.selects RX5 yX5_at yX5_at ∈ wA := wA_s (y := yX5_at) (n := 50) 14 (by decide +kernel)
theorem q_s_yX5_readChildren : Cond.selects RX5 yX5_readChildren yX5_readChildren ∈ wA := wA_s (y := yX5_readChildren) (n := 50) 15 (by decide +kernel)
theorem q_s_yX5_isChild : Cond.selects RX5 yX5_isChild yX5_isChild ∈ wA := wA_s (y := yX5_isChild) (n := 50) 16 (by decide +kernel)
theorem q_s_yX5_childNow : Cond.selects RX5 yX5_childNow yX5_childNow ∈ wA := wA_s (y := yX5_childNow) (n := 50) 17 (by decide +kernel)
theorem q_s_yX5_beatsFor : Cond.selects RX5 yX5_beatsFor yX5_beatsFor ∈ wA := wA_s (y := yX5_beatsFor) (n := 50) 18 (by decide +kernel)
theorem q_s_yX5_lastBy : Cond.selects RX5 yX5_lastBy yX5_lastBy ∈ wA := wA_s (y := yX5_lastBy) (n := 50) 19 (by decide +kernel)
theorem q_s_yX5_save : Cond.selects RX5 yX5_save yX5_save ∈ wA := wA_s (y := yX5_save) (n := 50) 20 (by decide +kernel)
theorem q_s_yX5_lastNow : Cond.selects RX5 yX5_lastNow yX5_lastNow ∈ wA := wA_s (y := yX5_lastNow) (n := 50) 21 (by decide +kernel)
theorem q_s_yX5_isCount : Cond.selects RX5 yX5_isCount yX5_isCount ∈ wA := wA_s (y := yX5_isCount) (n := 50) 22 (by decide +kernel)
theorem q_s_yX5_beatsIn : Cond.selects RX5 yX5_beatsIn yX5_beatsIn ∈ wA := wA_s (y := yX5_beatsIn) (n := 50) 23 (by decide +kernel)
theorem q_s_yX5_goCount : Cond.selects RX5 yX5_goCount yX5_goCount ∈ wA := wA_s (y := yX5_goCount) (n := 50) 24 (by decide +kernel)
theorem q_s_yX5_nextFrom : Cond.selects RX5 yX5_nextFrom yX5_nextFrom ∈ wA := wA_s (y := yX5_nextFrom) (n := 50) 25 (by decide +kernel)
theorem q_s_yX5_isSly : Cond.selects RX5 yX5_isSly yX5_isSly ∈ wA := wA_s (y := yX5_isSly) (n := 50) 26 (by decide +kernel)
theorem q_s_yX5_isOther : Cond.selects RX5 yX5_isOther yX5_isOther ∈ wA := wA_s (y := yX5_isOther) (n := 50) 27 (by decide +kernel)
theorem q_s_yX5_load : Cond.selects RX5 yX5_load yX5_load ∈ wA := wA_s (y := yX5_load) (n := 50) 28 (by decide +kernel)
theorem q_s_yX5_isVerse : Cond.selects RX5 yX5_isVerse yX5_isVerse ∈ wA := wA_s (y := yX5_isVerse) (n := 50) 29 (by decide +kernel)
theorem q_s_yX5_verseNow : Cond.selects RX5 yX5_verseNow yX5_verseNow ∈ wA := wA_s (y := yX5_verseNow) (n := 50) 30 (by decide +kernel)
theorem q_s_yX5_outBy : Cond.selects RX5 yX5_outBy yX5_outBy ∈ wA := wA_s (y := yX5_outBy) (n := 50) 31 (by decide +kernel)
theorem q_s_yX5_beginNow : Cond.selects RX5 yX5_beginNow yX5_beginNow ∈ wA := wA_s (y := yX5_beginNow) (n := 50) 32 (by decide +kernel)
theorem q_s_yX5_standNow : Cond.selects RX5 yX5_standNow yX5_standNow ∈ wA := wA_s (y := yX5_standNow) (n := 50) 33 (by decide +kernel)
theorem q_s_yX5_gameNow : Cond.selects RX5 yX5_gameNow yX5_gameNow ∈ wA := wA_s (y := yX5_gameNow) (n := 50) 34 (by decide +kernel)
theorem q_s_yX5_layGame : Cond.selects RX5 yX5_layGame yX5_layGame ∈ wA := wA_s (y := yX5_layGame) (n := 50) 35 (by decide +kernel)
theorem q_s_yX5_playBy : Cond.selects RX5 yX5_playBy yX5_playBy ∈ wA := wA_s (y := yX5_playBy) (n := 50) 36 (by decide +kernel)
theorem q_s_yX5_foldGame : Cond.selects RX5 yX5_foldGame yX5_foldGame ∈ wA := wA_s (y := yX5_foldGame) (n := 50) 37 (by decide +kernel)
theorem q_s_yX5_layLikely : Cond.selects RX5 yX5_layLikely yX5_layLikely ∈ wA := wA_s (y := yX5_layLikely) (n := 50) 38 (by decide +kernel)
theorem q_s_yX5_enter : Cond.selects RX5 yX5_enter yX5_enter ∈ wA := wA_s (y := yX5_enter) (n := 50) 39 (by decide +kernel)
theorem q_s_yX5_putDeep : Cond.selects RX5 yX5_putDeep yX5_putDeep ∈ wA := wA_s (y := yX5_putDeep) (n := 50) 40 (by decide +kernel)
theorem q_s_yX5_layFaces : Cond.selects RX5 yX5_layFaces yX5_layFaces ∈ wA := wA_s (y := yX5_layFaces) (n := 50) 41 (by decide +kernel)
theorem q_s_yX5_setDeep : Cond.selects RX5 yX5_setDeep yX5_setDeep ∈ wA := wA_s (y := yX5_setDeep) (n := 50) 42 (by decide +kernel)
theorem q_s_yX5_endDeep : Cond.selects RX5 yX5_endDeep yX5_endDeep ∈ wA := wA_s (y := yX5_endDeep) (n := 50) 43 (by decide +kernel)
theorem q_s_yX5_likeFaces : Cond.selects RX5 yX5_likeFaces yX5_likeFaces ∈ wA := wA_s (y := yX5_likeFaces) (n := 50) 44 (by decide +kernel)
theorem q_s_yX5_areAlike : Cond.selects RX5 yX5_areAlike yX5_areAlike ∈ wA := wA_s (y := yX5_areAlike) (n := 50) 45 (by decide +kernel)
theorem q_s_yX5_likelyNow : Cond.selects RX5 yX5_likelyNow yX5_likelyNow ∈ wA := wA_s (y := yX5_likelyNow) (n := 50) 46 (by decide +kernel)
theorem q_s_yX5_lengthsNow : Cond.selects RX5 yX5_lengthsNow yX5_lengthsNow ∈ wA := wA_s (y := yX5_lengthsNow) (n := 50) 47 (by decide +kernel)
theorem q_s_yX5_fromNow : Cond.selects RX5 yX5_fromNow yX5_fromNow ∈ wA := wA_s (y := yX5_fromNow) (n := 50) 48 (by decide +kernel)
theorem q_s_yX5_worstFrom : Cond.selects RX5 yX5_worstFrom yX5_worstFrom ∈ wA := wA_s (y := yX5_worstFrom) (n := 50) 49 (by decide +kernel)
theorem q_s_yX5_roundsNow : Cond.selects RX5 yX5_roundsNow yX5_roundsNow ∈ wA := wA_s (y := yX5_roundsNow) (n := 50) 50 (by decide +kernel)
theorem q_s_yX5_draw : Cond.selects RX5 yX5_draw yX5_draw ∈ wA := wA_s (y := yX5_draw) (n := 50) 51 (by decide +kernel)
theorem q_s_yX5_howMany : Cond.selects RX5 yX5_howMany yX5_howMany ∈ wA := wA_s (y := yX5_howMany) (n := 50) 52 (by decide +kernel)
theorem q_s_yX5_mix : Cond.selects RX5 yX5_mix yX5_mix ∈ wA := wA_s (y := yX5_mix) (n := 50) 53 (by decide +kernel)
theorem q_s_yX5_mixRing : Cond.selects RX5 yX5_mixRing yX5_mixRing ∈ wA := wA_s (y := yX5_mixRing) (n := 50) 54 (by decide +kernel)
theorem inWX0 : ∀ w ∈ wsX00, w ∈ wA := wA_ps _ [52, 54, 56, 58, 60, 62, 64, 66, 68] (by decide +kernel) (by decide +kernel)
theorem inWX1 : ∀ w ∈ wsX10, w ∈ wA := wA_ps _ [159, 161, 163, 165, 167, 169, 171, 173] (by decide +kernel) (by decide +kernel)
theorem inWX2 : ∀ w ∈ wsX20, w ∈ wA := wA_ps _ [125, 127, 129, 131, 133, 135, 137, 139] (by decide +kernel) (by decide +kernel)
theorem inWX3 : ∀ w ∈ wsX30, w ∈ wA := wA_ps _ [89, 91, 93, 95, 97, 99, 101] (by decide +kernel) (by decide +kernel)
theorem inWX4 : ∀ w ∈ wsX40, w ∈ wA := wA_ps _ [182, 184, 186, 188, 190, 192] (by decide +kernel) (by decide +kernel)
theorem inWX5 : ∀ w ∈ wsX50, w ∈ wA := wA_ps _ [706, 708, 710, 712, 714, 716, 718, 720, 722, 724, 726, 728, 730, 732, 734, 736, 738, 740, 742, 744, 746, 748, 750, 752, 754, 756, 758, 760, 762, 764, 766, 768, 770, 772, 774, 776, 778, 780, 782, 784, 786, 788, 790, 792, 794, 796, 798, 800, 802, 804] (by decide +kernel) (by decide +kernel)
/-- links to private fields of nest mates: own class, index, the field's class, name, descriptor -/
def nstF : List (String × Nat × String × String × String) := [(RX3, 28, RX0, "size", "I"), (RX1, 68, RX0, "size", "I"), (RX4, 66, RX0, "size", "I"), (RX4, 117, RX0, "inside", "I"), (RX4, 175, RX0, "slipped", "I"), (RX1, 50, RX0, "first", "I"), (RX4, 88, RX0, "first", "I"), (RX4, 126, RX0, "onward", "Z"), (RX1, 41, RX3, "circle", "LCountOut$Circle;"), (RX4, 62, RX3, "circle", "LCountOut$Circle;"), (RX4, 97, RX3, "beats", "[I"), (RX1, 97, RX3, "beats", "[I"), (RX1, 144, RX3, "verses", "I"), (RX4, 172, RX3, "verses", "I"), (RX4, 111, RX3, "counts", "I"), (RX1, 114, RX3, "seenFrom", "[I"), (RX1, 121, RX3, "seenOut", "[I"), (RX1, 111, RX3, "seen", "I"), (RX4, 156, RX3, "seen", "I"), (RX4, 217, RX2, "letters", "[I"), (RX4, 39, RX2, "size", "I"), (RX3, 54, RX2, "beats", "[I"), (RX3, 53, RX2, "verses", "I"), (RX3, 46, RX2, "kinds", "[I"), (RX3, 41, RX2, "children", "I")]
def nstFp : List Nat := [36, 37, 38, 44, 46, 47, 49, 51, 72, 73, 75, 76, 78, 79, 81, 83, 85, 87, 88, 112, 114, 118, 120, 122, 124]
def NW (U : State) : Prop := ∀ q ∈ nstF, va_Nw (.fieldLinkNest q.1 q.2.1 q.2.2.1 q.2.2.2.1 q.2.2.2.2 "CountOut") U
theorem NW.warm {s U : State} (hW : s.WarmedH U.vm) (h : NW s) : NW U := fun q hq => va_Nw.warmF hW (h q hq)
theorem NW.same {u U : State} (e : u.vm = U.vm) (h : NW u) : NW U := fun q hq => va_Nw.same rfl e (h q hq)
theorem NW.of {args : Array Value} {s : State} (hts : ∀ w ∈ tables_1, w.before args s = true) : NW s := by
  have key : nstF.map (fun q => Cond.fieldLinkNest q.1 q.2.1 q.2.2.1 q.2.2.2.1 q.2.2.2.2 "CountOut") = nstFp.filterMap (fun i => tables_1[i]?) := by decide +kernel
  intro q hq
  refine va_Nw.of (A := args) rfl (hts _ ?_)
  have h1 : Cond.fieldLinkNest q.1 q.2.1 q.2.2.1 q.2.2.2.1 q.2.2.2.2 "CountOut" ∈ nstFp.filterMap (fun i => tables_1[i]?) := by
    rw [← key]
    exact List.mem_map.mpr ⟨q, hq, rfl⟩
  obtain ⟨i, -, hi⟩ := List.mem_filterMap.mp h1
  exact List.mem_of_getElem? hi
theorem q_mn_RX4_11 : Cond.methodLinkNest RX4 11 yX3_init "CountOut" ∈ tables_1 := List.mem_of_getElem? (i := 25) (by decide +kernel)
theorem q_mn_RX3_11 : Cond.methodLinkNest RX3 11 yX0_init "CountOut" ∈ tables_1 := List.mem_of_getElem? (i := 31) (by decide +kernel)
theorem q_mn_RX4_14 : Cond.methodLinkNest RX4 14 yX2_init "CountOut" ∈ tables_1 := List.mem_of_getElem? (i := 107) (by decide +kernel)
theorem q_mn_RX1_11 : Cond.methodLinkNest RX1 11 yX0_init "CountOut" ∈ tables_1 := List.mem_of_getElem? (i := 149) (by decide +kernel)
theorem q_nf_RX3_28 : (RX3, 28, RX0, "size", "I") ∈ nstF := List.mem_of_getElem? (i := 0) rfl
theorem q_nf_RX1_68 : (RX1, 68, RX0, "size", "I") ∈ nstF := List.mem_of_getElem? (i := 1) rfl
theorem q_nf_RX4_66 : (RX4, 66, RX0, "size", "I") ∈ nstF := List.mem_of_getElem? (i := 2) rfl
theorem q_nf_RX4_117 : (RX4, 117, RX0, "inside", "I") ∈ nstF := List.mem_of_getElem? (i := 3) rfl
theorem q_nf_RX4_175 : (RX4, 175, RX0, "slipped", "I") ∈ nstF := List.mem_of_getElem? (i := 4) rfl
theorem q_nf_RX1_50 : (RX1, 50, RX0, "first", "I") ∈ nstF := List.mem_of_getElem? (i := 5) rfl
theorem q_nf_RX4_88 : (RX4, 88, RX0, "first", "I") ∈ nstF := List.mem_of_getElem? (i := 6) rfl
theorem q_nf_RX4_126 : (RX4, 126, RX0, "onward", "Z") ∈ nstF := List.mem_of_getElem? (i := 7) rfl
theorem q_nf_RX1_41 : (RX1, 41, RX3, "circle", "LCountOut$Circle;") ∈ nstF := List.mem_of_getElem? (i := 8) rfl
theorem q_nf_RX4_62 : (RX4, 62, RX3, "circle", "LCountOut$Circle;") ∈ nstF := List.mem_of_getElem? (i := 9) rfl
theorem q_nf_RX4_97 : (RX4, 97, RX3, "beats", "[I") ∈ nstF := List.mem_of_getElem? (i := 10) rfl
theorem q_nf_RX1_97 : (RX1, 97, RX3, "beats", "[I") ∈ nstF := List.mem_of_getElem? (i := 11) rfl
theorem q_nf_RX1_144 : (RX1, 144, RX3, "verses", "I") ∈ nstF := List.mem_of_getElem? (i := 12) rfl
theorem q_nf_RX4_172 : (RX4, 172, RX3, "verses", "I") ∈ nstF := List.mem_of_getElem? (i := 13) rfl
theorem q_nf_RX4_111 : (RX4, 111, RX3, "counts", "I") ∈ nstF := List.mem_of_getElem? (i := 14) rfl
theorem q_nf_RX1_114 : (RX1, 114, RX3, "seenFrom", "[I") ∈ nstF := List.mem_of_getElem? (i := 15) rfl
theorem q_nf_RX1_121 : (RX1, 121, RX3, "seenOut", "[I") ∈ nstF := List.mem_of_getElem? (i := 16) rfl
theorem q_nf_RX1_111 : (RX1, 111, RX3, "seen", "I") ∈ nstF := List.mem_of_getElem? (i := 17) rfl
theorem q_nf_RX4_156 : (RX4, 156, RX3, "seen", "I") ∈ nstF := List.mem_of_getElem? (i := 18) rfl
theorem q_nf_RX4_217 : (RX4, 217, RX2, "letters", "[I") ∈ nstF := List.mem_of_getElem? (i := 19) rfl
theorem q_nf_RX4_39 : (RX4, 39, RX2, "size", "I") ∈ nstF := List.mem_of_getElem? (i := 20) rfl
theorem q_nf_RX3_54 : (RX3, 54, RX2, "beats", "[I") ∈ nstF := List.mem_of_getElem? (i := 21) rfl
theorem q_nf_RX3_53 : (RX3, 53, RX2, "verses", "I") ∈ nstF := List.mem_of_getElem? (i := 22) rfl
theorem q_nf_RX3_46 : (RX3, 46, RX2, "kinds", "[I") ∈ nstF := List.mem_of_getElem? (i := 23) rfl
theorem q_nf_RX3_41 : (RX3, 41, RX2, "children", "I") ∈ nstF := List.mem_of_getElem? (i := 24) rfl
