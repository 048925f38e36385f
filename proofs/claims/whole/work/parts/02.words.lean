abbrev y_D_emptyTable : MethodName := ⟨"DistanceLabels", "emptyTable", "()[[I"⟩
abbrev y_N_init : MethodName := ⟨"DistanceLabels$Net", "<init>", "()V"⟩
abbrev y_L_init : MethodName := ⟨"DistanceLabels$Labels", "<init>", "()V"⟩
abbrev y_K_init : MethodName := ⟨"DistanceLabels$Contraction", "<init>", "()V"⟩
abbrev y_D_init : MethodName := ⟨"DistanceLabels", "<init>", "()V"⟩
abbrev y_N_place : MethodName := ⟨"DistanceLabels$Net", "place", "(II)V"⟩
abbrev y_N_addNode : MethodName := ⟨"DistanceLabels$Net", "addNode", "()I"⟩
abbrev y_D_node : MethodName := ⟨"DistanceLabels", "node", "()I"⟩
abbrev y_N_has : MethodName := ⟨"DistanceLabels$Net", "has", "(I)Z"⟩
abbrev y_N_hasTwo : MethodName := ⟨"DistanceLabels$Net", "hasTwo", "(II)Z"⟩
abbrev y_N_putArc : MethodName := ⟨"DistanceLabels$Net", "putArc", "(III)I"⟩
abbrev y_D_arc : MethodName := ⟨"DistanceLabels", "arc", "(III)I"⟩
abbrev y_N_dropArc : MethodName := ⟨"DistanceLabels$Net", "dropArc", "(II)I"⟩
abbrev y_D_lose : MethodName := ⟨"DistanceLabels", "lose", "(II)I"⟩
abbrev y_N_moveTo : MethodName := ⟨"DistanceLabels$Net", "moveTo", "(II)I"⟩
abbrev y_D_rank : MethodName := ⟨"DistanceLabels", "rank", "(II)I"⟩
abbrev y_D_ranked : MethodName := ⟨"DistanceLabels", "ranked", "(I)I"⟩
abbrev y_D_landmark : MethodName := ⟨"DistanceLabels", "landmark", "(IZ)I"⟩
abbrev y_D_copyAmong : MethodName := ⟨"DistanceLabels", "copyAmong", "([II[[I[[I)V"⟩
abbrev y_D_isLess : MethodName := ⟨"DistanceLabels", "isLess", "(II)Z"⟩
abbrev y_D_shortenRow : MethodName := ⟨"DistanceLabels", "shortenRow", "([III[I[I)V"⟩
abbrev y_D_shortenAmong : MethodName := ⟨"DistanceLabels", "shortenAmong", "([II[[I)V"⟩
abbrev y_D_layDistances : MethodName := ⟨"DistanceLabels", "layDistances", "()V"⟩
abbrev y_D_sum : MethodName := ⟨"DistanceLabels", "sum", "(II)I"⟩
abbrev y_D_firstOnLeastWays : MethodName := ⟨"DistanceLabels", "firstOnLeastWays", "(II)I"⟩
abbrev y_L_lay : MethodName := ⟨"DistanceLabels$Labels", "lay", "(III)I"⟩
abbrev y_D_layPair : MethodName := ⟨"DistanceLabels", "layPair", "(II)I"⟩
abbrev y_K_bring : MethodName := ⟨"DistanceLabels$Contraction", "bring", "(IIII)V"⟩
abbrev y_K_letGo : MethodName := ⟨"DistanceLabels$Contraction", "letGo", "(LDistanceLabels$Net;I)V"⟩
abbrev y_K_layAll : MethodName := ⟨"DistanceLabels$Contraction", "layAll", "(LDistanceLabels$Net;)V"⟩
abbrev y_D_make : MethodName := ⟨"DistanceLabels", "make", "()I"⟩
abbrev y_D_isSide : MethodName := ⟨"DistanceLabels", "isSide", "(I)Z"⟩
abbrev y_D_ofSide : MethodName := ⟨"DistanceLabels", "ofSide", "(I)LDistanceLabels$Labels;"⟩
abbrev y_L_sizeOf : MethodName := ⟨"DistanceLabels$Labels", "sizeOf", "(LDistanceLabels$Net;I)I"⟩
abbrev y_L_stationAt : MethodName := ⟨"DistanceLabels$Labels", "stationAt", "(LDistanceLabels$Net;II)I"⟩
abbrev y_D_label : MethodName := ⟨"DistanceLabels", "label", "(IIII)I"⟩
abbrev y_D_refusalOf : MethodName := ⟨"DistanceLabels", "refusalOf", "(II)I"⟩
abbrev y_D_meetingOf : MethodName := ⟨"DistanceLabels", "meetingOf", "(II)I"⟩
abbrev y_D_askedOf : MethodName := ⟨"DistanceLabels", "askedOf", "(II)I"⟩
abbrev y_D_ask : MethodName := ⟨"DistanceLabels", "ask", "(II)I"⟩
abbrev y_D_meeting : MethodName := ⟨"DistanceLabels", "meeting", "(II)I"⟩
abbrev y_D_redone : MethodName := ⟨"DistanceLabels", "redone", "()I"⟩
abbrev y_D_damage : MethodName := ⟨"DistanceLabels", "damage", "(IIII)I"⟩
abbrev y_D_check : MethodName := ⟨"DistanceLabels", "check", "()I"⟩
abbrev y_K_fromOf : MethodName := ⟨"DistanceLabels$Contraction", "fromOf", "(I)I"⟩
abbrev y_K_toOf : MethodName := ⟨"DistanceLabels$Contraction", "toOf", "(I)I"⟩
abbrev y_K_byOf : MethodName := ⟨"DistanceLabels$Contraction", "byOf", "(I)I"⟩
abbrev y_D_shortcut : MethodName := ⟨"DistanceLabels", "shortcut", "(II)I"⟩
abbrev y_J_fill : MethodName := ⟨"java/util/Arrays", "fill", "([II)V"⟩
abbrev y_D_lesser : MethodName := ⟨"DistanceLabels", "lesser", "(II)I"⟩
abbrev y_K_climbFrom : MethodName := ⟨"DistanceLabels$Contraction", "climbFrom", "(LDistanceLabels$Net;I)V"⟩
abbrev y_K_climbBackFrom : MethodName := ⟨"DistanceLabels$Contraction", "climbBackFrom", "(LDistanceLabels$Net;I)V"⟩
abbrev y_K_climbed : MethodName := ⟨"DistanceLabels$Contraction", "climbed", "(LDistanceLabels$Net;II)I"⟩
abbrev y_D_climb : MethodName := ⟨"DistanceLabels", "climb", "(II)I"⟩
abbrev y_D_nextOnWay : MethodName := ⟨"DistanceLabels", "nextOnWay", "(II)I"⟩
abbrev y_D_way : MethodName := ⟨"DistanceLabels", "way", "(III)I"⟩
abbrev y_D_isSureBy : MethodName := ⟨"DistanceLabels", "isSureBy", "(III)Z"⟩
abbrev y_D_lead : MethodName := ⟨"DistanceLabels", "lead", "(II)I"⟩
abbrev y_D_least : MethodName := ⟨"DistanceLabels", "least", "(II)I"⟩
abbrev y_D_most : MethodName := ⟨"DistanceLabels", "most", "(II)I"⟩
abbrev y_D_count : MethodName := ⟨"DistanceLabels", "count", "(I)I"⟩
abbrev y_R_in : MethodName := ⟨"DistanceLabelsModel", "in", "(III)Z"⟩
abbrev y_R_init : MethodName := ⟨"DistanceLabelsModel", "<init>", "()V"⟩
abbrev y_R_noNode : MethodName := ⟨"DistanceLabelsModel", "noNode", "(I)Z"⟩
abbrev y_R_noPair : MethodName := ⟨"DistanceLabelsModel", "noPair", "(II)Z"⟩
abbrev y_R_node : MethodName := ⟨"DistanceLabelsModel", "node", "()I"⟩
abbrev y_R_arc : MethodName := ⟨"DistanceLabelsModel", "arc", "(III)I"⟩
abbrev y_R_lose : MethodName := ⟨"DistanceLabelsModel", "lose", "(II)I"⟩
abbrev y_R_rankOf : MethodName := ⟨"DistanceLabelsModel", "rankOf", "(I)I"⟩
abbrev y_R_rank : MethodName := ⟨"DistanceLabelsModel", "rank", "(II)I"⟩
abbrev y_R_ranked : MethodName := ⟨"DistanceLabelsModel", "ranked", "(I)I"⟩
abbrev y_R_marks : MethodName := ⟨"DistanceLabelsModel", "marks", "()I"⟩
abbrev y_R_landmark : MethodName := ⟨"DistanceLabelsModel", "landmark", "(IZ)I"⟩
abbrev y_R_fill : MethodName := ⟨"DistanceLabelsModel", "fill", "([I[II[Z)V"⟩
abbrev y_R_isStation : MethodName := ⟨"DistanceLabelsModel", "isStation", "(III)Z"⟩
abbrev y_R_climbAll : MethodName := ⟨"DistanceLabelsModel", "climbAll", "()V"⟩
abbrev y_R_contract : MethodName := ⟨"DistanceLabelsModel", "contract", "()V"⟩
abbrev y_R_make : MethodName := ⟨"DistanceLabelsModel", "make", "()I"⟩
abbrev y_R_nth : MethodName := ⟨"DistanceLabelsModel", "nth", "(III)I"⟩
abbrev y_R_label : MethodName := ⟨"DistanceLabelsModel", "label", "(IIII)I"⟩
abbrev y_R_meet : MethodName := ⟨"DistanceLabelsModel", "meet", "(II)I"⟩
abbrev y_R_ask : MethodName := ⟨"DistanceLabelsModel", "ask", "(II)I"⟩
abbrev y_R_meeting : MethodName := ⟨"DistanceLabelsModel", "meeting", "(II)I"⟩
abbrev y_R_redone : MethodName := ⟨"DistanceLabelsModel", "redone", "()I"⟩
abbrev y_R_damage : MethodName := ⟨"DistanceLabelsModel", "damage", "(IIII)I"⟩
abbrev y_R_check : MethodName := ⟨"DistanceLabelsModel", "check", "()I"⟩
abbrev y_R_shortcut : MethodName := ⟨"DistanceLabelsModel", "shortcut", "(II)I"⟩
abbrev y_R_climb : MethodName := ⟨"DistanceLabelsModel", "climb", "(II)I"⟩
abbrev y_R_next : MethodName := ⟨"DistanceLabelsModel", "next", "(II)I"⟩
abbrev y_R_way : MethodName := ⟨"DistanceLabelsModel", "way", "(III)I"⟩
abbrev y_R_isWay : MethodName := ⟨"DistanceLabelsModel", "isWay", "(II)Z"⟩
abbrev y_R_least : MethodName := ⟨"DistanceLabelsModel", "least", "(II)I"⟩
abbrev y_R_most : MethodName := ⟨"DistanceLabelsModel", "most", "(II)I"⟩
abbrev y_R_count : MethodName := ⟨"DistanceLabelsModel", "count", "(I)I"⟩
abbrev y_W_law : MethodName := ⟨"DistanceLabelsLaw", "law", "([I)Z"⟩
def T_0 : u_T := fun k => match k with
  | 0 => ("DistanceLabels$Contraction", "lengths", "[[I", true)
  | 1 => ("DistanceLabels$Contraction", "around", "[[I", true)
  | 2 => ("DistanceLabels$Contraction", "ends", "[I", true)
  | 3 => ("DistanceLabels$Contraction", "sums", "[I", true)
  | 4 => ("DistanceLabels$Contraction", "came", "I", false)
  | 5 => ("DistanceLabels$Contraction", "fromStart", "[I", true)
  | _ => ("DistanceLabels$Contraction", "toEnd", "[I", true)
def t_0 : Nat → FieldType := fun k => match k with
  | 0 => (.array (.array .int))
  | 1 => (.array (.array .int))
  | 2 => (.array .int)
  | 3 => (.array .int)
  | 4 => .int
  | 5 => (.array .int)
  | _ => (.array .int)
def T_1 : u_T := fun k => match k with
  | 0 => ("DistanceLabels$Labels", "laid", "[[I", true)
  | _ => ("DistanceLabels$Labels", "told", "[[I", true)
def t_1 : Nat → FieldType := fun k => match k with
  | 0 => (.array (.array .int))
  | _ => (.array (.array .int))
def T_2 : u_T := fun k => match k with
  | 0 => ("DistanceLabels$Net", "nodes", "I", false)
  | 1 => ("DistanceLabels$Net", "arcs", "I", false)
  | 2 => ("DistanceLabels$Net", "lengths", "[[I", true)
  | 3 => ("DistanceLabels$Net", "row", "[I", true)
  | _ => ("DistanceLabels$Net", "ranks", "[I", true)
def t_2 : Nat → FieldType := fun k => match k with
  | 0 => .int
  | 1 => .int
  | 2 => (.array (.array .int))
  | 3 => (.array .int)
  | _ => (.array .int)
def T_3 : u_T := fun k => match k with
  | 0 => ("DistanceLabels", "net", "LDistanceLabels$Net;", true)
  | 1 => ("DistanceLabels", "distances", "[[I", true)
  | 2 => ("DistanceLabels", "outs", "LDistanceLabels$Labels;", true)
  | 3 => ("DistanceLabels", "ins", "LDistanceLabels$Labels;", true)
  | 4 => ("DistanceLabels", "contraction", "LDistanceLabels$Contraction;", true)
  | 5 => ("DistanceLabels", "isLandmark", "[Z", true)
  | 6 => ("DistanceLabels", "landmarks", "I", false)
  | 7 => ("DistanceLabels", "holds", "Z", false)
  | _ => ("DistanceLabels", "changes", "I", false)
def t_3 : Nat → FieldType := fun k => match k with
  | 0 => (.object "DistanceLabels$Net")
  | 1 => (.array (.array .int))
  | 2 => (.object "DistanceLabels$Labels")
  | 3 => (.object "DistanceLabels$Labels")
  | 4 => (.object "DistanceLabels$Contraction")
  | 5 => (.array .boolean)
  | 6 => .int
  | 7 => .boolean
  | _ => .int
def T_4 : u_T := fun k => match k with
  | 0 => ("DistanceLabelsModel", "thrown", "I", false)
  | 1 => ("DistanceLabelsModel", "nodes", "I", false)
  | 2 => ("DistanceLabelsModel", "arc", "[I", true)
  | 3 => ("DistanceLabelsModel", "row", "[I", true)
  | 4 => ("DistanceLabelsModel", "isMark", "[Z", true)
  | 5 => ("DistanceLabelsModel", "isLaid", "Z", false)
  | 6 => ("DistanceLabelsModel", "far", "[I", true)
  | 7 => ("DistanceLabelsModel", "station", "[I", true)
  | 8 => ("DistanceLabelsModel", "before", "[I", true)
  | 9 => ("DistanceLabelsModel", "damaged", "[I", true)
  | 10 => ("DistanceLabelsModel", "redone", "I", false)
  | 11 => ("DistanceLabelsModel", "gone", "[Z", true)
  | 12 => ("DistanceLabelsModel", "now", "[I", true)
  | 13 => ("DistanceLabelsModel", "beside", "[I", true)
  | 14 => ("DistanceLabelsModel", "kept", "[I", true)
  | 15 => ("DistanceLabelsModel", "climbed", "[I", true)
  | 16 => ("DistanceLabelsModel", "shortcuts", "I", false)
  | 17 => ("DistanceLabelsModel", "shortFrom", "[I", true)
  | 18 => ("DistanceLabelsModel", "shortTo", "[I", true)
  | 19 => ("DistanceLabelsModel", "shortLength", "[I", true)
  | 20 => ("DistanceLabelsModel", "shortBy", "[I", true)
  | 21 => ("DistanceLabelsModel", "up", "[I", true)
  | 22 => ("DistanceLabelsModel", "down", "[I", true)
  | 23 => ("DistanceLabelsModel", "found", "I", false)
  | _ => ("DistanceLabelsModel", "best", "I", false)
def t_4 : Nat → FieldType := fun k => match k with
  | 0 => .int
  | 1 => .int
  | 2 => (.array .int)
  | 3 => (.array .int)
  | 4 => (.array .boolean)
  | 5 => .boolean
  | 6 => (.array .int)
  | 7 => (.array .int)
  | 8 => (.array .int)
  | 9 => (.array .int)
  | 10 => .int
  | 11 => (.array .boolean)
  | 12 => (.array .int)
  | 13 => (.array .int)
  | 14 => (.array .int)
  | 15 => (.array .int)
  | 16 => .int
  | 17 => (.array .int)
  | 18 => (.array .int)
  | 19 => (.array .int)
  | 20 => (.array .int)
  | 21 => (.array .int)
  | 22 => (.array .int)
  | 23 => .int
  | _ => .int
abbrev vwCl : List vw_C := [("DistanceLabels$Contraction", T_0, 7), ("DistanceLabels$Labels", T_1, 2), ("DistanceLabels$Net", T_2, 5), ("DistanceLabels", T_3, 9), ("DistanceLabelsModel", T_4, 25)]
/-- whether a field holds a reference -/
def hm_isr (ci k : Nat) : Bool := match ci with
  | 0 => k == 0 || k == 1 || k == 2 || k == 3 || k == 5 || k == 6
  | 1 => k == 0 || k == 1
  | 2 => k == 2 || k == 3 || k == 4
  | 3 => k == 0 || k == 1 || k == 2 || k == 3 || k == 4 || k == 5
  | _ => k == 2 || k == 3 || k == 4 || k == 6 || k == 7 || k == 8 || k == 9 || k == 11 || k == 12 || k == 13 || k == 14 || k == 15 || k == 17 || k == 18 || k == 19 || k == 20 || k == 21 || k == 22
def hm_okw (w : Cond) : Bool := (w.onTables && w.keeps) || (match w with
  | .arrayClass _ => true
  | _ => false)
def hm_big : List Cond := lw_tbl.filter hm_okw
theorem hm_big_ok : ∀ w ∈ hm_big, (w.onTables && w.keeps) = true ∨ ∃ ty, w = .arrayClass ty := by
  intro w hw
  have h := (List.mem_filter.mp hw).2
  unfold hm_okw at h
  rcases Bool.or_eq_true_iff.mp h with q | q
  · exact Or.inl q
  · cases w <;> first | (exact Or.inr ⟨_, rfl⟩) | cases q
theorem hm_inT {w : Cond} (i : Nat) (h : tables_1[i]? = some w) (hk : hm_okw w = true) : w ∈ hm_big := List.mem_filter.mpr ⟨List.mem_append_right _ (List.mem_of_getElem? h), hk⟩
theorem hm_inS {w : Cond} (i : Nat) (h : (k2_sels lw_privs)[i]? = some w) (hk : hm_okw w = true) : w ∈ hm_big := List.mem_filter.mpr ⟨List.mem_append_left _ (List.mem_of_getElem? h), hk⟩
theorem hm_inL {w : Cond} (h : w ∈ hm_big) : w ∈ lw_tbl := (List.mem_filter.mp h).1
def hm_nF : List (String × Nat × String × String × String × String) := [("DistanceLabels", 56, "DistanceLabels$Net", "nodes", "I", "DistanceLabels"), ("DistanceLabels", 82, "DistanceLabels$Net", "row", "[I", "DistanceLabels"), ("DistanceLabels", 167, "DistanceLabels$Net", "lengths", "[[I", "DistanceLabels"), ("DistanceLabels$Contraction", 44, "DistanceLabels$Net", "nodes", "I", "DistanceLabels"), ("DistanceLabels$Contraction", 60, "DistanceLabels$Net", "ranks", "[I", "DistanceLabels"), ("DistanceLabels$Contraction", 39, "DistanceLabels$Net", "row", "[I", "DistanceLabels"), ("DistanceLabels$Contraction", 47, "DistanceLabels$Net", "lengths", "[[I", "DistanceLabels"), ("DistanceLabels$Labels", 22, "DistanceLabels$Net", "nodes", "I", "DistanceLabels"), ("DistanceLabels$Labels", 28, "DistanceLabels$Net", "row", "[I", "DistanceLabels"), ("DistanceLabels", 111, "DistanceLabels$Labels", "told", "[[I", "DistanceLabels"), ("DistanceLabels", 124, "DistanceLabels$Contraction", "came", "I", "DistanceLabels"), ("DistanceLabels", 134, "DistanceLabels$Contraction", "sums", "[I", "DistanceLabels"), ("DistanceLabels", 164, "DistanceLabels$Net", "arcs", "I", "DistanceLabels")]
def hm_nM : List (String × Nat × MethodName × String) := [("DistanceLabels$Net", 18, y_D_emptyTable, "DistanceLabels"), ("DistanceLabels$Labels", 9, y_D_emptyTable, "DistanceLabels"), ("DistanceLabels$Contraction", 9, y_D_emptyTable, "DistanceLabels"), ("DistanceLabels", 9, y_N_init, "DistanceLabels"), ("DistanceLabels", 26, y_L_init, "DistanceLabels"), ("DistanceLabels", 36, y_K_init, "DistanceLabels"), ("DistanceLabels", 59, y_N_addNode, "DistanceLabels"), ("DistanceLabels", 63, y_N_hasTwo, "DistanceLabels"), ("DistanceLabels", 67, y_N_putArc, "DistanceLabels"), ("DistanceLabels", 71, y_N_dropArc, "DistanceLabels"), ("DistanceLabels", 75, y_N_has, "DistanceLabels"), ("DistanceLabels", 79, y_N_moveTo, "DistanceLabels"), ("DistanceLabels", 181, y_L_lay, "DistanceLabels"), ("DistanceLabels$Contraction", 63, y_D_sum, "DistanceLabels"), ("DistanceLabels$Contraction", 67, y_D_isLess, "DistanceLabels"), ("DistanceLabels$Contraction", 48, y_D_copyAmong, "DistanceLabels"), ("DistanceLabels$Contraction", 56, y_D_shortenAmong, "DistanceLabels"), ("DistanceLabels", 92, y_K_layAll, "DistanceLabels"), ("DistanceLabels", 107, y_L_stationAt, "DistanceLabels"), ("DistanceLabels", 103, y_L_sizeOf, "DistanceLabels"), ("DistanceLabels", 127, y_K_fromOf, "DistanceLabels"), ("DistanceLabels", 131, y_K_toOf, "DistanceLabels"), ("DistanceLabels", 137, y_K_byOf, "DistanceLabels"), ("DistanceLabels$Contraction", 81, y_D_lesser, "DistanceLabels"), ("DistanceLabels", 140, y_K_climbed, "DistanceLabels")]
