def tyTab : Nat → Nat → FieldType := fun c => match c with
  | 0 => tyX0
  | 1 => tyX1
  | 2 => tyX2
  | 3 => tyX3
  | 4 => tyX4
  | 5 => tyX5
  | 6 => tyX6
  | 7 => tyX7
  | 8 => tyX8
  | 9 => tyX9
  | 10 => tyX10
  | _ => tyX11
/-- the links among nest mates -/
def NWs : List Cond := [.methodLinkNest "LastsEvening$House" 76 ⟨"LastsEvening", "put", "([III)V"⟩ "LastsEvening", .methodLinkNest "LastsEvening$House" 80 ⟨"LastsEvening", "at", "([II)I"⟩ "LastsEvening", .methodLinkNest "LastsEvening" 28 ⟨"LastsEvening$Script", "<init>", "()V"⟩ "LastsEvening", .methodLinkNest "LastsEvening" 47 ⟨"LastsEvening$Night", "<init>", "()V"⟩ "LastsEvening", .methodLinkNest "LastsEvening" 112 ⟨"LastsEvening$Mark", "<init>", "()V"⟩ "LastsEvening", .methodLinkNest "LastsEvening$Mark" 9 ⟨"LastsEvening$Night", "<init>", "()V"⟩ "LastsEvening", .methodLinkNest "LastsEvening$Mark" 18 ⟨"LastsEvening$Script", "<init>", "()V"⟩ "LastsEvening", .methodLinkNest "LastsEvening$House" 84 ⟨"LastsEvening", "copyRow", "([I[II)V"⟩ "LastsEvening", .methodLinkNest "LastsEvening$Reader" 146 ⟨"LastsEvening", "put", "([III)V"⟩ "LastsEvening", .methodLinkNest "LastsEvening$Script" 22 ⟨"LastsEvening", "put", "([III)V"⟩ "LastsEvening", .methodLinkNest "LastsEvening$Script" 26 ⟨"LastsEvening", "copyRow", "([I[II)V"⟩ "LastsEvening", .methodLinkNest "LastsEvening$Values" 66 ⟨"LastsEvening", "roomFor", "([II)[I"⟩ "LastsEvening", .methodLinkNest "LastsEvening$Values" 96 ⟨"LastsEvening", "at", "([II)I"⟩ "LastsEvening", .methodLinkNest "LastsEvening$Values" 88 ⟨"LastsEvening", "put", "([III)V"⟩ "LastsEvening", .methodLinkNest "LastsEvening$Means" 83 ⟨"LastsEvening", "roomFor", "([II)[I"⟩ "LastsEvening", .methodLinkNest "LastsEvening$Means" 51 ⟨"LastsEvening", "at", "([II)I"⟩ "LastsEvening", .methodLinkNest "LastsEvening$Means" 58 ⟨"LastsEvening", "put", "([III)V"⟩ "LastsEvening", .methodLinkNest "LastsEvening$Shares" 42 ⟨"LastsEvening", "at", "([II)I"⟩ "LastsEvening", .methodLinkNest "LastsEvening$Shares" 66 ⟨"LastsEvening", "put", "([III)V"⟩ "LastsEvening", .methodLinkNest "LastsEvening$Readings" 38 ⟨"LastsEvening", "roomFor", "([II)[I"⟩ "LastsEvening", .methodLinkNest "LastsEvening$Readings" 51 ⟨"LastsEvening", "put", "([III)V"⟩ "LastsEvening", .methodLinkNest "LastsEvening$Readings" 59 ⟨"LastsEvening", "at", "([II)I"⟩ "LastsEvening"]
theorem NWs_in : ∀ w ∈ NWs, w ∈ lw_tbl := by
  unfold NWs
  refine List.forall_mem_cons.mpr ⟨List.mem_of_getElem? (i := 254) (by decide +kernel), List.forall_mem_cons.mpr ⟨List.mem_of_getElem? (i := 261) (by decide +kernel), List.forall_mem_cons.mpr ⟨List.mem_of_getElem? (i := 361) (by decide +kernel), List.forall_mem_cons.mpr ⟨List.mem_of_getElem? (i := 410) (by decide +kernel), List.forall_mem_cons.mpr ⟨List.mem_of_getElem? (i := 577) (by decide +kernel), List.forall_mem_cons.mpr ⟨List.mem_of_getElem? (i := 582) (by decide +kernel), List.forall_mem_cons.mpr ⟨List.mem_of_getElem? (i := 584) (by decide +kernel), List.forall_mem_cons.mpr ⟨List.mem_of_getElem? (i := 606) (by decide +kernel), List.forall_mem_cons.mpr ⟨List.mem_of_getElem? (i := 826) (by decide +kernel), List.forall_mem_cons.mpr ⟨List.mem_of_getElem? (i := 892) (by decide +kernel), List.forall_mem_cons.mpr ⟨List.mem_of_getElem? (i := 897) (by decide +kernel), List.forall_mem_cons.mpr ⟨List.mem_of_getElem? (i := 1008) (by decide +kernel), List.forall_mem_cons.mpr ⟨List.mem_of_getElem? (i := 1043) (by decide +kernel), List.forall_mem_cons.mpr ⟨List.mem_of_getElem? (i := 1045) (by decide +kernel), List.forall_mem_cons.mpr ⟨List.mem_of_getElem? (i := 1076) (by decide +kernel), List.forall_mem_cons.mpr ⟨List.mem_of_getElem? (i := 1083) (by decide +kernel), List.forall_mem_cons.mpr ⟨List.mem_of_getElem? (i := 1089) (by decide +kernel), List.forall_mem_cons.mpr ⟨List.mem_of_getElem? (i := 1127) (by decide +kernel), List.forall_mem_cons.mpr ⟨List.mem_of_getElem? (i := 1128) (by decide +kernel), List.forall_mem_cons.mpr ⟨List.mem_of_getElem? (i := 1166) (by decide +kernel), List.forall_mem_cons.mpr ⟨List.mem_of_getElem? (i := 1175) (by decide +kernel), List.forall_mem_cons.mpr ⟨List.mem_of_getElem? (i := 1184) (by decide +kernel), fun _ h => absurd h List.not_mem_nil⟩⟩⟩⟩⟩⟩⟩⟩⟩⟩⟩⟩⟩⟩⟩⟩⟩⟩⟩⟩⟩⟩
theorem NWs_warm {s U : State} (hW : s.WarmedH U.vm) (h : ∀ w ∈ NWs, va_Nw w s) : ∀ w ∈ NWs, va_Nw w U := by
  unfold NWs at h ⊢
  obtain ⟨h0, h1, h2, h3, h4, h5, h6, h7, h8, h9, h10, h11, h12, h13, h14, h15, h16, h17, h18, h19, h20, h21, -⟩ := (show va_Nw (.methodLinkNest "LastsEvening$House" 76 ⟨"LastsEvening", "put", "([III)V"⟩ "LastsEvening") s ∧ va_Nw (.methodLinkNest "LastsEvening$House" 80 ⟨"LastsEvening", "at", "([II)I"⟩ "LastsEvening") s ∧ va_Nw (.methodLinkNest "LastsEvening" 28 ⟨"LastsEvening$Script", "<init>", "()V"⟩ "LastsEvening") s ∧ va_Nw (.methodLinkNest "LastsEvening" 47 ⟨"LastsEvening$Night", "<init>", "()V"⟩ "LastsEvening") s ∧ va_Nw (.methodLinkNest "LastsEvening" 112 ⟨"LastsEvening$Mark", "<init>", "()V"⟩ "LastsEvening") s ∧ va_Nw (.methodLinkNest "LastsEvening$Mark" 9 ⟨"LastsEvening$Night", "<init>", "()V"⟩ "LastsEvening") s ∧ va_Nw (.methodLinkNest "LastsEvening$Mark" 18 ⟨"LastsEvening$Script", "<init>", "()V"⟩ "LastsEvening") s ∧ va_Nw (.methodLinkNest "LastsEvening$House" 84 ⟨"LastsEvening", "copyRow", "([I[II)V"⟩ "LastsEvening") s ∧ va_Nw (.methodLinkNest "LastsEvening$Reader" 146 ⟨"LastsEvening", "put", "([III)V"⟩ "LastsEvening") s ∧ va_Nw (.methodLinkNest "LastsEvening$Script" 22 ⟨"LastsEvening", "put", "([III)V"⟩ "LastsEvening") s ∧ va_Nw (.methodLinkNest "LastsEvening$Script" 26 ⟨"LastsEvening", "copyRow", "([I[II)V"⟩ "LastsEvening") s ∧ va_Nw (.methodLinkNest "LastsEvening$Values" 66 ⟨"LastsEvening", "roomFor", "([II)[I"⟩ "LastsEvening") s ∧ va_Nw (.methodLinkNest "LastsEvening$Values" 96 ⟨"LastsEvening", "at", "([II)I"⟩ "LastsEvening") s ∧ va_Nw (.methodLinkNest "LastsEvening$Values" 88 ⟨"LastsEvening", "put", "([III)V"⟩ "LastsEvening") s ∧ va_Nw (.methodLinkNest "LastsEvening$Means" 83 ⟨"LastsEvening", "roomFor", "([II)[I"⟩ "LastsEvening") s ∧ va_Nw (.methodLinkNest "LastsEvening$Means" 51 ⟨"LastsEvening", "at", "([II)I"⟩ "LastsEvening") s ∧ va_Nw (.methodLinkNest "LastsEvening$Means" 58 ⟨"LastsEvening", "put", "([III)V"⟩ "LastsEvening") s ∧ va_Nw (.methodLinkNest "LastsEvening$Shares" 42 ⟨"LastsEvening", "at", "([II)I"⟩ "LastsEvening") s ∧ va_Nw (.methodLinkNest "LastsEvening$Shares" 66 ⟨"LastsEvening", "put", "([III)V"⟩ "LastsEvening") s ∧ va_Nw (.methodLinkNest "LastsEvening$Readings" 38 ⟨"LastsEvening", "roomFor", "([II)[I"⟩ "LastsEvening") s ∧ va_Nw (.methodLinkNest "LastsEvening$Readings" 51 ⟨"LastsEvening", "put", "([III)V"⟩ "LastsEvening") s ∧ va_Nw (.methodLinkNest "LastsEvening$Readings" 59 ⟨"LastsEvening", "at", "([II)I"⟩ "LastsEvening") s ∧ True from by simpa only [List.forall_mem_cons, List.not_mem_nil, false_imp_iff, forall_const, implies_true] using h)
  refine List.forall_mem_cons.mpr ⟨va_Nw.warmM hW h0, List.forall_mem_cons.mpr ⟨va_Nw.warmM hW h1, List.forall_mem_cons.mpr ⟨va_Nw.warmM hW h2, List.forall_mem_cons.mpr ⟨va_Nw.warmM hW h3, List.forall_mem_cons.mpr ⟨va_Nw.warmM hW h4, List.forall_mem_cons.mpr ⟨va_Nw.warmM hW h5, List.forall_mem_cons.mpr ⟨va_Nw.warmM hW h6, List.forall_mem_cons.mpr ⟨va_Nw.warmM hW h7, List.forall_mem_cons.mpr ⟨va_Nw.warmM hW h8, List.forall_mem_cons.mpr ⟨va_Nw.warmM hW h9, List.forall_mem_cons.mpr ⟨va_Nw.warmM hW h10, List.forall_mem_cons.mpr ⟨va_Nw.warmM hW h11, List.forall_mem_cons.mpr ⟨va_Nw.warmM hW h12, List.forall_mem_cons.mpr ⟨va_Nw.warmM hW h13, List.forall_mem_cons.mpr ⟨va_Nw.warmM hW h14, List.forall_mem_cons.mpr ⟨va_Nw.warmM hW h15, List.forall_mem_cons.mpr ⟨va_Nw.warmM hW h16, List.forall_mem_cons.mpr ⟨va_Nw.warmM hW h17, List.forall_mem_cons.mpr ⟨va_Nw.warmM hW h18, List.forall_mem_cons.mpr ⟨va_Nw.warmM hW h19, List.forall_mem_cons.mpr ⟨va_Nw.warmM hW h20, List.forall_mem_cons.mpr ⟨va_Nw.warmM hW h21, fun _ h => absurd h List.not_mem_nil⟩⟩⟩⟩⟩⟩⟩⟩⟩⟩⟩⟩⟩⟩⟩⟩⟩⟩⟩⟩⟩⟩
/-- the words that stay: every good one of the tables -/
def GW : List Cond := lw_tbl.filter goodWord
theorem gw (i : Nat) {w : Cond} (h : lw_tbl[i]? = some w) (hg : goodWord w = true) : w ∈ GW := List.mem_filter.mpr ⟨List.mem_of_getElem? h, hg⟩
set_option maxRecDepth 20000 in
theorem GWf0 : ∀ w ∈ u_ws RX0 TX0 19, w ∈ GW := by
  have h : GoodIn lw_tbl (u_ws RX0 TX0 19) := goodIn_r _ [319, 321, 323, 325, 327, 329, 331, 333, 335, 337, 339, 341, 343, 345, 347, 349, 351, 353, 355] (by decide +kernel) (by decide +kernel)
  exact fun w hw => List.mem_filter.mpr ⟨(h w hw).1, by rcases (h w hw).2 with z | ⟨ty, rfl⟩; (· revert z; cases w <;> simp [goodWord]); rfl⟩
set_option maxRecDepth 20000 in
theorem GWf1 : ∀ w ∈ u_ws RX1 TX1 3, w ∈ GW := by
  have h : GoodIn lw_tbl (u_ws RX1 TX1 3) := goodIn_r _ [591, 593, 595] (by decide +kernel) (by decide +kernel)
  exact fun w hw => List.mem_filter.mpr ⟨(h w hw).1, by rcases (h w hw).2 with z | ⟨ty, rfl⟩; (· revert z; cases w <;> simp [goodWord]); rfl⟩
set_option maxRecDepth 20000 in
theorem GWf2 : ∀ w ∈ u_ws RX2 TX2 8, w ∈ GW := by
  have h : GoodIn lw_tbl (u_ws RX2 TX2 8) := goodIn_r _ [518, 520, 522, 524, 526, 528, 530, 532] (by decide +kernel) (by decide +kernel)
  exact fun w hw => List.mem_filter.mpr ⟨(h w hw).1, by rcases (h w hw).2 with z | ⟨ty, rfl⟩; (· revert z; cases w <;> simp [goodWord]); rfl⟩
set_option maxRecDepth 20000 in
theorem GWf3 : ∀ w ∈ u_ws RX3 TX3 14, w ∈ GW := by
  have h : GoodIn lw_tbl (u_ws RX3 TX3 14) := goodIn_r _ [447, 449, 451, 453, 455, 457, 459, 461, 463, 465, 467, 469, 471, 473] (by decide +kernel) (by decide +kernel)
  exact fun w hw => List.mem_filter.mpr ⟨(h w hw).1, by rcases (h w hw).2 with z | ⟨ty, rfl⟩; (· revert z; cases w <;> simp [goodWord]); rfl⟩
set_option maxRecDepth 20000 in
theorem GWf4 : ∀ w ∈ u_ws RX4 TX4 7, w ∈ GW := by
  have h : GoodIn lw_tbl (u_ws RX4 TX4 7) := goodIn_r _ [392, 394, 396, 398, 400, 402, 404] (by decide +kernel) (by decide +kernel)
  exact fun w hw => List.mem_filter.mpr ⟨(h w hw).1, by rcases (h w hw).2 with z | ⟨ty, rfl⟩; (· revert z; cases w <;> simp [goodWord]); rfl⟩
set_option maxRecDepth 20000 in
theorem GWf5 : ∀ w ∈ u_ws RX5 TX5 5, w ∈ GW := by
  have h : GoodIn lw_tbl (u_ws RX5 TX5 5) := goodIn_r _ [546, 548, 550, 552, 554] (by decide +kernel) (by decide +kernel)
  exact fun w hw => List.mem_filter.mpr ⟨(h w hw).1, by rcases (h w hw).2 with z | ⟨ty, rfl⟩; (· revert z; cases w <;> simp [goodWord]); rfl⟩
set_option maxRecDepth 20000 in
theorem GWf6 : ∀ w ∈ u_ws RX6 TX6 3, w ∈ GW := by
  have h : GoodIn lw_tbl (u_ws RX6 TX6 3) := goodIn_r _ [372, 374, 376] (by decide +kernel) (by decide +kernel)
  exact fun w hw => List.mem_filter.mpr ⟨(h w hw).1, by rcases (h w hw).2 with z | ⟨ty, rfl⟩; (· revert z; cases w <;> simp [goodWord]); rfl⟩
set_option maxRecDepth 20000 in
theorem GWf7 : ∀ w ∈ u_ws RX7 TX7 4, w ∈ GW := by
  have h : GoodIn lw_tbl (u_ws RX7 TX7 4) := goodIn_r _ [567, 569, 571, 573] (by decide +kernel) (by decide +kernel)
  exact fun w hw => List.mem_filter.mpr ⟨(h w hw).1, by rcases (h w hw).2 with z | ⟨ty, rfl⟩; (· revert z; cases w <;> simp [goodWord]); rfl⟩
set_option maxRecDepth 20000 in
theorem GWf8 : ∀ w ∈ u_ws RX8 TX8 10, w ∈ GW := by
  have h : GoodIn lw_tbl (u_ws RX8 TX8 10) := goodIn_r _ [221, 223, 225, 227, 229, 231, 233, 235, 237, 239] (by decide +kernel) (by decide +kernel)
  exact fun w hw => List.mem_filter.mpr ⟨(h w hw).1, by rcases (h w hw).2 with z | ⟨ty, rfl⟩; (· revert z; cases w <;> simp [goodWord]); rfl⟩
set_option maxRecDepth 20000 in
theorem GWf9 : ∀ w ∈ u_ws RX9 TX9 6, w ∈ GW := by
  have h : GoodIn lw_tbl (u_ws RX9 TX9 6) := goodIn_r _ [491, 493, 495, 497, 499, 501] (by decide +kernel) (by decide +kernel)
  exact fun w hw => List.mem_filter.mpr ⟨(h w hw).1, by rcases (h w hw).2 with z | ⟨ty, rfl⟩; (· revert z; cases w <;> simp [goodWord]); rfl⟩
set_option maxRecDepth 20000 in
theorem GWf10 : ∀ w ∈ u_ws RX10 TX10 18, w ∈ GW := by
  have h : GoodIn lw_tbl (u_ws RX10 TX10 18) := goodIn_r _ [640, 642, 644, 646, 648, 650, 652, 654, 656, 658, 660, 662, 664, 666, 668, 670, 672, 674] (by decide +kernel) (by decide +kernel)
  exact fun w hw => List.mem_filter.mpr ⟨(h w hw).1, by rcases (h w hw).2 with z | ⟨ty, rfl⟩; (· revert z; cases w <;> simp [goodWord]); rfl⟩
set_option maxRecDepth 20000 in
theorem GWf11 : ∀ w ∈ u_ws RX11 TX11 54, w ∈ GW := by
  have h : GoodIn lw_tbl (u_ws RX11 TX11 54) := goodIn_r _ [1478, 1480, 1482, 1484, 1486, 1488, 1490, 1492, 1494, 1496, 1498, 1500, 1502, 1504, 1506, 1508, 1510, 1512, 1514, 1516, 1518, 1520, 1522, 1524, 1526, 1528, 1530, 1532, 1534, 1536, 1538, 1540, 1542, 1544, 1546, 1548, 1550, 1552, 1554, 1556, 1558, 1560, 1562, 1564, 1566, 1568, 1570, 1572, 1574, 1576, 1578, 1580, 1582, 1584] (by decide +kernel) (by decide +kernel)
  exact fun w hw => List.mem_filter.mpr ⟨(h w hw).1, by rcases (h w hw).2 with z | ⟨ty, rfl⟩; (· revert z; cases w <;> simp [goodWord]); rfl⟩
theorem gt_of {l : List Cond} (hl : ∀ w ∈ l, w ∈ lw_tbl) (i : Nat) {w : Cond} (h : l[i]? = some w) (hg : goodWord w = true) : w ∈ GW := List.mem_filter.mpr ⟨hl w (List.mem_of_getElem? h), hg⟩
theorem tm : ∀ w ∈ tables_1, w ∈ lw_tbl := fun w h => List.mem_append_right _ h
theorem gtS (i : Nat) {w : Cond} (h : (k2_sels lw_privs)[i]? = some w) (hg : goodWord w = true) : w ∈ GW := gt_of (fun w h => List.mem_append_left _ h) i h hg
theorem gt1 (i : Nat) {w : Cond} (h : tables_1_1[i]? = some w) (hg : goodWord w = true) : w ∈ GW := gt_of (fun w h => tm w (List.mem_append_left _ h)) i h hg
theorem gt2 (i : Nat) {w : Cond} (h : tables_1_2[i]? = some w) (hg : goodWord w = true) : w ∈ GW := gt_of (fun w h => tm w (List.mem_append_right _ (List.mem_append_left _ h))) i h hg
theorem gt3 (i : Nat) {w : Cond} (h : tables_1_3[i]? = some w) (hg : goodWord w = true) : w ∈ GW := gt_of (fun w h => tm w (List.mem_append_right _ (List.mem_append_right _ (List.mem_append_left _ h)))) i h hg
theorem gt4 (i : Nat) {w : Cond} (h : tables_1_4[i]? = some w) (hg : goodWord w = true) : w ∈ GW := gt_of (fun w h => tm w (List.mem_append_right _ (List.mem_append_right _ (List.mem_append_right _ (List.mem_append_left _ h))))) i h hg
theorem gt5 (i : Nat) {w : Cond} (h : tables_1_5[i]? = some w) (hg : goodWord w = true) : w ∈ GW := gt_of (fun w h => tm w (List.mem_append_right _ (List.mem_append_right _ (List.mem_append_right _ (List.mem_append_right _ (List.mem_append_left _ h)))))) i h hg
theorem gt6 (i : Nat) {w : Cond} (h : tables_1_6[i]? = some w) (hg : goodWord w = true) : w ∈ GW := gt_of (fun w h => tm w (List.mem_append_right _ (List.mem_append_right _ (List.mem_append_right _ (List.mem_append_right _ (List.mem_append_right _ (List.mem_append_left _ h))))))) i h hg
theorem gt7 (i : Nat) {w : Cond} (h : tables_1_7[i]? = some w) (hg : goodWord w = true) : w ∈ GW := gt_of (fun w h => tm w (List.mem_append_right _ (List.mem_append_right _ (List.mem_append_right _ (List.mem_append_right _ (List.mem_append_right _ (List.mem_append_right _ (List.mem_append_left _ h)))))))) i h hg
theorem gt8 (i : Nat) {w : Cond} (h : tables_1_8[i]? = some w) (hg : goodWord w = true) : w ∈ GW := gt_of (fun w h => tm w (List.mem_append_right _ (List.mem_append_right _ (List.mem_append_right _ (List.mem_append_right _ (List.mem_append_right _ (List.mem_append_right _ (List.mem_append_right _ (List.mem_append_left _ h))))))))) i h hg
theorem gt9 (i : Nat) {w : Cond} (h : tables_1_9[i]? = some w) (hg : goodWord w = true) : w ∈ GW := gt_of (fun w h => tm w (List.mem_append_right _ (List.mem_append_right _ (List.mem_append_right _ (List.mem_append_right _ (List.mem_append_right _ (List.mem_append_right _ (List.mem_append_right _ (List.mem_append_right _ h))))))))) i h hg
theorem GWcls : ∀ (ci : Nat) (C : String) (T : u_T) (N : Nat), vwCl[ci]? = some (C, T, N) → (∀ w ∈ u_ws C T N, w ∈ GW) ∧ (∀ k, k < N → parseFieldDescriptor (T k).2.2.1 = some (tyTab ci k)) ∧ (∀ a, a < N → ∀ b, b < N → a ≠ b → (T a).2.1 ≠ (T b).2.1) := by
  intro ci C T N h
  match ci, h with
  | 0, h => cases h; exact ⟨GWf0, tyX0_ok, nmX0⟩
  | 1, h => cases h; exact ⟨GWf1, tyX1_ok, nmX1⟩
  | 2, h => cases h; exact ⟨GWf2, tyX2_ok, nmX2⟩
  | 3, h => cases h; exact ⟨GWf3, tyX3_ok, nmX3⟩
  | 4, h => cases h; exact ⟨GWf4, tyX4_ok, nmX4⟩
  | 5, h => cases h; exact ⟨GWf5, tyX5_ok, nmX5⟩
  | 6, h => cases h; exact ⟨GWf6, tyX6_ok, nmX6⟩
  | 7, h => cases h; exact ⟨GWf7, tyX7_ok, nmX7⟩
  | 8, h => cases h; exact ⟨GWf8, tyX8_ok, nmX8⟩
  | 9, h => cases h; exact ⟨GWf9, tyX9_ok, nmX9⟩
  | 10, h => cases h; exact ⟨GWf10, tyX10_ok, nmX10⟩
  | 11, h => cases h; exact ⟨GWf11, tyX11_ok, nmX11⟩
  | n + 12, h => simp [vwCl] at h
theorem GW_good : ∀ w ∈ GW, goodWord w = true := fun w h => (List.mem_filter.mp h).2
theorem GW_in : ∀ w ∈ GW, w ∈ lw_tbl := fun w h => (List.mem_filter.mp h).1

