/-! ===== the cells, the classes' rows, the constants: written by wip/whole/gen.py ===== -/
/- 0 x, 1 x.text, 2 x.text.bytes, 3 x.draft, 4 x.draft.law, 5 x.draft.law.code, 6 x.draft.law.stack, 7 x.draft.parts, 8 x.draft.wants, 9 x.draft.first, 10 x.draft.pages, 11 x.draft.fewer, 12 x.told, 13 x.told.law, 14 x.told.law.code, 15 x.told.law.stack, 16 x.told.parts, 17 x.told.wants, 18 x.told.first, 19 x.told.pages, 20 x.told.fewer, 21 x.reading, 22 x.now, 23 x.now.sets, 24 x.now.moves, 25 x.now.events, 26 x.kept, 27 x.kept.sets, 28 x.kept.moves, 29 x.kept.events, 30 x.weeks, 31 x.weeks.sets, 32 x.weeks.tried, 33 x.weeks.best, 34 x.weeks.kept, 35 x.pair, 36 x.pair.states, 37 x.pair.table, 38 x.catalogue, 39 x.catalogue.sets, 40 x.catalogue.before, 41 x.catalogue.behind, 42 x.takeable, 43 m, 44 m.book, 45 m.owner, 46 m.firstOwner, 47 m.wants, 48 m.code, 49 m.pages, 50 m.tape, 51 m.refused, 52 m.newBook, 53 m.newOwner, 54 m.newWants, 55 m.readCode, 56 m.waits, 57 m.tested, 58 m.pile, 59 m.moved, 60 m.far, 61 m.queue, 62 m.its, 63 m.states, 64 m.statesFar, 65 m.table, 66 m.trying, 67 m.rowOf, 68 m.keptRow, 69 m.event, 70 m.order, 71 m.imageOwner, 72 m.imageMoved, 73 m.imageEvent, 74 out -/
def shp : List aShp := [.inr (8, [.inr 1, .inr 3, .inr 12, .inr 21, .inr 22, .inr 26, .inr 30, .inr 35, .inr 38, .inr 42, .inl 1, .inl 0, .inl 0, .inl 0, .inl 0]),
  .inr (5, [.inr 2, .inl 0, .inl 0, .inl 0, .inl 0, .inl 0, .inl 0]),
  .inl (1, 700),
  .inr (6, [.inl 0, .inl 0, .inl 1, .inr 4, .inr 7, .inr 8, .inr 9, .inr 10, .inr 11]),
  .inr (1, [.inr 5, .inl 0, .inr 6, .inl 0]),
  .inl (0, 700),
  .inl (0, 64),
  .inl (0, 48),
  .inl (0, 5),
  .inl (0, 6),
  .inl (0, 12),
  .inl (0, 12),
  .inr (6, [.inl 0, .inl 0, .inl 1, .inr 13, .inr 16, .inr 17, .inr 18, .inr 19, .inr 20]),
  .inr (1, [.inr 14, .inl 0, .inr 15, .inl 0]),
  .inl (0, 700),
  .inl (0, 64),
  .inl (0, 48),
  .inl (0, 5),
  .inl (0, 6),
  .inl (0, 12),
  .inl (0, 12),
  .inr (3, [.inr 1, .inr 3, .inl 0, .inl 0]),
  .inr (4, [.inr 23, .inr 24, .inl 0, .inr 25, .inl 0]),
  .inl (0, 6),
  .inl (0, 800),
  .inl (0, 24),
  .inr (4, [.inr 27, .inr 28, .inl 0, .inr 29, .inl 0]),
  .inl (0, 6),
  .inl (0, 800),
  .inl (0, 24),
  .inr (7, [.inr 12, .inr 31, .inr 32, .inr 33, .inl 0, .inl 0, .inl 0, .inr 34, .inl 0]),
  .inl (0, 6),
  .inl (0, 15),
  .inl (0, 15),
  .inl (0, 15),
  .inr (2, [.inr 12, .inr 36, .inr 37, .inl 0, .inl 1]),
  .inl (0, 4000),
  .inl (0, 8192),
  .inr (0, [.inr 12, .inr 22, .inr 39, .inr 40, .inr 41]),
  .inl (0, 6),
  .inl (0, 256),
  .inl (0, 256),
  .inl (0, 5),
  .inr (9, [.inl 0, .inl 0, .inl 0, .inr 44, .inr 45, .inr 46, .inr 47, .inr 48, .inr 49, .inr 50, .inl 0, .inl 0, .inl 0, .inr 51, .inl 0, .inl 0, .inl 0, .inl 0, .inl 0, .inl 0, .inl 0, .inl 2, .inl 0, .inl 0, .inl 0, .inl 0, .inl 0, .inl 1, .inr 52, .inr 53, .inr 54, .inr 55, .inr 56, .inr 57, .inr 58, .inl 0, .inr 59, .inr 60, .inr 61, .inr 62, .inl 0, .inr 63, .inr 64, .inr 65, .inl 0, .inl 1, .inr 66, .inr 67, .inl 0, .inl 0, .inl 1, .inr 68, .inl 0, .inl 0, .inr 69, .inr 70, .inl 1, .inl 0, .inl 0, .inr 71, .inr 72, .inr 73]),
  .inl (0, 48),
  .inl (0, 12),
  .inl (0, 12),
  .inl (0, 5),
  .inl (0, 1600),
  .inl (0, 12),
  .inl (0, 700),
  .inl (0, 3),
  .inl (0, 48),
  .inl (0, 12),
  .inl (0, 5),
  .inl (0, 1600),
  .inl (0, 800),
  .inl (2, 9),
  .inl (0, 800),
  .inl (0, 800),
  .inl (0, 4096),
  .inl (0, 4096),
  .inl (0, 12),
  .inl (0, 4000),
  .inl (0, 4000),
  .inl (0, 16384),
  .inl (0, 6),
  .inl (0, 5),
  .inl (0, 5),
  .inl (0, 8),
  .inl (0, 9),
  .inl (0, 12),
  .inl (0, 800),
  .inl (0, 8),
  .inl (3, 1)]
theorem shp_len : shp.length ≤ 900 := by decide
set_option maxRecDepth 20000 in
theorem shp_ok : a_shok shp := a_shok_of (by decide +kernel)
set_option maxRecDepth 20000 in
theorem clwX0 : ∀ w ∈ u_ws RX0 TX0 5, w ∈ lw_g := a_ps [350, 352, 354, 356, 358] rfl rfl
set_option maxRecDepth 20000 in
theorem clwX1 : ∀ w ∈ u_ws RX1 TX1 4, w ∈ lw_g := a_ps [176, 178, 180, 182] rfl rfl
set_option maxRecDepth 20000 in
theorem clwX2 : ∀ w ∈ u_ws RX2 TX2 5, w ∈ lw_g := a_ps [328, 330, 332, 334, 336] rfl rfl
set_option maxRecDepth 20000 in
theorem clwX3 : ∀ w ∈ u_ws RX3 TX3 4, w ∈ lw_g := a_ps [243, 245, 247, 249] rfl rfl
set_option maxRecDepth 20000 in
theorem clwX4 : ∀ w ∈ u_ws RX4 TX4 5, w ∈ lw_g := a_ps [270, 272, 274, 276, 278] rfl rfl
set_option maxRecDepth 20000 in
theorem clwX5 : ∀ w ∈ u_ws RX5 TX5 7, w ∈ lw_g := a_ps [144, 146, 148, 150, 152, 154, 156] rfl rfl
set_option maxRecDepth 20000 in
theorem clwX6 : ∀ w ∈ u_ws RX6 TX6 9, w ∈ lw_g := a_ps [213, 215, 217, 219, 221, 223, 225, 227, 229] rfl rfl
set_option maxRecDepth 20000 in
theorem clwX7 : ∀ w ∈ u_ws RX7 TX7 9, w ∈ lw_g := a_ps [298, 300, 302, 304, 306, 308, 310, 312, 314] rfl rfl
set_option maxRecDepth 20000 in
theorem clwX8 : ∀ w ∈ u_ws RX8 TX8 15, w ∈ lw_g := a_ps [376, 378, 380, 382, 384, 386, 388, 390, 392, 394, 396, 398, 400, 402, 404] rfl rfl
set_option maxRecDepth 20000 in
theorem clwX9 : ∀ w ∈ u_ws RX9 TX9 62, w ∈ lw_g := a_ps [1189, 1191, 1193, 1195, 1197, 1199, 1201, 1203, 1205, 1207, 1209, 1211, 1213, 1215, 1217, 1219, 1221, 1223, 1225, 1227, 1229, 1231, 1233, 1235, 1237, 1239, 1241, 1243, 1245, 1247, 1249, 1251, 1253, 1255, 1257, 1259, 1261, 1263, 1265, 1267, 1269, 1271, 1273, 1275, 1277, 1279, 1281, 1283, 1285, 1287, 1289, 1291, 1293, 1295, 1297, 1299, 1301, 1303, 1305, 1307, 1309, 1311] rfl rfl
theorem cl_ok : a_clok := by
  intro ci C T N h
  match ci, h with
  | 0, h => cases h; exact ⟨⟨tyX0, tyX0_ok⟩, nmX0, clwX0⟩
  | 1, h => cases h; exact ⟨⟨tyX1, tyX1_ok⟩, nmX1, clwX1⟩
  | 2, h => cases h; exact ⟨⟨tyX2, tyX2_ok⟩, nmX2, clwX2⟩
  | 3, h => cases h; exact ⟨⟨tyX3, tyX3_ok⟩, nmX3, clwX3⟩
  | 4, h => cases h; exact ⟨⟨tyX4, tyX4_ok⟩, nmX4, clwX4⟩
  | 5, h => cases h; exact ⟨⟨tyX5, tyX5_ok⟩, nmX5, clwX5⟩
  | 6, h => cases h; exact ⟨⟨tyX6, tyX6_ok⟩, nmX6, clwX6⟩
  | 7, h => cases h; exact ⟨⟨tyX7, tyX7_ok⟩, nmX7, clwX7⟩
  | 8, h => cases h; exact ⟨⟨tyX8, tyX8_ok⟩, nmX8, clwX8⟩
  | 9, h => cases h; exact ⟨⟨tyX9, tyX9_ok⟩, nmX9, clwX9⟩
  | k + 10, h => simp [vwCl] at h
/-- the String constants: class, pool place, text -/
def zs : List (String × Nat × String) := [("StoutShelf$Reading", 40, "reader"), ("StoutShelf$Reading", 50, "book"), ("StoutShelf$Reading", 55, "wants"), ("StoutShelf$Reading", 60, "law"), ("StoutShelf$Reading", 89, "blanks"), ("StoutShelf$Reading", 95, "plates"), ("StoutShelf$Reading", 97, "torn"), ("StoutShelf$Reading", 112, "of"), ("StoutShelf$Reading", 154, "or"), ("StoutShelf$Reading", 156, "and"), ("StoutShelf$Reading", 158, "not"), ("StoutShelf$Reading", 160, "if"), ("StoutShelf$Reading", 168, "then"), ("StoutShelf$Reading", 173, "else"), ("StoutShelf$Reading", 175, "end"), ("StoutShelf$Reading", 177, "leaves"), ("StoutShelf", 87, "the tape has not so many bytes"), ("StoutShelf", 148, "no such count"), ("StoutShelf", 204, "no such move"), ("StoutShelf", 216, "a friend is another reader"), ("StoutShelf", 225, "no row is kept"), ("StoutShelf", 227, "no such exchange in the row"), ("StoutShelf", 238, "no reader has the book"), ("StoutShelf", 254, "a fire leaves 0 to 12 books"), ("StoutShelf", 275, "there are not so many events"), ("StoutShelf", 286, "it went through fewer hands"), ("StoutShelf", 294, "no such book"), ("StoutShelf", 296, "no such reader"), ("StoutShelf", 298, "no such what")]
abbrev a_sA (G : aG) : Nat → Prop := fun q => (g_s G).heap.size ≤ q
/-- what the constants' cells hold, and two statics -/
def a_ZS (G : aG) : Prop := (∃ adV : Nat → Nat, ∀ (i : Nat) (q : String × Nat × String), zs[i]? = some q → va_O "java/lang/String" (g_ad G (1000 + i)) (a_sA G) (g_s G) (g_s G).heap ∧ va_OF "java/lang/String" "coder" "B" (.int 0) (g_ad G (1000 + i)) (a_sA G) (g_s G) (g_s G).heap ∧ va_OF "java/lang/String" "value" "[B" (.ref (adV i)) (g_ad G (1000 + i)) (a_sA G) (g_s G) (g_s G).heap ∧ va_T .byte (adV i) q.2.2.length (fun j => .int (Int32.ofNat ((q.2.2.toList.map Char.toNat).getD j 0))) (a_sA G) (g_s G) (g_s G).heap) ∧ va_Z "java/lang/String" "COMPACT_STRINGS" "Z" (.int 1) (a_sA G) (g_s G) (g_s G).heap ∧ va_Zq "jdk/internal/util/Preconditions" "SIOOBE_FORMATTER" "Ljava/util/function/BiFunction;" (a_sA G) (g_s G) (g_s G).heap
/-- what holds of the launch and of the law's entry -/
def a_Z (l : Launch) (G : aG) : Prop := l.stackTraces = false ∧ a_GF G shp ∧ a_XG G ∧ (∀ (i : Nat) (q : String × Nat × String), zs[i]? = some q → vk_R q.1 q.2.1 q.2.2 (g_ad G (1000 + i)) (g_s G)) ∧ a_ZS G
theorem z_0 {l : Launch} {G : aG} (hZ : a_Z l G) : vk_R RX3 40 "reader" (g_ad G 1000) (g_s G) := hZ.2.2.2.1 0 ("StoutShelf$Reading", 40, "reader") rfl
theorem z_1 {l : Launch} {G : aG} (hZ : a_Z l G) : vk_R RX3 50 "book" (g_ad G 1001) (g_s G) := hZ.2.2.2.1 1 ("StoutShelf$Reading", 50, "book") rfl
theorem z_2 {l : Launch} {G : aG} (hZ : a_Z l G) : vk_R RX3 55 "wants" (g_ad G 1002) (g_s G) := hZ.2.2.2.1 2 ("StoutShelf$Reading", 55, "wants") rfl
theorem z_3 {l : Launch} {G : aG} (hZ : a_Z l G) : vk_R RX3 60 "law" (g_ad G 1003) (g_s G) := hZ.2.2.2.1 3 ("StoutShelf$Reading", 60, "law") rfl
theorem z_4 {l : Launch} {G : aG} (hZ : a_Z l G) : vk_R RX3 89 "blanks" (g_ad G 1004) (g_s G) := hZ.2.2.2.1 4 ("StoutShelf$Reading", 89, "blanks") rfl
theorem z_5 {l : Launch} {G : aG} (hZ : a_Z l G) : vk_R RX3 95 "plates" (g_ad G 1005) (g_s G) := hZ.2.2.2.1 5 ("StoutShelf$Reading", 95, "plates") rfl
theorem z_6 {l : Launch} {G : aG} (hZ : a_Z l G) : vk_R RX3 97 "torn" (g_ad G 1006) (g_s G) := hZ.2.2.2.1 6 ("StoutShelf$Reading", 97, "torn") rfl
theorem z_7 {l : Launch} {G : aG} (hZ : a_Z l G) : vk_R RX3 112 "of" (g_ad G 1007) (g_s G) := hZ.2.2.2.1 7 ("StoutShelf$Reading", 112, "of") rfl
theorem z_8 {l : Launch} {G : aG} (hZ : a_Z l G) : vk_R RX3 154 "or" (g_ad G 1008) (g_s G) := hZ.2.2.2.1 8 ("StoutShelf$Reading", 154, "or") rfl
theorem z_9 {l : Launch} {G : aG} (hZ : a_Z l G) : vk_R RX3 156 "and" (g_ad G 1009) (g_s G) := hZ.2.2.2.1 9 ("StoutShelf$Reading", 156, "and") rfl
theorem z_10 {l : Launch} {G : aG} (hZ : a_Z l G) : vk_R RX3 158 "not" (g_ad G 1010) (g_s G) := hZ.2.2.2.1 10 ("StoutShelf$Reading", 158, "not") rfl
theorem z_11 {l : Launch} {G : aG} (hZ : a_Z l G) : vk_R RX3 160 "if" (g_ad G 1011) (g_s G) := hZ.2.2.2.1 11 ("StoutShelf$Reading", 160, "if") rfl
theorem z_12 {l : Launch} {G : aG} (hZ : a_Z l G) : vk_R RX3 168 "then" (g_ad G 1012) (g_s G) := hZ.2.2.2.1 12 ("StoutShelf$Reading", 168, "then") rfl
theorem z_13 {l : Launch} {G : aG} (hZ : a_Z l G) : vk_R RX3 173 "else" (g_ad G 1013) (g_s G) := hZ.2.2.2.1 13 ("StoutShelf$Reading", 173, "else") rfl
theorem z_14 {l : Launch} {G : aG} (hZ : a_Z l G) : vk_R RX3 175 "end" (g_ad G 1014) (g_s G) := hZ.2.2.2.1 14 ("StoutShelf$Reading", 175, "end") rfl
theorem z_15 {l : Launch} {G : aG} (hZ : a_Z l G) : vk_R RX3 177 "leaves" (g_ad G 1015) (g_s G) := hZ.2.2.2.1 15 ("StoutShelf$Reading", 177, "leaves") rfl
theorem z_16 {l : Launch} {G : aG} (hZ : a_Z l G) : vk_R RX8 87 "the tape has not so many bytes" (g_ad G 1016) (g_s G) := hZ.2.2.2.1 16 ("StoutShelf", 87, "the tape has not so many bytes") rfl
theorem z_17 {l : Launch} {G : aG} (hZ : a_Z l G) : vk_R RX8 148 "no such count" (g_ad G 1017) (g_s G) := hZ.2.2.2.1 17 ("StoutShelf", 148, "no such count") rfl
theorem z_18 {l : Launch} {G : aG} (hZ : a_Z l G) : vk_R RX8 204 "no such move" (g_ad G 1018) (g_s G) := hZ.2.2.2.1 18 ("StoutShelf", 204, "no such move") rfl
theorem z_19 {l : Launch} {G : aG} (hZ : a_Z l G) : vk_R RX8 216 "a friend is another reader" (g_ad G 1019) (g_s G) := hZ.2.2.2.1 19 ("StoutShelf", 216, "a friend is another reader") rfl
theorem z_20 {l : Launch} {G : aG} (hZ : a_Z l G) : vk_R RX8 225 "no row is kept" (g_ad G 1020) (g_s G) := hZ.2.2.2.1 20 ("StoutShelf", 225, "no row is kept") rfl
theorem z_21 {l : Launch} {G : aG} (hZ : a_Z l G) : vk_R RX8 227 "no such exchange in the row" (g_ad G 1021) (g_s G) := hZ.2.2.2.1 21 ("StoutShelf", 227, "no such exchange in the row") rfl
theorem z_22 {l : Launch} {G : aG} (hZ : a_Z l G) : vk_R RX8 238 "no reader has the book" (g_ad G 1022) (g_s G) := hZ.2.2.2.1 22 ("StoutShelf", 238, "no reader has the book") rfl
theorem z_23 {l : Launch} {G : aG} (hZ : a_Z l G) : vk_R RX8 254 "a fire leaves 0 to 12 books" (g_ad G 1023) (g_s G) := hZ.2.2.2.1 23 ("StoutShelf", 254, "a fire leaves 0 to 12 books") rfl
theorem z_24 {l : Launch} {G : aG} (hZ : a_Z l G) : vk_R RX8 275 "there are not so many events" (g_ad G 1024) (g_s G) := hZ.2.2.2.1 24 ("StoutShelf", 275, "there are not so many events") rfl
theorem z_25 {l : Launch} {G : aG} (hZ : a_Z l G) : vk_R RX8 286 "it went through fewer hands" (g_ad G 1025) (g_s G) := hZ.2.2.2.1 25 ("StoutShelf", 286, "it went through fewer hands") rfl
theorem z_26 {l : Launch} {G : aG} (hZ : a_Z l G) : vk_R RX8 294 "no such book" (g_ad G 1026) (g_s G) := hZ.2.2.2.1 26 ("StoutShelf", 294, "no such book") rfl
theorem z_27 {l : Launch} {G : aG} (hZ : a_Z l G) : vk_R RX8 296 "no such reader" (g_ad G 1027) (g_s G) := hZ.2.2.2.1 27 ("StoutShelf", 296, "no such reader") rfl
theorem z_28 {l : Launch} {G : aG} (hZ : a_Z l G) : vk_R RX8 298 "no such what" (g_ad G 1028) (g_s G) := hZ.2.2.2.1 28 ("StoutShelf", 298, "no such what") rfl
def a_c1 (G : aG) (own : String) (q : Nat × Value) : Prop := match q.2 with
  | .int x => Cond.constant own q.1 x ∈ lw_g
  | .long x => Cond.constantLong own q.1 x ∈ lw_g
  | .ref k => ∃ tx, vk_R own q.1 tx (g_ad G k) (g_s G)
  | _ => True
theorem a_cok_of {G : aG} {own : String} {P : aPrg} (h : a_all (a_c1 G own) (a_cons P)) : a_cok G own P := ⟨fun n x hm => a_all_mem h (n, .int x) hm, fun n x hm => a_all_mem h (n, .long x) hm, fun n k hm => a_all_mem h (n, .ref k) hm⟩
theorem a_tok_s {G : aG} {own : String} {cc : ByteArray} {fr lo pc x ik is ic ix sa : Nat} {rx : ByteArray} {text : String} (hrx : a_rx rx ix) (h1 : x ≤ 1) (h2 : decode cc pc = .ok (.new ik, 3) ∧ decode cc (pc + 3) = .ok (.dup, 1)) (h3 : decode cc (pc + 4) = .ok (.ldc is, 2) ∧ decode cc (pc + 6) = .ok (.invokespecial ic, 3) ∧ decode cc (pc + 9) = .ok (.athrow, 1)) (h4 : Cond.classLink own ik (a_en x) ∈ lw_g) (h5 : Cond.initialized (a_en x) ∈ lw_g) (h6 : vk_R own is text sa (g_s G)) (h7 : ∀ w ∈ a_atX own ic (a_en x) ix rx a_nm, w ∈ lw_tbl ∧ a_ww w = true) (h8 : Nat.ble 6 fr = true) (h9 : Nat.ble 90 lo = true) : a_tok G own cc fr lo pc x :=
  ⟨h1, ik, is, ic, ix, sa, rx, text, hrx, h2, Or.inl h3, h4, h5, h6, h7, Nat.le_of_ble_eq_true h8, Nat.le_of_ble_eq_true h9⟩
theorem a_tok_w {G : aG} {own : String} {cc : ByteArray} {fr lo pc x ik is ic ix sa : Nat} {rx : ByteArray} {text : String} (hrx : a_rx rx ix) (h1 : x ≤ 1) (h2 : decode cc pc = .ok (.new ik, 3) ∧ decode cc (pc + 3) = .ok (.dup, 1)) (h3 : decode cc (pc + 4) = .ok (.ldc_w is, 3) ∧ decode cc (pc + 7) = .ok (.invokespecial ic, 3) ∧ decode cc (pc + 10) = .ok (.athrow, 1)) (h4 : Cond.classLink own ik (a_en x) ∈ lw_g) (h5 : Cond.initialized (a_en x) ∈ lw_g) (h6 : vk_R own is text sa (g_s G)) (h7 : ∀ w ∈ a_atX own ic (a_en x) ix rx a_nm, w ∈ lw_tbl ∧ a_ww w = true) (h8 : Nat.ble 6 fr = true) (h9 : Nat.ble 90 lo = true) : a_tok G own cc fr lo pc x :=
  ⟨h1, ik, is, ic, ix, sa, rx, text, hrx, h2, Or.inr h3, h4, h5, h6, h7, Nat.le_of_ble_eq_true h8, Nat.le_of_ble_eq_true h9⟩
theorem atX0 : ∀ w ∈ a_atX RX8 150 (a_en 0) 13 prog_28_method_4_code a_nm, w ∈ lw_tbl ∧ a_ww w = true := by decide +kernel
theorem rxX0 : a_rx prog_28_method_4_code 13 := ⟨by decide +kernel, by decide +kernel, by decide +kernel, by decide +kernel⟩
set_option maxRecDepth 20000 in
theorem clX0 : Cond.classLink RX8 146 (a_en 0) ∈ lw_g := a_p1 907 rfl rfl
set_option maxRecDepth 20000 in
theorem inX0 : Cond.initialized (a_en 0) ∈ lw_g := a_p1 117 rfl rfl
theorem atX1 : ∀ w ∈ a_atX RX8 89 (a_en 1) 7 prog_16_method_2_code a_nm, w ∈ lw_tbl ∧ a_ww w = true := by decide +kernel
theorem rxX1 : a_rx prog_16_method_2_code 7 := ⟨by decide +kernel, by decide +kernel, by decide +kernel, by decide +kernel⟩
set_option maxRecDepth 20000 in
theorem clX1 : Cond.classLink RX8 85 (a_en 1) ∈ lw_g := a_p1 585 rfl rfl
set_option maxRecDepth 20000 in
theorem inX1 : Cond.initialized (a_en 1) ∈ lw_g := a_p1 109 rfl rfl
abbrev fdX0 : List (Nat × Nat × Nat) := [(9, 0, 2), (15, 0, 3), (18, 0, 4), (21, 0, 0), (25, 0, 1), (53, 4, 4), (68, 4, 0), (75, 4, 3)]
set_option maxRecDepth 20000 in
theorem foX0 {P : aPrg} (h : a_flds P = fdX0) : a_fok RX0 P := a_fok_of [347, 348, 349, 345, 346, 268, 260, 266] (by rw [h]; rfl) (by rw [h]; rfl)
abbrev fdX1 : List (Nat × Nat × Nat) := [(9, 1, 0), (15, 1, 2), (18, 1, 1), (28, 1, 3)]
set_option maxRecDepth 20000 in
theorem foX1 {P : aPrg} (h : a_flds P = fdX1) : a_fok RX1 P := a_fok_of [172, 174, 173, 175] (by rw [h]; rfl) (by rw [h]; rfl)
abbrev fdX2 : List (Nat × Nat × Nat) := [(11, 2, 1), (15, 2, 2), (18, 2, 0), (28, 2, 3), (32, 2, 4), (48, 6, 0), (53, 6, 8)]
set_option maxRecDepth 20000 in
theorem foX2 {P : aPrg} (h : a_flds P = fdX2) : a_fok RX2 P := a_fok_of [324, 325, 323, 326, 327, 187, 211] (by rw [h]; rfl) (by rw [h]; rfl)
abbrev fdX3 : List (Nat × Nat × Nat) := [(9, 3, 3), (15, 3, 0), (19, 3, 1), (23, 3, 2), (37, 5, 2), (73, 5, 3), (76, 6, 1), (82, 6, 0), (105, 5, 4), (108, 6, 4), (117, 6, 6), (120, 6, 5), (122, 6, 2), (126, 6, 3)]
set_option maxRecDepth 20000 in
theorem foX3 {P : aPrg} (h : a_flds P = fdX3) : a_fok RX3 P := a_fok_of [241, 238, 239, 240, 136, 138, 193, 189, 141, 201, 207, 204, 196, 198] (by rw [h]; rfl) (by rw [h]; rfl)
abbrev fdX4 : List (Nat × Nat × Nat) := [(9, 4, 0), (15, 4, 1), (18, 4, 3), (27, 4, 2), (31, 4, 4)]
set_option maxRecDepth 20000 in
theorem foX4 {P : aPrg} (h : a_flds P = fdX4) : a_fok RX4 P := a_fok_of [258, 261, 265, 263, 267] (by rw [h]; rfl) (by rw [h]; rfl)
abbrev fdX5 : List (Nat × Nat × Nat) := [(9, 5, 0), (15, 5, 1), (19, 5, 6), (22, 5, 5), (28, 5, 3), (45, 5, 2), (54, 5, 4)]
set_option maxRecDepth 20000 in
theorem foX5 {P : aPrg} (h : a_flds P = fdX5) : a_fok RX5 P := a_fok_of [133, 134, 143, 142, 139, 137, 140] (by rw [h]; rfl) (by rw [h]; rfl)
abbrev fdX6 : List (Nat × Nat × Nat) := [(12, 6, 3), (18, 6, 4), (22, 6, 5), (25, 6, 6), (28, 6, 7), (31, 6, 8), (34, 6, 0), (38, 6, 1), (41, 6, 2)]
set_option maxRecDepth 20000 in
theorem foX6 {P : aPrg} (h : a_flds P = fdX6) : a_fok RX6 P := a_fok_of [197, 199, 202, 205, 208, 210, 186, 191, 195] (by rw [h]; rfl) (by rw [h]; rfl)
abbrev fdX7 : List (Nat × Nat × Nat) := [(9, 7, 1), (15, 7, 2), (18, 7, 3), (21, 7, 7), (24, 7, 8), (28, 7, 0), (38, 7, 6), (41, 7, 5), (48, 7, 4), (55, 6, 1), (64, 6, 0), (71, 6, 8)]
set_option maxRecDepth 20000 in
theorem foX7 {P : aPrg} (h : a_flds P = fdX7) : a_fok RX7 P := a_fok_of [288, 289, 290, 294, 296, 287, 293, 292, 291, 192, 188, 212] (by rw [h]; rfl) (by rw [h]; rfl)
abbrev fdX8 : List (Nat × Nat × Nat) := [(12, 8, 0), (19, 8, 1), (23, 8, 2), (31, 8, 3), (38, 8, 4), (42, 8, 5), (50, 8, 6), (57, 8, 7), (66, 8, 8), (70, 8, 9), (74, 8, 11), (78, 5, 1), (96, 3, 3), (99, 8, 12), (108, 6, 6), (115, 7, 8), (118, 8, 10), (122, 6, 0), (125, 6, 1), (128, 4, 0), (134, 4, 2), (137, 4, 4), (140, 8, 13), (143, 8, 14), (158, 6, 4), (161, 6, 7), (171, 6, 5), (206, 4, 1), (229, 7, 7)]
set_option maxRecDepth 20000 in
theorem foX8 {P : aPrg} (h : a_flds P = fdX8) : a_fok RX8 P := a_fok_of [361, 362, 363, 364, 365, 366, 367, 368, 369, 370, 372, 135, 242, 373, 206, 297, 371, 190, 194, 259, 264, 269, 374, 375, 200, 209, 203, 262, 295] (by rw [h]; rfl) (by rw [h]; rfl)
abbrev fdX9 : List (Nat × Nat × Nat) := [(7, 9, 3), (13, 9, 4), (16, 9, 5), (19, 9, 6), (22, 9, 7), (25, 9, 8), (28, 9, 9), (31, 9, 12), (35, 9, 13), (38, 9, 28), (41, 9, 29), (44, 9, 30), (47, 9, 31), (50, 9, 32), (53, 9, 33), (57, 9, 34), (60, 9, 36), (63, 9, 37), (66, 9, 38), (69, 9, 39), (72, 9, 41), (75, 9, 42), (78, 9, 43), (81, 9, 46), (84, 9, 47), (87, 9, 51), (90, 9, 54), (93, 9, 55), (96, 9, 59), (99, 9, 60), (102, 9, 61), (105, 9, 0), (108, 9, 10), (115, 9, 14), (118, 9, 15), (125, 9, 17), (128, 9, 21), (132, 9, 19), (135, 9, 20), (138, 9, 16), (148, 9, 18), (161, 9, 11), (185, 9, 24), (188, 9, 25), (200, 9, 26), (231, 9, 23), (234, 9, 22), (243, 9, 27), (260, 9, 1), (263, 9, 2), (274, 9, 35), (277, 9, 53), (280, 9, 50), (283, 9, 56), (312, 9, 40), (322, 9, 44), (325, 9, 45), (336, 9, 48), (342, 9, 49), (356, 9, 52), (372, 9, 57), (375, 9, 58)]
set_option maxRecDepth 20000 in
theorem foX9 {P : aPrg} (h : a_flds P = fdX9) : a_fok RX9 P := a_fok_of [1130, 1131, 1132, 1133, 1134, 1135, 1136, 1139, 1140, 1155, 1156, 1157, 1158, 1159, 1160, 1161, 1163, 1164, 1165, 1166, 1168, 1169, 1170, 1173, 1174, 1178, 1181, 1182, 1186, 1187, 1188, 1127, 1137, 1141, 1142, 1144, 1148, 1146, 1147, 1143, 1145, 1138, 1151, 1152, 1153, 1150, 1149, 1154, 1128, 1129, 1162, 1180, 1177, 1183, 1167, 1171, 1172, 1175, 1176, 1179, 1184, 1185] (by rw [h]; rfl) (by rw [h]; rfl)
