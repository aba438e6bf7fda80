def zX4_bead : xM := (yX4_bead, cX4_bead, 2, (some .int), 2, 41)
def zX4_beads : xM := (yX4_beads, cX4_beads, 2, (some .boolean), 1, 21)
def zX4_count : xM := (yX4_count, cX4_count, 2, (some .int), 2, 41)
def zX4_least : xM := (yX4_least, cX4_least, 1, (some .int), 5, 111)
def zX4_cut : xM := (yX4_cut, cX4_cut, 2, (some .int), 6, 132)
def zX4_rows : xM := (yX4_rows, cX4_rows, 1, (some .int), 5, 111)
def zX4_halves : xM := (yX4_halves, cX4_halves, 2, (some .int), 2, 47)
def zX4_net : xM := (yX4_net, cX4_net, 2, (some .boolean), 2, 43)
def zX4_mark : xM := (yX4_mark, cX4_mark, 4, (some .boolean), 2, 46)
def zX4_marked : xM := (yX4_marked, cX4_marked, 3, (some .int), 2, 44)
def zX4_all : xM := (yX4_all, cX4_all, 1, (some .int), 5, 118)
def zX4_doors : xM := (yX4_doors, cX4_doors, 1, (some .int), 6, 139)
def zX4_doorsAll : xM := (yX4_doorsAll, cX4_doorsAll, 1, (some .int), 5, 120)
def zX4_walk : xM := (yX4_walk, cX4_walk, 2, (some .int), 6, 141)
def zX4_ended : xM := (yX4_ended, cX4_ended, 2, (some .int), 1, 21)
def zX4_people : xM := (yX4_people, cX4_people, 2, (some .boolean), 3, 65)
def zX4_room : xM := (yX4_room, cX4_room, 4, (some .boolean), 3, 66)
def zX4_rent : xM := (yX4_rent, cX4_rent, 2, (some .boolean), 3, 64)
def zX4_best : xM := (yX4_best, cX4_best, 1, (some .int), 5, 110)
def zX4_has : xM := (yX4_has, cX4_has, 2, (some .int), 5, 111)
def zX4_price : xM := (yX4_price, cX4_price, 2, (some .long), 5, 111)
def zX4_grudge : xM := (yX4_grudge, cX4_grudge, 3, (some .long), 5, 112)
def zX4_turned : xM := (yX4_turned, cX4_turned, 3, (some .boolean), 2, 43)
def zX4_check : xM := (yX4_check, cX4_check, 1, (some .int), 5, 113)
def zX4_line : xM := (yX4_line, cX4_line, 2, (some .boolean), 3, 65)
def zX4_stretch : xM := (yX4_stretch, cX4_stretch, 4, (some .boolean), 2, 44)
def zX4_who : xM := (yX4_who, cX4_who, 2, (some .int), 5, 122)
def zX4_place : xM := (yX4_place, cX4_place, 3, (some .long), 5, 123)
def zX4_worth : xM := (yX4_worth, cX4_worth, 4, (some .long), 5, 124)
def zX4_envies : xM := (yX4_envies, cX4_envies, 2, (some .int), 5, 126)
def mtX4 : Nat → xM := fun k => ([zX1_string, zX1_shorten, zX1_countOf, zX1_fewestCuts, zX1_cutOfFirstRow, zX1_countRows, zX1_halvedBy, zX2_resize, zX2_setMark, zX2_markAt, zX2_countFull, zX2_countOuterDoors, zX2_countDoors, zX2_walkFrom, zX2_walkEnd, zX3_invite, zX0_invite, zX3_setWorth, zX3_setRent, zX3_greatestSum, zX3_roomOf, zX3_priceOf, zX3_grudgeOf, zX3_setMore, zX3_faultOfRents, zX0_resize, zX0_setWorth, zX0_holderOf, zX0_endOf, zX0_worthOf, zX0_countEnvied] : List xM).getD k zJ_fill
def kX4_bead : List xI := [(0, 1, .aload_n 0, 1, 0, 2, 0, .null, []), (1, 11, .getfield 10, 3, 4, 0, 0, .null, []), (4, 1, .iload_n 1, 1, 1, 0, 0, .null, []), (5, 17, .invokevirtual 37, 3, 0, 1, 1, .null, []), (8, 19, .ireturn, 1, 1, 0, 0, .null, [])]
set_option maxRecDepth 20000 in
theorem okX4_bead : x_okM mtX4 zX4_bead kX4_bead = true := by decide +kernel
def kX4_beads : List xI := [(0, 1, .aload_n 0, 1, 0, 2, 0, .null, []), (1, 11, .getfield 10, 3, 4, 0, 0, .null, []), (4, 1, .iload_n 1, 1, 1, 0, 0, .null, []), (5, 17, .invokevirtual 41, 3, 1, 1, 1, .null, []), (8, 19, .ireturn, 1, 3, 0, 0, .null, [])]
set_option maxRecDepth 20000 in
theorem okX4_beads : x_okM mtX4 zX4_beads kX4_beads = true := by decide +kernel
def kX4_count : List xI := [(0, 1, .aload_n 0, 1, 0, 2, 0, .null, []), (1, 11, .getfield 10, 3, 4, 0, 0, .null, []), (4, 1, .iload_n 1, 1, 1, 0, 0, .null, []), (5, 17, .invokevirtual 45, 3, 2, 1, 1, .null, []), (8, 19, .ireturn, 1, 1, 0, 0, .null, [])]
set_option maxRecDepth 20000 in
theorem okX4_count : x_okM mtX4 zX4_count kX4_count = true := by decide +kernel
def kX4_least : List xI := [(0, 1, .aload_n 0, 1, 0, 2, 0, .null, []), (1, 11, .getfield 10, 3, 4, 0, 0, .null, []), (4, 17, .invokevirtual 48, 3, 3, 0, 1, .null, []), (7, 19, .ireturn, 1, 1, 0, 0, .null, [])]
set_option maxRecDepth 20000 in
theorem okX4_least : x_okM mtX4 zX4_least kX4_least = true := by decide +kernel
def kX4_cut : List xI := [(0, 1, .aload_n 0, 1, 0, 2, 0, .null, []), (1, 11, .getfield 10, 3, 4, 0, 0, .null, []), (4, 1, .iload_n 1, 1, 1, 0, 0, .null, []), (5, 17, .invokevirtual 52, 3, 4, 1, 1, .null, []), (8, 19, .ireturn, 1, 1, 0, 0, .null, [])]
set_option maxRecDepth 20000 in
theorem okX4_cut : x_okM mtX4 zX4_cut kX4_cut = true := by decide +kernel
def kX4_rows : List xI := [(0, 1, .aload_n 0, 1, 0, 2, 0, .null, []), (1, 11, .getfield 10, 3, 4, 0, 0, .null, []), (4, 17, .invokevirtual 55, 3, 5, 0, 1, .null, []), (7, 19, .ireturn, 1, 1, 0, 0, .null, [])]
set_option maxRecDepth 20000 in
theorem okX4_rows : x_okM mtX4 zX4_rows kX4_rows = true := by decide +kernel
def kX4_halves : List xI := [(0, 1, .aload_n 0, 1, 0, 2, 0, .null, []), (1, 11, .getfield 10, 3, 4, 0, 0, .null, []), (4, 1, .iload_n 1, 1, 1, 0, 0, .null, []), (5, 17, .invokevirtual 58, 3, 6, 1, 1, .null, []), (8, 19, .ireturn, 1, 1, 0, 0, .null, [])]
set_option maxRecDepth 20000 in
theorem okX4_halves : x_okM mtX4 zX4_halves kX4_halves = true := by decide +kernel
def kX4_net : List xI := [(0, 1, .aload_n 0, 1, 0, 2, 0, .null, []), (1, 11, .getfield 19, 3, 4, 1, 0, .null, []), (4, 1, .iload_n 1, 1, 1, 0, 0, .null, []), (5, 17, .invokevirtual 61, 3, 7, 1, 2, .null, []), (8, 19, .ireturn, 1, 3, 0, 0, .null, [])]
set_option maxRecDepth 20000 in
theorem okX4_net : x_okM mtX4 zX4_net kX4_net = true := by decide +kernel
def kX4_mark : List xI := [(0, 1, .aload_n 0, 1, 0, 2, 0, .null, []), (1, 11, .getfield 19, 3, 4, 1, 0, .null, []), (4, 1, .iload_n 1, 1, 1, 0, 0, .null, []), (5, 1, .iload_n 2, 1, 2, 0, 0, .null, []), (6, 1, .iload_n 3, 1, 3, 0, 0, .null, []), (7, 17, .invokevirtual 64, 3, 8, 3, 2, .null, []), (10, 19, .ireturn, 1, 3, 0, 0, .null, [])]
set_option maxRecDepth 20000 in
theorem okX4_mark : x_okM mtX4 zX4_mark kX4_mark = true := by decide +kernel
def kX4_marked : List xI := [(0, 1, .aload_n 0, 1, 0, 2, 0, .null, []), (1, 11, .getfield 19, 3, 4, 1, 0, .null, []), (4, 1, .iload_n 1, 1, 1, 0, 0, .null, []), (5, 1, .iload_n 2, 1, 2, 0, 0, .null, []), (6, 17, .invokevirtual 68, 3, 9, 2, 2, .null, []), (9, 19, .ireturn, 1, 1, 0, 0, .null, [])]
set_option maxRecDepth 20000 in
theorem okX4_marked : x_okM mtX4 zX4_marked kX4_marked = true := by decide +kernel
def kX4_all : List xI := [(0, 1, .aload_n 0, 1, 0, 2, 0, .null, []), (1, 11, .getfield 19, 3, 4, 1, 0, .null, []), (4, 17, .invokevirtual 72, 3, 10, 0, 2, .null, []), (7, 19, .ireturn, 1, 1, 0, 0, .null, [])]
set_option maxRecDepth 20000 in
theorem okX4_all : x_okM mtX4 zX4_all kX4_all = true := by decide +kernel
def kX4_doors : List xI := [(0, 1, .aload_n 0, 1, 0, 2, 0, .null, []), (1, 11, .getfield 19, 3, 4, 1, 0, .null, []), (4, 17, .invokevirtual 75, 3, 11, 0, 2, .null, []), (7, 19, .ireturn, 1, 1, 0, 0, .null, [])]
set_option maxRecDepth 20000 in
theorem okX4_doors : x_okM mtX4 zX4_doors kX4_doors = true := by decide +kernel
def kX4_doorsAll : List xI := [(0, 1, .aload_n 0, 1, 0, 2, 0, .null, []), (1, 11, .getfield 19, 3, 4, 1, 0, .null, []), (4, 17, .invokevirtual 78, 3, 12, 0, 2, .null, []), (7, 19, .ireturn, 1, 1, 0, 0, .null, [])]
set_option maxRecDepth 20000 in
theorem okX4_doorsAll : x_okM mtX4 zX4_doorsAll kX4_doorsAll = true := by decide +kernel
def kX4_walk : List xI := [(0, 1, .aload_n 0, 1, 0, 2, 0, .null, []), (1, 11, .getfield 19, 3, 4, 1, 0, .null, []), (4, 1, .iload_n 1, 1, 1, 0, 0, .null, []), (5, 17, .invokevirtual 81, 3, 13, 1, 2, .null, []), (8, 19, .ireturn, 1, 1, 0, 0, .null, [])]
set_option maxRecDepth 20000 in
theorem okX4_walk : x_okM mtX4 zX4_walk kX4_walk = true := by decide +kernel
def kX4_ended : List xI := [(0, 1, .aload_n 0, 1, 0, 2, 0, .null, []), (1, 11, .getfield 19, 3, 4, 1, 0, .null, []), (4, 1, .iload_n 1, 1, 1, 0, 0, .null, []), (5, 17, .invokevirtual 84, 3, 14, 1, 2, .null, []), (8, 19, .ireturn, 1, 1, 0, 0, .null, [])]
set_option maxRecDepth 20000 in
theorem okX4_ended : x_okM mtX4 zX4_ended kX4_ended = true := by decide +kernel
def kX4_people : List xI := [(0, 1, .iload_n 1, 1, 1, 0, 0, .null, []), (1, 0, .iconst 1, 1, 0, 0, 0, .int (1), []), (2, 7, .if_icmp .lt 8, 3, 2, 10, 0, .null, []), (5, 1, .iload_n 1, 1, 1, 0, 0, .null, []), (6, 0, .iconst 5, 1, 0, 0, 0, .int (5), []), (7, 7, .if_icmp .le 5, 3, 5, 12, 0, .null, []), (10, 0, .iconst 0, 1, 0, 0, 0, .int (0), []), (11, 19, .ireturn, 1, 3, 0, 0, .null, []), (12, 1, .aload_n 0, 1, 0, 2, 0, .null, []), (13, 11, .getfield 26, 3, 4, 2, 0, .null, []), (16, 1, .iload_n 1, 1, 1, 0, 0, .null, []), (17, 17, .invokevirtual 87, 3, 15, 1, 3, .null, []), (20, 1, .aload_n 0, 1, 0, 2, 0, .null, []), (21, 11, .getfield 33, 3, 4, 3, 0, .null, []), (24, 1, .iload_n 1, 1, 1, 0, 0, .null, []), (25, 17, .invokevirtual 91, 3, 16, 1, 0, .null, []), (28, 0, .iconst 1, 1, 0, 0, 0, .int (1), []), (29, 19, .ireturn, 1, 3, 0, 0, .null, [])]
set_option maxRecDepth 20000 in
theorem okX4_people : x_okM mtX4 zX4_people kX4_people = true := by decide +kernel
def kX4_room : List xI := [(0, 1, .aload_n 0, 1, 0, 2, 0, .null, []), (1, 11, .getfield 26, 3, 4, 2, 0, .null, []), (4, 1, .iload_n 1, 1, 1, 0, 0, .null, []), (5, 1, .iload_n 2, 1, 2, 0, 0, .null, []), (6, 1, .iload_n 3, 1, 3, 0, 0, .null, []), (7, 17, .invokevirtual 92, 3, 17, 3, 3, .null, []), (10, 19, .ireturn, 1, 3, 0, 0, .null, [])]
set_option maxRecDepth 20000 in
theorem okX4_room : x_okM mtX4 zX4_room kX4_room = true := by decide +kernel
def kX4_rent : List xI := [(0, 1, .aload_n 0, 1, 0, 2, 0, .null, []), (1, 11, .getfield 26, 3, 4, 2, 0, .null, []), (4, 1, .iload_n 1, 1, 1, 0, 0, .null, []), (5, 17, .invokevirtual 95, 3, 18, 1, 3, .null, []), (8, 19, .ireturn, 1, 3, 0, 0, .null, [])]
set_option maxRecDepth 20000 in
theorem okX4_rent : x_okM mtX4 zX4_rent kX4_rent = true := by decide +kernel
def kX4_best : List xI := [(0, 1, .aload_n 0, 1, 0, 2, 0, .null, []), (1, 11, .getfield 26, 3, 4, 2, 0, .null, []), (4, 17, .invokevirtual 98, 3, 19, 0, 3, .null, []), (7, 19, .ireturn, 1, 1, 0, 0, .null, [])]
set_option maxRecDepth 20000 in
theorem okX4_best : x_okM mtX4 zX4_best kX4_best = true := by decide +kernel
def kX4_has : List xI := [(0, 1, .aload_n 0, 1, 0, 2, 0, .null, []), (1, 11, .getfield 26, 3, 4, 2, 0, .null, []), (4, 1, .iload_n 1, 1, 1, 0, 0, .null, []), (5, 17, .invokevirtual 101, 3, 20, 1, 3, .null, []), (8, 19, .ireturn, 1, 1, 0, 0, .null, [])]
set_option maxRecDepth 20000 in
theorem okX4_has : x_okM mtX4 zX4_has kX4_has = true := by decide +kernel
def kX4_price : List xI := [(0, 1, .aload_n 0, 1, 0, 2, 0, .null, []), (1, 11, .getfield 26, 3, 4, 2, 0, .null, []), (4, 1, .iload_n 1, 1, 1, 0, 0, .null, []), (5, 17, .invokevirtual 104, 3, 21, 1, 3, .null, []), (8, 19, .lreturn, 1, 2, 0, 0, .null, [])]
set_option maxRecDepth 20000 in
theorem okX4_price : x_okM mtX4 zX4_price kX4_price = true := by decide +kernel
def kX4_grudge : List xI := [(0, 1, .aload_n 0, 1, 0, 2, 0, .null, []), (1, 11, .getfield 26, 3, 4, 2, 0, .null, []), (4, 1, .iload_n 1, 1, 1, 0, 0, .null, []), (5, 1, .iload_n 2, 1, 2, 0, 0, .null, []), (6, 17, .invokevirtual 108, 3, 22, 2, 3, .null, []), (9, 19, .lreturn, 1, 2, 0, 0, .null, [])]
set_option maxRecDepth 20000 in
theorem okX4_grudge : x_okM mtX4 zX4_grudge kX4_grudge = true := by decide +kernel
def kX4_turned : List xI := [(0, 1, .aload_n 0, 1, 0, 2, 0, .null, []), (1, 11, .getfield 26, 3, 4, 2, 0, .null, []), (4, 1, .iload_n 1, 1, 1, 0, 0, .null, []), (5, 1, .iload_n 2, 1, 2, 0, 0, .null, []), (6, 17, .invokevirtual 112, 3, 23, 2, 3, .null, []), (9, 19, .ireturn, 1, 3, 0, 0, .null, [])]
set_option maxRecDepth 20000 in
theorem okX4_turned : x_okM mtX4 zX4_turned kX4_turned = true := by decide +kernel
def kX4_check : List xI := [(0, 1, .aload_n 0, 1, 0, 2, 0, .null, []), (1, 11, .getfield 26, 3, 4, 2, 0, .null, []), (4, 17, .invokevirtual 116, 3, 24, 0, 3, .null, []), (7, 19, .ireturn, 1, 1, 0, 0, .null, [])]
set_option maxRecDepth 20000 in
theorem okX4_check : x_okM mtX4 zX4_check kX4_check = true := by decide +kernel
def kX4_line : List xI := [(0, 1, .aload_n 0, 1, 0, 2, 0, .null, []), (1, 11, .getfield 33, 3, 4, 3, 0, .null, []), (4, 1, .iload_n 1, 1, 1, 0, 0, .null, []), (5, 17, .invokevirtual 119, 3, 25, 1, 0, .null, []), (8, 19, .ireturn, 1, 3, 0, 0, .null, [])]
set_option maxRecDepth 20000 in
theorem okX4_line : x_okM mtX4 zX4_line kX4_line = true := by decide +kernel
def kX4_stretch : List xI := [(0, 1, .aload_n 0, 1, 0, 2, 0, .null, []), (1, 11, .getfield 33, 3, 4, 3, 0, .null, []), (4, 1, .iload_n 1, 1, 1, 0, 0, .null, []), (5, 1, .iload_n 2, 1, 2, 0, 0, .null, []), (6, 1, .iload_n 3, 1, 3, 0, 0, .null, []), (7, 17, .invokevirtual 120, 3, 26, 3, 0, .null, []), (10, 19, .ireturn, 1, 3, 0, 0, .null, [])]
set_option maxRecDepth 20000 in
theorem okX4_stretch : x_okM mtX4 zX4_stretch kX4_stretch = true := by decide +kernel
def kX4_who : List xI := [(0, 1, .aload_n 0, 1, 0, 2, 0, .null, []), (1, 11, .getfield 33, 3, 4, 3, 0, .null, []), (4, 1, .iload_n 1, 1, 1, 0, 0, .null, []), (5, 17, .invokevirtual 121, 3, 27, 1, 0, .null, []), (8, 19, .ireturn, 1, 1, 0, 0, .null, [])]
set_option maxRecDepth 20000 in
theorem okX4_who : x_okM mtX4 zX4_who kX4_who = true := by decide +kernel
def kX4_place : List xI := [(0, 1, .aload_n 0, 1, 0, 2, 0, .null, []), (1, 11, .getfield 33, 3, 4, 3, 0, .null, []), (4, 1, .iload_n 1, 1, 1, 0, 0, .null, []), (5, 1, .iload_n 2, 1, 2, 0, 0, .null, []), (6, 17, .invokevirtual 124, 3, 28, 2, 0, .null, []), (9, 19, .lreturn, 1, 2, 0, 0, .null, [])]
set_option maxRecDepth 20000 in
theorem okX4_place : x_okM mtX4 zX4_place kX4_place = true := by decide +kernel
def kX4_worth : List xI := [(0, 1, .aload_n 0, 1, 0, 2, 0, .null, []), (1, 11, .getfield 33, 3, 4, 3, 0, .null, []), (4, 1, .iload_n 1, 1, 1, 0, 0, .null, []), (5, 1, .iload_n 2, 1, 2, 0, 0, .null, []), (6, 1, .iload_n 3, 1, 3, 0, 0, .null, []), (7, 17, .invokevirtual 127, 3, 29, 3, 0, .null, []), (10, 19, .lreturn, 1, 2, 0, 0, .null, [])]
set_option maxRecDepth 20000 in
theorem okX4_worth : x_okM mtX4 zX4_worth kX4_worth = true := by decide +kernel
def kX4_envies : List xI := [(0, 1, .aload_n 0, 1, 0, 2, 0, .null, []), (1, 11, .getfield 33, 3, 4, 3, 0, .null, []), (4, 1, .iload_n 1, 1, 1, 0, 0, .null, []), (5, 17, .invokevirtual 131, 3, 30, 1, 0, .null, []), (8, 19, .ireturn, 1, 1, 0, 0, .null, [])]
set_option maxRecDepth 20000 in
theorem okX4_envies : x_okM mtX4 zX4_envies kX4_envies = true := by decide +kernel
