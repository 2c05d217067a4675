/-! code lists of the law -/
def kL_guest : List Cd := [(0, .aload_n 1, 1, [], 0), (1, .iconst 0, 1, [], nI 0), (2, .aload_n 0, 1, [], 0), (3, .invokevirtual 7, 3, [], 0), (6, .i2l, 1, [], 0), (7, .lastore, 1, [], 0), (8, .goto 6, 3, [14], 0), (11, .astore_n 2, 1, [], 0), (12, .iconst 1, 1, [], nI 1), (13, .ireturn, 1, [], 0), (14, .iconst 0, 1, [], nI 0), (15, .ireturn, 1, [], 0)]
set_option maxRecDepth 20000 in
theorem kL_guest_ok : cdOk cL_guest kL_guest = true := by decide +kernel
def kL_memory : List Cd := [(0, .aload_n 1, 1, [], 0), (1, .iconst 0, 1, [], nI 0), (2, .aload_n 0, 1, [], 0), (3, .invokevirtual 15, 3, [], 0), (6, .i2l, 1, [], 0), (7, .lastore, 1, [], 0), (8, .goto 9, 3, [17], 0), (11, .astore_n 2, 1, [], 0), (12, .iconst 1, 1, [], nI 1), (13, .ireturn, 1, [], 0), (14, .astore_n 2, 1, [], 0), (15, .iconst 2, 1, [], nI 2), (16, .ireturn, 1, [], 0), (17, .iconst 0, 1, [], nI 0), (18, .ireturn, 1, [], 0)]
set_option maxRecDepth 20000 in
theorem kL_memory_ok : cdOk cL_memory kL_memory = true := by decide +kernel
def kL_about : List Cd := [(0, .aload_n 3, 1, [], 0), (1, .iconst 0, 1, [], nI 0), (2, .aload_n 0, 1, [], 0), (3, .iload_n 1, 1, [], 0), (4, .iload_n 2, 1, [], 0), (5, .invokevirtual 20, 3, [], 0), (8, .i2l, 1, [], 0), (9, .lastore, 1, [], 0), (10, .goto 11, 3, [21], 0), (13, .astore 4, 2, [], 0), (15, .iconst 1, 1, [], nI 1), (16, .ireturn, 1, [], 0), (17, .astore 4, 2, [], 0), (19, .iconst 2, 1, [], nI 2), (20, .ireturn, 1, [], 0), (21, .iconst 0, 1, [], nI 0), (22, .ireturn, 1, [], 0)]
set_option maxRecDepth 20000 in
theorem kL_about_ok : cdOk cL_about kL_about = true := by decide +kernel
def kL_strike : List Cd := [(0, .aload_n 3, 1, [], 0), (1, .iconst 0, 1, [], nI 0), (2, .aload_n 0, 1, [], 0), (3, .iload_n 1, 1, [], 0), (4, .iload_n 2, 1, [], 0), (5, .invokevirtual 28, 3, [], 0), (8, .ifCond .eq 7, 3, [15], 0), (11, .lconst 1, 1, [], 0), (12, .goto 4, 3, [16], 0), (15, .lconst 0, 1, [], 0), (16, .lastore, 1, [], 0), (17, .goto 7, 3, [24], 0), (20, .astore 4, 2, [], 0), (22, .iconst 1, 1, [], nI 1), (23, .ireturn, 1, [], 0), (24, .iconst 0, 1, [], nI 0), (25, .ireturn, 1, [], 0)]
set_option maxRecDepth 20000 in
theorem kL_strike_ok : cdOk cL_strike kL_strike = true := by decide +kernel
def kL_pair : List Cd := [(0, .aload_n 3, 1, [], 0), (1, .iconst 0, 1, [], nI 0), (2, .aload_n 0, 1, [], 0), (3, .iload_n 1, 1, [], 0), (4, .iload_n 2, 1, [], 0), (5, .invokevirtual 32, 3, [], 0), (8, .i2l, 1, [], 0), (9, .lastore, 1, [], 0), (10, .goto 7, 3, [17], 0), (13, .astore 4, 2, [], 0), (15, .iconst 1, 1, [], nI 1), (16, .ireturn, 1, [], 0), (17, .iconst 0, 1, [], nI 0), (18, .ireturn, 1, [], 0)]
set_option maxRecDepth 20000 in
theorem kL_pair_ok : cdOk cL_pair kL_pair = true := by decide +kernel
def kL_quarrels : List Cd := [(0, .aload_n 2, 1, [], 0), (1, .iconst 0, 1, [], nI 0), (2, .aload_n 0, 1, [], 0), (3, .iload_n 1, 1, [], 0), (4, .invokevirtual 35, 3, [], 0), (7, .i2l, 1, [], 0), (8, .lastore, 1, [], 0), (9, .goto 6, 3, [15], 0), (12, .astore_n 3, 1, [], 0), (13, .iconst 1, 1, [], nI 1), (14, .ireturn, 1, [], 0), (15, .iconst 0, 1, [], nI 0), (16, .ireturn, 1, [], 0)]
set_option maxRecDepth 20000 in
theorem kL_quarrels_ok : cdOk cL_quarrels kL_quarrels = true := by decide +kernel
def kL_moment : List Cd := [(0, .aload_n 2, 1, [], 0), (1, .iconst 0, 1, [], nI 0), (2, .aload_n 0, 1, [], 0), (3, .iload_n 1, 1, [], 0), (4, .invokevirtual 39, 3, [], 0), (7, .i2l, 1, [], 0), (8, .lastore, 1, [], 0), (9, .goto 6, 3, [15], 0), (12, .astore_n 3, 1, [], 0), (13, .iconst 1, 1, [], nI 1), (14, .ireturn, 1, [], 0), (15, .iconst 0, 1, [], nI 0), (16, .ireturn, 1, [], 0)]
set_option maxRecDepth 20000 in
theorem kL_moment_ok : cdOk cL_moment kL_moment = true := by decide +kernel
def kL_lay : List Cd := [(0, .aload_n 2, 1, [], 0), (1, .iconst 0, 1, [], nI 0), (2, .aload_n 0, 1, [], 0), (3, .iload_n 1, 1, [], 0), (4, .invokevirtual 42, 3, [], 0), (7, .i2l, 1, [], 0), (8, .lastore, 1, [], 0), (9, .goto 6, 3, [15], 0), (12, .astore_n 3, 1, [], 0), (13, .iconst 1, 1, [], nI 1), (14, .ireturn, 1, [], 0), (15, .iconst 0, 1, [], nI 0), (16, .ireturn, 1, [], 0)]
set_option maxRecDepth 20000 in
theorem kL_lay_ok : cdOk cL_lay kL_lay = true := by decide +kernel
def kL_stays : List Cd := [(0, .aload_n 3, 1, [], 0), (1, .iconst 0, 1, [], nI 0), (2, .aload_n 0, 1, [], 0), (3, .iload_n 1, 1, [], 0), (4, .iload_n 2, 1, [], 0), (5, .invokevirtual 47, 3, [], 0), (8, .i2l, 1, [], 0), (9, .lastore, 1, [], 0), (10, .goto 11, 3, [21], 0), (13, .astore 4, 2, [], 0), (15, .iconst 1, 1, [], nI 1), (16, .ireturn, 1, [], 0), (17, .astore 4, 2, [], 0), (19, .iconst 2, 1, [], nI 2), (20, .ireturn, 1, [], 0), (21, .iconst 0, 1, [], nI 0), (22, .ireturn, 1, [], 0)]
set_option maxRecDepth 20000 in
theorem kL_stays_ok : cdOk cL_stays kL_stays = true := by decide +kernel
def kL_node : List Cd := [(0, .aload_n 3, 1, [], 0), (1, .iconst 0, 1, [], nI 0), (2, .aload_n 0, 1, [], 0), (3, .iload_n 1, 1, [], 0), (4, .iload_n 2, 1, [], 0), (5, .invokevirtual 51, 3, [], 0), (8, .i2l, 1, [], 0), (9, .lastore, 1, [], 0), (10, .goto 11, 3, [21], 0), (13, .astore 4, 2, [], 0), (15, .iconst 1, 1, [], nI 1), (16, .ireturn, 1, [], 0), (17, .astore 4, 2, [], 0), (19, .iconst 2, 1, [], nI 2), (20, .ireturn, 1, [], 0), (21, .iconst 0, 1, [], nI 0), (22, .ireturn, 1, [], 0)]
set_option maxRecDepth 20000 in
theorem kL_node_ok : cdOk cL_node kL_node = true := by decide +kernel
def kL_between : List Cd := [(0, .aload 4, 2, [], 0), (2, .iconst 0, 1, [], nI 0), (3, .aload_n 0, 1, [], 0), (4, .iload_n 1, 1, [], 0), (5, .iload_n 2, 1, [], 0), (6, .iload_n 3, 1, [], 0), (7, .invokevirtual 54, 3, [], 0), (10, .ifCond .eq 7, 3, [17], 0), (13, .lconst 1, 1, [], 0), (14, .goto 4, 3, [18], 0), (17, .lconst 0, 1, [], 0), (18, .lastore, 1, [], 0), (19, .goto 11, 3, [30], 0), (22, .astore 5, 2, [], 0), (24, .iconst 1, 1, [], nI 1), (25, .ireturn, 1, [], 0), (26, .astore 5, 2, [], 0), (28, .iconst 2, 1, [], nI 2), (29, .ireturn, 1, [], 0), (30, .iconst 0, 1, [], nI 0), (31, .ireturn, 1, [], 0)]
set_option maxRecDepth 20000 in
theorem kL_between_ok : cdOk cL_between kL_between = true := by decide +kernel
def kL_stay : List Cd := [(0, .aload_n 0, 1, [], 0), (1, .iload_n 1, 1, [], 0), (2, .iload_n 2, 1, [], 0), (3, .iload_n 3, 1, [], 0), (4, .invokevirtual 58, 3, [], 0), (7, .goto 11, 3, [18], 0), (10, .astore 4, 2, [], 0), (12, .iconst 1, 1, [], nI 1), (13, .ireturn, 1, [], 0), (14, .astore 4, 2, [], 0), (16, .iconst 2, 1, [], nI 2), (17, .ireturn, 1, [], 0), (18, .iconst 0, 1, [], nI 0), (19, .ireturn, 1, [], 0)]
set_option maxRecDepth 20000 in
theorem kL_stay_ok : cdOk cL_stay kL_stay = true := by decide +kernel
def kL_judge : List Cd := [(0, .aload_n 2, 1, [], 0), (1, .iconst 0, 1, [], nI 0), (2, .aload_n 0, 1, [], 0), (3, .iload_n 1, 1, [], 0), (4, .invokevirtual 62, 3, [], 0), (7, .i2l, 1, [], 0), (8, .lastore, 1, [], 0), (9, .goto 6, 3, [15], 0), (12, .astore_n 3, 1, [], 0), (13, .iconst 1, 1, [], nI 1), (14, .ireturn, 1, [], 0), (15, .iconst 0, 1, [], nI 0), (16, .ireturn, 1, [], 0)]
set_option maxRecDepth 20000 in
theorem kL_judge_ok : cdOk cL_judge kL_judge = true := by decide +kernel
def kL_lies : List Cd := [(0, .aload_n 2, 1, [], 0), (1, .iconst 0, 1, [], nI 0), (2, .aload_n 0, 1, [], 0), (3, .iload_n 1, 1, [], 0), (4, .invokevirtual 65, 3, [], 0), (7, .i2l, 1, [], 0), (8, .lastore, 1, [], 0), (9, .goto 6, 3, [15], 0), (12, .astore_n 3, 1, [], 0), (13, .iconst 1, 1, [], nI 1), (14, .ireturn, 1, [], 0), (15, .iconst 0, 1, [], nI 0), (16, .ireturn, 1, [], 0)]
set_option maxRecDepth 20000 in
theorem kL_lies_ok : cdOk cL_lies kL_lies = true := by decide +kernel
def kL_leave : List Cd := [(0, .aload_n 2, 1, [], 0), (1, .iconst 0, 1, [], nI 0), (2, .aload_n 0, 1, [], 0), (3, .iload_n 1, 1, [], 0), (4, .invokevirtual 68, 3, [], 0), (7, .i2l, 1, [], 0), (8, .lastore, 1, [], 0), (9, .goto 6, 3, [15], 0), (12, .astore_n 3, 1, [], 0), (13, .iconst 1, 1, [], nI 1), (14, .ireturn, 1, [], 0), (15, .iconst 0, 1, [], nI 0), (16, .ireturn, 1, [], 0)]
set_option maxRecDepth 20000 in
theorem kL_leave_ok : cdOk cL_leave kL_leave = true := by decide +kernel
def kL_twice : List Cd := [(0, .aload_n 2, 1, [], 0), (1, .iconst 0, 1, [], nI 0), (2, .aload_n 0, 1, [], 0), (3, .iload_n 1, 1, [], 0), (4, .invokevirtual 71, 3, [], 0), (7, .ifCond .eq 7, 3, [14], 0), (10, .lconst 1, 1, [], 0), (11, .goto 4, 3, [15], 0), (14, .lconst 0, 1, [], 0), (15, .lastore, 1, [], 0), (16, .goto 6, 3, [22], 0), (19, .astore_n 3, 1, [], 0), (20, .iconst 1, 1, [], nI 1), (21, .ireturn, 1, [], 0), (22, .iconst 0, 1, [], nI 0), (23, .ireturn, 1, [], 0)]
set_option maxRecDepth 20000 in
theorem kL_twice_ok : cdOk cL_twice kL_twice = true := by decide +kernel
def kL_room : List Cd := [(0, .aload_n 2, 1, [], 0), (1, .iconst 0, 1, [], nI 0), (2, .aload_n 0, 1, [], 0), (3, .iload_n 1, 1, [], 0), (4, .invokevirtual 75, 3, [], 0), (7, .i2l, 1, [], 0), (8, .lastore, 1, [], 0), (9, .goto 9, 3, [18], 0), (12, .astore_n 3, 1, [], 0), (13, .iconst 1, 1, [], nI 1), (14, .ireturn, 1, [], 0), (15, .astore_n 3, 1, [], 0), (16, .iconst 2, 1, [], nI 2), (17, .ireturn, 1, [], 0), (18, .iconst 0, 1, [], nI 0), (19, .ireturn, 1, [], 0)]
set_option maxRecDepth 20000 in
theorem kL_room_ok : cdOk cL_room kL_room = true := by decide +kernel
def kL_rooms : List Cd := [(0, .aload_n 1, 1, [], 0), (1, .iconst 0, 1, [], nI 0), (2, .aload_n 0, 1, [], 0), (3, .invokevirtual 78, 3, [], 0), (6, .i2l, 1, [], 0), (7, .lastore, 1, [], 0), (8, .goto 6, 3, [14], 0), (11, .astore_n 2, 1, [], 0), (12, .iconst 1, 1, [], nI 1), (13, .ireturn, 1, [], 0), (14, .iconst 0, 1, [], nI 0), (15, .ireturn, 1, [], 0)]
set_option maxRecDepth 20000 in
theorem kL_rooms_ok : cdOk cL_rooms kL_rooms = true := by decide +kernel
def kL_span : List Cd := [(0, .aload_n 3, 1, [], 0), (1, .iconst 0, 1, [], nI 0), (2, .aload_n 0, 1, [], 0), (3, .iload_n 1, 1, [], 0), (4, .iload_n 2, 1, [], 0), (5, .invokevirtual 81, 3, [], 0), (8, .i2l, 1, [], 0), (9, .lastore, 1, [], 0), (10, .goto 7, 3, [17], 0), (13, .astore 4, 2, [], 0), (15, .iconst 1, 1, [], nI 1), (16, .ireturn, 1, [], 0), (17, .iconst 0, 1, [], nI 0), (18, .ireturn, 1, [], 0)]
set_option maxRecDepth 20000 in
theorem kL_span_ok : cdOk cL_span kL_span = true := by decide +kernel
def kL_must : List Cd := [(0, .aload_n 3, 1, [], 0), (1, .iconst 0, 1, [], nI 0), (2, .aload_n 0, 1, [], 0), (3, .iload_n 1, 1, [], 0), (4, .iload_n 2, 1, [], 0), (5, .invokevirtual 84, 3, [], 0), (8, .i2l, 1, [], 0), (9, .lastore, 1, [], 0), (10, .goto 7, 3, [17], 0), (13, .astore 4, 2, [], 0), (15, .iconst 1, 1, [], nI 1), (16, .ireturn, 1, [], 0), (17, .iconst 0, 1, [], nI 0), (18, .ireturn, 1, [], 0)]
set_option maxRecDepth 20000 in
theorem kL_must_ok : cdOk cL_must kL_must = true := by decide +kernel
def kL_list : List Cd := [(0, .aload_n 2, 1, [], 0), (1, .iconst 0, 1, [], nI 0), (2, .aload_n 0, 1, [], 0), (3, .iload_n 1, 1, [], 0), (4, .invokevirtual 87, 3, [], 0), (7, .i2l, 1, [], 0), (8, .lastore, 1, [], 0), (9, .goto 6, 3, [15], 0), (12, .astore_n 3, 1, [], 0), (13, .iconst 1, 1, [], nI 1), (14, .ireturn, 1, [], 0), (15, .iconst 0, 1, [], nI 0), (16, .ireturn, 1, [], 0)]
set_option maxRecDepth 20000 in
theorem kL_list_ok : cdOk cL_list kL_list = true := by decide +kernel
def kL_listed : List Cd := [(0, .aload_n 2, 1, [], 0), (1, .iconst 0, 1, [], nI 0), (2, .aload_n 0, 1, [], 0), (3, .iload_n 1, 1, [], 0), (4, .invokevirtual 90, 3, [], 0), (7, .i2l, 1, [], 0), (8, .lastore, 1, [], 0), (9, .goto 6, 3, [15], 0), (12, .astore_n 3, 1, [], 0), (13, .iconst 1, 1, [], nI 1), (14, .ireturn, 1, [], 0), (15, .iconst 0, 1, [], nI 0), (16, .ireturn, 1, [], 0)]
set_option maxRecDepth 20000 in
theorem kL_listed_ok : cdOk cL_listed kL_listed = true := by decide +kernel
