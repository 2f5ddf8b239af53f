theorem ckX11_sign : CK mX11_sign 1 := ⟨kcX11_sign, knX11, by decide, by decide, by decide +kernel, by decide⟩
theorem kvL_29 : KV RL 29 mX11_sign 1 11 := ⟨ckX11_sign, kmL_29, kiX11_sign, ksX11_sign, ⟨TX11, rfl⟩⟩
theorem ckX12_sign : CK mX12_sign 1 := ⟨kcX12_sign, knX12, by decide, by decide, by decide +kernel, by decide⟩
theorem kvL_33 : KV RL 33 mX12_sign 1 12 := ⟨ckX12_sign, kmL_33, kiX12_sign, ksX12_sign, ⟨TX12, rfl⟩⟩
theorem ckX11_end : CK mX11_end 1 := ⟨kcX11_end, knX11, by decide, by decide, by decide +kernel, by decide⟩
theorem kvL_34 : KV RL 34 mX11_end 1 11 := ⟨ckX11_end, kmL_34, kiX11_end, ksX11_end, ⟨TX11, rfl⟩⟩
theorem ckX12_end : CK mX12_end 1 := ⟨kcX12_end, knX12, by decide, by decide, by decide +kernel, by decide⟩
theorem kvL_38 : KV RL 38 mX12_end 1 12 := ⟨ckX12_end, kmL_38, kiX12_end, ksX12_end, ⟨TX12, rfl⟩⟩
theorem ckX11_square : CK mX11_square 0 := ⟨kcX11_square, knX11, by decide, by decide, by decide +kernel, by decide⟩
theorem kvL_39 : KV RL 39 mX11_square 0 11 := ⟨ckX11_square, kmL_39, kiX11_square, ksX11_square, ⟨TX11, rfl⟩⟩
theorem ckX12_square : CK mX12_square 0 := ⟨kcX12_square, knX12, by decide, by decide, by decide +kernel, by decide⟩
theorem kvL_43 : KV RL 43 mX12_square 0 12 := ⟨ckX12_square, kmL_43, kiX12_square, ksX12_square, ⟨TX12, rfl⟩⟩
theorem ckX11_things : CK mX11_things 0 := ⟨kcX11_things, knX11, by decide, by decide, by decide +kernel, by decide⟩
theorem kvL_44 : KV RL 44 mX11_things 0 11 := ⟨ckX11_things, kmL_44, kiX11_things, ksX11_things, ⟨TX11, rfl⟩⟩
theorem ckX12_things : CK mX12_things 0 := ⟨kcX12_things, knX12, by decide, by decide, by decide +kernel, by decide⟩
theorem kvL_47 : KV RL 47 mX12_things 0 12 := ⟨ckX12_things, kmL_47, kiX12_things, ksX12_things, ⟨TX12, rfl⟩⟩
theorem ckX11_panes : CK mX11_panes 0 := ⟨kcX11_panes, knX11, by decide, by decide, by decide +kernel, by decide⟩
theorem kvL_48 : KV RL 48 mX11_panes 0 11 := ⟨ckX11_panes, kmL_48, kiX11_panes, ksX11_panes, ⟨TX11, rfl⟩⟩
theorem ckX12_panes : CK mX12_panes 0 := ⟨kcX12_panes, knX12, by decide, by decide, by decide +kernel, by decide⟩
theorem kvL_51 : KV RL 51 mX12_panes 0 12 := ⟨ckX12_panes, kmL_51, kiX12_panes, ksX12_panes, ⟨TX12, rfl⟩⟩
theorem ckX11_rooms : CK mX11_rooms 0 := ⟨kcX11_rooms, knX11, by decide, by decide, by decide +kernel, by decide⟩
theorem kvL_52 : KV RL 52 mX11_rooms 0 11 := ⟨ckX11_rooms, kmL_52, kiX11_rooms, ksX11_rooms, ⟨TX11, rfl⟩⟩
theorem ckX12_rooms : CK mX12_rooms 0 := ⟨kcX12_rooms, knX12, by decide, by decide, by decide +kernel, by decide⟩
theorem kvL_55 : KV RL 55 mX12_rooms 0 12 := ⟨ckX12_rooms, kmL_55, kiX12_rooms, ksX12_rooms, ⟨TX12, rfl⟩⟩
theorem ckX11_rule : CK mX11_rule 0 := ⟨kcX11_rule, knX11, by decide, by decide, by decide +kernel, by decide⟩
theorem kvL_56 : KV RL 56 mX11_rule 0 11 := ⟨ckX11_rule, kmL_56, kiX11_rule, ksX11_rule, ⟨TX11, rfl⟩⟩
theorem ckX12_rule : CK mX12_rule 0 := ⟨kcX12_rule, knX12, by decide, by decide, by decide +kernel, by decide⟩
theorem kvL_59 : KV RL 59 mX12_rule 0 12 := ⟨ckX12_rule, kmL_59, kiX12_rule, ksX12_rule, ⟨TX12, rfl⟩⟩
theorem ckX12_thing : CK mX12_thing 2 := ⟨kcX12_thing, knX12, by decide, by decide, by decide +kernel, by decide⟩
theorem kvL_65 : KV RL 65 mX12_thing 2 12 := ⟨ckX12_thing, kmL_65, kiX12_thing, ksX12_thing, ⟨TX12, rfl⟩⟩
theorem ckX12_thrown : CK mX12_thrown 0 := ⟨kcX12_thrown, knX12, by decide, by decide, by decide +kernel, by decide⟩
theorem kvL_66 : KV RL 66 mX12_thrown 0 12 := ⟨ckX12_thrown, kmL_66, kiX12_thrown, ksX12_thrown, ⟨TX12, rfl⟩⟩
theorem ckX12_pane : CK mX12_pane 2 := ⟨kcX12_pane, knX12, by decide, by decide, by decide +kernel, by decide⟩
theorem kvL_71 : KV RL 71 mX12_pane 2 12 := ⟨ckX12_pane, kmL_71, kiX12_pane, ksX12_pane, ⟨TX12, rfl⟩⟩
theorem ckX12_room : CK mX12_room 2 := ⟨kcX12_room, knX12, by decide, by decide, by decide +kernel, by decide⟩
theorem kvL_74 : KV RL 74 mX12_room 2 12 := ⟨ckX12_room, kmL_74, kiX12_room, ksX12_room, ⟨TX12, rfl⟩⟩
theorem ckX11_sheet : CK mX11_sheet 4 := ⟨kcX11_sheet, knX11, by decide, by decide, by decide +kernel, by decide⟩
theorem kvL_75 : KV RL 75 mX11_sheet 4 11 := ⟨ckX11_sheet, kmL_75, kiX11_sheet, ksX11_sheet, ⟨TX11, rfl⟩⟩
theorem ckX12_sheet : CK mX12_sheet 4 := ⟨kcX12_sheet, knX12, by decide, by decide, by decide +kernel, by decide⟩
theorem kvL_79 : KV RL 79 mX12_sheet 4 12 := ⟨ckX12_sheet, kmL_79, kiX12_sheet, ksX12_sheet, ⟨TX12, rfl⟩⟩
theorem ckX11_hang : CK mX11_hang 2 := ⟨kcX11_hang, knX11, by decide, by decide, by decide +kernel, by decide⟩
theorem kvL_80 : KV RL 80 mX11_hang 2 11 := ⟨ckX11_hang, kmL_80, kiX11_hang, ksX11_hang, ⟨TX11, rfl⟩⟩
theorem ckX12_hang : CK mX12_hang 2 := ⟨kcX12_hang, knX12, by decide, by decide, by decide +kernel, by decide⟩
theorem kvL_83 : KV RL 83 mX12_hang 2 12 := ⟨ckX12_hang, kmL_83, kiX12_hang, ksX12_hang, ⟨TX12, rfl⟩⟩
theorem ckX11_takes : CK mX11_takes 1 := ⟨kcX11_takes, knX11, by decide, by decide, by decide +kernel, by decide⟩
theorem kvL_84 : KV RL 84 mX11_takes 1 11 := ⟨ckX11_takes, kmL_84, kiX11_takes, ksX11_takes, ⟨TX11, rfl⟩⟩
theorem ckX12_takes : CK mX12_takes 1 := ⟨kcX12_takes, knX12, by decide, by decide, by decide +kernel, by decide⟩
theorem kvL_87 : KV RL 87 mX12_takes 1 12 := ⟨ckX12_takes, kmL_87, kiX12_takes, ksX12_takes, ⟨TX12, rfl⟩⟩
theorem ckX11_ball : CK mX11_ball 1 := ⟨kcX11_ball, knX11, by decide, by decide, by decide +kernel, by decide⟩
theorem kvL_88 : KV RL 88 mX11_ball 1 11 := ⟨ckX11_ball, kmL_88, kiX11_ball, ksX11_ball, ⟨TX11, rfl⟩⟩
theorem ckX12_ball : CK mX12_ball 1 := ⟨kcX12_ball, knX12, by decide, by decide, by decide +kernel, by decide⟩
theorem kvL_91 : KV RL 91 mX12_ball 1 12 := ⟨ckX12_ball, kmL_91, kiX12_ball, ksX12_ball, ⟨TX12, rfl⟩⟩
theorem ckX11_carry : CK mX11_carry 3 := ⟨kcX11_carry, knX11, by decide, by decide, by decide +kernel, by decide⟩
theorem kvL_92 : KV RL 92 mX11_carry 3 11 := ⟨ckX11_carry, kmL_92, kiX11_carry, ksX11_carry, ⟨TX11, rfl⟩⟩
theorem ckX12_carry : CK mX12_carry 3 := ⟨kcX12_carry, knX12, by decide, by decide, by decide +kernel, by decide⟩
theorem kvL_96 : KV RL 96 mX12_carry 3 12 := ⟨ckX12_carry, kmL_96, kiX12_carry, ksX12_carry, ⟨TX12, rfl⟩⟩
theorem ckX11_hours : CK mX11_hours 1 := ⟨kcX11_hours, knX11, by decide, by decide, by decide +kernel, by decide⟩
theorem kvL_97 : KV RL 97 mX11_hours 1 11 := ⟨ckX11_hours, kmL_97, kiX11_hours, ksX11_hours, ⟨TX11, rfl⟩⟩
theorem ckX12_hours : CK mX12_hours 1 := ⟨kcX12_hours, knX12, by decide, by decide, by decide +kernel, by decide⟩
theorem kvL_100 : KV RL 100 mX12_hours 1 12 := ⟨ckX12_hours, kmL_100, kiX12_hours, ksX12_hours, ⟨TX12, rfl⟩⟩
theorem ckX11_day : CK mX11_day 0 := ⟨kcX11_day, knX11, by decide, by decide, by decide +kernel, by decide⟩
theorem kvL_101 : KV RL 101 mX11_day 0 11 := ⟨ckX11_day, kmL_101, kiX11_day, ksX11_day, ⟨TX11, rfl⟩⟩
theorem ckX12_day : CK mX12_day 0 := ⟨kcX12_day, knX12, by decide, by decide, by decide +kernel, by decide⟩
theorem kvL_104 : KV RL 104 mX12_day 0 12 := ⟨ckX12_day, kmL_104, kiX12_day, ksX12_day, ⟨TX12, rfl⟩⟩
theorem ckX11_undo : CK mX11_undo 0 := ⟨kcX11_undo, knX11, by decide, by decide, by decide +kernel, by decide⟩
theorem kvL_105 : KV RL 105 mX11_undo 0 11 := ⟨ckX11_undo, kmL_105, kiX11_undo, ksX11_undo, ⟨TX11, rfl⟩⟩
theorem ckX12_undo : CK mX12_undo 0 := ⟨kcX12_undo, knX12, by decide, by decide, by decide +kernel, by decide⟩
theorem kvL_108 : KV RL 108 mX12_undo 0 12 := ⟨ckX12_undo, kmL_108, kiX12_undo, ksX12_undo, ⟨TX12, rfl⟩⟩
theorem ckX11_ahead : CK mX11_ahead 2 := ⟨kcX11_ahead, knX11, by decide, by decide, by decide +kernel, by decide⟩
theorem kvL_109 : KV RL 109 mX11_ahead 2 11 := ⟨ckX11_ahead, kmL_109, kiX11_ahead, ksX11_ahead, ⟨TX11, rfl⟩⟩
theorem ckX12_ahead : CK mX12_ahead 2 := ⟨kcX12_ahead, knX12, by decide, by decide, by decide +kernel, by decide⟩
theorem kvL_112 : KV RL 112 mX12_ahead 2 12 := ⟨ckX12_ahead, kmL_112, kiX12_ahead, ksX12_ahead, ⟨TX12, rfl⟩⟩
theorem ckX11_first : CK mX11_first 2 := ⟨kcX11_first, knX11, by decide, by decide, by decide +kernel, by decide⟩
theorem kvL_113 : KV RL 113 mX11_first 2 11 := ⟨ckX11_first, kmL_113, kiX11_first, ksX11_first, ⟨TX11, rfl⟩⟩
theorem ckX12_first : CK mX12_first 2 := ⟨kcX12_first, knX12, by decide, by decide, by decide +kernel, by decide⟩
theorem kvL_116 : KV RL 116 mX12_first 2 12 := ⟨ckX12_first, kmL_116, kiX12_first, ksX12_first, ⟨TX12, rfl⟩⟩
theorem ckX11_meets : CK mX11_meets 1 := ⟨kcX11_meets, knX11, by decide, by decide, by decide +kernel, by decide⟩
theorem kvL_117 : KV RL 117 mX11_meets 1 11 := ⟨ckX11_meets, kmL_117, kiX11_meets, ksX11_meets, ⟨TX11, rfl⟩⟩
theorem ckX12_meets : CK mX12_meets 1 := ⟨kcX12_meets, knX12, by decide, by decide, by decide +kernel, by decide⟩
theorem kvL_120 : KV RL 120 mX12_meets 1 12 := ⟨ckX12_meets, kmL_120, kiX12_meets, ksX12_meets, ⟨TX12, rfl⟩⟩
theorem ckX11_doubts : CK mX11_doubts 2 := ⟨kcX11_doubts, knX11, by decide, by decide, by decide +kernel, by decide⟩
theorem kvL_121 : KV RL 121 mX11_doubts 2 11 := ⟨ckX11_doubts, kmL_121, kiX11_doubts, ksX11_doubts, ⟨TX11, rfl⟩⟩
theorem ckX12_doubts : CK mX12_doubts 2 := ⟨kcX12_doubts, knX12, by decide, by decide, by decide +kernel, by decide⟩
theorem kvL_124 : KV RL 124 mX12_doubts 2 12 := ⟨ckX12_doubts, kmL_124, kiX12_doubts, ksX12_doubts, ⟨TX12, rfl⟩⟩
theorem ckX11_watch : CK mX11_watch 1 := ⟨kcX11_watch, knX11, by decide, by decide, by decide +kernel, by decide⟩
theorem kvL_125 : KV RL 125 mX11_watch 1 11 := ⟨ckX11_watch, kmL_125, kiX11_watch, ksX11_watch, ⟨TX11, rfl⟩⟩
theorem ckX12_watch : CK mX12_watch 1 := ⟨kcX12_watch, knX12, by decide, by decide, by decide +kernel, by decide⟩
theorem kvL_128 : KV RL 128 mX12_watch 1 12 := ⟨ckX12_watch, kmL_128, kiX12_watch, ksX12_watch, ⟨TX12, rfl⟩⟩
theorem ckX11_hidden : CK mX11_hidden 0 := ⟨kcX11_hidden, knX11, by decide, by decide, by decide +kernel, by decide⟩
theorem kvL_129 : KV RL 129 mX11_hidden 0 11 := ⟨ckX11_hidden, kmL_129, kiX11_hidden, ksX11_hidden, ⟨TX11, rfl⟩⟩
theorem ckX12_hidden : CK mX12_hidden 0 := ⟨kcX12_hidden, knX12, by decide, by decide, by decide +kernel, by decide⟩
theorem kvL_132 : KV RL 132 mX12_hidden 0 12 := ⟨ckX12_hidden, kmL_132, kiX12_hidden, ksX12_hidden, ⟨TX12, rfl⟩⟩
theorem ckX11_glaze : CK mX11_glaze 3 := ⟨kcX11_glaze, knX11, by decide, by decide, by decide +kernel, by decide⟩
theorem kvL_133 : KV RL 133 mX11_glaze 3 11 := ⟨ckX11_glaze, kmL_133, kiX11_glaze, ksX11_glaze, ⟨TX11, rfl⟩⟩
theorem ckX12_glaze : CK mX12_glaze 3 := ⟨kcX12_glaze, knX12, by decide, by decide, by decide +kernel, by decide⟩
theorem kvL_136 : KV RL 136 mX12_glaze 3 12 := ⟨ckX12_glaze, kmL_136, kiX12_glaze, ksX12_glaze, ⟨TX12, rfl⟩⟩
theorem ckX11_best : CK mX11_best 1 := ⟨kcX11_best, knX11, by decide, by decide, by decide +kernel, by decide⟩
theorem kvL_137 : KV RL 137 mX11_best 1 11 := ⟨ckX11_best, kmL_137, kiX11_best, ksX11_best, ⟨TX11, rfl⟩⟩
theorem ckX12_best : CK mX12_best 1 := ⟨kcX12_best, knX12, by decide, by decide, by decide +kernel, by decide⟩
theorem kvL_140 : KV RL 140 mX12_best 1 12 := ⟨ckX12_best, kmL_140, kiX12_best, ksX12_best, ⟨TX12, rfl⟩⟩
theorem ckX11_adds : CK mX11_adds 1 := ⟨kcX11_adds, knX11, by decide, by decide, by decide +kernel, by decide⟩
theorem kvL_141 : KV RL 141 mX11_adds 1 11 := ⟨ckX11_adds, kmL_141, kiX11_adds, ksX11_adds, ⟨TX11, rfl⟩⟩
theorem ckX12_adds : CK mX12_adds 1 := ⟨kcX12_adds, knX12, by decide, by decide, by decide +kernel, by decide⟩
theorem kvL_144 : KV RL 144 mX12_adds 1 12 := ⟨ckX12_adds, kmL_144, kiX12_adds, ksX12_adds, ⟨TX12, rfl⟩⟩
theorem ckX11_steals : CK mX11_steals 4 := ⟨kcX11_steals, knX11, by decide, by decide, by decide +kernel, by decide⟩
theorem kvL_145 : KV RL 145 mX11_steals 4 11 := ⟨ckX11_steals, kmL_145, kiX11_steals, ksX11_steals, ⟨TX11, rfl⟩⟩
theorem ckX12_steals : CK mX12_steals 4 := ⟨kcX12_steals, knX12, by decide, by decide, by decide +kernel, by decide⟩
theorem kvL_148 : KV RL 148 mX12_steals 4 12 := ⟨ckX12_steals, kmL_148, kiX12_steals, ksX12_steals, ⟨TX12, rfl⟩⟩
theorem ckX11_slips : CK mX11_slips 4 := ⟨kcX11_slips, knX11, by decide, by decide, by decide +kernel, by decide⟩
theorem kvL_149 : KV RL 149 mX11_slips 4 11 := ⟨ckX11_slips, kmL_149, kiX11_slips, ksX11_slips, ⟨TX11, rfl⟩⟩
theorem ckX12_slips : CK mX12_slips 4 := ⟨kcX12_slips, knX12, by decide, by decide, by decide +kernel, by decide⟩
theorem kvL_152 : KV RL 152 mX12_slips 4 12 := ⟨ckX12_slips, kmL_152, kiX12_slips, ksX12_slips, ⟨TX12, rfl⟩⟩
theorem ckX11_dark : CK mX11_dark 2 := ⟨kcX11_dark, knX11, by decide, by decide, by decide +kernel, by decide⟩
theorem kvL_153 : KV RL 153 mX11_dark 2 11 := ⟨ckX11_dark, kmL_153, kiX11_dark, ksX11_dark, ⟨TX11, rfl⟩⟩
theorem ckX12_dark : CK mX12_dark 2 := ⟨kcX12_dark, knX12, by decide, by decide, by decide +kernel, by decide⟩
theorem kvL_157 : KV RL 157 mX12_dark 2 12 := ⟨ckX12_dark, kmL_157, kiX12_dark, ksX12_dark, ⟨TX12, rfl⟩⟩
theorem ckX11_watched : CK mX11_watched 3 := ⟨kcX11_watched, knX11, by decide, by decide, by decide +kernel, by decide⟩
theorem kvL_158 : KV RL 158 mX11_watched 3 11 := ⟨ckX11_watched, kmL_158, kiX11_watched, ksX11_watched, ⟨TX11, rfl⟩⟩
theorem ckX12_watched : CK mX12_watched 3 := ⟨kcX12_watched, knX12, by decide, by decide, by decide +kernel, by decide⟩
theorem kvL_161 : KV RL 161 mX12_watched 3 12 := ⟨ckX12_watched, kmL_161, kiX12_watched, ksX12_watched, ⟨TX12, rfl⟩⟩
theorem ckX11_forget : CK mX11_forget 0 := ⟨kcX11_forget, knX11, by decide, by decide, by decide +kernel, by decide⟩
theorem kvL_162 : KV RL 162 mX11_forget 0 11 := ⟨ckX11_forget, kmL_162, kiX11_forget, ksX11_forget, ⟨TX11, rfl⟩⟩
theorem ckX12_forget : CK mX12_forget 0 := ⟨kcX12_forget, knX12, by decide, by decide, by decide +kernel, by decide⟩
theorem kvL_165 : KV RL 165 mX12_forget 0 12 := ⟨ckX12_forget, kmL_165, kiX12_forget, ksX12_forget, ⟨TX12, rfl⟩⟩
theorem ckX11_laws : CK mX11_laws 0 := ⟨kcX11_laws, knX11, by decide, by decide, by decide +kernel, by decide⟩
theorem kvL_166 : KV RL 166 mX11_laws 0 11 := ⟨ckX11_laws, kmL_166, kiX11_laws, ksX11_laws, ⟨TX11, rfl⟩⟩
theorem ckX12_laws : CK mX12_laws 0 := ⟨kcX12_laws, knX12, by decide, by decide, by decide +kernel, by decide⟩
theorem kvL_169 : KV RL 169 mX12_laws 0 12 := ⟨ckX12_laws, kmL_169, kiX12_laws, ksX12_laws, ⟨TX12, rfl⟩⟩
theorem ckX11_next : CK mX11_next 0 := ⟨kcX11_next, knX11, by decide, by decide, by decide +kernel, by decide⟩
theorem kvL_170 : KV RL 170 mX11_next 0 11 := ⟨ckX11_next, kmL_170, kiX11_next, ksX11_next, ⟨TX11, rfl⟩⟩
theorem ckX12_next : CK mX12_next 0 := ⟨kcX12_next, knX12, by decide, by decide, by decide +kernel, by decide⟩
theorem kvL_173 : KV RL 173 mX12_next 0 12 := ⟨ckX12_next, kmL_173, kiX12_next, ksX12_next, ⟨TX12, rfl⟩⟩
theorem ckX11_fits : CK mX11_fits 0 := ⟨kcX11_fits, knX11, by decide, by decide, by decide +kernel, by decide⟩
theorem kvL_174 : KV RL 174 mX11_fits 0 11 := ⟨ckX11_fits, kmL_174, kiX11_fits, ksX11_fits, ⟨TX11, rfl⟩⟩
theorem ckX12_fits : CK mX12_fits 0 := ⟨kcX12_fits, knX12, by decide, by decide, by decide +kernel, by decide⟩
theorem kvL_177 : KV RL 177 mX12_fits 0 12 := ⟨ckX12_fits, kmL_177, kiX12_fits, ksX12_fits, ⟨TX12, rfl⟩⟩
theorem ckX11_claims : CK mX11_claims 0 := ⟨kcX11_claims, knX11, by decide, by decide, by decide +kernel, by decide⟩
theorem kvL_178 : KV RL 178 mX11_claims 0 11 := ⟨ckX11_claims, kmL_178, kiX11_claims, ksX11_claims, ⟨TX11, rfl⟩⟩
theorem ckX12_claims : CK mX12_claims 0 := ⟨kcX12_claims, knX12, by decide, by decide, by decide +kernel, by decide⟩
theorem kvL_181 : KV RL 181 mX12_claims 0 12 := ⟨ckX12_claims, kmL_181, kiX12_claims, ksX12_claims, ⟨TX12, rfl⟩⟩
theorem ckX11_balls : CK mX11_balls 3 := ⟨kcX11_balls, knX11, by decide, by decide, by decide +kernel, by decide⟩
theorem kvL_182 : KV RL 182 mX11_balls 3 11 := ⟨ckX11_balls, kmL_182, kiX11_balls, ksX11_balls, ⟨TX11, rfl⟩⟩
theorem ckX12_balls : CK mX12_balls 3 := ⟨kcX12_balls, knX12, by decide, by decide, by decide +kernel, by decide⟩
theorem kvL_185 : KV RL 185 mX12_balls 3 12 := ⟨ckX12_balls, kmL_185, kiX12_balls, ksX12_balls, ⟨TX12, rfl⟩⟩
theorem ckX11_law : CK mX11_law 0 := ⟨kcX11_law, knX11, by decide, by decide, by decide +kernel, by decide⟩
theorem kvL_186 : KV RL 186 mX11_law 0 11 := ⟨ckX11_law, kmL_186, kiX11_law, ksX11_law, ⟨TX11, rfl⟩⟩
theorem ckX12_law : CK mX12_law 0 := ⟨kcX12_law, knX12, by decide, by decide, by decide +kernel, by decide⟩
theorem kvL_189 : KV RL 189 mX12_law 0 12 := ⟨ckX12_law, kmL_189, kiX12_law, ksX12_law, ⟨TX12, rfl⟩⟩
theorem ckX11_rests : CK mX11_rests 1 := ⟨kcX11_rests, knX11, by decide, by decide, by decide +kernel, by decide⟩
theorem kvL_190 : KV RL 190 mX11_rests 1 11 := ⟨ckX11_rests, kmL_190, kiX11_rests, ksX11_rests, ⟨TX11, rfl⟩⟩
theorem ckX12_rests : CK mX12_rests 1 := ⟨kcX12_rests, knX12, by decide, by decide, by decide +kernel, by decide⟩
theorem kvL_193 : KV RL 193 mX12_rests 1 12 := ⟨ckX12_rests, kmL_193, kiX12_rests, ksX12_rests, ⟨TX12, rfl⟩⟩
theorem ckX11_years : CK mX11_years 2 := ⟨kcX11_years, knX11, by decide, by decide, by decide +kernel, by decide⟩
theorem kvL_194 : KV RL 194 mX11_years 2 11 := ⟨ckX11_years, kmL_194, kiX11_years, ksX11_years, ⟨TX11, rfl⟩⟩
theorem ckX12_years : CK mX12_years 2 := ⟨kcX12_years, knX12, by decide, by decide, by decide +kernel, by decide⟩
theorem kvL_197 : KV RL 197 mX12_years 2 12 := ⟨ckX12_years, kmL_197, kiX12_years, ksX12_years, ⟨TX12, rfl⟩⟩
theorem ckX11_keep : CK mX11_keep 1 := ⟨kcX11_keep, knX11, by decide, by decide, by decide +kernel, by decide⟩
theorem kvL_198 : KV RL 198 mX11_keep 1 11 := ⟨ckX11_keep, kmL_198, kiX11_keep, ksX11_keep, ⟨TX11, rfl⟩⟩
theorem ckX12_keep : CK mX12_keep 1 := ⟨kcX12_keep, knX12, by decide, by decide, by decide +kernel, by decide⟩
theorem kvL_201 : KV RL 201 mX12_keep 1 12 := ⟨ckX12_keep, kmL_201, kiX12_keep, ksX12_keep, ⟨TX12, rfl⟩⟩
theorem ckX11_again : CK mX11_again 1 := ⟨kcX11_again, knX11, by decide, by decide, by decide +kernel, by decide⟩
theorem kvL_202 : KV RL 202 mX11_again 1 11 := ⟨ckX11_again, kmL_202, kiX11_again, ksX11_again, ⟨TX11, rfl⟩⟩
theorem ckX12_again : CK mX12_again 1 := ⟨kcX12_again, knX12, by decide, by decide, by decide +kernel, by decide⟩
theorem kvL_205 : KV RL 205 mX12_again 1 12 := ⟨ckX12_again, kmL_205, kiX12_again, ksX12_again, ⟨TX12, rfl⟩⟩
theorem ckX11_count : CK mX11_count 1 := ⟨kcX11_count, knX11, by decide, by decide, by decide +kernel, by decide⟩
theorem kvL_206 : KV RL 206 mX11_count 1 11 := ⟨ckX11_count, kmL_206, kiX11_count, ksX11_count, ⟨TX11, rfl⟩⟩
theorem ckX12_count : CK mX12_count 1 := ⟨kcX12_count, knX12, by decide, by decide, by decide +kernel, by decide⟩
theorem kvL_209 : KV RL 209 mX12_count 1 12 := ⟨ckX12_count, kmL_209, kiX12_count, ksX12_count, ⟨TX12, rfl⟩⟩
theorem ckX12_row : CK mX12_row 1 := ⟨kcX12_row, knX12, by decide, by decide, by decide +kernel, by decide⟩
theorem kvL_213 : KV RL 213 mX12_row 1 12 := ⟨ckX12_row, kmL_213, kiX12_row, ksX12_row, ⟨TX12, rfl⟩⟩
theorem kwL_thing : Cond.codeWith yL_thing cL_thing 5 (some .int) [(0, 10, 13, 13)] ∈ TB := in_tbk in_t5 123 rfl rfl
theorem ktL_thing : Cond.static yL_thing ∈ TB := in_tbk in_t5 122 rfl rfl
theorem kwL_pane : Cond.codeWith yL_pane cL_pane 5 (some .int) [(0, 10, 13, 13)] ∈ TB := in_tbk in_t5 196 rfl rfl
theorem ktL_pane : Cond.static yL_pane ∈ TB := in_tbk in_t5 195 rfl rfl
theorem kwL_room : Cond.codeWith yL_room cL_room 5 (some .int) [(0, 10, 13, 13)] ∈ TB := in_tbk in_t5 203 rfl rfl
theorem ktL_room : Cond.static yL_room ∈ TB := in_tbk in_t5 202 rfl rfl
theorem kwL_row : Cond.codeWith yL_row cL_row 4 (some .int) [(0, 8, 11, 13)] ∈ TB := in_tbk in_t5 210 rfl rfl
theorem ktL_row : Cond.static yL_row ∈ TB := in_tbk in_t5 209 rfl rfl
theorem lg_same (x : Int64) : lg_cmp x x = 0 := by
  unfold lg_cmp
  simp
theorem dE_1603 : decode code 1603 = .ok (.ireturn, 1) := by decide +kernel
def St_0 (Inv : Nat → US → Prop) : Prop := ∀ (n : Nat) (a1 : Int32) (u : US), n ≤ 4000 → Inv n u → ∃ (r : Int32) (u1 u2 : US), fX11_sign a1 u = some (r, u1) ∧ fX12_sign a1 u1 = some (r, u2) ∧ Inv (n + 1) u2
def St_1 (Inv : Nat → US → Prop) : Prop := ∀ (n : Nat) (a1 : Int32) (u : US), n ≤ 4000 → Inv n u → ∃ (r : Int32) (u1 u2 : US), fX11_end a1 u = some (r, u1) ∧ fX12_end a1 u1 = some (r, u2) ∧ Inv (n + 1) u2
def St_2 (Inv : Nat → US → Prop) : Prop := ∀ (n : Nat) (u : US), n ≤ 4000 → Inv n u → ∃ (r : Int32) (u1 u2 : US), fX11_square u = some (r, u1) ∧ fX12_square u1 = some (r, u2) ∧ Inv (n + 1) u2
def St_3 (Inv : Nat → US → Prop) : Prop := ∀ (n : Nat) (u : US), n ≤ 4000 → Inv n u → ∃ (r : Int32) (u1 u2 : US), fX11_things u = some (r, u1) ∧ fX12_things u1 = some (r, u2) ∧ Inv (n + 1) u2
def St_4 (Inv : Nat → US → Prop) : Prop := ∀ (n : Nat) (u : US), n ≤ 4000 → Inv n u → ∃ (r : Int32) (u1 u2 : US), fX11_panes u = some (r, u1) ∧ fX12_panes u1 = some (r, u2) ∧ Inv (n + 1) u2
def St_5 (Inv : Nat → US → Prop) : Prop := ∀ (n : Nat) (u : US), n ≤ 4000 → Inv n u → ∃ (r : Int32) (u1 u2 : US), fX11_rooms u = some (r, u1) ∧ fX12_rooms u1 = some (r, u2) ∧ Inv (n + 1) u2
def St_6 (Inv : Nat → US → Prop) : Prop := ∀ (n : Nat) (u : US), n ≤ 4000 → Inv n u → ∃ (r : Int32) (u1 u2 : US), fX11_rule u = some (r, u1) ∧ fX12_rule u1 = some (r, u2) ∧ Inv (n + 1) u2
def St_7 (Inv : Nat → US → Prop) : Prop := ∀ (n : Nat) (a1 a2 : Int32) (u : US), n ≤ 4000 → Inv n u → ∃ (ro : Option Int32) (u1 : US) (b : Int32) (u2 : US) (tt : Int32) (u3 : US), fX11_thing a1 a2 u = some (ro, u1) ∧ fX12_thing a1 a2 (wLi (ro, u1)).2 = some (b, u2) ∧ fX12_thrown u2 = some (tt, u3) ∧ tt = (wLi (ro, u1)).1 ∧ (∀ v, ro = some v → gJ u3 85 0 = b.toInt64) ∧ Inv (n + 1) u3
def St_8 (Inv : Nat → US → Prop) : Prop := ∀ (n : Nat) (a1 a2 : Int32) (u : US), n ≤ 4000 → Inv n u → ∃ (ro : Option Int32) (u1 : US) (b : Int32) (u2 : US) (tt : Int32) (u3 : US), fX11_pane a1 a2 u = some (ro, u1) ∧ fX12_pane a1 a2 (wLi (ro, u1)).2 = some (b, u2) ∧ fX12_thrown u2 = some (tt, u3) ∧ tt = (wLi (ro, u1)).1 ∧ (∀ v, ro = some v → gJ u3 85 0 = b.toInt64) ∧ Inv (n + 1) u3
def St_9 (Inv : Nat → US → Prop) : Prop := ∀ (n : Nat) (a1 a2 : Int32) (u : US), n ≤ 4000 → Inv n u → ∃ (ro : Option Int32) (u1 : US) (b : Int32) (u2 : US) (tt : Int32) (u3 : US), fX11_room a1 a2 u = some (ro, u1) ∧ fX12_room a1 a2 (wLi (ro, u1)).2 = some (b, u2) ∧ fX12_thrown u2 = some (tt, u3) ∧ tt = (wLi (ro, u1)).1 ∧ (∀ v, ro = some v → gJ u3 85 0 = b.toInt64) ∧ Inv (n + 1) u3
def St_10 (Inv : Nat → US → Prop) : Prop := ∀ (n : Nat) (a1 a2 a3 a4 : Int32) (u : US), n ≤ 4000 → Inv n u → ∃ (r : Int32) (u1 u2 : US), fX11_sheet a1 a2 a3 a4 u = some (r, u1) ∧ fX12_sheet a1 a2 a3 a4 u1 = some (r, u2) ∧ Inv (n + 1) u2
def St_11 (Inv : Nat → US → Prop) : Prop := ∀ (n : Nat) (a1 a2 : Int32) (u : US), n ≤ 4000 → Inv n u → ∃ (r : Int32) (u1 u2 : US), fX11_hang a1 a2 u = some (r, u1) ∧ fX12_hang a1 a2 u1 = some (r, u2) ∧ Inv (n + 1) u2
def St_12 (Inv : Nat → US → Prop) : Prop := ∀ (n : Nat) (a1 : Int32) (u : US), n ≤ 4000 → Inv n u → ∃ (r : Int32) (u1 u2 : US), fX11_takes a1 u = some (r, u1) ∧ fX12_takes a1 u1 = some (r, u2) ∧ Inv (n + 1) u2
def St_13 (Inv : Nat → US → Prop) : Prop := ∀ (n : Nat) (a1 : Int32) (u : US), n ≤ 4000 → Inv n u → ∃ (r : Int32) (u1 u2 : US), fX11_ball a1 u = some (r, u1) ∧ fX12_ball a1 u1 = some (r, u2) ∧ Inv (n + 1) u2
def St_14 (Inv : Nat → US → Prop) : Prop := ∀ (n : Nat) (a1 a2 a3 : Int32) (u : US), n ≤ 4000 → Inv n u → ∃ (r : Int32) (u1 u2 : US), fX11_carry a1 a2 a3 u = some (r, u1) ∧ fX12_carry a1 a2 a3 u1 = some (r, u2) ∧ Inv (n + 1) u2
def St_15 (Inv : Nat → US → Prop) : Prop := ∀ (n : Nat) (a1 : Int32) (u : US), n ≤ 4000 → Inv n u → ∃ (r : Int32) (u1 u2 : US), fX11_hours a1 u = some (r, u1) ∧ fX12_hours a1 u1 = some (r, u2) ∧ Inv (n + 1) u2
def St_16 (Inv : Nat → US → Prop) : Prop := ∀ (n : Nat) (u : US), n ≤ 4000 → Inv n u → ∃ (r : Int32) (u1 u2 : US), fX11_day u = some (r, u1) ∧ fX12_day u1 = some (r, u2) ∧ Inv (n + 1) u2
def St_17 (Inv : Nat → US → Prop) : Prop := ∀ (n : Nat) (u : US), n ≤ 4000 → Inv n u → ∃ (r : Int32) (u1 u2 : US), fX11_undo u = some (r, u1) ∧ fX12_undo u1 = some (r, u2) ∧ Inv (n + 1) u2
def St_18 (Inv : Nat → US → Prop) : Prop := ∀ (n : Nat) (a1 a2 : Int32) (u : US), n ≤ 4000 → Inv n u → ∃ (r : Int32) (u1 u2 : US), fX11_ahead a1 a2 u = some (r, u1) ∧ fX12_ahead a1 a2 u1 = some (r, u2) ∧ Inv (n + 1) u2
def St_19 (Inv : Nat → US → Prop) : Prop := ∀ (n : Nat) (a1 a2 : Int32) (u : US), n ≤ 4000 → Inv n u → ∃ (r : Int32) (u1 u2 : US), fX11_first a1 a2 u = some (r, u1) ∧ fX12_first a1 a2 u1 = some (r, u2) ∧ Inv (n + 1) u2
def St_20 (Inv : Nat → US → Prop) : Prop := ∀ (n : Nat) (a1 : Int32) (u : US), n ≤ 4000 → Inv n u → ∃ (r : Int32) (u1 u2 : US), fX11_meets a1 u = some (r, u1) ∧ fX12_meets a1 u1 = some (r, u2) ∧ Inv (n + 1) u2
def St_21 (Inv : Nat → US → Prop) : Prop := ∀ (n : Nat) (a1 a2 : Int32) (u : US), n ≤ 4000 → Inv n u → ∃ (r : Int32) (u1 u2 : US), fX11_doubts a1 a2 u = some (r, u1) ∧ fX12_doubts a1 a2 u1 = some (r, u2) ∧ Inv (n + 1) u2
def St_22 (Inv : Nat → US → Prop) : Prop := ∀ (n : Nat) (a1 : Int32) (u : US), n ≤ 4000 → Inv n u → ∃ (r : Int32) (u1 u2 : US), fX11_watch a1 u = some (r, u1) ∧ fX12_watch a1 u1 = some (r, u2) ∧ Inv (n + 1) u2
def St_23 (Inv : Nat → US → Prop) : Prop := ∀ (n : Nat) (u : US), n ≤ 4000 → Inv n u → ∃ (r : Int32) (u1 u2 : US), fX11_hidden u = some (r, u1) ∧ fX12_hidden u1 = some (r, u2) ∧ Inv (n + 1) u2
def St_24 (Inv : Nat → US → Prop) : Prop := ∀ (n : Nat) (a1 a2 a3 : Int32) (u : US), n ≤ 4000 → Inv n u → ∃ (r : Int32) (u1 u2 : US), fX11_glaze a1 a2 a3 u = some (r, u1) ∧ fX12_glaze a1 a2 a3 u1 = some (r, u2) ∧ Inv (n + 1) u2
def St_25 (Inv : Nat → US → Prop) : Prop := ∀ (n : Nat) (a1 : Int32) (u : US), n ≤ 4000 → Inv n u → ∃ (r : Int32) (u1 u2 : US), fX11_best a1 u = some (r, u1) ∧ fX12_best a1 u1 = some (r, u2) ∧ Inv (n + 1) u2
def St_26 (Inv : Nat → US → Prop) : Prop := ∀ (n : Nat) (a1 : Int32) (u : US), n ≤ 4000 → Inv n u → ∃ (r : Int32) (u1 u2 : US), fX11_adds a1 u = some (r, u1) ∧ fX12_adds a1 u1 = some (r, u2) ∧ Inv (n + 1) u2
def St_27 (Inv : Nat → US → Prop) : Prop := ∀ (n : Nat) (a1 a2 a3 a4 : Int32) (u : US), n ≤ 4000 → Inv n u → ∃ (r : Int32) (u1 u2 : US), fX11_steals a1 a2 a3 a4 u = some (r, u1) ∧ fX12_steals a1 a2 a3 a4 u1 = some (r, u2) ∧ Inv (n + 1) u2
def St_28 (Inv : Nat → US → Prop) : Prop := ∀ (n : Nat) (a1 a2 a3 a4 : Int32) (u : US), n ≤ 4000 → Inv n u → ∃ (r : Int32) (u1 u2 : US), fX11_slips a1 a2 a3 a4 u = some (r, u1) ∧ fX12_slips a1 a2 a3 a4 u1 = some (r, u2) ∧ Inv (n + 1) u2
def St_29 (Inv : Nat → US → Prop) : Prop := ∀ (n : Nat) (a1 a2 : Int32) (u : US), n ≤ 4000 → Inv n u → ∃ (r : Int64) (u1 u2 : US), fX11_dark a1 a2 u = some (r, u1) ∧ fX12_dark a1 a2 u1 = some (r, u2) ∧ Inv (n + 1) u2
def St_30 (Inv : Nat → US → Prop) : Prop := ∀ (n : Nat) (a1 a2 a3 : Int32) (u : US), n ≤ 4000 → Inv n u → ∃ (r : Int32) (u1 u2 : US), fX11_watched a1 a2 a3 u = some (r, u1) ∧ fX12_watched a1 a2 a3 u1 = some (r, u2) ∧ Inv (n + 1) u2
def St_31 (Inv : Nat → US → Prop) : Prop := ∀ (n : Nat) (u : US), n ≤ 4000 → Inv n u → ∃ (r : Int32) (u1 u2 : US), fX11_forget u = some (r, u1) ∧ fX12_forget u1 = some (r, u2) ∧ Inv (n + 1) u2
def St_32 (Inv : Nat → US → Prop) : Prop := ∀ (n : Nat) (u : US), n ≤ 4000 → Inv n u → ∃ (r : Int32) (u1 u2 : US), fX11_laws u = some (r, u1) ∧ fX12_laws u1 = some (r, u2) ∧ Inv (n + 1) u2
def St_33 (Inv : Nat → US → Prop) : Prop := ∀ (n : Nat) (u : US), n ≤ 4000 → Inv n u → ∃ (r : Int32) (u1 u2 : US), fX11_next u = some (r, u1) ∧ fX12_next u1 = some (r, u2) ∧ Inv (n + 1) u2
def St_34 (Inv : Nat → US → Prop) : Prop := ∀ (n : Nat) (u : US), n ≤ 4000 → Inv n u → ∃ (r : Int32) (u1 u2 : US), fX11_fits u = some (r, u1) ∧ fX12_fits u1 = some (r, u2) ∧ Inv (n + 1) u2
def St_35 (Inv : Nat → US → Prop) : Prop := ∀ (n : Nat) (u : US), n ≤ 4000 → Inv n u → ∃ (r : Int32) (u1 u2 : US), fX11_claims u = some (r, u1) ∧ fX12_claims u1 = some (r, u2) ∧ Inv (n + 1) u2
def St_36 (Inv : Nat → US → Prop) : Prop := ∀ (n : Nat) (a1 a2 a3 : Int32) (u : US), n ≤ 4000 → Inv n u → ∃ (r : Int32) (u1 u2 : US), fX11_balls a1 a2 a3 u = some (r, u1) ∧ fX12_balls a1 a2 a3 u1 = some (r, u2) ∧ Inv (n + 1) u2
def St_37 (Inv : Nat → US → Prop) : Prop := ∀ (n : Nat) (u : US), n ≤ 4000 → Inv n u → ∃ (r : Int32) (u1 u2 : US), fX11_law u = some (r, u1) ∧ fX12_law u1 = some (r, u2) ∧ Inv (n + 1) u2
def St_38 (Inv : Nat → US → Prop) : Prop := ∀ (n : Nat) (a1 : Int32) (u : US), n ≤ 4000 → Inv n u → ∃ (r : Int32) (u1 u2 : US), fX11_rests a1 u = some (r, u1) ∧ fX12_rests a1 u1 = some (r, u2) ∧ Inv (n + 1) u2
def St_39 (Inv : Nat → US → Prop) : Prop := ∀ (n : Nat) (a1 a2 : Int32) (u : US), n ≤ 4000 → Inv n u → ∃ (r : Int32) (u1 u2 : US), fX11_years a1 a2 u = some (r, u1) ∧ fX12_years a1 a2 u1 = some (r, u2) ∧ Inv (n + 1) u2
def St_40 (Inv : Nat → US → Prop) : Prop := ∀ (n : Nat) (a1 : Int32) (u : US), n ≤ 4000 → Inv n u → ∃ (r : Int32) (u1 u2 : US), fX11_keep a1 u = some (r, u1) ∧ fX12_keep a1 u1 = some (r, u2) ∧ Inv (n + 1) u2
def St_41 (Inv : Nat → US → Prop) : Prop := ∀ (n : Nat) (a1 : Int32) (u : US), n ≤ 4000 → Inv n u → ∃ (r : Int32) (u1 u2 : US), fX11_again a1 u = some (r, u1) ∧ fX12_again a1 u1 = some (r, u2) ∧ Inv (n + 1) u2
def St_42 (Inv : Nat → US → Prop) : Prop := ∀ (n : Nat) (a1 : Int32) (u : US), n ≤ 4000 → Inv n u → ∃ (r : Int32) (u1 u2 : US), fX11_count a1 u = some (r, u1) ∧ fX12_count a1 u1 = some (r, u2) ∧ Inv (n + 1) u2
def St_43 (Inv : Nat → US → Prop) : Prop := ∀ (n : Nat) (a1 : Int32) (u : US), n ≤ 4000 → Inv n u → ∃ (ro : Option Int64) (u1 : US) (b : Int64) (u2 : US) (tt : Int32) (u3 : US), fX11_row a1 u = some (ro, u1) ∧ fX12_row a1 (wLl (ro, u1)).2 = some (b, u2) ∧ fX12_thrown u2 = some (tt, u3) ∧ tt = (wLl (ro, u1)).1 ∧ (∀ v, ro = some v → gJ u3 85 0 = b) ∧ Inv (n + 1) u3
def ALL (Inv : Nat → US → Prop) : Prop := (∀ n u, Inv n u → Inv (n + 1) u) ∧ St_0 Inv ∧ St_1 Inv ∧ St_2 Inv ∧ St_3 Inv ∧ St_4 Inv ∧ St_5 Inv ∧ St_6 Inv ∧ St_7 Inv ∧ St_8 Inv ∧ St_9 Inv ∧ St_10 Inv ∧ St_11 Inv ∧ St_12 Inv ∧ St_13 Inv ∧ St_14 Inv ∧ St_15 Inv ∧ St_16 Inv ∧ St_17 Inv ∧ St_18 Inv ∧ St_19 Inv ∧ St_20 Inv ∧ St_21 Inv ∧ St_22 Inv ∧ St_23 Inv ∧ St_24 Inv ∧ St_25 Inv ∧ St_26 Inv ∧ St_27 Inv ∧ St_28 Inv ∧ St_29 Inv ∧ St_30 Inv ∧ St_31 Inv ∧ St_32 Inv ∧ St_33 Inv ∧ St_34 Inv ∧ St_35 Inv ∧ St_36 Inv ∧ St_37 Inv ∧ St_38 Inv ∧ St_39 Inv ∧ St_40 Inv ∧ St_41 Inv ∧ St_42 Inv ∧ St_43 Inv
set_option maxRecDepth 20000 in
theorem law_c0 {Inv : Nat → US → Prop} (hS : St_0 Inv) {n : Nat} (hn : n ≤ 4000) {L : Nat} {xs : Nat → Int32} {cl sl : Nat} {I : Int32} (h1 : vp_in (I + 1) L) (h2 : vp_in (I + 2) L) (h3 : vp_in (I + 3) L) (h4 : vp_in (I + 4) L) (hcl : cl ≤ 6000) (hsl : sl ≤ 100000) (hnext : ∀ (u : US) (cl2 sl2 : Nat), Inv (n + 1) u → cl2 ≤ cl + 1 → sl2 ≤ sl + 6 → SimL L xs cl2 sl2 1596 [some (.ref 130), some (.ref 0), some (.ref 47), some (.ref 85), some (.int I), none, none, none] [] u) (u : US) (hI : Inv n u) : SimL L xs cl sl 228 [some (.ref 130), some (.ref 0), some (.ref 47), some (.ref 85), some (.int I), none, none, none] [] u := by
  obtain ⟨r, u1, u2, e1, e2, hInv⟩ := hS n (xs (I + 1).toNatClampNeg) u hn hI
  refine r_aload_n dL_law_228 rfl ?_
  refine r_aload_n dL_law_229 rfl ?_
  refine r_iload dL_law_230 rfl ?_
  refine r_iconst dL_law_232 (v := 1) rfl ?_
  refine r_iadd dL_law_233 ?_
  refine q_sld h1 dL_law_234 ?_
  refine g_callV (As := [.int (xs (I + 1).toNatClampNeg)]) (res := (some (.int r), u1)) kvL_29 rfl (by decide) ⟨Nat.le_trans hcl (by decide), Nat.le_trans hsl (by decide)⟩ rfl (okX11_sign ((xs (I + 1).toNatClampNeg)) u (r, u1) e1) (Nat.le_of_ble_eq_true rfl) dL_law_235 rfl (fun _ => rfl) ?_
  refine r_aload_n dL_law_238 rfl ?_
  refine r_aload_n dL_law_239 rfl ?_
  refine r_iload dL_law_240 rfl ?_
  refine r_iconst dL_law_242 (v := 1) rfl ?_
  refine r_iadd dL_law_243 ?_
  refine q_sld h1 dL_law_244 ?_
  refine g_callV (As := [.int (xs (I + 1).toNatClampNeg)]) (res := (some (.int r), u2)) kvL_33 rfl (by decide) ⟨Nat.le_trans hcl (by decide), Nat.le_trans hsl (by decide)⟩ rfl (okX12_sign ((xs (I + 1).toNatClampNeg)) u1 (r, u2) e2) (Nat.le_of_ble_eq_true rfl) dL_law_245 rfl (fun _ => rfl) ?_
  refine b_icmp_eq dL_law_248 (tgt := 1596) rfl rfl ?_
  exact hnext u2 _ _ hInv (by omega) (by omega)
set_option maxRecDepth 20000 in
theorem law_c1 {Inv : Nat → US → Prop} (hS : St_1 Inv) {n : Nat} (hn : n ≤ 4000) {L : Nat} {xs : Nat → Int32} {cl sl : Nat} {I : Int32} (h1 : vp_in (I + 1) L) (h2 : vp_in (I + 2) L) (h3 : vp_in (I + 3) L) (h4 : vp_in (I + 4) L) (hcl : cl ≤ 6000) (hsl : sl ≤ 100000) (hnext : ∀ (u : US) (cl2 sl2 : Nat), Inv (n + 1) u → cl2 ≤ cl + 1 → sl2 ≤ sl + 6 → SimL L xs cl2 sl2 1596 [some (.ref 130), some (.ref 0), some (.ref 47), some (.ref 85), some (.int I), none, none, none] [] u) (u : US) (hI : Inv n u) : SimL L xs cl sl 253 [some (.ref 130), some (.ref 0), some (.ref 47), some (.ref 85), some (.int I), none, none, none] [] u := by
  obtain ⟨r, u1, u2, e1, e2, hInv⟩ := hS n (xs (I + 1).toNatClampNeg) u hn hI
  refine r_aload_n dL_law_253 rfl ?_
  refine r_aload_n dL_law_254 rfl ?_
  refine r_iload dL_law_255 rfl ?_
  refine r_iconst dL_law_257 (v := 1) rfl ?_
  refine r_iadd dL_law_258 ?_
  refine q_sld h1 dL_law_259 ?_
  refine g_callV (As := [.int (xs (I + 1).toNatClampNeg)]) (res := (some (.int r), u1)) kvL_34 rfl (by decide) ⟨Nat.le_trans hcl (by decide), Nat.le_trans hsl (by decide)⟩ rfl (okX11_end ((xs (I + 1).toNatClampNeg)) u (r, u1) e1) (Nat.le_of_ble_eq_true rfl) dL_law_260 rfl (fun _ => rfl) ?_
  refine r_aload_n dL_law_263 rfl ?_
  refine r_aload_n dL_law_264 rfl ?_
  refine r_iload dL_law_265 rfl ?_
  refine r_iconst dL_law_267 (v := 1) rfl ?_
  refine r_iadd dL_law_268 ?_
  refine q_sld h1 dL_law_269 ?_
  refine g_callV (As := [.int (xs (I + 1).toNatClampNeg)]) (res := (some (.int r), u2)) kvL_38 rfl (by decide) ⟨Nat.le_trans hcl (by decide), Nat.le_trans hsl (by decide)⟩ rfl (okX12_end ((xs (I + 1).toNatClampNeg)) u1 (r, u2) e2) (Nat.le_of_ble_eq_true rfl) dL_law_270 rfl (fun _ => rfl) ?_
  refine b_icmp_eq dL_law_273 (tgt := 1596) rfl rfl ?_
  exact hnext u2 _ _ hInv (by omega) (by omega)
set_option maxRecDepth 20000 in
theorem law_c2 {Inv : Nat → US → Prop} (hS : St_2 Inv) {n : Nat} (hn : n ≤ 4000) {L : Nat} {xs : Nat → Int32} {cl sl : Nat} {I : Int32} (h1 : vp_in (I + 1) L) (h2 : vp_in (I + 2) L) (h3 : vp_in (I + 3) L) (h4 : vp_in (I + 4) L) (hcl : cl ≤ 6000) (hsl : sl ≤ 100000) (hnext : ∀ (u : US) (cl2 sl2 : Nat), Inv (n + 1) u → cl2 ≤ cl + 1 → sl2 ≤ sl + 6 → SimL L xs cl2 sl2 1596 [some (.ref 130), some (.ref 0), some (.ref 47), some (.ref 85), some (.int I), none, none, none] [] u) (u : US) (hI : Inv n u) : SimL L xs cl sl 278 [some (.ref 130), some (.ref 0), some (.ref 47), some (.ref 85), some (.int I), none, none, none] [] u := by
  obtain ⟨r, u1, u2, e1, e2, hInv⟩ := hS n u hn hI
  refine r_aload_n dL_law_278 rfl ?_
  refine g_callV (As := []) (res := (some (.int r), u1)) kvL_39 rfl (by decide) ⟨Nat.le_trans hcl (by decide), Nat.le_trans hsl (by decide)⟩ rfl (okX11_square  u (r, u1) e1) (Nat.le_of_ble_eq_true rfl) dL_law_279 rfl (fun _ => rfl) ?_
  refine r_aload_n dL_law_282 rfl ?_
  refine g_callV (As := []) (res := (some (.int r), u2)) kvL_43 rfl (by decide) ⟨Nat.le_trans hcl (by decide), Nat.le_trans hsl (by decide)⟩ rfl (okX12_square  u1 (r, u2) e2) (Nat.le_of_ble_eq_true rfl) dL_law_283 rfl (fun _ => rfl) ?_
  refine b_icmp_eq dL_law_286 (tgt := 1596) rfl rfl ?_
  exact hnext u2 _ _ hInv (by omega) (by omega)
set_option maxRecDepth 20000 in
theorem law_c3 {Inv : Nat → US → Prop} (hS : St_3 Inv) {n : Nat} (hn : n ≤ 4000) {L : Nat} {xs : Nat → Int32} {cl sl : Nat} {I : Int32} (h1 : vp_in (I + 1) L) (h2 : vp_in (I + 2) L) (h3 : vp_in (I + 3) L) (h4 : vp_in (I + 4) L) (hcl : cl ≤ 6000) (hsl : sl ≤ 100000) (hnext : ∀ (u : US) (cl2 sl2 : Nat), Inv (n + 1) u → cl2 ≤ cl + 1 → sl2 ≤ sl + 6 → SimL L xs cl2 sl2 1596 [some (.ref 130), some (.ref 0), some (.ref 47), some (.ref 85), some (.int I), none, none, none] [] u) (u : US) (hI : Inv n u) : SimL L xs cl sl 291 [some (.ref 130), some (.ref 0), some (.ref 47), some (.ref 85), some (.int I), none, none, none] [] u := by
  obtain ⟨r, u1, u2, e1, e2, hInv⟩ := hS n u hn hI
  refine r_aload_n dL_law_291 rfl ?_
  refine g_callV (As := []) (res := (some (.int r), u1)) kvL_44 rfl (by decide) ⟨Nat.le_trans hcl (by decide), Nat.le_trans hsl (by decide)⟩ rfl (okX11_things  u (r, u1) e1) (Nat.le_of_ble_eq_true rfl) dL_law_292 rfl (fun _ => rfl) ?_
  refine r_aload_n dL_law_295 rfl ?_
  refine g_callV (As := []) (res := (some (.int r), u2)) kvL_47 rfl (by decide) ⟨Nat.le_trans hcl (by decide), Nat.le_trans hsl (by decide)⟩ rfl (okX12_things  u1 (r, u2) e2) (Nat.le_of_ble_eq_true rfl) dL_law_296 rfl (fun _ => rfl) ?_
  refine b_icmp_eq dL_law_299 (tgt := 1596) rfl rfl ?_
  exact hnext u2 _ _ hInv (by omega) (by omega)
set_option maxRecDepth 20000 in
theorem law_c4 {Inv : Nat → US → Prop} (hS : St_4 Inv) {n : Nat} (hn : n ≤ 4000) {L : Nat} {xs : Nat → Int32} {cl sl : Nat} {I : Int32} (h1 : vp_in (I + 1) L) (h2 : vp_in (I + 2) L) (h3 : vp_in (I + 3) L) (h4 : vp_in (I + 4) L) (hcl : cl ≤ 6000) (hsl : sl ≤ 100000) (hnext : ∀ (u : US) (cl2 sl2 : Nat), Inv (n + 1) u → cl2 ≤ cl + 1 → sl2 ≤ sl + 6 → SimL L xs cl2 sl2 1596 [some (.ref 130), some (.ref 0), some (.ref 47), some (.ref 85), some (.int I), none, none, none] [] u) (u : US) (hI : Inv n u) : SimL L xs cl sl 304 [some (.ref 130), some (.ref 0), some (.ref 47), some (.ref 85), some (.int I), none, none, none] [] u := by
  obtain ⟨r, u1, u2, e1, e2, hInv⟩ := hS n u hn hI
  refine r_aload_n dL_law_304 rfl ?_
  refine g_callV (As := []) (res := (some (.int r), u1)) kvL_48 rfl (by decide) ⟨Nat.le_trans hcl (by decide), Nat.le_trans hsl (by decide)⟩ rfl (okX11_panes  u (r, u1) e1) (Nat.le_of_ble_eq_true rfl) dL_law_305 rfl (fun _ => rfl) ?_
  refine r_aload_n dL_law_308 rfl ?_
  refine g_callV (As := []) (res := (some (.int r), u2)) kvL_51 rfl (by decide) ⟨Nat.le_trans hcl (by decide), Nat.le_trans hsl (by decide)⟩ rfl (okX12_panes  u1 (r, u2) e2) (Nat.le_of_ble_eq_true rfl) dL_law_309 rfl (fun _ => rfl) ?_
  refine b_icmp_eq dL_law_312 (tgt := 1596) rfl rfl ?_
  exact hnext u2 _ _ hInv (by omega) (by omega)
set_option maxRecDepth 20000 in
theorem law_c5 {Inv : Nat → US → Prop} (hS : St_5 Inv) {n : Nat} (hn : n ≤ 4000) {L : Nat} {xs : Nat → Int32} {cl sl : Nat} {I : Int32} (h1 : vp_in (I + 1) L) (h2 : vp_in (I + 2) L) (h3 : vp_in (I + 3) L) (h4 : vp_in (I + 4) L) (hcl : cl ≤ 6000) (hsl : sl ≤ 100000) (hnext : ∀ (u : US) (cl2 sl2 : Nat), Inv (n + 1) u → cl2 ≤ cl + 1 → sl2 ≤ sl + 6 → SimL L xs cl2 sl2 1596 [some (.ref 130), some (.ref 0), some (.ref 47), some (.ref 85), some (.int I), none, none, none] [] u) (u : US) (hI : Inv n u) : SimL L xs cl sl 317 [some (.ref 130), some (.ref 0), some (.ref 47), some (.ref 85), some (.int I), none, none, none] [] u := by
  obtain ⟨r, u1, u2, e1, e2, hInv⟩ := hS n u hn hI
  refine r_aload_n dL_law_317 rfl ?_
  refine g_callV (As := []) (res := (some (.int r), u1)) kvL_52 rfl (by decide) ⟨Nat.le_trans hcl (by decide), Nat.le_trans hsl (by decide)⟩ rfl (okX11_rooms  u (r, u1) e1) (Nat.le_of_ble_eq_true rfl) dL_law_318 rfl (fun _ => rfl) ?_
  refine r_aload_n dL_law_321 rfl ?_
  refine g_callV (As := []) (res := (some (.int r), u2)) kvL_55 rfl (by decide) ⟨Nat.le_trans hcl (by decide), Nat.le_trans hsl (by decide)⟩ rfl (okX12_rooms  u1 (r, u2) e2) (Nat.le_of_ble_eq_true rfl) dL_law_322 rfl (fun _ => rfl) ?_
  refine b_icmp_eq dL_law_325 (tgt := 1596) rfl rfl ?_
  exact hnext u2 _ _ hInv (by omega) (by omega)
set_option maxRecDepth 20000 in
theorem law_c6 {Inv : Nat → US → Prop} (hS : St_6 Inv) {n : Nat} (hn : n ≤ 4000) {L : Nat} {xs : Nat → Int32} {cl sl : Nat} {I : Int32} (h1 : vp_in (I + 1) L) (h2 : vp_in (I + 2) L) (h3 : vp_in (I + 3) L) (h4 : vp_in (I + 4) L) (hcl : cl ≤ 6000) (hsl : sl ≤ 100000) (hnext : ∀ (u : US) (cl2 sl2 : Nat), Inv (n + 1) u → cl2 ≤ cl + 1 → sl2 ≤ sl + 6 → SimL L xs cl2 sl2 1596 [some (.ref 130), some (.ref 0), some (.ref 47), some (.ref 85), some (.int I), none, none, none] [] u) (u : US) (hI : Inv n u) : SimL L xs cl sl 330 [some (.ref 130), some (.ref 0), some (.ref 47), some (.ref 85), some (.int I), none, none, none] [] u := by
  obtain ⟨r, u1, u2, e1, e2, hInv⟩ := hS n u hn hI
  refine r_aload_n dL_law_330 rfl ?_
  refine g_callV (As := []) (res := (some (.int r), u1)) kvL_56 rfl (by decide) ⟨Nat.le_trans hcl (by decide), Nat.le_trans hsl (by decide)⟩ rfl (okX11_rule  u (r, u1) e1) (Nat.le_of_ble_eq_true rfl) dL_law_331 rfl (fun _ => rfl) ?_
  refine r_aload_n dL_law_334 rfl ?_
  refine g_callV (As := []) (res := (some (.int r), u2)) kvL_59 rfl (by decide) ⟨Nat.le_trans hcl (by decide), Nat.le_trans hsl (by decide)⟩ rfl (okX12_rule  u1 (r, u2) e2) (Nat.le_of_ble_eq_true rfl) dL_law_335 rfl (fun _ => rfl) ?_
  refine b_icmp_eq dL_law_338 (tgt := 1596) rfl rfl ?_
  exact hnext u2 _ _ hInv (by omega) (by omega)
set_option maxRecDepth 20000 in
theorem law_c7 {Inv : Nat → US → Prop} (hS : St_7 Inv) {n : Nat} (hn : n ≤ 4000) {L : Nat} {xs : Nat → Int32} {cl sl : Nat} {I : Int32} (h1 : vp_in (I + 1) L) (h2 : vp_in (I + 2) L) (h3 : vp_in (I + 3) L) (h4 : vp_in (I + 4) L) (hcl : cl ≤ 6000) (hsl : sl ≤ 100000) (hnext : ∀ (u : US) (cl2 sl2 : Nat), Inv (n + 1) u → cl2 ≤ cl + 1 → sl2 ≤ sl + 6 → SimL L xs cl2 sl2 1596 [some (.ref 130), some (.ref 0), some (.ref 47), some (.ref 85), some (.int I), none, none, none] [] u) (u : US) (hI : Inv n u) : SimL L xs cl sl 343 [some (.ref 130), some (.ref 0), some (.ref 47), some (.ref 85), some (.int I), none, none, none] [] u := by
  obtain ⟨ro, u1, b, u2, tt, u3, e1, e2, e3, hk, hout, hInv⟩ := hS n (xs (I + 1).toNatClampNeg) (xs (I + 2).toNatClampNeg) u hn hI
  refine r_aload_n dL_law_343 rfl ?_
  refine r_aload_n dL_law_344 rfl ?_
  refine r_iload dL_law_345 rfl ?_
  refine r_iconst dL_law_347 (v := 1) rfl ?_
  refine r_iadd dL_law_348 ?_
  refine q_sld h1 dL_law_349 ?_
  refine r_aload_n dL_law_350 rfl ?_
  refine r_iload dL_law_351 rfl ?_
  refine r_iconst dL_law_353 (v := 2) rfl ?_
  refine r_iadd dL_law_354 ?_
  refine q_sld h2 dL_law_355 ?_
  refine r_aload_n dL_law_356 rfl ?_
  refine g_callW (n := 4) (As := [.ref 0, .int (xs (I + 1).toNatClampNeg), .int (xs (I + 2).toNatClampNeg), .ref 85]) (res := wLi (ro, u1)) kwL_thing kmL_60 ktL_thing knL ⟨by decide, by decide, by decide +kernel⟩ (by decide) (by decide) ⟨show cl + 1 ≤ 601024 by omega, show sl + 6 ≤ 7293034 by omega⟩ rfl (okL_thing ((xs (I + 1).toNatClampNeg)) ((xs (I + 2).toNatClampNeg)) u (ro, u1) e1) (Nat.le_of_ble_eq_true rfl) dL_law_357 rfl ?_
  refine r_istore dL_law_360 (Nat.le_of_ble_eq_true rfl) (ls2 := [some (.ref 130), some (.ref 0), some (.ref 47), some (.ref 85), some (.int I), some (.int (wLi (ro, u1)).1), none, none]) rfl ?_
  refine r_aload_n dL_law_362 rfl ?_
  refine r_aload_n dL_law_363 rfl ?_
  refine r_iload dL_law_364 rfl ?_
  refine r_iconst dL_law_366 (v := 1) rfl ?_
  refine r_iadd dL_law_367 ?_
  refine q_sld h1 dL_law_368 ?_
  refine r_aload_n dL_law_369 rfl ?_
  refine r_iload dL_law_370 rfl ?_
  refine r_iconst dL_law_372 (v := 2) rfl ?_
  refine r_iadd dL_law_373 ?_
  refine q_sld h2 dL_law_374 ?_
  refine g_callV (As := [.int (xs (I + 1).toNatClampNeg), .int (xs (I + 2).toNatClampNeg)]) (res := (some (.int b), u2)) kvL_65 rfl (by decide) ⟨show cl + 1 ≤ 601024 by omega, show sl + 6 ≤ 7293034 by omega⟩ rfl (okX12_thing ((xs (I + 1).toNatClampNeg)) ((xs (I + 2).toNatClampNeg)) (wLi (ro, u1)).2 (b, u2) e2) (Nat.le_of_ble_eq_true rfl) dL_law_375 rfl (fun _ => rfl) ?_
  refine r_istore dL_law_378 (Nat.le_of_ble_eq_true rfl) (ls2 := [some (.ref 130), some (.ref 0), some (.ref 47), some (.ref 85), some (.int I), some (.int (wLi (ro, u1)).1), some (.int b), none]) rfl ?_
  refine r_aload_n dL_law_380 rfl ?_
  refine g_callV (As := []) (res := (some (.int tt), u3)) kvL_66 rfl (by decide) ⟨show cl + 1 ≤ 601024 by omega, show sl + 6 ≤ 7293034 by omega⟩ rfl (okX12_thrown  u2 (tt, u3) e3) (Nat.le_of_ble_eq_true rfl) dL_law_381 rfl (fun _ => rfl) ?_
  refine r_iload dL_law_384 rfl ?_
  refine b_icmp_eq dL_law_386 (tgt := 391) rfl hk ?_
  refine r_iload dL_law_391 rfl ?_
  refine b_if_ne dL_law_393 (tgt := 408) rfl (fun _ => ?_) (fun hz => ?_)
  · refine r_goto dL_law_408 (tgt := 1596) rfl ?_
    refine r_mk [true, true, true, true, true, false, false, false] (ls2 := [some (.ref 130), some (.ref 0), some (.ref 47), some (.ref 85), some (.int I), none, none, none]) rfl ?_
    exact hnext u3 _ _ hInv (by omega) (by omega)
  · obtain ⟨v, hv⟩ : ∃ v, ro = some v := by
      cases ro with
      | none => exact absurd hz (by show ¬ (1 : Int32) = 0; decide)
      | some v => exact ⟨v, rfl⟩
    have hv0 := hout v hv
    refine r_aload_n dL_law_396 rfl ?_
    refine r_iconst dL_law_397 (v := 0) rfl ?_
    refine b_lald 85 rfl (by decide) dL_law_398 ?_
    refine r_iload dL_law_399 rfl ?_
    refine r_i2l dL_law_401 ?_
    refine r_lcmp dL_law_402 ?_
    refine b_if_eq dL_law_403 (tgt := 408) rfl (by rw [hv0]; exact lg_same _) ?_
    refine r_goto dL_law_408 (tgt := 1596) rfl ?_
    refine r_mk [true, true, true, true, true, false, false, false] (ls2 := [some (.ref 130), some (.ref 0), some (.ref 47), some (.ref 85), some (.int I), none, none, none]) rfl ?_
    exact hnext u3 _ _ hInv (by omega) (by omega)
set_option maxRecDepth 20000 in
theorem law_c8 {Inv : Nat → US → Prop} (hS : St_8 Inv) {n : Nat} (hn : n ≤ 4000) {L : Nat} {xs : Nat → Int32} {cl sl : Nat} {I : Int32} (h1 : vp_in (I + 1) L) (h2 : vp_in (I + 2) L) (h3 : vp_in (I + 3) L) (h4 : vp_in (I + 4) L) (hcl : cl ≤ 6000) (hsl : sl ≤ 100000) (hnext : ∀ (u : US) (cl2 sl2 : Nat), Inv (n + 1) u → cl2 ≤ cl + 1 → sl2 ≤ sl + 6 → SimL L xs cl2 sl2 1596 [some (.ref 130), some (.ref 0), some (.ref 47), some (.ref 85), some (.int I), none, none, none] [] u) (u : US) (hI : Inv n u) : SimL L xs cl sl 411 [some (.ref 130), some (.ref 0), some (.ref 47), some (.ref 85), some (.int I), none, none, none] [] u := by
  obtain ⟨ro, u1, b, u2, tt, u3, e1, e2, e3, hk, hout, hInv⟩ := hS n (xs (I + 1).toNatClampNeg) (xs (I + 2).toNatClampNeg) u hn hI
  refine r_aload_n dL_law_411 rfl ?_
  refine r_aload_n dL_law_412 rfl ?_
  refine r_iload dL_law_413 rfl ?_
  refine r_iconst dL_law_415 (v := 1) rfl ?_
  refine r_iadd dL_law_416 ?_
  refine q_sld h1 dL_law_417 ?_
  refine r_aload_n dL_law_418 rfl ?_
  refine r_iload dL_law_419 rfl ?_
  refine r_iconst dL_law_421 (v := 2) rfl ?_
  refine r_iadd dL_law_422 ?_
  refine q_sld h2 dL_law_423 ?_
  refine r_aload_n dL_law_424 rfl ?_
  refine g_callW (n := 4) (As := [.ref 0, .int (xs (I + 1).toNatClampNeg), .int (xs (I + 2).toNatClampNeg), .ref 85]) (res := wLi (ro, u1)) kwL_pane kmL_69 ktL_pane knL ⟨by decide, by decide, by decide +kernel⟩ (by decide) (by decide) ⟨show cl + 1 ≤ 601024 by omega, show sl + 6 ≤ 7293034 by omega⟩ rfl (okL_pane ((xs (I + 1).toNatClampNeg)) ((xs (I + 2).toNatClampNeg)) u (ro, u1) e1) (Nat.le_of_ble_eq_true rfl) dL_law_425 rfl ?_
  refine r_istore dL_law_428 (Nat.le_of_ble_eq_true rfl) (ls2 := [some (.ref 130), some (.ref 0), some (.ref 47), some (.ref 85), some (.int I), some (.int (wLi (ro, u1)).1), none, none]) rfl ?_
  refine r_aload_n dL_law_430 rfl ?_
  refine r_aload_n dL_law_431 rfl ?_
  refine r_iload dL_law_432 rfl ?_
  refine r_iconst dL_law_434 (v := 1) rfl ?_
  refine r_iadd dL_law_435 ?_
  refine q_sld h1 dL_law_436 ?_
  refine r_aload_n dL_law_437 rfl ?_
  refine r_iload dL_law_438 rfl ?_
  refine r_iconst dL_law_440 (v := 2) rfl ?_
  refine r_iadd dL_law_441 ?_
  refine q_sld h2 dL_law_442 ?_
  refine g_callV (As := [.int (xs (I + 1).toNatClampNeg), .int (xs (I + 2).toNatClampNeg)]) (res := (some (.int b), u2)) kvL_71 rfl (by decide) ⟨show cl + 1 ≤ 601024 by omega, show sl + 6 ≤ 7293034 by omega⟩ rfl (okX12_pane ((xs (I + 1).toNatClampNeg)) ((xs (I + 2).toNatClampNeg)) (wLi (ro, u1)).2 (b, u2) e2) (Nat.le_of_ble_eq_true rfl) dL_law_443 rfl (fun _ => rfl) ?_
  refine r_istore dL_law_446 (Nat.le_of_ble_eq_true rfl) (ls2 := [some (.ref 130), some (.ref 0), some (.ref 47), some (.ref 85), some (.int I), some (.int (wLi (ro, u1)).1), some (.int b), none]) rfl ?_
  refine r_aload_n dL_law_448 rfl ?_
  refine g_callV (As := []) (res := (some (.int tt), u3)) kvL_66 rfl (by decide) ⟨show cl + 1 ≤ 601024 by omega, show sl + 6 ≤ 7293034 by omega⟩ rfl (okX12_thrown  u2 (tt, u3) e3) (Nat.le_of_ble_eq_true rfl) dL_law_449 rfl (fun _ => rfl) ?_
  refine r_iload dL_law_452 rfl ?_
  refine b_icmp_eq dL_law_454 (tgt := 459) rfl hk ?_
  refine r_iload dL_law_459 rfl ?_
  refine b_if_ne dL_law_461 (tgt := 476) rfl (fun _ => ?_) (fun hz => ?_)
  · refine r_goto dL_law_476 (tgt := 1596) rfl ?_
    refine r_mk [true, true, true, true, true, false, false, false] (ls2 := [some (.ref 130), some (.ref 0), some (.ref 47), some (.ref 85), some (.int I), none, none, none]) rfl ?_
    exact hnext u3 _ _ hInv (by omega) (by omega)
  · obtain ⟨v, hv⟩ : ∃ v, ro = some v := by
      cases ro with
      | none => exact absurd hz (by show ¬ (1 : Int32) = 0; decide)
      | some v => exact ⟨v, rfl⟩
    have hv0 := hout v hv
    refine r_aload_n dL_law_464 rfl ?_
    refine r_iconst dL_law_465 (v := 0) rfl ?_
    refine b_lald 85 rfl (by decide) dL_law_466 ?_
    refine r_iload dL_law_467 rfl ?_
    refine r_i2l dL_law_469 ?_
    refine r_lcmp dL_law_470 ?_
    refine b_if_eq dL_law_471 (tgt := 476) rfl (by rw [hv0]; exact lg_same _) ?_
    refine r_goto dL_law_476 (tgt := 1596) rfl ?_
    refine r_mk [true, true, true, true, true, false, false, false] (ls2 := [some (.ref 130), some (.ref 0), some (.ref 47), some (.ref 85), some (.int I), none, none, none]) rfl ?_
    exact hnext u3 _ _ hInv (by omega) (by omega)
set_option maxRecDepth 20000 in
theorem law_c9 {Inv : Nat → US → Prop} (hS : St_9 Inv) {n : Nat} (hn : n ≤ 4000) {L : Nat} {xs : Nat → Int32} {cl sl : Nat} {I : Int32} (h1 : vp_in (I + 1) L) (h2 : vp_in (I + 2) L) (h3 : vp_in (I + 3) L) (h4 : vp_in (I + 4) L) (hcl : cl ≤ 6000) (hsl : sl ≤ 100000) (hnext : ∀ (u : US) (cl2 sl2 : Nat), Inv (n + 1) u → cl2 ≤ cl + 1 → sl2 ≤ sl + 6 → SimL L xs cl2 sl2 1596 [some (.ref 130), some (.ref 0), some (.ref 47), some (.ref 85), some (.int I), none, none, none] [] u) (u : US) (hI : Inv n u) : SimL L xs cl sl 479 [some (.ref 130), some (.ref 0), some (.ref 47), some (.ref 85), some (.int I), none, none, none] [] u := by
  obtain ⟨ro, u1, b, u2, tt, u3, e1, e2, e3, hk, hout, hInv⟩ := hS n (xs (I + 1).toNatClampNeg) (xs (I + 2).toNatClampNeg) u hn hI
  refine r_aload_n dL_law_479 rfl ?_
  refine r_aload_n dL_law_480 rfl ?_
  refine r_iload dL_law_481 rfl ?_
  refine r_iconst dL_law_483 (v := 1) rfl ?_
  refine r_iadd dL_law_484 ?_
  refine q_sld h1 dL_law_485 ?_
  refine r_aload_n dL_law_486 rfl ?_
  refine r_iload dL_law_487 rfl ?_
  refine r_iconst dL_law_489 (v := 2) rfl ?_
  refine r_iadd dL_law_490 ?_
  refine q_sld h2 dL_law_491 ?_
  refine r_aload_n dL_law_492 rfl ?_
  refine g_callW (n := 4) (As := [.ref 0, .int (xs (I + 1).toNatClampNeg), .int (xs (I + 2).toNatClampNeg), .ref 85]) (res := wLi (ro, u1)) kwL_room kmL_72 ktL_room knL ⟨by decide, by decide, by decide +kernel⟩ (by decide) (by decide) ⟨show cl + 1 ≤ 601024 by omega, show sl + 6 ≤ 7293034 by omega⟩ rfl (okL_room ((xs (I + 1).toNatClampNeg)) ((xs (I + 2).toNatClampNeg)) u (ro, u1) e1) (Nat.le_of_ble_eq_true rfl) dL_law_493 rfl ?_
  refine r_istore dL_law_496 (Nat.le_of_ble_eq_true rfl) (ls2 := [some (.ref 130), some (.ref 0), some (.ref 47), some (.ref 85), some (.int I), some (.int (wLi (ro, u1)).1), none, none]) rfl ?_
  refine r_aload_n dL_law_498 rfl ?_
  refine r_aload_n dL_law_499 rfl ?_
  refine r_iload dL_law_500 rfl ?_
  refine r_iconst dL_law_502 (v := 1) rfl ?_
  refine r_iadd dL_law_503 ?_
  refine q_sld h1 dL_law_504 ?_
  refine r_aload_n dL_law_505 rfl ?_
  refine r_iload dL_law_506 rfl ?_
  refine r_iconst dL_law_508 (v := 2) rfl ?_
  refine r_iadd dL_law_509 ?_
  refine q_sld h2 dL_law_510 ?_
  refine g_callV (As := [.int (xs (I + 1).toNatClampNeg), .int (xs (I + 2).toNatClampNeg)]) (res := (some (.int b), u2)) kvL_74 rfl (by decide) ⟨show cl + 1 ≤ 601024 by omega, show sl + 6 ≤ 7293034 by omega⟩ rfl (okX12_room ((xs (I + 1).toNatClampNeg)) ((xs (I + 2).toNatClampNeg)) (wLi (ro, u1)).2 (b, u2) e2) (Nat.le_of_ble_eq_true rfl) dL_law_511 rfl (fun _ => rfl) ?_
  refine r_istore dL_law_514 (Nat.le_of_ble_eq_true rfl) (ls2 := [some (.ref 130), some (.ref 0), some (.ref 47), some (.ref 85), some (.int I), some (.int (wLi (ro, u1)).1), some (.int b), none]) rfl ?_
  refine r_aload_n dL_law_516 rfl ?_
  refine g_callV (As := []) (res := (some (.int tt), u3)) kvL_66 rfl (by decide) ⟨show cl + 1 ≤ 601024 by omega, show sl + 6 ≤ 7293034 by omega⟩ rfl (okX12_thrown  u2 (tt, u3) e3) (Nat.le_of_ble_eq_true rfl) dL_law_517 rfl (fun _ => rfl) ?_
  refine r_iload dL_law_520 rfl ?_
  refine b_icmp_eq dL_law_522 (tgt := 527) rfl hk ?_
  refine r_iload dL_law_527 rfl ?_
  refine b_if_ne dL_law_529 (tgt := 544) rfl (fun _ => ?_) (fun hz => ?_)
  · refine r_goto dL_law_544 (tgt := 1596) rfl ?_
    refine r_mk [true, true, true, true, true, false, false, false] (ls2 := [some (.ref 130), some (.ref 0), some (.ref 47), some (.ref 85), some (.int I), none, none, none]) rfl ?_
    exact hnext u3 _ _ hInv (by omega) (by omega)
  · obtain ⟨v, hv⟩ : ∃ v, ro = some v := by
      cases ro with
      | none => exact absurd hz (by show ¬ (1 : Int32) = 0; decide)
      | some v => exact ⟨v, rfl⟩
    have hv0 := hout v hv
    refine r_aload_n dL_law_532 rfl ?_
    refine r_iconst dL_law_533 (v := 0) rfl ?_
    refine b_lald 85 rfl (by decide) dL_law_534 ?_
    refine r_iload dL_law_535 rfl ?_
    refine r_i2l dL_law_537 ?_
    refine r_lcmp dL_law_538 ?_
    refine b_if_eq dL_law_539 (tgt := 544) rfl (by rw [hv0]; exact lg_same _) ?_
    refine r_goto dL_law_544 (tgt := 1596) rfl ?_
    refine r_mk [true, true, true, true, true, false, false, false] (ls2 := [some (.ref 130), some (.ref 0), some (.ref 47), some (.ref 85), some (.int I), none, none, none]) rfl ?_
    exact hnext u3 _ _ hInv (by omega) (by omega)
set_option maxRecDepth 20000 in
theorem law_c10 {Inv : Nat → US → Prop} (hS : St_10 Inv) {n : Nat} (hn : n ≤ 4000) {L : Nat} {xs : Nat → Int32} {cl sl : Nat} {I : Int32} (h1 : vp_in (I + 1) L) (h2 : vp_in (I + 2) L) (h3 : vp_in (I + 3) L) (h4 : vp_in (I + 4) L) (hcl : cl ≤ 6000) (hsl : sl ≤ 100000) (hnext : ∀ (u : US) (cl2 sl2 : Nat), Inv (n + 1) u → cl2 ≤ cl + 1 → sl2 ≤ sl + 6 → SimL L xs cl2 sl2 1596 [some (.ref 130), some (.ref 0), some (.ref 47), some (.ref 85), some (.int I), none, none, none] [] u) (u : US) (hI : Inv n u) : SimL L xs cl sl 547 [some (.ref 130), some (.ref 0), some (.ref 47), some (.ref 85), some (.int I), none, none, none] [] u := by
  obtain ⟨r, u1, u2, e1, e2, hInv⟩ := hS n (xs (I + 1).toNatClampNeg) (xs (I + 2).toNatClampNeg) (xs (I + 3).toNatClampNeg) (xs (I + 4).toNatClampNeg) u hn hI
  refine r_aload_n dL_law_547 rfl ?_
  refine r_aload_n dL_law_548 rfl ?_
  refine r_iload dL_law_549 rfl ?_
  refine r_iconst dL_law_551 (v := 1) rfl ?_
  refine r_iadd dL_law_552 ?_
  refine q_sld h1 dL_law_553 ?_
  refine r_aload_n dL_law_554 rfl ?_
  refine r_iload dL_law_555 rfl ?_
  refine r_iconst dL_law_557 (v := 2) rfl ?_
  refine r_iadd dL_law_558 ?_
  refine q_sld h2 dL_law_559 ?_
  refine r_aload_n dL_law_560 rfl ?_
  refine r_iload dL_law_561 rfl ?_
  refine r_iconst dL_law_563 (v := 3) rfl ?_
  refine r_iadd dL_law_564 ?_
  refine q_sld h3 dL_law_565 ?_
  refine r_aload_n dL_law_566 rfl ?_
  refine r_iload dL_law_567 rfl ?_
  refine r_iconst dL_law_569 (v := 4) rfl ?_
  refine r_iadd dL_law_570 ?_
  refine q_sld h4 dL_law_571 ?_
  refine g_callV (As := [.int (xs (I + 1).toNatClampNeg), .int (xs (I + 2).toNatClampNeg), .int (xs (I + 3).toNatClampNeg), .int (xs (I + 4).toNatClampNeg)]) (res := (some (.int r), u1)) kvL_75 rfl (by decide) ⟨Nat.le_trans hcl (by decide), Nat.le_trans hsl (by decide)⟩ rfl (okX11_sheet ((xs (I + 1).toNatClampNeg)) ((xs (I + 2).toNatClampNeg)) ((xs (I + 3).toNatClampNeg)) ((xs (I + 4).toNatClampNeg)) u (r, u1) e1) (Nat.le_of_ble_eq_true rfl) dL_law_572 rfl (fun _ => rfl) ?_
  refine r_aload_n dL_law_575 rfl ?_
  refine r_aload_n dL_law_576 rfl ?_
  refine r_iload dL_law_577 rfl ?_
  refine r_iconst dL_law_579 (v := 1) rfl ?_
  refine r_iadd dL_law_580 ?_
  refine q_sld h1 dL_law_581 ?_
  refine r_aload_n dL_law_582 rfl ?_
  refine r_iload dL_law_583 rfl ?_
  refine r_iconst dL_law_585 (v := 2) rfl ?_
  refine r_iadd dL_law_586 ?_
  refine q_sld h2 dL_law_587 ?_
  refine r_aload_n dL_law_588 rfl ?_
  refine r_iload dL_law_589 rfl ?_
  refine r_iconst dL_law_591 (v := 3) rfl ?_
  refine r_iadd dL_law_592 ?_
  refine q_sld h3 dL_law_593 ?_
  refine r_aload_n dL_law_594 rfl ?_
  refine r_iload dL_law_595 rfl ?_
  refine r_iconst dL_law_597 (v := 4) rfl ?_
  refine r_iadd dL_law_598 ?_
  refine q_sld h4 dL_law_599 ?_
  refine g_callV (As := [.int (xs (I + 1).toNatClampNeg), .int (xs (I + 2).toNatClampNeg), .int (xs (I + 3).toNatClampNeg), .int (xs (I + 4).toNatClampNeg)]) (res := (some (.int r), u2)) kvL_79 rfl (by decide) ⟨Nat.le_trans hcl (by decide), Nat.le_trans hsl (by decide)⟩ rfl (okX12_sheet ((xs (I + 1).toNatClampNeg)) ((xs (I + 2).toNatClampNeg)) ((xs (I + 3).toNatClampNeg)) ((xs (I + 4).toNatClampNeg)) u1 (r, u2) e2) (Nat.le_of_ble_eq_true rfl) dL_law_600 rfl (fun _ => rfl) ?_
  refine b_icmp_eq dL_law_603 (tgt := 1596) rfl rfl ?_
  exact hnext u2 _ _ hInv (by omega) (by omega)
set_option maxRecDepth 20000 in
theorem law_c11 {Inv : Nat → US → Prop} (hS : St_11 Inv) {n : Nat} (hn : n ≤ 4000) {L : Nat} {xs : Nat → Int32} {cl sl : Nat} {I : Int32} (h1 : vp_in (I + 1) L) (h2 : vp_in (I + 2) L) (h3 : vp_in (I + 3) L) (h4 : vp_in (I + 4) L) (hcl : cl ≤ 6000) (hsl : sl ≤ 100000) (hnext : ∀ (u : US) (cl2 sl2 : Nat), Inv (n + 1) u → cl2 ≤ cl + 1 → sl2 ≤ sl + 6 → SimL L xs cl2 sl2 1596 [some (.ref 130), some (.ref 0), some (.ref 47), some (.ref 85), some (.int I), none, none, none] [] u) (u : US) (hI : Inv n u) : SimL L xs cl sl 608 [some (.ref 130), some (.ref 0), some (.ref 47), some (.ref 85), some (.int I), none, none, none] [] u := by
  obtain ⟨r, u1, u2, e1, e2, hInv⟩ := hS n (xs (I + 1).toNatClampNeg) (xs (I + 2).toNatClampNeg) u hn hI
  refine r_aload_n dL_law_608 rfl ?_
  refine r_aload_n dL_law_609 rfl ?_
  refine r_iload dL_law_610 rfl ?_
  refine r_iconst dL_law_612 (v := 1) rfl ?_
  refine r_iadd dL_law_613 ?_
  refine q_sld h1 dL_law_614 ?_
  refine r_aload_n dL_law_615 rfl ?_
  refine r_iload dL_law_616 rfl ?_
  refine r_iconst dL_law_618 (v := 2) rfl ?_
  refine r_iadd dL_law_619 ?_
  refine q_sld h2 dL_law_620 ?_
  refine g_callV (As := [.int (xs (I + 1).toNatClampNeg), .int (xs (I + 2).toNatClampNeg)]) (res := (some (.int r), u1)) kvL_80 rfl (by decide) ⟨Nat.le_trans hcl (by decide), Nat.le_trans hsl (by decide)⟩ rfl (okX11_hang ((xs (I + 1).toNatClampNeg)) ((xs (I + 2).toNatClampNeg)) u (r, u1) e1) (Nat.le_of_ble_eq_true rfl) dL_law_621 rfl (fun _ => rfl) ?_
  refine r_aload_n dL_law_624 rfl ?_
  refine r_aload_n dL_law_625 rfl ?_
  refine r_iload dL_law_626 rfl ?_
  refine r_iconst dL_law_628 (v := 1) rfl ?_
  refine r_iadd dL_law_629 ?_
  refine q_sld h1 dL_law_630 ?_
  refine r_aload_n dL_law_631 rfl ?_
  refine r_iload dL_law_632 rfl ?_
  refine r_iconst dL_law_634 (v := 2) rfl ?_
  refine r_iadd dL_law_635 ?_
  refine q_sld h2 dL_law_636 ?_
  refine g_callV (As := [.int (xs (I + 1).toNatClampNeg), .int (xs (I + 2).toNatClampNeg)]) (res := (some (.int r), u2)) kvL_83 rfl (by decide) ⟨Nat.le_trans hcl (by decide), Nat.le_trans hsl (by decide)⟩ rfl (okX12_hang ((xs (I + 1).toNatClampNeg)) ((xs (I + 2).toNatClampNeg)) u1 (r, u2) e2) (Nat.le_of_ble_eq_true rfl) dL_law_637 rfl (fun _ => rfl) ?_
  refine b_icmp_eq dL_law_640 (tgt := 1596) rfl rfl ?_
  exact hnext u2 _ _ hInv (by omega) (by omega)
set_option maxRecDepth 20000 in
theorem law_c12 {Inv : Nat → US → Prop} (hS : St_12 Inv) {n : Nat} (hn : n ≤ 4000) {L : Nat} {xs : Nat → Int32} {cl sl : Nat} {I : Int32} (h1 : vp_in (I + 1) L) (h2 : vp_in (I + 2) L) (h3 : vp_in (I + 3) L) (h4 : vp_in (I + 4) L) (hcl : cl ≤ 6000) (hsl : sl ≤ 100000) (hnext : ∀ (u : US) (cl2 sl2 : Nat), Inv (n + 1) u → cl2 ≤ cl + 1 → sl2 ≤ sl + 6 → SimL L xs cl2 sl2 1596 [some (.ref 130), some (.ref 0), some (.ref 47), some (.ref 85), some (.int I), none, none, none] [] u) (u : US) (hI : Inv n u) : SimL L xs cl sl 645 [some (.ref 130), some (.ref 0), some (.ref 47), some (.ref 85), some (.int I), none, none, none] [] u := by
  obtain ⟨r, u1, u2, e1, e2, hInv⟩ := hS n (xs (I + 1).toNatClampNeg) u hn hI
  refine r_aload_n dL_law_645 rfl ?_
  refine r_aload_n dL_law_646 rfl ?_
  refine r_iload dL_law_647 rfl ?_
  refine r_iconst dL_law_649 (v := 1) rfl ?_
  refine r_iadd dL_law_650 ?_
  refine q_sld h1 dL_law_651 ?_
  refine g_callV (As := [.int (xs (I + 1).toNatClampNeg)]) (res := (some (.int r), u1)) kvL_84 rfl (by decide) ⟨Nat.le_trans hcl (by decide), Nat.le_trans hsl (by decide)⟩ rfl (okX11_takes ((xs (I + 1).toNatClampNeg)) u (r, u1) e1) (Nat.le_of_ble_eq_true rfl) dL_law_652 rfl (fun _ => rfl) ?_
  refine r_aload_n dL_law_655 rfl ?_
  refine r_aload_n dL_law_656 rfl ?_
  refine r_iload dL_law_657 rfl ?_
  refine r_iconst dL_law_659 (v := 1) rfl ?_
  refine r_iadd dL_law_660 ?_
  refine q_sld h1 dL_law_661 ?_
  refine g_callV (As := [.int (xs (I + 1).toNatClampNeg)]) (res := (some (.int r), u2)) kvL_87 rfl (by decide) ⟨Nat.le_trans hcl (by decide), Nat.le_trans hsl (by decide)⟩ rfl (okX12_takes ((xs (I + 1).toNatClampNeg)) u1 (r, u2) e2) (Nat.le_of_ble_eq_true rfl) dL_law_662 rfl (fun _ => rfl) ?_
  refine b_icmp_eq dL_law_665 (tgt := 1596) rfl rfl ?_
  exact hnext u2 _ _ hInv (by omega) (by omega)
set_option maxRecDepth 20000 in
theorem law_c13 {Inv : Nat → US → Prop} (hS : St_13 Inv) {n : Nat} (hn : n ≤ 4000) {L : Nat} {xs : Nat → Int32} {cl sl : Nat} {I : Int32} (h1 : vp_in (I + 1) L) (h2 : vp_in (I + 2) L) (h3 : vp_in (I + 3) L) (h4 : vp_in (I + 4) L) (hcl : cl ≤ 6000) (hsl : sl ≤ 100000) (hnext : ∀ (u : US) (cl2 sl2 : Nat), Inv (n + 1) u → cl2 ≤ cl + 1 → sl2 ≤ sl + 6 → SimL L xs cl2 sl2 1596 [some (.ref 130), some (.ref 0), some (.ref 47), some (.ref 85), some (.int I), none, none, none] [] u) (u : US) (hI : Inv n u) : SimL L xs cl sl 670 [some (.ref 130), some (.ref 0), some (.ref 47), some (.ref 85), some (.int I), none, none, none] [] u := by
  obtain ⟨r, u1, u2, e1, e2, hInv⟩ := hS n (xs (I + 1).toNatClampNeg) u hn hI
  refine r_aload_n dL_law_670 rfl ?_
  refine r_aload_n dL_law_671 rfl ?_
  refine r_iload dL_law_672 rfl ?_
  refine r_iconst dL_law_674 (v := 1) rfl ?_
  refine r_iadd dL_law_675 ?_
  refine q_sld h1 dL_law_676 ?_
  refine g_callV (As := [.int (xs (I + 1).toNatClampNeg)]) (res := (some (.int r), u1)) kvL_88 rfl (by decide) ⟨Nat.le_trans hcl (by decide), Nat.le_trans hsl (by decide)⟩ rfl (okX11_ball ((xs (I + 1).toNatClampNeg)) u (r, u1) e1) (Nat.le_of_ble_eq_true rfl) dL_law_677 rfl (fun _ => rfl) ?_
  refine r_aload_n dL_law_680 rfl ?_
  refine r_aload_n dL_law_681 rfl ?_
  refine r_iload dL_law_682 rfl ?_
  refine r_iconst dL_law_684 (v := 1) rfl ?_
  refine r_iadd dL_law_685 ?_
  refine q_sld h1 dL_law_686 ?_
  refine g_callV (As := [.int (xs (I + 1).toNatClampNeg)]) (res := (some (.int r), u2)) kvL_91 rfl (by decide) ⟨Nat.le_trans hcl (by decide), Nat.le_trans hsl (by decide)⟩ rfl (okX12_ball ((xs (I + 1).toNatClampNeg)) u1 (r, u2) e2) (Nat.le_of_ble_eq_true rfl) dL_law_687 rfl (fun _ => rfl) ?_
  refine b_icmp_eq dL_law_690 (tgt := 1596) rfl rfl ?_
  exact hnext u2 _ _ hInv (by omega) (by omega)
set_option maxRecDepth 20000 in
theorem law_c14 {Inv : Nat → US → Prop} (hS : St_14 Inv) {n : Nat} (hn : n ≤ 4000) {L : Nat} {xs : Nat → Int32} {cl sl : Nat} {I : Int32} (h1 : vp_in (I + 1) L) (h2 : vp_in (I + 2) L) (h3 : vp_in (I + 3) L) (h4 : vp_in (I + 4) L) (hcl : cl ≤ 6000) (hsl : sl ≤ 100000) (hnext : ∀ (u : US) (cl2 sl2 : Nat), Inv (n + 1) u → cl2 ≤ cl + 1 → sl2 ≤ sl + 6 → SimL L xs cl2 sl2 1596 [some (.ref 130), some (.ref 0), some (.ref 47), some (.ref 85), some (.int I), none, none, none] [] u) (u : US) (hI : Inv n u) : SimL L xs cl sl 695 [some (.ref 130), some (.ref 0), some (.ref 47), some (.ref 85), some (.int I), none, none, none] [] u := by
  obtain ⟨r, u1, u2, e1, e2, hInv⟩ := hS n (xs (I + 1).toNatClampNeg) (xs (I + 2).toNatClampNeg) (xs (I + 3).toNatClampNeg) u hn hI
  refine r_aload_n dL_law_695 rfl ?_
  refine r_aload_n dL_law_696 rfl ?_
  refine r_iload dL_law_697 rfl ?_
  refine r_iconst dL_law_699 (v := 1) rfl ?_
  refine r_iadd dL_law_700 ?_
  refine q_sld h1 dL_law_701 ?_
  refine r_aload_n dL_law_702 rfl ?_
  refine r_iload dL_law_703 rfl ?_
  refine r_iconst dL_law_705 (v := 2) rfl ?_
  refine r_iadd dL_law_706 ?_
  refine q_sld h2 dL_law_707 ?_
  refine r_aload_n dL_law_708 rfl ?_
  refine r_iload dL_law_709 rfl ?_
  refine r_iconst dL_law_711 (v := 3) rfl ?_
  refine r_iadd dL_law_712 ?_
  refine q_sld h3 dL_law_713 ?_
  refine g_callV (As := [.int (xs (I + 1).toNatClampNeg), .int (xs (I + 2).toNatClampNeg), .int (xs (I + 3).toNatClampNeg)]) (res := (some (.int r), u1)) kvL_92 rfl (by decide) ⟨Nat.le_trans hcl (by decide), Nat.le_trans hsl (by decide)⟩ rfl (okX11_carry ((xs (I + 1).toNatClampNeg)) ((xs (I + 2).toNatClampNeg)) ((xs (I + 3).toNatClampNeg)) u (r, u1) e1) (Nat.le_of_ble_eq_true rfl) dL_law_714 rfl (fun _ => rfl) ?_
  refine r_aload_n dL_law_717 rfl ?_
  refine r_aload_n dL_law_718 rfl ?_
  refine r_iload dL_law_719 rfl ?_
  refine r_iconst dL_law_721 (v := 1) rfl ?_
  refine r_iadd dL_law_722 ?_
  refine q_sld h1 dL_law_723 ?_
  refine r_aload_n dL_law_724 rfl ?_
  refine r_iload dL_law_725 rfl ?_
  refine r_iconst dL_law_727 (v := 2) rfl ?_
  refine r_iadd dL_law_728 ?_
  refine q_sld h2 dL_law_729 ?_
  refine r_aload_n dL_law_730 rfl ?_
  refine r_iload dL_law_731 rfl ?_
  refine r_iconst dL_law_733 (v := 3) rfl ?_
  refine r_iadd dL_law_734 ?_
  refine q_sld h3 dL_law_735 ?_
  refine g_callV (As := [.int (xs (I + 1).toNatClampNeg), .int (xs (I + 2).toNatClampNeg), .int (xs (I + 3).toNatClampNeg)]) (res := (some (.int r), u2)) kvL_96 rfl (by decide) ⟨Nat.le_trans hcl (by decide), Nat.le_trans hsl (by decide)⟩ rfl (okX12_carry ((xs (I + 1).toNatClampNeg)) ((xs (I + 2).toNatClampNeg)) ((xs (I + 3).toNatClampNeg)) u1 (r, u2) e2) (Nat.le_of_ble_eq_true rfl) dL_law_736 rfl (fun _ => rfl) ?_
  refine b_icmp_eq dL_law_739 (tgt := 1596) rfl rfl ?_
  exact hnext u2 _ _ hInv (by omega) (by omega)
set_option maxRecDepth 20000 in
theorem law_c15 {Inv : Nat → US → Prop} (hS : St_15 Inv) {n : Nat} (hn : n ≤ 4000) {L : Nat} {xs : Nat → Int32} {cl sl : Nat} {I : Int32} (h1 : vp_in (I + 1) L) (h2 : vp_in (I + 2) L) (h3 : vp_in (I + 3) L) (h4 : vp_in (I + 4) L) (hcl : cl ≤ 6000) (hsl : sl ≤ 100000) (hnext : ∀ (u : US) (cl2 sl2 : Nat), Inv (n + 1) u → cl2 ≤ cl + 1 → sl2 ≤ sl + 6 → SimL L xs cl2 sl2 1596 [some (.ref 130), some (.ref 0), some (.ref 47), some (.ref 85), some (.int I), none, none, none] [] u) (u : US) (hI : Inv n u) : SimL L xs cl sl 744 [some (.ref 130), some (.ref 0), some (.ref 47), some (.ref 85), some (.int I), none, none, none] [] u := by
  obtain ⟨r, u1, u2, e1, e2, hInv⟩ := hS n (xs (I + 1).toNatClampNeg) u hn hI
  refine r_aload_n dL_law_744 rfl ?_
  refine r_aload_n dL_law_745 rfl ?_
  refine r_iload dL_law_746 rfl ?_
  refine r_iconst dL_law_748 (v := 1) rfl ?_
  refine r_iadd dL_law_749 ?_
  refine q_sld h1 dL_law_750 ?_
  refine g_callV (As := [.int (xs (I + 1).toNatClampNeg)]) (res := (some (.int r), u1)) kvL_97 rfl (by decide) ⟨Nat.le_trans hcl (by decide), Nat.le_trans hsl (by decide)⟩ rfl (okX11_hours ((xs (I + 1).toNatClampNeg)) u (r, u1) e1) (Nat.le_of_ble_eq_true rfl) dL_law_751 rfl (fun _ => rfl) ?_
  refine r_aload_n dL_law_754 rfl ?_
  refine r_aload_n dL_law_755 rfl ?_
  refine r_iload dL_law_756 rfl ?_
  refine r_iconst dL_law_758 (v := 1) rfl ?_
  refine r_iadd dL_law_759 ?_
  refine q_sld h1 dL_law_760 ?_
  refine g_callV (As := [.int (xs (I + 1).toNatClampNeg)]) (res := (some (.int r), u2)) kvL_100 rfl (by decide) ⟨Nat.le_trans hcl (by decide), Nat.le_trans hsl (by decide)⟩ rfl (okX12_hours ((xs (I + 1).toNatClampNeg)) u1 (r, u2) e2) (Nat.le_of_ble_eq_true rfl) dL_law_761 rfl (fun _ => rfl) ?_
  refine b_icmp_eq dL_law_764 (tgt := 1596) rfl rfl ?_
  exact hnext u2 _ _ hInv (by omega) (by omega)
set_option maxRecDepth 20000 in
theorem law_c16 {Inv : Nat → US → Prop} (hS : St_16 Inv) {n : Nat} (hn : n ≤ 4000) {L : Nat} {xs : Nat → Int32} {cl sl : Nat} {I : Int32} (h1 : vp_in (I + 1) L) (h2 : vp_in (I + 2) L) (h3 : vp_in (I + 3) L) (h4 : vp_in (I + 4) L) (hcl : cl ≤ 6000) (hsl : sl ≤ 100000) (hnext : ∀ (u : US) (cl2 sl2 : Nat), Inv (n + 1) u → cl2 ≤ cl + 1 → sl2 ≤ sl + 6 → SimL L xs cl2 sl2 1596 [some (.ref 130), some (.ref 0), some (.ref 47), some (.ref 85), some (.int I), none, none, none] [] u) (u : US) (hI : Inv n u) : SimL L xs cl sl 769 [some (.ref 130), some (.ref 0), some (.ref 47), some (.ref 85), some (.int I), none, none, none] [] u := by
  obtain ⟨r, u1, u2, e1, e2, hInv⟩ := hS n u hn hI
  refine r_aload_n dL_law_769 rfl ?_
  refine g_callV (As := []) (res := (some (.int r), u1)) kvL_101 rfl (by decide) ⟨Nat.le_trans hcl (by decide), Nat.le_trans hsl (by decide)⟩ rfl (okX11_day  u (r, u1) e1) (Nat.le_of_ble_eq_true rfl) dL_law_770 rfl (fun _ => rfl) ?_
  refine r_aload_n dL_law_773 rfl ?_
  refine g_callV (As := []) (res := (some (.int r), u2)) kvL_104 rfl (by decide) ⟨Nat.le_trans hcl (by decide), Nat.le_trans hsl (by decide)⟩ rfl (okX12_day  u1 (r, u2) e2) (Nat.le_of_ble_eq_true rfl) dL_law_774 rfl (fun _ => rfl) ?_
  refine b_icmp_eq dL_law_777 (tgt := 1596) rfl rfl ?_
  exact hnext u2 _ _ hInv (by omega) (by omega)
set_option maxRecDepth 20000 in
theorem law_c17 {Inv : Nat → US → Prop} (hS : St_17 Inv) {n : Nat} (hn : n ≤ 4000) {L : Nat} {xs : Nat → Int32} {cl sl : Nat} {I : Int32} (h1 : vp_in (I + 1) L) (h2 : vp_in (I + 2) L) (h3 : vp_in (I + 3) L) (h4 : vp_in (I + 4) L) (hcl : cl ≤ 6000) (hsl : sl ≤ 100000) (hnext : ∀ (u : US) (cl2 sl2 : Nat), Inv (n + 1) u → cl2 ≤ cl + 1 → sl2 ≤ sl + 6 → SimL L xs cl2 sl2 1596 [some (.ref 130), some (.ref 0), some (.ref 47), some (.ref 85), some (.int I), none, none, none] [] u) (u : US) (hI : Inv n u) : SimL L xs cl sl 782 [some (.ref 130), some (.ref 0), some (.ref 47), some (.ref 85), some (.int I), none, none, none] [] u := by
  obtain ⟨r, u1, u2, e1, e2, hInv⟩ := hS n u hn hI
  refine r_aload_n dL_law_782 rfl ?_
  refine g_callV (As := []) (res := (some (.int r), u1)) kvL_105 rfl (by decide) ⟨Nat.le_trans hcl (by decide), Nat.le_trans hsl (by decide)⟩ rfl (okX11_undo  u (r, u1) e1) (Nat.le_of_ble_eq_true rfl) dL_law_783 rfl (fun _ => rfl) ?_
  refine r_aload_n dL_law_786 rfl ?_
  refine g_callV (As := []) (res := (some (.int r), u2)) kvL_108 rfl (by decide) ⟨Nat.le_trans hcl (by decide), Nat.le_trans hsl (by decide)⟩ rfl (okX12_undo  u1 (r, u2) e2) (Nat.le_of_ble_eq_true rfl) dL_law_787 rfl (fun _ => rfl) ?_
  refine b_icmp_eq dL_law_790 (tgt := 1596) rfl rfl ?_
  exact hnext u2 _ _ hInv (by omega) (by omega)
set_option maxRecDepth 20000 in
theorem law_c18 {Inv : Nat → US → Prop} (hS : St_18 Inv) {n : Nat} (hn : n ≤ 4000) {L : Nat} {xs : Nat → Int32} {cl sl : Nat} {I : Int32} (h1 : vp_in (I + 1) L) (h2 : vp_in (I + 2) L) (h3 : vp_in (I + 3) L) (h4 : vp_in (I + 4) L) (hcl : cl ≤ 6000) (hsl : sl ≤ 100000) (hnext : ∀ (u : US) (cl2 sl2 : Nat), Inv (n + 1) u → cl2 ≤ cl + 1 → sl2 ≤ sl + 6 → SimL L xs cl2 sl2 1596 [some (.ref 130), some (.ref 0), some (.ref 47), some (.ref 85), some (.int I), none, none, none] [] u) (u : US) (hI : Inv n u) : SimL L xs cl sl 795 [some (.ref 130), some (.ref 0), some (.ref 47), some (.ref 85), some (.int I), none, none, none] [] u := by
  obtain ⟨r, u1, u2, e1, e2, hInv⟩ := hS n (xs (I + 1).toNatClampNeg) (xs (I + 2).toNatClampNeg) u hn hI
  refine r_aload_n dL_law_795 rfl ?_
  refine r_aload_n dL_law_796 rfl ?_
  refine r_iload dL_law_797 rfl ?_
  refine r_iconst dL_law_799 (v := 1) rfl ?_
  refine r_iadd dL_law_800 ?_
  refine q_sld h1 dL_law_801 ?_
  refine r_aload_n dL_law_802 rfl ?_
  refine r_iload dL_law_803 rfl ?_
  refine r_iconst dL_law_805 (v := 2) rfl ?_
  refine r_iadd dL_law_806 ?_
  refine q_sld h2 dL_law_807 ?_
  refine g_callV (As := [.int (xs (I + 1).toNatClampNeg), .int (xs (I + 2).toNatClampNeg)]) (res := (some (.int r), u1)) kvL_109 rfl (by decide) ⟨Nat.le_trans hcl (by decide), Nat.le_trans hsl (by decide)⟩ rfl (okX11_ahead ((xs (I + 1).toNatClampNeg)) ((xs (I + 2).toNatClampNeg)) u (r, u1) e1) (Nat.le_of_ble_eq_true rfl) dL_law_808 rfl (fun _ => rfl) ?_
  refine r_aload_n dL_law_811 rfl ?_
  refine r_aload_n dL_law_812 rfl ?_
  refine r_iload dL_law_813 rfl ?_
  refine r_iconst dL_law_815 (v := 1) rfl ?_
  refine r_iadd dL_law_816 ?_
  refine q_sld h1 dL_law_817 ?_
  refine r_aload_n dL_law_818 rfl ?_
  refine r_iload dL_law_819 rfl ?_
  refine r_iconst dL_law_821 (v := 2) rfl ?_
  refine r_iadd dL_law_822 ?_
  refine q_sld h2 dL_law_823 ?_
  refine g_callV (As := [.int (xs (I + 1).toNatClampNeg), .int (xs (I + 2).toNatClampNeg)]) (res := (some (.int r), u2)) kvL_112 rfl (by decide) ⟨Nat.le_trans hcl (by decide), Nat.le_trans hsl (by decide)⟩ rfl (okX12_ahead ((xs (I + 1).toNatClampNeg)) ((xs (I + 2).toNatClampNeg)) u1 (r, u2) e2) (Nat.le_of_ble_eq_true rfl) dL_law_824 rfl (fun _ => rfl) ?_
  refine b_icmp_eq dL_law_827 (tgt := 1596) rfl rfl ?_
  exact hnext u2 _ _ hInv (by omega) (by omega)
set_option maxRecDepth 20000 in
theorem law_c19 {Inv : Nat → US → Prop} (hS : St_19 Inv) {n : Nat} (hn : n ≤ 4000) {L : Nat} {xs : Nat → Int32} {cl sl : Nat} {I : Int32} (h1 : vp_in (I + 1) L) (h2 : vp_in (I + 2) L) (h3 : vp_in (I + 3) L) (h4 : vp_in (I + 4) L) (hcl : cl ≤ 6000) (hsl : sl ≤ 100000) (hnext : ∀ (u : US) (cl2 sl2 : Nat), Inv (n + 1) u → cl2 ≤ cl + 1 → sl2 ≤ sl + 6 → SimL L xs cl2 sl2 1596 [some (.ref 130), some (.ref 0), some (.ref 47), some (.ref 85), some (.int I), none, none, none] [] u) (u : US) (hI : Inv n u) : SimL L xs cl sl 832 [some (.ref 130), some (.ref 0), some (.ref 47), some (.ref 85), some (.int I), none, none, none] [] u := by
  obtain ⟨r, u1, u2, e1, e2, hInv⟩ := hS n (xs (I + 1).toNatClampNeg) (xs (I + 2).toNatClampNeg) u hn hI
  refine r_aload_n dL_law_832 rfl ?_
  refine r_aload_n dL_law_833 rfl ?_
  refine r_iload dL_law_834 rfl ?_
  refine r_iconst dL_law_836 (v := 1) rfl ?_
  refine r_iadd dL_law_837 ?_
  refine q_sld h1 dL_law_838 ?_
  refine r_aload_n dL_law_839 rfl ?_
  refine r_iload dL_law_840 rfl ?_
  refine r_iconst dL_law_842 (v := 2) rfl ?_
  refine r_iadd dL_law_843 ?_
  refine q_sld h2 dL_law_844 ?_
  refine g_callV (As := [.int (xs (I + 1).toNatClampNeg), .int (xs (I + 2).toNatClampNeg)]) (res := (some (.int r), u1)) kvL_113 rfl (by decide) ⟨Nat.le_trans hcl (by decide), Nat.le_trans hsl (by decide)⟩ rfl (okX11_first ((xs (I + 1).toNatClampNeg)) ((xs (I + 2).toNatClampNeg)) u (r, u1) e1) (Nat.le_of_ble_eq_true rfl) dL_law_845 rfl (fun _ => rfl) ?_
  refine r_aload_n dL_law_848 rfl ?_
  refine r_aload_n dL_law_849 rfl ?_
  refine r_iload dL_law_850 rfl ?_
  refine r_iconst dL_law_852 (v := 1) rfl ?_
  refine r_iadd dL_law_853 ?_
  refine q_sld h1 dL_law_854 ?_
  refine r_aload_n dL_law_855 rfl ?_
  refine r_iload dL_law_856 rfl ?_
  refine r_iconst dL_law_858 (v := 2) rfl ?_
  refine r_iadd dL_law_859 ?_
  refine q_sld h2 dL_law_860 ?_
  refine g_callV (As := [.int (xs (I + 1).toNatClampNeg), .int (xs (I + 2).toNatClampNeg)]) (res := (some (.int r), u2)) kvL_116 rfl (by decide) ⟨Nat.le_trans hcl (by decide), Nat.le_trans hsl (by decide)⟩ rfl (okX12_first ((xs (I + 1).toNatClampNeg)) ((xs (I + 2).toNatClampNeg)) u1 (r, u2) e2) (Nat.le_of_ble_eq_true rfl) dL_law_861 rfl (fun _ => rfl) ?_
  refine b_icmp_eq dL_law_864 (tgt := 1596) rfl rfl ?_
  exact hnext u2 _ _ hInv (by omega) (by omega)
set_option maxRecDepth 20000 in
theorem law_c20 {Inv : Nat → US → Prop} (hS : St_20 Inv) {n : Nat} (hn : n ≤ 4000) {L : Nat} {xs : Nat → Int32} {cl sl : Nat} {I : Int32} (h1 : vp_in (I + 1) L) (h2 : vp_in (I + 2) L) (h3 : vp_in (I + 3) L) (h4 : vp_in (I + 4) L) (hcl : cl ≤ 6000) (hsl : sl ≤ 100000) (hnext : ∀ (u : US) (cl2 sl2 : Nat), Inv (n + 1) u → cl2 ≤ cl + 1 → sl2 ≤ sl + 6 → SimL L xs cl2 sl2 1596 [some (.ref 130), some (.ref 0), some (.ref 47), some (.ref 85), some (.int I), none, none, none] [] u) (u : US) (hI : Inv n u) : SimL L xs cl sl 869 [some (.ref 130), some (.ref 0), some (.ref 47), some (.ref 85), some (.int I), none, none, none] [] u := by
  obtain ⟨r, u1, u2, e1, e2, hInv⟩ := hS n (xs (I + 1).toNatClampNeg) u hn hI
  refine r_aload_n dL_law_869 rfl ?_
  refine r_aload_n dL_law_870 rfl ?_
  refine r_iload dL_law_871 rfl ?_
  refine r_iconst dL_law_873 (v := 1) rfl ?_
  refine r_iadd dL_law_874 ?_
  refine q_sld h1 dL_law_875 ?_
  refine g_callV (As := [.int (xs (I + 1).toNatClampNeg)]) (res := (some (.int r), u1)) kvL_117 rfl (by decide) ⟨Nat.le_trans hcl (by decide), Nat.le_trans hsl (by decide)⟩ rfl (okX11_meets ((xs (I + 1).toNatClampNeg)) u (r, u1) e1) (Nat.le_of_ble_eq_true rfl) dL_law_876 rfl (fun _ => rfl) ?_
  refine r_aload_n dL_law_879 rfl ?_
  refine r_aload_n dL_law_880 rfl ?_
  refine r_iload dL_law_881 rfl ?_
  refine r_iconst dL_law_883 (v := 1) rfl ?_
  refine r_iadd dL_law_884 ?_
  refine q_sld h1 dL_law_885 ?_
  refine g_callV (As := [.int (xs (I + 1).toNatClampNeg)]) (res := (some (.int r), u2)) kvL_120 rfl (by decide) ⟨Nat.le_trans hcl (by decide), Nat.le_trans hsl (by decide)⟩ rfl (okX12_meets ((xs (I + 1).toNatClampNeg)) u1 (r, u2) e2) (Nat.le_of_ble_eq_true rfl) dL_law_886 rfl (fun _ => rfl) ?_
  refine b_icmp_eq dL_law_889 (tgt := 1596) rfl rfl ?_
  exact hnext u2 _ _ hInv (by omega) (by omega)
set_option maxRecDepth 20000 in
theorem law_c21 {Inv : Nat → US → Prop} (hS : St_21 Inv) {n : Nat} (hn : n ≤ 4000) {L : Nat} {xs : Nat → Int32} {cl sl : Nat} {I : Int32} (h1 : vp_in (I + 1) L) (h2 : vp_in (I + 2) L) (h3 : vp_in (I + 3) L) (h4 : vp_in (I + 4) L) (hcl : cl ≤ 6000) (hsl : sl ≤ 100000) (hnext : ∀ (u : US) (cl2 sl2 : Nat), Inv (n + 1) u → cl2 ≤ cl + 1 → sl2 ≤ sl + 6 → SimL L xs cl2 sl2 1596 [some (.ref 130), some (.ref 0), some (.ref 47), some (.ref 85), some (.int I), none, none, none] [] u) (u : US) (hI : Inv n u) : SimL L xs cl sl 894 [some (.ref 130), some (.ref 0), some (.ref 47), some (.ref 85), some (.int I), none, none, none] [] u := by
  obtain ⟨r, u1, u2, e1, e2, hInv⟩ := hS n (xs (I + 1).toNatClampNeg) (xs (I + 2).toNatClampNeg) u hn hI
  refine r_aload_n dL_law_894 rfl ?_
  refine r_aload_n dL_law_895 rfl ?_
  refine r_iload dL_law_896 rfl ?_
  refine r_iconst dL_law_898 (v := 1) rfl ?_
  refine r_iadd dL_law_899 ?_
  refine q_sld h1 dL_law_900 ?_
  refine r_aload_n dL_law_901 rfl ?_
  refine r_iload dL_law_902 rfl ?_
  refine r_iconst dL_law_904 (v := 2) rfl ?_
  refine r_iadd dL_law_905 ?_
  refine q_sld h2 dL_law_906 ?_
  refine g_callV (As := [.int (xs (I + 1).toNatClampNeg), .int (xs (I + 2).toNatClampNeg)]) (res := (some (.int r), u1)) kvL_121 rfl (by decide) ⟨Nat.le_trans hcl (by decide), Nat.le_trans hsl (by decide)⟩ rfl (okX11_doubts ((xs (I + 1).toNatClampNeg)) ((xs (I + 2).toNatClampNeg)) u (r, u1) e1) (Nat.le_of_ble_eq_true rfl) dL_law_907 rfl (fun _ => rfl) ?_
  refine r_aload_n dL_law_910 rfl ?_
  refine r_aload_n dL_law_911 rfl ?_
  refine r_iload dL_law_912 rfl ?_
  refine r_iconst dL_law_914 (v := 1) rfl ?_
  refine r_iadd dL_law_915 ?_
  refine q_sld h1 dL_law_916 ?_
  refine r_aload_n dL_law_917 rfl ?_
  refine r_iload dL_law_918 rfl ?_
  refine r_iconst dL_law_920 (v := 2) rfl ?_
  refine r_iadd dL_law_921 ?_
  refine q_sld h2 dL_law_922 ?_
  refine g_callV (As := [.int (xs (I + 1).toNatClampNeg), .int (xs (I + 2).toNatClampNeg)]) (res := (some (.int r), u2)) kvL_124 rfl (by decide) ⟨Nat.le_trans hcl (by decide), Nat.le_trans hsl (by decide)⟩ rfl (okX12_doubts ((xs (I + 1).toNatClampNeg)) ((xs (I + 2).toNatClampNeg)) u1 (r, u2) e2) (Nat.le_of_ble_eq_true rfl) dL_law_923 rfl (fun _ => rfl) ?_
  refine b_icmp_eq dL_law_926 (tgt := 1596) rfl rfl ?_
  exact hnext u2 _ _ hInv (by omega) (by omega)
set_option maxRecDepth 20000 in
theorem law_c22 {Inv : Nat → US → Prop} (hS : St_22 Inv) {n : Nat} (hn : n ≤ 4000) {L : Nat} {xs : Nat → Int32} {cl sl : Nat} {I : Int32} (h1 : vp_in (I + 1) L) (h2 : vp_in (I + 2) L) (h3 : vp_in (I + 3) L) (h4 : vp_in (I + 4) L) (hcl : cl ≤ 6000) (hsl : sl ≤ 100000) (hnext : ∀ (u : US) (cl2 sl2 : Nat), Inv (n + 1) u → cl2 ≤ cl + 1 → sl2 ≤ sl + 6 → SimL L xs cl2 sl2 1596 [some (.ref 130), some (.ref 0), some (.ref 47), some (.ref 85), some (.int I), none, none, none] [] u) (u : US) (hI : Inv n u) : SimL L xs cl sl 931 [some (.ref 130), some (.ref 0), some (.ref 47), some (.ref 85), some (.int I), none, none, none] [] u := by
  obtain ⟨r, u1, u2, e1, e2, hInv⟩ := hS n (xs (I + 1).toNatClampNeg) u hn hI
  refine r_aload_n dL_law_931 rfl ?_
  refine r_aload_n dL_law_932 rfl ?_
  refine r_iload dL_law_933 rfl ?_
  refine r_iconst dL_law_935 (v := 1) rfl ?_
  refine r_iadd dL_law_936 ?_
  refine q_sld h1 dL_law_937 ?_
  refine g_callV (As := [.int (xs (I + 1).toNatClampNeg)]) (res := (some (.int r), u1)) kvL_125 rfl (by decide) ⟨Nat.le_trans hcl (by decide), Nat.le_trans hsl (by decide)⟩ rfl (okX11_watch ((xs (I + 1).toNatClampNeg)) u (r, u1) e1) (Nat.le_of_ble_eq_true rfl) dL_law_938 rfl (fun _ => rfl) ?_
  refine r_aload_n dL_law_941 rfl ?_
  refine r_aload_n dL_law_942 rfl ?_
  refine r_iload dL_law_943 rfl ?_
  refine r_iconst dL_law_945 (v := 1) rfl ?_
  refine r_iadd dL_law_946 ?_
  refine q_sld h1 dL_law_947 ?_
  refine g_callV (As := [.int (xs (I + 1).toNatClampNeg)]) (res := (some (.int r), u2)) kvL_128 rfl (by decide) ⟨Nat.le_trans hcl (by decide), Nat.le_trans hsl (by decide)⟩ rfl (okX12_watch ((xs (I + 1).toNatClampNeg)) u1 (r, u2) e2) (Nat.le_of_ble_eq_true rfl) dL_law_948 rfl (fun _ => rfl) ?_
  refine b_icmp_eq dL_law_951 (tgt := 1596) rfl rfl ?_
  exact hnext u2 _ _ hInv (by omega) (by omega)
set_option maxRecDepth 20000 in
theorem law_c23 {Inv : Nat → US → Prop} (hS : St_23 Inv) {n : Nat} (hn : n ≤ 4000) {L : Nat} {xs : Nat → Int32} {cl sl : Nat} {I : Int32} (h1 : vp_in (I + 1) L) (h2 : vp_in (I + 2) L) (h3 : vp_in (I + 3) L) (h4 : vp_in (I + 4) L) (hcl : cl ≤ 6000) (hsl : sl ≤ 100000) (hnext : ∀ (u : US) (cl2 sl2 : Nat), Inv (n + 1) u → cl2 ≤ cl + 1 → sl2 ≤ sl + 6 → SimL L xs cl2 sl2 1596 [some (.ref 130), some (.ref 0), some (.ref 47), some (.ref 85), some (.int I), none, none, none] [] u) (u : US) (hI : Inv n u) : SimL L xs cl sl 956 [some (.ref 130), some (.ref 0), some (.ref 47), some (.ref 85), some (.int I), none, none, none] [] u := by
  obtain ⟨r, u1, u2, e1, e2, hInv⟩ := hS n u hn hI
  refine r_aload_n dL_law_956 rfl ?_
  refine g_callV (As := []) (res := (some (.int r), u1)) kvL_129 rfl (by decide) ⟨Nat.le_trans hcl (by decide), Nat.le_trans hsl (by decide)⟩ rfl (okX11_hidden  u (r, u1) e1) (Nat.le_of_ble_eq_true rfl) dL_law_957 rfl (fun _ => rfl) ?_
  refine r_aload_n dL_law_960 rfl ?_
  refine g_callV (As := []) (res := (some (.int r), u2)) kvL_132 rfl (by decide) ⟨Nat.le_trans hcl (by decide), Nat.le_trans hsl (by decide)⟩ rfl (okX12_hidden  u1 (r, u2) e2) (Nat.le_of_ble_eq_true rfl) dL_law_961 rfl (fun _ => rfl) ?_
  refine b_icmp_eq dL_law_964 (tgt := 1596) rfl rfl ?_
  exact hnext u2 _ _ hInv (by omega) (by omega)
set_option maxRecDepth 20000 in
theorem law_c24 {Inv : Nat → US → Prop} (hS : St_24 Inv) {n : Nat} (hn : n ≤ 4000) {L : Nat} {xs : Nat → Int32} {cl sl : Nat} {I : Int32} (h1 : vp_in (I + 1) L) (h2 : vp_in (I + 2) L) (h3 : vp_in (I + 3) L) (h4 : vp_in (I + 4) L) (hcl : cl ≤ 6000) (hsl : sl ≤ 100000) (hnext : ∀ (u : US) (cl2 sl2 : Nat), Inv (n + 1) u → cl2 ≤ cl + 1 → sl2 ≤ sl + 6 → SimL L xs cl2 sl2 1596 [some (.ref 130), some (.ref 0), some (.ref 47), some (.ref 85), some (.int I), none, none, none] [] u) (u : US) (hI : Inv n u) : SimL L xs cl sl 969 [some (.ref 130), some (.ref 0), some (.ref 47), some (.ref 85), some (.int I), none, none, none] [] u := by
  obtain ⟨r, u1, u2, e1, e2, hInv⟩ := hS n (xs (I + 1).toNatClampNeg) (xs (I + 2).toNatClampNeg) (xs (I + 3).toNatClampNeg) u hn hI
  refine r_aload_n dL_law_969 rfl ?_
  refine r_aload_n dL_law_970 rfl ?_
  refine r_iload dL_law_971 rfl ?_
  refine r_iconst dL_law_973 (v := 1) rfl ?_
  refine r_iadd dL_law_974 ?_
  refine q_sld h1 dL_law_975 ?_
  refine r_aload_n dL_law_976 rfl ?_
  refine r_iload dL_law_977 rfl ?_
  refine r_iconst dL_law_979 (v := 2) rfl ?_
  refine r_iadd dL_law_980 ?_
  refine q_sld h2 dL_law_981 ?_
  refine r_aload_n dL_law_982 rfl ?_
  refine r_iload dL_law_983 rfl ?_
  refine r_iconst dL_law_985 (v := 3) rfl ?_
  refine r_iadd dL_law_986 ?_
  refine q_sld h3 dL_law_987 ?_
  refine g_callV (As := [.int (xs (I + 1).toNatClampNeg), .int (xs (I + 2).toNatClampNeg), .int (xs (I + 3).toNatClampNeg)]) (res := (some (.int r), u1)) kvL_133 rfl (by decide) ⟨Nat.le_trans hcl (by decide), Nat.le_trans hsl (by decide)⟩ rfl (okX11_glaze ((xs (I + 1).toNatClampNeg)) ((xs (I + 2).toNatClampNeg)) ((xs (I + 3).toNatClampNeg)) u (r, u1) e1) (Nat.le_of_ble_eq_true rfl) dL_law_988 rfl (fun _ => rfl) ?_
  refine r_aload_n dL_law_991 rfl ?_
  refine r_aload_n dL_law_992 rfl ?_
  refine r_iload dL_law_993 rfl ?_
  refine r_iconst dL_law_995 (v := 1) rfl ?_
  refine r_iadd dL_law_996 ?_
  refine q_sld h1 dL_law_997 ?_
  refine r_aload_n dL_law_998 rfl ?_
  refine r_iload dL_law_999 rfl ?_
  refine r_iconst dL_law_1001 (v := 2) rfl ?_
  refine r_iadd dL_law_1002 ?_
  refine q_sld h2 dL_law_1003 ?_
  refine r_aload_n dL_law_1004 rfl ?_
  refine r_iload dL_law_1005 rfl ?_
  refine r_iconst dL_law_1007 (v := 3) rfl ?_
  refine r_iadd dL_law_1008 ?_
  refine q_sld h3 dL_law_1009 ?_
  refine g_callV (As := [.int (xs (I + 1).toNatClampNeg), .int (xs (I + 2).toNatClampNeg), .int (xs (I + 3).toNatClampNeg)]) (res := (some (.int r), u2)) kvL_136 rfl (by decide) ⟨Nat.le_trans hcl (by decide), Nat.le_trans hsl (by decide)⟩ rfl (okX12_glaze ((xs (I + 1).toNatClampNeg)) ((xs (I + 2).toNatClampNeg)) ((xs (I + 3).toNatClampNeg)) u1 (r, u2) e2) (Nat.le_of_ble_eq_true rfl) dL_law_1010 rfl (fun _ => rfl) ?_
  refine b_icmp_eq dL_law_1013 (tgt := 1596) rfl rfl ?_
  exact hnext u2 _ _ hInv (by omega) (by omega)
set_option maxRecDepth 20000 in
theorem law_c25 {Inv : Nat → US → Prop} (hS : St_25 Inv) {n : Nat} (hn : n ≤ 4000) {L : Nat} {xs : Nat → Int32} {cl sl : Nat} {I : Int32} (h1 : vp_in (I + 1) L) (h2 : vp_in (I + 2) L) (h3 : vp_in (I + 3) L) (h4 : vp_in (I + 4) L) (hcl : cl ≤ 6000) (hsl : sl ≤ 100000) (hnext : ∀ (u : US) (cl2 sl2 : Nat), Inv (n + 1) u → cl2 ≤ cl + 1 → sl2 ≤ sl + 6 → SimL L xs cl2 sl2 1596 [some (.ref 130), some (.ref 0), some (.ref 47), some (.ref 85), some (.int I), none, none, none] [] u) (u : US) (hI : Inv n u) : SimL L xs cl sl 1018 [some (.ref 130), some (.ref 0), some (.ref 47), some (.ref 85), some (.int I), none, none, none] [] u := by
  obtain ⟨r, u1, u2, e1, e2, hInv⟩ := hS n (xs (I + 1).toNatClampNeg) u hn hI
  refine r_aload_n dL_law_1018 rfl ?_
  refine r_aload_n dL_law_1019 rfl ?_
  refine r_iload dL_law_1020 rfl ?_
  refine r_iconst dL_law_1022 (v := 1) rfl ?_
  refine r_iadd dL_law_1023 ?_
  refine q_sld h1 dL_law_1024 ?_
  refine g_callV (As := [.int (xs (I + 1).toNatClampNeg)]) (res := (some (.int r), u1)) kvL_137 rfl (by decide) ⟨Nat.le_trans hcl (by decide), Nat.le_trans hsl (by decide)⟩ rfl (okX11_best ((xs (I + 1).toNatClampNeg)) u (r, u1) e1) (Nat.le_of_ble_eq_true rfl) dL_law_1025 rfl (fun _ => rfl) ?_
  refine r_aload_n dL_law_1028 rfl ?_
  refine r_aload_n dL_law_1029 rfl ?_
  refine r_iload dL_law_1030 rfl ?_
  refine r_iconst dL_law_1032 (v := 1) rfl ?_
  refine r_iadd dL_law_1033 ?_
  refine q_sld h1 dL_law_1034 ?_
  refine g_callV (As := [.int (xs (I + 1).toNatClampNeg)]) (res := (some (.int r), u2)) kvL_140 rfl (by decide) ⟨Nat.le_trans hcl (by decide), Nat.le_trans hsl (by decide)⟩ rfl (okX12_best ((xs (I + 1).toNatClampNeg)) u1 (r, u2) e2) (Nat.le_of_ble_eq_true rfl) dL_law_1035 rfl (fun _ => rfl) ?_
  refine b_icmp_eq dL_law_1038 (tgt := 1596) rfl rfl ?_
  exact hnext u2 _ _ hInv (by omega) (by omega)
set_option maxRecDepth 20000 in
theorem law_c26 {Inv : Nat → US → Prop} (hS : St_26 Inv) {n : Nat} (hn : n ≤ 4000) {L : Nat} {xs : Nat → Int32} {cl sl : Nat} {I : Int32} (h1 : vp_in (I + 1) L) (h2 : vp_in (I + 2) L) (h3 : vp_in (I + 3) L) (h4 : vp_in (I + 4) L) (hcl : cl ≤ 6000) (hsl : sl ≤ 100000) (hnext : ∀ (u : US) (cl2 sl2 : Nat), Inv (n + 1) u → cl2 ≤ cl + 1 → sl2 ≤ sl + 6 → SimL L xs cl2 sl2 1596 [some (.ref 130), some (.ref 0), some (.ref 47), some (.ref 85), some (.int I), none, none, none] [] u) (u : US) (hI : Inv n u) : SimL L xs cl sl 1043 [some (.ref 130), some (.ref 0), some (.ref 47), some (.ref 85), some (.int I), none, none, none] [] u := by
  obtain ⟨r, u1, u2, e1, e2, hInv⟩ := hS n (xs (I + 1).toNatClampNeg) u hn hI
  refine r_aload_n dL_law_1043 rfl ?_
  refine r_aload_n dL_law_1044 rfl ?_
  refine r_iload dL_law_1045 rfl ?_
  refine r_iconst dL_law_1047 (v := 1) rfl ?_
  refine r_iadd dL_law_1048 ?_
  refine q_sld h1 dL_law_1049 ?_
  refine g_callV (As := [.int (xs (I + 1).toNatClampNeg)]) (res := (some (.int r), u1)) kvL_141 rfl (by decide) ⟨Nat.le_trans hcl (by decide), Nat.le_trans hsl (by decide)⟩ rfl (okX11_adds ((xs (I + 1).toNatClampNeg)) u (r, u1) e1) (Nat.le_of_ble_eq_true rfl) dL_law_1050 rfl (fun _ => rfl) ?_
  refine r_aload_n dL_law_1053 rfl ?_
  refine r_aload_n dL_law_1054 rfl ?_
  refine r_iload dL_law_1055 rfl ?_
  refine r_iconst dL_law_1057 (v := 1) rfl ?_
  refine r_iadd dL_law_1058 ?_
  refine q_sld h1 dL_law_1059 ?_
  refine g_callV (As := [.int (xs (I + 1).toNatClampNeg)]) (res := (some (.int r), u2)) kvL_144 rfl (by decide) ⟨Nat.le_trans hcl (by decide), Nat.le_trans hsl (by decide)⟩ rfl (okX12_adds ((xs (I + 1).toNatClampNeg)) u1 (r, u2) e2) (Nat.le_of_ble_eq_true rfl) dL_law_1060 rfl (fun _ => rfl) ?_
  refine b_icmp_eq dL_law_1063 (tgt := 1596) rfl rfl ?_
  exact hnext u2 _ _ hInv (by omega) (by omega)
set_option maxRecDepth 20000 in
theorem law_c27 {Inv : Nat → US → Prop} (hS : St_27 Inv) {n : Nat} (hn : n ≤ 4000) {L : Nat} {xs : Nat → Int32} {cl sl : Nat} {I : Int32} (h1 : vp_in (I + 1) L) (h2 : vp_in (I + 2) L) (h3 : vp_in (I + 3) L) (h4 : vp_in (I + 4) L) (hcl : cl ≤ 6000) (hsl : sl ≤ 100000) (hnext : ∀ (u : US) (cl2 sl2 : Nat), Inv (n + 1) u → cl2 ≤ cl + 1 → sl2 ≤ sl + 6 → SimL L xs cl2 sl2 1596 [some (.ref 130), some (.ref 0), some (.ref 47), some (.ref 85), some (.int I), none, none, none] [] u) (u : US) (hI : Inv n u) : SimL L xs cl sl 1068 [some (.ref 130), some (.ref 0), some (.ref 47), some (.ref 85), some (.int I), none, none, none] [] u := by
  obtain ⟨r, u1, u2, e1, e2, hInv⟩ := hS n (xs (I + 1).toNatClampNeg) (xs (I + 2).toNatClampNeg) (xs (I + 3).toNatClampNeg) (xs (I + 4).toNatClampNeg) u hn hI
  refine r_aload_n dL_law_1068 rfl ?_
  refine r_aload_n dL_law_1069 rfl ?_
  refine r_iload dL_law_1070 rfl ?_
  refine r_iconst dL_law_1072 (v := 1) rfl ?_
  refine r_iadd dL_law_1073 ?_
  refine q_sld h1 dL_law_1074 ?_
  refine r_aload_n dL_law_1075 rfl ?_
  refine r_iload dL_law_1076 rfl ?_
  refine r_iconst dL_law_1078 (v := 2) rfl ?_
  refine r_iadd dL_law_1079 ?_
  refine q_sld h2 dL_law_1080 ?_
  refine r_aload_n dL_law_1081 rfl ?_
  refine r_iload dL_law_1082 rfl ?_
  refine r_iconst dL_law_1084 (v := 3) rfl ?_
  refine r_iadd dL_law_1085 ?_
  refine q_sld h3 dL_law_1086 ?_
  refine r_aload_n dL_law_1087 rfl ?_
  refine r_iload dL_law_1088 rfl ?_
  refine r_iconst dL_law_1090 (v := 4) rfl ?_
  refine r_iadd dL_law_1091 ?_
  refine q_sld h4 dL_law_1092 ?_
  refine g_callV (As := [.int (xs (I + 1).toNatClampNeg), .int (xs (I + 2).toNatClampNeg), .int (xs (I + 3).toNatClampNeg), .int (xs (I + 4).toNatClampNeg)]) (res := (some (.int r), u1)) kvL_145 rfl (by decide) ⟨Nat.le_trans hcl (by decide), Nat.le_trans hsl (by decide)⟩ rfl (okX11_steals ((xs (I + 1).toNatClampNeg)) ((xs (I + 2).toNatClampNeg)) ((xs (I + 3).toNatClampNeg)) ((xs (I + 4).toNatClampNeg)) u (r, u1) e1) (Nat.le_of_ble_eq_true rfl) dL_law_1093 rfl (fun _ => rfl) ?_
  refine r_aload_n dL_law_1096 rfl ?_
  refine r_aload_n dL_law_1097 rfl ?_
  refine r_iload dL_law_1098 rfl ?_
  refine r_iconst dL_law_1100 (v := 1) rfl ?_
  refine r_iadd dL_law_1101 ?_
  refine q_sld h1 dL_law_1102 ?_
  refine r_aload_n dL_law_1103 rfl ?_
  refine r_iload dL_law_1104 rfl ?_
  refine r_iconst dL_law_1106 (v := 2) rfl ?_
  refine r_iadd dL_law_1107 ?_
  refine q_sld h2 dL_law_1108 ?_
  refine r_aload_n dL_law_1109 rfl ?_
  refine r_iload dL_law_1110 rfl ?_
  refine r_iconst dL_law_1112 (v := 3) rfl ?_
  refine r_iadd dL_law_1113 ?_
  refine q_sld h3 dL_law_1114 ?_
  refine r_aload_n dL_law_1115 rfl ?_
  refine r_iload dL_law_1116 rfl ?_
  refine r_iconst dL_law_1118 (v := 4) rfl ?_
  refine r_iadd dL_law_1119 ?_
  refine q_sld h4 dL_law_1120 ?_
  refine g_callV (As := [.int (xs (I + 1).toNatClampNeg), .int (xs (I + 2).toNatClampNeg), .int (xs (I + 3).toNatClampNeg), .int (xs (I + 4).toNatClampNeg)]) (res := (some (.int r), u2)) kvL_148 rfl (by decide) ⟨Nat.le_trans hcl (by decide), Nat.le_trans hsl (by decide)⟩ rfl (okX12_steals ((xs (I + 1).toNatClampNeg)) ((xs (I + 2).toNatClampNeg)) ((xs (I + 3).toNatClampNeg)) ((xs (I + 4).toNatClampNeg)) u1 (r, u2) e2) (Nat.le_of_ble_eq_true rfl) dL_law_1121 rfl (fun _ => rfl) ?_
  refine b_icmp_eq dL_law_1124 (tgt := 1596) rfl rfl ?_
  exact hnext u2 _ _ hInv (by omega) (by omega)
set_option maxRecDepth 20000 in
theorem law_c28 {Inv : Nat → US → Prop} (hS : St_28 Inv) {n : Nat} (hn : n ≤ 4000) {L : Nat} {xs : Nat → Int32} {cl sl : Nat} {I : Int32} (h1 : vp_in (I + 1) L) (h2 : vp_in (I + 2) L) (h3 : vp_in (I + 3) L) (h4 : vp_in (I + 4) L) (hcl : cl ≤ 6000) (hsl : sl ≤ 100000) (hnext : ∀ (u : US) (cl2 sl2 : Nat), Inv (n + 1) u → cl2 ≤ cl + 1 → sl2 ≤ sl + 6 → SimL L xs cl2 sl2 1596 [some (.ref 130), some (.ref 0), some (.ref 47), some (.ref 85), some (.int I), none, none, none] [] u) (u : US) (hI : Inv n u) : SimL L xs cl sl 1129 [some (.ref 130), some (.ref 0), some (.ref 47), some (.ref 85), some (.int I), none, none, none] [] u := by
  obtain ⟨r, u1, u2, e1, e2, hInv⟩ := hS n (xs (I + 1).toNatClampNeg) (xs (I + 2).toNatClampNeg) (xs (I + 3).toNatClampNeg) (xs (I + 4).toNatClampNeg) u hn hI
  refine r_aload_n dL_law_1129 rfl ?_
  refine r_aload_n dL_law_1130 rfl ?_
  refine r_iload dL_law_1131 rfl ?_
  refine r_iconst dL_law_1133 (v := 1) rfl ?_
  refine r_iadd dL_law_1134 ?_
  refine q_sld h1 dL_law_1135 ?_
  refine r_aload_n dL_law_1136 rfl ?_
  refine r_iload dL_law_1137 rfl ?_
  refine r_iconst dL_law_1139 (v := 2) rfl ?_
  refine r_iadd dL_law_1140 ?_
  refine q_sld h2 dL_law_1141 ?_
  refine r_aload_n dL_law_1142 rfl ?_
  refine r_iload dL_law_1143 rfl ?_
  refine r_iconst dL_law_1145 (v := 3) rfl ?_
  refine r_iadd dL_law_1146 ?_
  refine q_sld h3 dL_law_1147 ?_
  refine r_aload_n dL_law_1148 rfl ?_
  refine r_iload dL_law_1149 rfl ?_
  refine r_iconst dL_law_1151 (v := 4) rfl ?_
  refine r_iadd dL_law_1152 ?_
  refine q_sld h4 dL_law_1153 ?_
  refine g_callV (As := [.int (xs (I + 1).toNatClampNeg), .int (xs (I + 2).toNatClampNeg), .int (xs (I + 3).toNatClampNeg), .int (xs (I + 4).toNatClampNeg)]) (res := (some (.int r), u1)) kvL_149 rfl (by decide) ⟨Nat.le_trans hcl (by decide), Nat.le_trans hsl (by decide)⟩ rfl (okX11_slips ((xs (I + 1).toNatClampNeg)) ((xs (I + 2).toNatClampNeg)) ((xs (I + 3).toNatClampNeg)) ((xs (I + 4).toNatClampNeg)) u (r, u1) e1) (Nat.le_of_ble_eq_true rfl) dL_law_1154 rfl (fun _ => rfl) ?_
  refine r_aload_n dL_law_1157 rfl ?_
  refine r_aload_n dL_law_1158 rfl ?_
  refine r_iload dL_law_1159 rfl ?_
  refine r_iconst dL_law_1161 (v := 1) rfl ?_
  refine r_iadd dL_law_1162 ?_
  refine q_sld h1 dL_law_1163 ?_
  refine r_aload_n dL_law_1164 rfl ?_
  refine r_iload dL_law_1165 rfl ?_
  refine r_iconst dL_law_1167 (v := 2) rfl ?_
  refine r_iadd dL_law_1168 ?_
  refine q_sld h2 dL_law_1169 ?_
  refine r_aload_n dL_law_1170 rfl ?_
  refine r_iload dL_law_1171 rfl ?_
  refine r_iconst dL_law_1173 (v := 3) rfl ?_
  refine r_iadd dL_law_1174 ?_
  refine q_sld h3 dL_law_1175 ?_
  refine r_aload_n dL_law_1176 rfl ?_
  refine r_iload dL_law_1177 rfl ?_
  refine r_iconst dL_law_1179 (v := 4) rfl ?_
  refine r_iadd dL_law_1180 ?_
  refine q_sld h4 dL_law_1181 ?_
  refine g_callV (As := [.int (xs (I + 1).toNatClampNeg), .int (xs (I + 2).toNatClampNeg), .int (xs (I + 3).toNatClampNeg), .int (xs (I + 4).toNatClampNeg)]) (res := (some (.int r), u2)) kvL_152 rfl (by decide) ⟨Nat.le_trans hcl (by decide), Nat.le_trans hsl (by decide)⟩ rfl (okX12_slips ((xs (I + 1).toNatClampNeg)) ((xs (I + 2).toNatClampNeg)) ((xs (I + 3).toNatClampNeg)) ((xs (I + 4).toNatClampNeg)) u1 (r, u2) e2) (Nat.le_of_ble_eq_true rfl) dL_law_1182 rfl (fun _ => rfl) ?_
  refine b_icmp_eq dL_law_1185 (tgt := 1596) rfl rfl ?_
  exact hnext u2 _ _ hInv (by omega) (by omega)
set_option maxRecDepth 20000 in
theorem law_c29 {Inv : Nat → US → Prop} (hS : St_29 Inv) {n : Nat} (hn : n ≤ 4000) {L : Nat} {xs : Nat → Int32} {cl sl : Nat} {I : Int32} (h1 : vp_in (I + 1) L) (h2 : vp_in (I + 2) L) (h3 : vp_in (I + 3) L) (h4 : vp_in (I + 4) L) (hcl : cl ≤ 6000) (hsl : sl ≤ 100000) (hnext : ∀ (u : US) (cl2 sl2 : Nat), Inv (n + 1) u → cl2 ≤ cl + 1 → sl2 ≤ sl + 6 → SimL L xs cl2 sl2 1596 [some (.ref 130), some (.ref 0), some (.ref 47), some (.ref 85), some (.int I), none, none, none] [] u) (u : US) (hI : Inv n u) : SimL L xs cl sl 1190 [some (.ref 130), some (.ref 0), some (.ref 47), some (.ref 85), some (.int I), none, none, none] [] u := by
  obtain ⟨r, u1, u2, e1, e2, hInv⟩ := hS n (xs (I + 1).toNatClampNeg) (xs (I + 2).toNatClampNeg) u hn hI
  refine r_aload_n dL_law_1190 rfl ?_
  refine r_aload_n dL_law_1191 rfl ?_
  refine r_iload dL_law_1192 rfl ?_
  refine r_iconst dL_law_1194 (v := 1) rfl ?_
  refine r_iadd dL_law_1195 ?_
  refine q_sld h1 dL_law_1196 ?_
  refine r_aload_n dL_law_1197 rfl ?_
  refine r_iload dL_law_1198 rfl ?_
  refine r_iconst dL_law_1200 (v := 2) rfl ?_
  refine r_iadd dL_law_1201 ?_
  refine q_sld h2 dL_law_1202 ?_
  refine g_callV (As := [.int (xs (I + 1).toNatClampNeg), .int (xs (I + 2).toNatClampNeg)]) (res := (some (.long r), u1)) kvL_153 rfl (by decide) ⟨Nat.le_trans hcl (by decide), Nat.le_trans hsl (by decide)⟩ rfl (okX11_dark ((xs (I + 1).toNatClampNeg)) ((xs (I + 2).toNatClampNeg)) u (r, u1) e1) (Nat.le_of_ble_eq_true rfl) dL_law_1203 rfl (fun _ => rfl) ?_
  refine r_aload_n dL_law_1206 rfl ?_
  refine r_aload_n dL_law_1207 rfl ?_
  refine r_iload dL_law_1208 rfl ?_
  refine r_iconst dL_law_1210 (v := 1) rfl ?_
  refine r_iadd dL_law_1211 ?_
  refine q_sld h1 dL_law_1212 ?_
  refine r_aload_n dL_law_1213 rfl ?_
  refine r_iload dL_law_1214 rfl ?_
  refine r_iconst dL_law_1216 (v := 2) rfl ?_
  refine r_iadd dL_law_1217 ?_
  refine q_sld h2 dL_law_1218 ?_
  refine g_callV (As := [.int (xs (I + 1).toNatClampNeg), .int (xs (I + 2).toNatClampNeg)]) (res := (some (.long r), u2)) kvL_157 rfl (by decide) ⟨Nat.le_trans hcl (by decide), Nat.le_trans hsl (by decide)⟩ rfl (okX12_dark ((xs (I + 1).toNatClampNeg)) ((xs (I + 2).toNatClampNeg)) u1 (r, u2) e2) (Nat.le_of_ble_eq_true rfl) dL_law_1219 rfl (fun _ => rfl) ?_
  refine r_lcmp dL_law_1222 ?_
  refine b_if_eq dL_law_1223 (tgt := 1596) rfl (lg_same _) ?_
  exact hnext u2 _ _ hInv (by omega) (by omega)
set_option maxRecDepth 20000 in
theorem law_c30 {Inv : Nat → US → Prop} (hS : St_30 Inv) {n : Nat} (hn : n ≤ 4000) {L : Nat} {xs : Nat → Int32} {cl sl : Nat} {I : Int32} (h1 : vp_in (I + 1) L) (h2 : vp_in (I + 2) L) (h3 : vp_in (I + 3) L) (h4 : vp_in (I + 4) L) (hcl : cl ≤ 6000) (hsl : sl ≤ 100000) (hnext : ∀ (u : US) (cl2 sl2 : Nat), Inv (n + 1) u → cl2 ≤ cl + 1 → sl2 ≤ sl + 6 → SimL L xs cl2 sl2 1596 [some (.ref 130), some (.ref 0), some (.ref 47), some (.ref 85), some (.int I), none, none, none] [] u) (u : US) (hI : Inv n u) : SimL L xs cl sl 1228 [some (.ref 130), some (.ref 0), some (.ref 47), some (.ref 85), some (.int I), none, none, none] [] u := by
  obtain ⟨r, u1, u2, e1, e2, hInv⟩ := hS n (xs (I + 1).toNatClampNeg) (xs (I + 2).toNatClampNeg) (xs (I + 3).toNatClampNeg) u hn hI
  refine r_aload_n dL_law_1228 rfl ?_
  refine r_aload_n dL_law_1229 rfl ?_
  refine r_iload dL_law_1230 rfl ?_
  refine r_iconst dL_law_1232 (v := 1) rfl ?_
  refine r_iadd dL_law_1233 ?_
  refine q_sld h1 dL_law_1234 ?_
  refine r_aload_n dL_law_1235 rfl ?_
  refine r_iload dL_law_1236 rfl ?_
  refine r_iconst dL_law_1238 (v := 2) rfl ?_
  refine r_iadd dL_law_1239 ?_
  refine q_sld h2 dL_law_1240 ?_
  refine r_aload_n dL_law_1241 rfl ?_
  refine r_iload dL_law_1242 rfl ?_
  refine r_iconst dL_law_1244 (v := 3) rfl ?_
  refine r_iadd dL_law_1245 ?_
  refine q_sld h3 dL_law_1246 ?_
  refine g_callV (As := [.int (xs (I + 1).toNatClampNeg), .int (xs (I + 2).toNatClampNeg), .int (xs (I + 3).toNatClampNeg)]) (res := (some (.int r), u1)) kvL_158 rfl (by decide) ⟨Nat.le_trans hcl (by decide), Nat.le_trans hsl (by decide)⟩ rfl (okX11_watched ((xs (I + 1).toNatClampNeg)) ((xs (I + 2).toNatClampNeg)) ((xs (I + 3).toNatClampNeg)) u (r, u1) e1) (Nat.le_of_ble_eq_true rfl) dL_law_1247 rfl (fun _ => rfl) ?_
  refine r_aload_n dL_law_1250 rfl ?_
  refine r_aload_n dL_law_1251 rfl ?_
  refine r_iload dL_law_1252 rfl ?_
  refine r_iconst dL_law_1254 (v := 1) rfl ?_
  refine r_iadd dL_law_1255 ?_
  refine q_sld h1 dL_law_1256 ?_
  refine r_aload_n dL_law_1257 rfl ?_
  refine r_iload dL_law_1258 rfl ?_
  refine r_iconst dL_law_1260 (v := 2) rfl ?_
  refine r_iadd dL_law_1261 ?_
  refine q_sld h2 dL_law_1262 ?_
  refine r_aload_n dL_law_1263 rfl ?_
  refine r_iload dL_law_1264 rfl ?_
  refine r_iconst dL_law_1266 (v := 3) rfl ?_
  refine r_iadd dL_law_1267 ?_
  refine q_sld h3 dL_law_1268 ?_
  refine g_callV (As := [.int (xs (I + 1).toNatClampNeg), .int (xs (I + 2).toNatClampNeg), .int (xs (I + 3).toNatClampNeg)]) (res := (some (.int r), u2)) kvL_161 rfl (by decide) ⟨Nat.le_trans hcl (by decide), Nat.le_trans hsl (by decide)⟩ rfl (okX12_watched ((xs (I + 1).toNatClampNeg)) ((xs (I + 2).toNatClampNeg)) ((xs (I + 3).toNatClampNeg)) u1 (r, u2) e2) (Nat.le_of_ble_eq_true rfl) dL_law_1269 rfl (fun _ => rfl) ?_
  refine b_icmp_eq dL_law_1272 (tgt := 1596) rfl rfl ?_
  exact hnext u2 _ _ hInv (by omega) (by omega)
set_option maxRecDepth 20000 in
theorem law_c31 {Inv : Nat → US → Prop} (hS : St_31 Inv) {n : Nat} (hn : n ≤ 4000) {L : Nat} {xs : Nat → Int32} {cl sl : Nat} {I : Int32} (h1 : vp_in (I + 1) L) (h2 : vp_in (I + 2) L) (h3 : vp_in (I + 3) L) (h4 : vp_in (I + 4) L) (hcl : cl ≤ 6000) (hsl : sl ≤ 100000) (hnext : ∀ (u : US) (cl2 sl2 : Nat), Inv (n + 1) u → cl2 ≤ cl + 1 → sl2 ≤ sl + 6 → SimL L xs cl2 sl2 1596 [some (.ref 130), some (.ref 0), some (.ref 47), some (.ref 85), some (.int I), none, none, none] [] u) (u : US) (hI : Inv n u) : SimL L xs cl sl 1277 [some (.ref 130), some (.ref 0), some (.ref 47), some (.ref 85), some (.int I), none, none, none] [] u := by
  obtain ⟨r, u1, u2, e1, e2, hInv⟩ := hS n u hn hI
  refine r_aload_n dL_law_1277 rfl ?_
  refine g_callV (As := []) (res := (some (.int r), u1)) kvL_162 rfl (by decide) ⟨Nat.le_trans hcl (by decide), Nat.le_trans hsl (by decide)⟩ rfl (okX11_forget  u (r, u1) e1) (Nat.le_of_ble_eq_true rfl) dL_law_1278 rfl (fun _ => rfl) ?_
  refine r_aload_n dL_law_1281 rfl ?_
  refine g_callV (As := []) (res := (some (.int r), u2)) kvL_165 rfl (by decide) ⟨Nat.le_trans hcl (by decide), Nat.le_trans hsl (by decide)⟩ rfl (okX12_forget  u1 (r, u2) e2) (Nat.le_of_ble_eq_true rfl) dL_law_1282 rfl (fun _ => rfl) ?_
  refine b_icmp_eq dL_law_1285 (tgt := 1596) rfl rfl ?_
  exact hnext u2 _ _ hInv (by omega) (by omega)
set_option maxRecDepth 20000 in
theorem law_c32 {Inv : Nat → US → Prop} (hS : St_32 Inv) {n : Nat} (hn : n ≤ 4000) {L : Nat} {xs : Nat → Int32} {cl sl : Nat} {I : Int32} (h1 : vp_in (I + 1) L) (h2 : vp_in (I + 2) L) (h3 : vp_in (I + 3) L) (h4 : vp_in (I + 4) L) (hcl : cl ≤ 6000) (hsl : sl ≤ 100000) (hnext : ∀ (u : US) (cl2 sl2 : Nat), Inv (n + 1) u → cl2 ≤ cl + 1 → sl2 ≤ sl + 6 → SimL L xs cl2 sl2 1596 [some (.ref 130), some (.ref 0), some (.ref 47), some (.ref 85), some (.int I), none, none, none] [] u) (u : US) (hI : Inv n u) : SimL L xs cl sl 1290 [some (.ref 130), some (.ref 0), some (.ref 47), some (.ref 85), some (.int I), none, none, none] [] u := by
  obtain ⟨r, u1, u2, e1, e2, hInv⟩ := hS n u hn hI
  refine r_aload_n dL_law_1290 rfl ?_
  refine g_callV (As := []) (res := (some (.int r), u1)) kvL_166 rfl (by decide) ⟨Nat.le_trans hcl (by decide), Nat.le_trans hsl (by decide)⟩ rfl (okX11_laws  u (r, u1) e1) (Nat.le_of_ble_eq_true rfl) dL_law_1291 rfl (fun _ => rfl) ?_
  refine r_aload_n dL_law_1294 rfl ?_
  refine g_callV (As := []) (res := (some (.int r), u2)) kvL_169 rfl (by decide) ⟨Nat.le_trans hcl (by decide), Nat.le_trans hsl (by decide)⟩ rfl (okX12_laws  u1 (r, u2) e2) (Nat.le_of_ble_eq_true rfl) dL_law_1295 rfl (fun _ => rfl) ?_
  refine b_icmp_eq dL_law_1298 (tgt := 1596) rfl rfl ?_
  exact hnext u2 _ _ hInv (by omega) (by omega)
set_option maxRecDepth 20000 in
theorem law_c33 {Inv : Nat → US → Prop} (hS : St_33 Inv) {n : Nat} (hn : n ≤ 4000) {L : Nat} {xs : Nat → Int32} {cl sl : Nat} {I : Int32} (h1 : vp_in (I + 1) L) (h2 : vp_in (I + 2) L) (h3 : vp_in (I + 3) L) (h4 : vp_in (I + 4) L) (hcl : cl ≤ 6000) (hsl : sl ≤ 100000) (hnext : ∀ (u : US) (cl2 sl2 : Nat), Inv (n + 1) u → cl2 ≤ cl + 1 → sl2 ≤ sl + 6 → SimL L xs cl2 sl2 1596 [some (.ref 130), some (.ref 0), some (.ref 47), some (.ref 85), some (.int I), none, none, none] [] u) (u : US) (hI : Inv n u) : SimL L xs cl sl 1303 [some (.ref 130), some (.ref 0), some (.ref 47), some (.ref 85), some (.int I), none, none, none] [] u := by
  obtain ⟨r, u1, u2, e1, e2, hInv⟩ := hS n u hn hI
  refine r_aload_n dL_law_1303 rfl ?_
  refine g_callV (As := []) (res := (some (.int r), u1)) kvL_170 rfl (by decide) ⟨Nat.le_trans hcl (by decide), Nat.le_trans hsl (by decide)⟩ rfl (okX11_next  u (r, u1) e1) (Nat.le_of_ble_eq_true rfl) dL_law_1304 rfl (fun _ => rfl) ?_
  refine r_aload_n dL_law_1307 rfl ?_
  refine g_callV (As := []) (res := (some (.int r), u2)) kvL_173 rfl (by decide) ⟨Nat.le_trans hcl (by decide), Nat.le_trans hsl (by decide)⟩ rfl (okX12_next  u1 (r, u2) e2) (Nat.le_of_ble_eq_true rfl) dL_law_1308 rfl (fun _ => rfl) ?_
  refine b_icmp_eq dL_law_1311 (tgt := 1596) rfl rfl ?_
  exact hnext u2 _ _ hInv (by omega) (by omega)
set_option maxRecDepth 20000 in
theorem law_c34 {Inv : Nat → US → Prop} (hS : St_34 Inv) {n : Nat} (hn : n ≤ 4000) {L : Nat} {xs : Nat → Int32} {cl sl : Nat} {I : Int32} (h1 : vp_in (I + 1) L) (h2 : vp_in (I + 2) L) (h3 : vp_in (I + 3) L) (h4 : vp_in (I + 4) L) (hcl : cl ≤ 6000) (hsl : sl ≤ 100000) (hnext : ∀ (u : US) (cl2 sl2 : Nat), Inv (n + 1) u → cl2 ≤ cl + 1 → sl2 ≤ sl + 6 → SimL L xs cl2 sl2 1596 [some (.ref 130), some (.ref 0), some (.ref 47), some (.ref 85), some (.int I), none, none, none] [] u) (u : US) (hI : Inv n u) : SimL L xs cl sl 1316 [some (.ref 130), some (.ref 0), some (.ref 47), some (.ref 85), some (.int I), none, none, none] [] u := by
  obtain ⟨r, u1, u2, e1, e2, hInv⟩ := hS n u hn hI
  refine r_aload_n dL_law_1316 rfl ?_
  refine g_callV (As := []) (res := (some (.int r), u1)) kvL_174 rfl (by decide) ⟨Nat.le_trans hcl (by decide), Nat.le_trans hsl (by decide)⟩ rfl (okX11_fits  u (r, u1) e1) (Nat.le_of_ble_eq_true rfl) dL_law_1317 rfl (fun _ => rfl) ?_
  refine r_aload_n dL_law_1320 rfl ?_
  refine g_callV (As := []) (res := (some (.int r), u2)) kvL_177 rfl (by decide) ⟨Nat.le_trans hcl (by decide), Nat.le_trans hsl (by decide)⟩ rfl (okX12_fits  u1 (r, u2) e2) (Nat.le_of_ble_eq_true rfl) dL_law_1321 rfl (fun _ => rfl) ?_
  refine b_icmp_eq dL_law_1324 (tgt := 1596) rfl rfl ?_
  exact hnext u2 _ _ hInv (by omega) (by omega)
set_option maxRecDepth 20000 in
theorem law_c35 {Inv : Nat → US → Prop} (hS : St_35 Inv) {n : Nat} (hn : n ≤ 4000) {L : Nat} {xs : Nat → Int32} {cl sl : Nat} {I : Int32} (h1 : vp_in (I + 1) L) (h2 : vp_in (I + 2) L) (h3 : vp_in (I + 3) L) (h4 : vp_in (I + 4) L) (hcl : cl ≤ 6000) (hsl : sl ≤ 100000) (hnext : ∀ (u : US) (cl2 sl2 : Nat), Inv (n + 1) u → cl2 ≤ cl + 1 → sl2 ≤ sl + 6 → SimL L xs cl2 sl2 1596 [some (.ref 130), some (.ref 0), some (.ref 47), some (.ref 85), some (.int I), none, none, none] [] u) (u : US) (hI : Inv n u) : SimL L xs cl sl 1329 [some (.ref 130), some (.ref 0), some (.ref 47), some (.ref 85), some (.int I), none, none, none] [] u := by
  obtain ⟨r, u1, u2, e1, e2, hInv⟩ := hS n u hn hI
  refine r_aload_n dL_law_1329 rfl ?_
  refine g_callV (As := []) (res := (some (.int r), u1)) kvL_178 rfl (by decide) ⟨Nat.le_trans hcl (by decide), Nat.le_trans hsl (by decide)⟩ rfl (okX11_claims  u (r, u1) e1) (Nat.le_of_ble_eq_true rfl) dL_law_1330 rfl (fun _ => rfl) ?_
  refine r_aload_n dL_law_1333 rfl ?_
  refine g_callV (As := []) (res := (some (.int r), u2)) kvL_181 rfl (by decide) ⟨Nat.le_trans hcl (by decide), Nat.le_trans hsl (by decide)⟩ rfl (okX12_claims  u1 (r, u2) e2) (Nat.le_of_ble_eq_true rfl) dL_law_1334 rfl (fun _ => rfl) ?_
  refine b_icmp_eq dL_law_1337 (tgt := 1596) rfl rfl ?_
  exact hnext u2 _ _ hInv (by omega) (by omega)
set_option maxRecDepth 20000 in
theorem law_c36 {Inv : Nat → US → Prop} (hS : St_36 Inv) {n : Nat} (hn : n ≤ 4000) {L : Nat} {xs : Nat → Int32} {cl sl : Nat} {I : Int32} (h1 : vp_in (I + 1) L) (h2 : vp_in (I + 2) L) (h3 : vp_in (I + 3) L) (h4 : vp_in (I + 4) L) (hcl : cl ≤ 6000) (hsl : sl ≤ 100000) (hnext : ∀ (u : US) (cl2 sl2 : Nat), Inv (n + 1) u → cl2 ≤ cl + 1 → sl2 ≤ sl + 6 → SimL L xs cl2 sl2 1596 [some (.ref 130), some (.ref 0), some (.ref 47), some (.ref 85), some (.int I), none, none, none] [] u) (u : US) (hI : Inv n u) : SimL L xs cl sl 1342 [some (.ref 130), some (.ref 0), some (.ref 47), some (.ref 85), some (.int I), none, none, none] [] u := by
  obtain ⟨r, u1, u2, e1, e2, hInv⟩ := hS n (xs (I + 1).toNatClampNeg) (xs (I + 2).toNatClampNeg) (xs (I + 3).toNatClampNeg) u hn hI
  refine r_aload_n dL_law_1342 rfl ?_
  refine r_aload_n dL_law_1343 rfl ?_
  refine r_iload dL_law_1344 rfl ?_
  refine r_iconst dL_law_1346 (v := 1) rfl ?_
  refine r_iadd dL_law_1347 ?_
  refine q_sld h1 dL_law_1348 ?_
  refine r_aload_n dL_law_1349 rfl ?_
  refine r_iload dL_law_1350 rfl ?_
  refine r_iconst dL_law_1352 (v := 2) rfl ?_
  refine r_iadd dL_law_1353 ?_
  refine q_sld h2 dL_law_1354 ?_
  refine r_aload_n dL_law_1355 rfl ?_
  refine r_iload dL_law_1356 rfl ?_
  refine r_iconst dL_law_1358 (v := 3) rfl ?_
  refine r_iadd dL_law_1359 ?_
  refine q_sld h3 dL_law_1360 ?_
  refine g_callV (As := [.int (xs (I + 1).toNatClampNeg), .int (xs (I + 2).toNatClampNeg), .int (xs (I + 3).toNatClampNeg)]) (res := (some (.int r), u1)) kvL_182 rfl (by decide) ⟨Nat.le_trans hcl (by decide), Nat.le_trans hsl (by decide)⟩ rfl (okX11_balls ((xs (I + 1).toNatClampNeg)) ((xs (I + 2).toNatClampNeg)) ((xs (I + 3).toNatClampNeg)) u (r, u1) e1) (Nat.le_of_ble_eq_true rfl) dL_law_1361 rfl (fun _ => rfl) ?_
  refine r_aload_n dL_law_1364 rfl ?_
  refine r_aload_n dL_law_1365 rfl ?_
  refine r_iload dL_law_1366 rfl ?_
  refine r_iconst dL_law_1368 (v := 1) rfl ?_
  refine r_iadd dL_law_1369 ?_
  refine q_sld h1 dL_law_1370 ?_
  refine r_aload_n dL_law_1371 rfl ?_
  refine r_iload dL_law_1372 rfl ?_
  refine r_iconst dL_law_1374 (v := 2) rfl ?_
  refine r_iadd dL_law_1375 ?_
  refine q_sld h2 dL_law_1376 ?_
  refine r_aload_n dL_law_1377 rfl ?_
  refine r_iload dL_law_1378 rfl ?_
  refine r_iconst dL_law_1380 (v := 3) rfl ?_
  refine r_iadd dL_law_1381 ?_
  refine q_sld h3 dL_law_1382 ?_
  refine g_callV (As := [.int (xs (I + 1).toNatClampNeg), .int (xs (I + 2).toNatClampNeg), .int (xs (I + 3).toNatClampNeg)]) (res := (some (.int r), u2)) kvL_185 rfl (by decide) ⟨Nat.le_trans hcl (by decide), Nat.le_trans hsl (by decide)⟩ rfl (okX12_balls ((xs (I + 1).toNatClampNeg)) ((xs (I + 2).toNatClampNeg)) ((xs (I + 3).toNatClampNeg)) u1 (r, u2) e2) (Nat.le_of_ble_eq_true rfl) dL_law_1383 rfl (fun _ => rfl) ?_
  refine b_icmp_eq dL_law_1386 (tgt := 1596) rfl rfl ?_
  exact hnext u2 _ _ hInv (by omega) (by omega)
set_option maxRecDepth 20000 in
theorem law_c37 {Inv : Nat → US → Prop} (hS : St_37 Inv) {n : Nat} (hn : n ≤ 4000) {L : Nat} {xs : Nat → Int32} {cl sl : Nat} {I : Int32} (h1 : vp_in (I + 1) L) (h2 : vp_in (I + 2) L) (h3 : vp_in (I + 3) L) (h4 : vp_in (I + 4) L) (hcl : cl ≤ 6000) (hsl : sl ≤ 100000) (hnext : ∀ (u : US) (cl2 sl2 : Nat), Inv (n + 1) u → cl2 ≤ cl + 1 → sl2 ≤ sl + 6 → SimL L xs cl2 sl2 1596 [some (.ref 130), some (.ref 0), some (.ref 47), some (.ref 85), some (.int I), none, none, none] [] u) (u : US) (hI : Inv n u) : SimL L xs cl sl 1391 [some (.ref 130), some (.ref 0), some (.ref 47), some (.ref 85), some (.int I), none, none, none] [] u := by
  obtain ⟨r, u1, u2, e1, e2, hInv⟩ := hS n u hn hI
  refine r_aload_n dL_law_1391 rfl ?_
  refine g_callV (As := []) (res := (some (.int r), u1)) kvL_186 rfl (by decide) ⟨Nat.le_trans hcl (by decide), Nat.le_trans hsl (by decide)⟩ rfl (okX11_law  u (r, u1) e1) (Nat.le_of_ble_eq_true rfl) dL_law_1392 rfl (fun _ => rfl) ?_
  refine r_aload_n dL_law_1395 rfl ?_
  refine g_callV (As := []) (res := (some (.int r), u2)) kvL_189 rfl (by decide) ⟨Nat.le_trans hcl (by decide), Nat.le_trans hsl (by decide)⟩ rfl (okX12_law  u1 (r, u2) e2) (Nat.le_of_ble_eq_true rfl) dL_law_1396 rfl (fun _ => rfl) ?_
  refine b_icmp_eq dL_law_1399 (tgt := 1596) rfl rfl ?_
  exact hnext u2 _ _ hInv (by omega) (by omega)
set_option maxRecDepth 20000 in
theorem law_c38 {Inv : Nat → US → Prop} (hS : St_38 Inv) {n : Nat} (hn : n ≤ 4000) {L : Nat} {xs : Nat → Int32} {cl sl : Nat} {I : Int32} (h1 : vp_in (I + 1) L) (h2 : vp_in (I + 2) L) (h3 : vp_in (I + 3) L) (h4 : vp_in (I + 4) L) (hcl : cl ≤ 6000) (hsl : sl ≤ 100000) (hnext : ∀ (u : US) (cl2 sl2 : Nat), Inv (n + 1) u → cl2 ≤ cl + 1 → sl2 ≤ sl + 6 → SimL L xs cl2 sl2 1596 [some (.ref 130), some (.ref 0), some (.ref 47), some (.ref 85), some (.int I), none, none, none] [] u) (u : US) (hI : Inv n u) : SimL L xs cl sl 1404 [some (.ref 130), some (.ref 0), some (.ref 47), some (.ref 85), some (.int I), none, none, none] [] u := by
  obtain ⟨r, u1, u2, e1, e2, hInv⟩ := hS n (xs (I + 1).toNatClampNeg) u hn hI
  refine r_aload_n dL_law_1404 rfl ?_
  refine r_aload_n dL_law_1405 rfl ?_
  refine r_iload dL_law_1406 rfl ?_
  refine r_iconst dL_law_1408 (v := 1) rfl ?_
  refine r_iadd dL_law_1409 ?_
  refine q_sld h1 dL_law_1410 ?_
  refine g_callV (As := [.int (xs (I + 1).toNatClampNeg)]) (res := (some (.int r), u1)) kvL_190 rfl (by decide) ⟨Nat.le_trans hcl (by decide), Nat.le_trans hsl (by decide)⟩ rfl (okX11_rests ((xs (I + 1).toNatClampNeg)) u (r, u1) e1) (Nat.le_of_ble_eq_true rfl) dL_law_1411 rfl (fun _ => rfl) ?_
  refine r_aload_n dL_law_1414 rfl ?_
  refine r_aload_n dL_law_1415 rfl ?_
  refine r_iload dL_law_1416 rfl ?_
  refine r_iconst dL_law_1418 (v := 1) rfl ?_
  refine r_iadd dL_law_1419 ?_
  refine q_sld h1 dL_law_1420 ?_
  refine g_callV (As := [.int (xs (I + 1).toNatClampNeg)]) (res := (some (.int r), u2)) kvL_193 rfl (by decide) ⟨Nat.le_trans hcl (by decide), Nat.le_trans hsl (by decide)⟩ rfl (okX12_rests ((xs (I + 1).toNatClampNeg)) u1 (r, u2) e2) (Nat.le_of_ble_eq_true rfl) dL_law_1421 rfl (fun _ => rfl) ?_
  refine b_icmp_eq dL_law_1424 (tgt := 1596) rfl rfl ?_
  exact hnext u2 _ _ hInv (by omega) (by omega)
set_option maxRecDepth 20000 in
theorem law_c39 {Inv : Nat → US → Prop} (hS : St_39 Inv) {n : Nat} (hn : n ≤ 4000) {L : Nat} {xs : Nat → Int32} {cl sl : Nat} {I : Int32} (h1 : vp_in (I + 1) L) (h2 : vp_in (I + 2) L) (h3 : vp_in (I + 3) L) (h4 : vp_in (I + 4) L) (hcl : cl ≤ 6000) (hsl : sl ≤ 100000) (hnext : ∀ (u : US) (cl2 sl2 : Nat), Inv (n + 1) u → cl2 ≤ cl + 1 → sl2 ≤ sl + 6 → SimL L xs cl2 sl2 1596 [some (.ref 130), some (.ref 0), some (.ref 47), some (.ref 85), some (.int I), none, none, none] [] u) (u : US) (hI : Inv n u) : SimL L xs cl sl 1429 [some (.ref 130), some (.ref 0), some (.ref 47), some (.ref 85), some (.int I), none, none, none] [] u := by
  obtain ⟨r, u1, u2, e1, e2, hInv⟩ := hS n (xs (I + 1).toNatClampNeg) (xs (I + 2).toNatClampNeg) u hn hI
  refine r_aload_n dL_law_1429 rfl ?_
  refine r_aload_n dL_law_1430 rfl ?_
  refine r_iload dL_law_1431 rfl ?_
  refine r_iconst dL_law_1433 (v := 1) rfl ?_
  refine r_iadd dL_law_1434 ?_
  refine q_sld h1 dL_law_1435 ?_
  refine r_aload_n dL_law_1436 rfl ?_
  refine r_iload dL_law_1437 rfl ?_
  refine r_iconst dL_law_1439 (v := 2) rfl ?_
  refine r_iadd dL_law_1440 ?_
  refine q_sld h2 dL_law_1441 ?_
  refine g_callV (As := [.int (xs (I + 1).toNatClampNeg), .int (xs (I + 2).toNatClampNeg)]) (res := (some (.int r), u1)) kvL_194 rfl (by decide) ⟨Nat.le_trans hcl (by decide), Nat.le_trans hsl (by decide)⟩ rfl (okX11_years ((xs (I + 1).toNatClampNeg)) ((xs (I + 2).toNatClampNeg)) u (r, u1) e1) (Nat.le_of_ble_eq_true rfl) dL_law_1442 rfl (fun _ => rfl) ?_
  refine r_aload_n dL_law_1445 rfl ?_
  refine r_aload_n dL_law_1446 rfl ?_
  refine r_iload dL_law_1447 rfl ?_
  refine r_iconst dL_law_1449 (v := 1) rfl ?_
  refine r_iadd dL_law_1450 ?_
  refine q_sld h1 dL_law_1451 ?_
  refine r_aload_n dL_law_1452 rfl ?_
  refine r_iload dL_law_1453 rfl ?_
  refine r_iconst dL_law_1455 (v := 2) rfl ?_
  refine r_iadd dL_law_1456 ?_
  refine q_sld h2 dL_law_1457 ?_
  refine g_callV (As := [.int (xs (I + 1).toNatClampNeg), .int (xs (I + 2).toNatClampNeg)]) (res := (some (.int r), u2)) kvL_197 rfl (by decide) ⟨Nat.le_trans hcl (by decide), Nat.le_trans hsl (by decide)⟩ rfl (okX12_years ((xs (I + 1).toNatClampNeg)) ((xs (I + 2).toNatClampNeg)) u1 (r, u2) e2) (Nat.le_of_ble_eq_true rfl) dL_law_1458 rfl (fun _ => rfl) ?_
  refine b_icmp_eq dL_law_1461 (tgt := 1596) rfl rfl ?_
  exact hnext u2 _ _ hInv (by omega) (by omega)
set_option maxRecDepth 20000 in
theorem law_c40 {Inv : Nat → US → Prop} (hS : St_40 Inv) {n : Nat} (hn : n ≤ 4000) {L : Nat} {xs : Nat → Int32} {cl sl : Nat} {I : Int32} (h1 : vp_in (I + 1) L) (h2 : vp_in (I + 2) L) (h3 : vp_in (I + 3) L) (h4 : vp_in (I + 4) L) (hcl : cl ≤ 6000) (hsl : sl ≤ 100000) (hnext : ∀ (u : US) (cl2 sl2 : Nat), Inv (n + 1) u → cl2 ≤ cl + 1 → sl2 ≤ sl + 6 → SimL L xs cl2 sl2 1596 [some (.ref 130), some (.ref 0), some (.ref 47), some (.ref 85), some (.int I), none, none, none] [] u) (u : US) (hI : Inv n u) : SimL L xs cl sl 1466 [some (.ref 130), some (.ref 0), some (.ref 47), some (.ref 85), some (.int I), none, none, none] [] u := by
  obtain ⟨r, u1, u2, e1, e2, hInv⟩ := hS n (xs (I + 1).toNatClampNeg) u hn hI
  refine r_aload_n dL_law_1466 rfl ?_
  refine r_aload_n dL_law_1467 rfl ?_
  refine r_iload dL_law_1468 rfl ?_
  refine r_iconst dL_law_1470 (v := 1) rfl ?_
  refine r_iadd dL_law_1471 ?_
  refine q_sld h1 dL_law_1472 ?_
  refine g_callV (As := [.int (xs (I + 1).toNatClampNeg)]) (res := (some (.int r), u1)) kvL_198 rfl (by decide) ⟨Nat.le_trans hcl (by decide), Nat.le_trans hsl (by decide)⟩ rfl (okX11_keep ((xs (I + 1).toNatClampNeg)) u (r, u1) e1) (Nat.le_of_ble_eq_true rfl) dL_law_1473 rfl (fun _ => rfl) ?_
  refine r_aload_n dL_law_1476 rfl ?_
  refine r_aload_n dL_law_1477 rfl ?_
  refine r_iload dL_law_1478 rfl ?_
  refine r_iconst dL_law_1480 (v := 1) rfl ?_
  refine r_iadd dL_law_1481 ?_
  refine q_sld h1 dL_law_1482 ?_
  refine g_callV (As := [.int (xs (I + 1).toNatClampNeg)]) (res := (some (.int r), u2)) kvL_201 rfl (by decide) ⟨Nat.le_trans hcl (by decide), Nat.le_trans hsl (by decide)⟩ rfl (okX12_keep ((xs (I + 1).toNatClampNeg)) u1 (r, u2) e2) (Nat.le_of_ble_eq_true rfl) dL_law_1483 rfl (fun _ => rfl) ?_
  refine b_icmp_eq dL_law_1486 (tgt := 1596) rfl rfl ?_
  exact hnext u2 _ _ hInv (by omega) (by omega)
set_option maxRecDepth 20000 in
theorem law_c41 {Inv : Nat → US → Prop} (hS : St_41 Inv) {n : Nat} (hn : n ≤ 4000) {L : Nat} {xs : Nat → Int32} {cl sl : Nat} {I : Int32} (h1 : vp_in (I + 1) L) (h2 : vp_in (I + 2) L) (h3 : vp_in (I + 3) L) (h4 : vp_in (I + 4) L) (hcl : cl ≤ 6000) (hsl : sl ≤ 100000) (hnext : ∀ (u : US) (cl2 sl2 : Nat), Inv (n + 1) u → cl2 ≤ cl + 1 → sl2 ≤ sl + 6 → SimL L xs cl2 sl2 1596 [some (.ref 130), some (.ref 0), some (.ref 47), some (.ref 85), some (.int I), none, none, none] [] u) (u : US) (hI : Inv n u) : SimL L xs cl sl 1491 [some (.ref 130), some (.ref 0), some (.ref 47), some (.ref 85), some (.int I), none, none, none] [] u := by
  obtain ⟨r, u1, u2, e1, e2, hInv⟩ := hS n (xs (I + 1).toNatClampNeg) u hn hI
  refine r_aload_n dL_law_1491 rfl ?_
  refine r_aload_n dL_law_1492 rfl ?_
  refine r_iload dL_law_1493 rfl ?_
  refine r_iconst dL_law_1495 (v := 1) rfl ?_
  refine r_iadd dL_law_1496 ?_
  refine q_sld h1 dL_law_1497 ?_
  refine g_callV (As := [.int (xs (I + 1).toNatClampNeg)]) (res := (some (.int r), u1)) kvL_202 rfl (by decide) ⟨Nat.le_trans hcl (by decide), Nat.le_trans hsl (by decide)⟩ rfl (okX11_again ((xs (I + 1).toNatClampNeg)) u (r, u1) e1) (Nat.le_of_ble_eq_true rfl) dL_law_1498 rfl (fun _ => rfl) ?_
  refine r_aload_n dL_law_1501 rfl ?_
  refine r_aload_n dL_law_1502 rfl ?_
  refine r_iload dL_law_1503 rfl ?_
  refine r_iconst dL_law_1505 (v := 1) rfl ?_
  refine r_iadd dL_law_1506 ?_
  refine q_sld h1 dL_law_1507 ?_
  refine g_callV (As := [.int (xs (I + 1).toNatClampNeg)]) (res := (some (.int r), u2)) kvL_205 rfl (by decide) ⟨Nat.le_trans hcl (by decide), Nat.le_trans hsl (by decide)⟩ rfl (okX12_again ((xs (I + 1).toNatClampNeg)) u1 (r, u2) e2) (Nat.le_of_ble_eq_true rfl) dL_law_1508 rfl (fun _ => rfl) ?_
  refine b_icmp_eq dL_law_1511 (tgt := 1596) rfl rfl ?_
  exact hnext u2 _ _ hInv (by omega) (by omega)
set_option maxRecDepth 20000 in
theorem law_c42 {Inv : Nat → US → Prop} (hS : St_42 Inv) {n : Nat} (hn : n ≤ 4000) {L : Nat} {xs : Nat → Int32} {cl sl : Nat} {I : Int32} (h1 : vp_in (I + 1) L) (h2 : vp_in (I + 2) L) (h3 : vp_in (I + 3) L) (h4 : vp_in (I + 4) L) (hcl : cl ≤ 6000) (hsl : sl ≤ 100000) (hnext : ∀ (u : US) (cl2 sl2 : Nat), Inv (n + 1) u → cl2 ≤ cl + 1 → sl2 ≤ sl + 6 → SimL L xs cl2 sl2 1596 [some (.ref 130), some (.ref 0), some (.ref 47), some (.ref 85), some (.int I), none, none, none] [] u) (u : US) (hI : Inv n u) : SimL L xs cl sl 1516 [some (.ref 130), some (.ref 0), some (.ref 47), some (.ref 85), some (.int I), none, none, none] [] u := by
  obtain ⟨r, u1, u2, e1, e2, hInv⟩ := hS n (xs (I + 1).toNatClampNeg) u hn hI
  refine r_aload_n dL_law_1516 rfl ?_
  refine r_aload_n dL_law_1517 rfl ?_
  refine r_iload dL_law_1518 rfl ?_
  refine r_iconst dL_law_1520 (v := 1) rfl ?_
  refine r_iadd dL_law_1521 ?_
  refine q_sld h1 dL_law_1522 ?_
  refine g_callV (As := [.int (xs (I + 1).toNatClampNeg)]) (res := (some (.int r), u1)) kvL_206 rfl (by decide) ⟨Nat.le_trans hcl (by decide), Nat.le_trans hsl (by decide)⟩ rfl (okX11_count ((xs (I + 1).toNatClampNeg)) u (r, u1) e1) (Nat.le_of_ble_eq_true rfl) dL_law_1523 rfl (fun _ => rfl) ?_
  refine r_aload_n dL_law_1526 rfl ?_
  refine r_aload_n dL_law_1527 rfl ?_
  refine r_iload dL_law_1528 rfl ?_
  refine r_iconst dL_law_1530 (v := 1) rfl ?_
  refine r_iadd dL_law_1531 ?_
  refine q_sld h1 dL_law_1532 ?_
  refine g_callV (As := [.int (xs (I + 1).toNatClampNeg)]) (res := (some (.int r), u2)) kvL_209 rfl (by decide) ⟨Nat.le_trans hcl (by decide), Nat.le_trans hsl (by decide)⟩ rfl (okX12_count ((xs (I + 1).toNatClampNeg)) u1 (r, u2) e2) (Nat.le_of_ble_eq_true rfl) dL_law_1533 rfl (fun _ => rfl) ?_
  refine b_icmp_eq dL_law_1536 (tgt := 1596) rfl rfl ?_
  exact hnext u2 _ _ hInv (by omega) (by omega)
set_option maxRecDepth 20000 in
theorem law_c43 {Inv : Nat → US → Prop} (hS : St_43 Inv) {n : Nat} (hn : n ≤ 4000) {L : Nat} {xs : Nat → Int32} {cl sl : Nat} {I : Int32} (h1 : vp_in (I + 1) L) (h2 : vp_in (I + 2) L) (h3 : vp_in (I + 3) L) (h4 : vp_in (I + 4) L) (hcl : cl ≤ 6000) (hsl : sl ≤ 100000) (hnext : ∀ (u : US) (cl2 sl2 : Nat), Inv (n + 1) u → cl2 ≤ cl + 1 → sl2 ≤ sl + 6 → SimL L xs cl2 sl2 1596 [some (.ref 130), some (.ref 0), some (.ref 47), some (.ref 85), some (.int I), none, none, none] [] u) (u : US) (hI : Inv n u) : SimL L xs cl sl 1541 [some (.ref 130), some (.ref 0), some (.ref 47), some (.ref 85), some (.int I), none, none, none] [] u := by
  obtain ⟨ro, u1, b, u2, tt, u3, e1, e2, e3, hk, hout, hInv⟩ := hS n (xs (I + 1).toNatClampNeg) u hn hI
  refine r_aload_n dL_law_1541 rfl ?_
  refine r_aload_n dL_law_1542 rfl ?_
  refine r_iload dL_law_1543 rfl ?_
  refine r_iconst dL_law_1545 (v := 1) rfl ?_
  refine r_iadd dL_law_1546 ?_
  refine q_sld h1 dL_law_1547 ?_
  refine r_aload_n dL_law_1548 rfl ?_
  refine g_callW (n := 3) (As := [.ref 0, .int (xs (I + 1).toNatClampNeg), .ref 85]) (res := wLl (ro, u1)) kwL_row kmL_210 ktL_row knL ⟨by decide, by decide, by decide +kernel⟩ (by decide) (by decide) ⟨show cl + 1 ≤ 601024 by omega, show sl + 6 ≤ 7293034 by omega⟩ rfl (okL_row ((xs (I + 1).toNatClampNeg)) u (ro, u1) e1) (Nat.le_of_ble_eq_true rfl) dL_law_1549 rfl ?_
  refine r_istore dL_law_1552 (Nat.le_of_ble_eq_true rfl) (ls2 := [some (.ref 130), some (.ref 0), some (.ref 47), some (.ref 85), some (.int I), some (.int (wLl (ro, u1)).1), none, none]) rfl ?_
  refine r_aload_n dL_law_1554 rfl ?_
  refine r_aload_n dL_law_1555 rfl ?_
  refine r_iload dL_law_1556 rfl ?_
  refine r_iconst dL_law_1558 (v := 1) rfl ?_
  refine r_iadd dL_law_1559 ?_
  refine q_sld h1 dL_law_1560 ?_
  refine g_callV (As := [.int (xs (I + 1).toNatClampNeg)]) (res := (some (.long b), u2)) kvL_213 rfl (by decide) ⟨show cl + 1 ≤ 601024 by omega, show sl + 6 ≤ 7293034 by omega⟩ rfl (okX12_row ((xs (I + 1).toNatClampNeg)) (wLl (ro, u1)).2 (b, u2) e2) (Nat.le_of_ble_eq_true rfl) dL_law_1561 rfl (fun _ => rfl) ?_
  refine r_lstore dL_law_1564 (Nat.le_of_ble_eq_true rfl) (ls2 := [some (.ref 130), some (.ref 0), some (.ref 47), some (.ref 85), some (.int I), some (.int (wLl (ro, u1)).1), some (.long b), none]) rfl ?_
  refine r_aload_n dL_law_1566 rfl ?_
  refine g_callV (As := []) (res := (some (.int tt), u3)) kvL_66 rfl (by decide) ⟨show cl + 1 ≤ 601024 by omega, show sl + 6 ≤ 7293034 by omega⟩ rfl (okX12_thrown  u2 (tt, u3) e3) (Nat.le_of_ble_eq_true rfl) dL_law_1567 rfl (fun _ => rfl) ?_
  refine r_iload dL_law_1570 rfl ?_
  refine b_icmp_eq dL_law_1572 (tgt := 1577) rfl hk ?_
  refine r_iload dL_law_1577 rfl ?_
  refine b_if_ne dL_law_1579 (tgt := 1593) rfl (fun _ => ?_) (fun hz => ?_)
  · refine r_goto dL_law_1593 (tgt := 1596) rfl ?_
    refine r_mk [true, true, true, true, true, false, false, false] (ls2 := [some (.ref 130), some (.ref 0), some (.ref 47), some (.ref 85), some (.int I), none, none, none]) rfl ?_
    exact hnext u3 _ _ hInv (by omega) (by omega)
  · obtain ⟨v, hv⟩ : ∃ v, ro = some v := by
      cases ro with
      | none => exact absurd hz (by show ¬ (1 : Int32) = 0; decide)
      | some v => exact ⟨v, rfl⟩
    have hv0 := hout v hv
    refine r_aload_n dL_law_1582 rfl ?_
    refine r_iconst dL_law_1583 (v := 0) rfl ?_
    refine b_lald 85 rfl (by decide) dL_law_1584 ?_
    refine r_lload dL_law_1585 rfl ?_
    refine r_lcmp dL_law_1587 ?_
    refine b_if_eq dL_law_1588 (tgt := 1593) rfl (by rw [hv0]; exact lg_same _) ?_
    refine r_goto dL_law_1593 (tgt := 1596) rfl ?_
    refine r_mk [true, true, true, true, true, false, false, false] (ls2 := [some (.ref 130), some (.ref 0), some (.ref 47), some (.ref 85), some (.int I), none, none, none]) rfl ?_
    exact hnext u3 _ _ hInv (by omega) (by omega)
set_option maxRecDepth 20000 in
theorem law_loop {Inv : Nat → US → Prop} (hA : ALL Inv) {L : Nat} (hL : L ≤ 2560) {xs : Nat → Int32} : ∀ (k i : Nat) (u : US) (cl sl : Nat), L + 5 - i < k → i ≤ L + 5 → cl ≤ 200 + i → sl ≤ 20000 + 6 * i → Inv i u → SimL L xs cl sl 23 [some (.ref 130), some (.ref 0), some (.ref 47), some (.ref 85), some (.int (nI i)), none, none, none] [] u := by
  intro k
  induction k with
  | zero => intro i u cl sl h; omega
  | succ k ih =>
    intro i u cl sl hk hi hcl hsl hI
    refine r_iload dL_law_23 rfl ?_
    refine r_aload_n dL_law_25 rfl ?_
    refine q_slen dL_law_26 ?_
    refine r_iconst dL_law_27 (v := 5) rfl ?_
    refine r_isub dL_law_28 ?_
    refine b_icmp_gt dL_law_29 (tgt := 1602) rfl (fun _ => ?_) (fun hlt => ?_)
    · refine r_iconst dL_law_1602 (v := 1) rfl ?_
      exact q_end (by omega) (by omega) dE_1603
    · have hiL : i + 5 ≤ L := by
        rw [Int32.lt_iff_toInt_lt] at hlt
        have e1 : (nI L - 5).toInt = (L : Int) - 5 := pk_sub_toInt (b := 5) (by omega) (by omega)
        rw [e1, nI_toInt (by omega)] at hlt
        omega
      have hin : ∀ j, j < 5 → vp_in (nI i + nI j) L := fun j hj => by
        rw [nI_add]
        exact vp_in_nI (by omega) (by omega)
      refine r_aload_n dL_law_32 rfl ?_
      refine r_iload dL_law_33 rfl ?_
      refine q_sld (vp_in_nI (by omega) (by omega)) dL_law_35 ?_
      refine r_bipush dL_law_36 (v := 63) rfl ?_
      refine r_iand dL_law_38 ?_
      have hnext : ∀ (u : US) (cl2 sl2 : Nat), Inv (i + 1) u → cl2 ≤ cl + 1 → sl2 ≤ sl + 6 → SimL L xs cl2 sl2 1596 [some (.ref 130), some (.ref 0), some (.ref 47), some (.ref 85), some (.int (nI i)), none, none, none] [] u := by
        intro u cl2 sl2 hI2 h1 h2
        refine r_iinc dL_law_1596 (Nat.le_of_ble_eq_true rfl) rfl (v := nI (i + 5)) (nI_add i 5) (ls2 := [some (.ref 130), some (.ref 0), some (.ref 47), some (.ref 85), some (.int (nI (i + 5))), none, none, none]) rfl ?_
        refine r_goto dL_law_1599 (tgt := 23) rfl ?_
        exact ih (i + 5) u cl2 sl2 (by omega) (by omega) (by omega) (by omega) (hA.1 _ _ (hA.1 _ _ (hA.1 _ _ (hA.1 _ _ hI2))))
      have g1 := hin 1 (by omega)
      have g2 := hin 2 (by omega)
      have g3 := hin 3 (by omega)
      have g4 := hin 4 (by omega)
      generalize xs (nI i).toNatClampNeg &&& 63 = x
      by_cases hc0 : x = 0
      · refine r_tabIn dL_law_39 (off := 189) (by rw [hc0]; decide) (by rw [hc0]; decide) (by rw [hc0]; rfl) (tgt := 228) rfl ?_
        exact law_c0 hA.2.1 (by omega) g1 g2 g3 g4 (by omega) (by omega) hnext u hI
      by_cases hc1 : x = 1
      · refine r_tabIn dL_law_39 (off := 214) (by rw [hc1]; decide) (by rw [hc1]; decide) (by rw [hc1]; rfl) (tgt := 253) rfl ?_
        exact law_c1 hA.2.2.1 (by omega) g1 g2 g3 g4 (by omega) (by omega) hnext u hI
      by_cases hc2 : x = 2
      · refine r_tabIn dL_law_39 (off := 239) (by rw [hc2]; decide) (by rw [hc2]; decide) (by rw [hc2]; rfl) (tgt := 278) rfl ?_
        exact law_c2 hA.2.2.2.1 (by omega) g1 g2 g3 g4 (by omega) (by omega) hnext u hI
      by_cases hc3 : x = 3
      · refine r_tabIn dL_law_39 (off := 252) (by rw [hc3]; decide) (by rw [hc3]; decide) (by rw [hc3]; rfl) (tgt := 291) rfl ?_
        exact law_c3 hA.2.2.2.2.1 (by omega) g1 g2 g3 g4 (by omega) (by omega) hnext u hI
      by_cases hc4 : x = 4
      · refine r_tabIn dL_law_39 (off := 265) (by rw [hc4]; decide) (by rw [hc4]; decide) (by rw [hc4]; rfl) (tgt := 304) rfl ?_
        exact law_c4 hA.2.2.2.2.2.1 (by omega) g1 g2 g3 g4 (by omega) (by omega) hnext u hI
      by_cases hc5 : x = 5
      · refine r_tabIn dL_law_39 (off := 278) (by rw [hc5]; decide) (by rw [hc5]; decide) (by rw [hc5]; rfl) (tgt := 317) rfl ?_
        exact law_c5 hA.2.2.2.2.2.2.1 (by omega) g1 g2 g3 g4 (by omega) (by omega) hnext u hI
      by_cases hc6 : x = 6
      · refine r_tabIn dL_law_39 (off := 291) (by rw [hc6]; decide) (by rw [hc6]; decide) (by rw [hc6]; rfl) (tgt := 330) rfl ?_
        exact law_c6 hA.2.2.2.2.2.2.2.1 (by omega) g1 g2 g3 g4 (by omega) (by omega) hnext u hI
      by_cases hc7 : x = 7
      · refine r_tabIn dL_law_39 (off := 304) (by rw [hc7]; decide) (by rw [hc7]; decide) (by rw [hc7]; rfl) (tgt := 343) rfl ?_
        exact law_c7 hA.2.2.2.2.2.2.2.2.1 (by omega) g1 g2 g3 g4 (by omega) (by omega) hnext u hI
      by_cases hc8 : x = 8
      · refine r_tabIn dL_law_39 (off := 372) (by rw [hc8]; decide) (by rw [hc8]; decide) (by rw [hc8]; rfl) (tgt := 411) rfl ?_
        exact law_c8 hA.2.2.2.2.2.2.2.2.2.1 (by omega) g1 g2 g3 g4 (by omega) (by omega) hnext u hI
      by_cases hc9 : x = 9
      · refine r_tabIn dL_law_39 (off := 440) (by rw [hc9]; decide) (by rw [hc9]; decide) (by rw [hc9]; rfl) (tgt := 479) rfl ?_
        exact law_c9 hA.2.2.2.2.2.2.2.2.2.2.1 (by omega) g1 g2 g3 g4 (by omega) (by omega) hnext u hI
      by_cases hc10 : x = 10
      · refine r_tabIn dL_law_39 (off := 508) (by rw [hc10]; decide) (by rw [hc10]; decide) (by rw [hc10]; rfl) (tgt := 547) rfl ?_
        exact law_c10 hA.2.2.2.2.2.2.2.2.2.2.2.1 (by omega) g1 g2 g3 g4 (by omega) (by omega) hnext u hI
      by_cases hc11 : x = 11
      · refine r_tabIn dL_law_39 (off := 569) (by rw [hc11]; decide) (by rw [hc11]; decide) (by rw [hc11]; rfl) (tgt := 608) rfl ?_
        exact law_c11 hA.2.2.2.2.2.2.2.2.2.2.2.2.1 (by omega) g1 g2 g3 g4 (by omega) (by omega) hnext u hI
      by_cases hc12 : x = 12
      · refine r_tabIn dL_law_39 (off := 606) (by rw [hc12]; decide) (by rw [hc12]; decide) (by rw [hc12]; rfl) (tgt := 645) rfl ?_
        exact law_c12 hA.2.2.2.2.2.2.2.2.2.2.2.2.2.1 (by omega) g1 g2 g3 g4 (by omega) (by omega) hnext u hI
      by_cases hc13 : x = 13
      · refine r_tabIn dL_law_39 (off := 631) (by rw [hc13]; decide) (by rw [hc13]; decide) (by rw [hc13]; rfl) (tgt := 670) rfl ?_
        exact law_c13 hA.2.2.2.2.2.2.2.2.2.2.2.2.2.2.1 (by omega) g1 g2 g3 g4 (by omega) (by omega) hnext u hI
      by_cases hc14 : x = 14
      · refine r_tabIn dL_law_39 (off := 656) (by rw [hc14]; decide) (by rw [hc14]; decide) (by rw [hc14]; rfl) (tgt := 695) rfl ?_
        exact law_c14 hA.2.2.2.2.2.2.2.2.2.2.2.2.2.2.2.1 (by omega) g1 g2 g3 g4 (by omega) (by omega) hnext u hI
      by_cases hc15 : x = 15
      · refine r_tabIn dL_law_39 (off := 705) (by rw [hc15]; decide) (by rw [hc15]; decide) (by rw [hc15]; rfl) (tgt := 744) rfl ?_
        exact law_c15 hA.2.2.2.2.2.2.2.2.2.2.2.2.2.2.2.2.1 (by omega) g1 g2 g3 g4 (by omega) (by omega) hnext u hI
      by_cases hc16 : x = 16
      · refine r_tabIn dL_law_39 (off := 730) (by rw [hc16]; decide) (by rw [hc16]; decide) (by rw [hc16]; rfl) (tgt := 769) rfl ?_
        exact law_c16 hA.2.2.2.2.2.2.2.2.2.2.2.2.2.2.2.2.2.1 (by omega) g1 g2 g3 g4 (by omega) (by omega) hnext u hI
      by_cases hc17 : x = 17
      · refine r_tabIn dL_law_39 (off := 743) (by rw [hc17]; decide) (by rw [hc17]; decide) (by rw [hc17]; rfl) (tgt := 782) rfl ?_
        exact law_c17 hA.2.2.2.2.2.2.2.2.2.2.2.2.2.2.2.2.2.2.1 (by omega) g1 g2 g3 g4 (by omega) (by omega) hnext u hI
      by_cases hc18 : x = 18
      · refine r_tabIn dL_law_39 (off := 756) (by rw [hc18]; decide) (by rw [hc18]; decide) (by rw [hc18]; rfl) (tgt := 795) rfl ?_
        exact law_c18 hA.2.2.2.2.2.2.2.2.2.2.2.2.2.2.2.2.2.2.2.1 (by omega) g1 g2 g3 g4 (by omega) (by omega) hnext u hI
      by_cases hc19 : x = 19
      · refine r_tabIn dL_law_39 (off := 793) (by rw [hc19]; decide) (by rw [hc19]; decide) (by rw [hc19]; rfl) (tgt := 832) rfl ?_
        exact law_c19 hA.2.2.2.2.2.2.2.2.2.2.2.2.2.2.2.2.2.2.2.2.1 (by omega) g1 g2 g3 g4 (by omega) (by omega) hnext u hI
      by_cases hc20 : x = 20
      · refine r_tabIn dL_law_39 (off := 830) (by rw [hc20]; decide) (by rw [hc20]; decide) (by rw [hc20]; rfl) (tgt := 869) rfl ?_
        exact law_c20 hA.2.2.2.2.2.2.2.2.2.2.2.2.2.2.2.2.2.2.2.2.2.1 (by omega) g1 g2 g3 g4 (by omega) (by omega) hnext u hI
      by_cases hc21 : x = 21
      · refine r_tabIn dL_law_39 (off := 855) (by rw [hc21]; decide) (by rw [hc21]; decide) (by rw [hc21]; rfl) (tgt := 894) rfl ?_
        exact law_c21 hA.2.2.2.2.2.2.2.2.2.2.2.2.2.2.2.2.2.2.2.2.2.2.1 (by omega) g1 g2 g3 g4 (by omega) (by omega) hnext u hI
      by_cases hc22 : x = 22
      · refine r_tabIn dL_law_39 (off := 892) (by rw [hc22]; decide) (by rw [hc22]; decide) (by rw [hc22]; rfl) (tgt := 931) rfl ?_
        exact law_c22 hA.2.2.2.2.2.2.2.2.2.2.2.2.2.2.2.2.2.2.2.2.2.2.2.1 (by omega) g1 g2 g3 g4 (by omega) (by omega) hnext u hI
      by_cases hc23 : x = 23
      · refine r_tabIn dL_law_39 (off := 917) (by rw [hc23]; decide) (by rw [hc23]; decide) (by rw [hc23]; rfl) (tgt := 956) rfl ?_
        exact law_c23 hA.2.2.2.2.2.2.2.2.2.2.2.2.2.2.2.2.2.2.2.2.2.2.2.2.1 (by omega) g1 g2 g3 g4 (by omega) (by omega) hnext u hI
      by_cases hc24 : x = 24
      · refine r_tabIn dL_law_39 (off := 930) (by rw [hc24]; decide) (by rw [hc24]; decide) (by rw [hc24]; rfl) (tgt := 969) rfl ?_
        exact law_c24 hA.2.2.2.2.2.2.2.2.2.2.2.2.2.2.2.2.2.2.2.2.2.2.2.2.2.1 (by omega) g1 g2 g3 g4 (by omega) (by omega) hnext u hI
      by_cases hc25 : x = 25
      · refine r_tabIn dL_law_39 (off := 979) (by rw [hc25]; decide) (by rw [hc25]; decide) (by rw [hc25]; rfl) (tgt := 1018) rfl ?_
        exact law_c25 hA.2.2.2.2.2.2.2.2.2.2.2.2.2.2.2.2.2.2.2.2.2.2.2.2.2.2.1 (by omega) g1 g2 g3 g4 (by omega) (by omega) hnext u hI
      by_cases hc26 : x = 26
      · refine r_tabIn dL_law_39 (off := 1004) (by rw [hc26]; decide) (by rw [hc26]; decide) (by rw [hc26]; rfl) (tgt := 1043) rfl ?_
        exact law_c26 hA.2.2.2.2.2.2.2.2.2.2.2.2.2.2.2.2.2.2.2.2.2.2.2.2.2.2.2.1 (by omega) g1 g2 g3 g4 (by omega) (by omega) hnext u hI
      by_cases hc27 : x = 27
      · refine r_tabIn dL_law_39 (off := 1029) (by rw [hc27]; decide) (by rw [hc27]; decide) (by rw [hc27]; rfl) (tgt := 1068) rfl ?_
        exact law_c27 hA.2.2.2.2.2.2.2.2.2.2.2.2.2.2.2.2.2.2.2.2.2.2.2.2.2.2.2.2.1 (by omega) g1 g2 g3 g4 (by omega) (by omega) hnext u hI
      by_cases hc28 : x = 28
      · refine r_tabIn dL_law_39 (off := 1090) (by rw [hc28]; decide) (by rw [hc28]; decide) (by rw [hc28]; rfl) (tgt := 1129) rfl ?_
        exact law_c28 hA.2.2.2.2.2.2.2.2.2.2.2.2.2.2.2.2.2.2.2.2.2.2.2.2.2.2.2.2.2.1 (by omega) g1 g2 g3 g4 (by omega) (by omega) hnext u hI
      by_cases hc29 : x = 29
      · refine r_tabIn dL_law_39 (off := 1151) (by rw [hc29]; decide) (by rw [hc29]; decide) (by rw [hc29]; rfl) (tgt := 1190) rfl ?_
        exact law_c29 hA.2.2.2.2.2.2.2.2.2.2.2.2.2.2.2.2.2.2.2.2.2.2.2.2.2.2.2.2.2.2.1 (by omega) g1 g2 g3 g4 (by omega) (by omega) hnext u hI
      by_cases hc30 : x = 30
      · refine r_tabIn dL_law_39 (off := 1189) (by rw [hc30]; decide) (by rw [hc30]; decide) (by rw [hc30]; rfl) (tgt := 1228) rfl ?_
        exact law_c30 hA.2.2.2.2.2.2.2.2.2.2.2.2.2.2.2.2.2.2.2.2.2.2.2.2.2.2.2.2.2.2.2.1 (by omega) g1 g2 g3 g4 (by omega) (by omega) hnext u hI
      by_cases hc31 : x = 31
      · refine r_tabIn dL_law_39 (off := 1238) (by rw [hc31]; decide) (by rw [hc31]; decide) (by rw [hc31]; rfl) (tgt := 1277) rfl ?_
        exact law_c31 hA.2.2.2.2.2.2.2.2.2.2.2.2.2.2.2.2.2.2.2.2.2.2.2.2.2.2.2.2.2.2.2.2.1 (by omega) g1 g2 g3 g4 (by omega) (by omega) hnext u hI
      by_cases hc32 : x = 32
      · refine r_tabIn dL_law_39 (off := 1251) (by rw [hc32]; decide) (by rw [hc32]; decide) (by rw [hc32]; rfl) (tgt := 1290) rfl ?_
        exact law_c32 hA.2.2.2.2.2.2.2.2.2.2.2.2.2.2.2.2.2.2.2.2.2.2.2.2.2.2.2.2.2.2.2.2.2.1 (by omega) g1 g2 g3 g4 (by omega) (by omega) hnext u hI
      by_cases hc33 : x = 33
      · refine r_tabIn dL_law_39 (off := 1264) (by rw [hc33]; decide) (by rw [hc33]; decide) (by rw [hc33]; rfl) (tgt := 1303) rfl ?_
        exact law_c33 hA.2.2.2.2.2.2.2.2.2.2.2.2.2.2.2.2.2.2.2.2.2.2.2.2.2.2.2.2.2.2.2.2.2.2.1 (by omega) g1 g2 g3 g4 (by omega) (by omega) hnext u hI
      by_cases hc34 : x = 34
      · refine r_tabIn dL_law_39 (off := 1277) (by rw [hc34]; decide) (by rw [hc34]; decide) (by rw [hc34]; rfl) (tgt := 1316) rfl ?_
        exact law_c34 hA.2.2.2.2.2.2.2.2.2.2.2.2.2.2.2.2.2.2.2.2.2.2.2.2.2.2.2.2.2.2.2.2.2.2.2.1 (by omega) g1 g2 g3 g4 (by omega) (by omega) hnext u hI
      by_cases hc35 : x = 35
      · refine r_tabIn dL_law_39 (off := 1290) (by rw [hc35]; decide) (by rw [hc35]; decide) (by rw [hc35]; rfl) (tgt := 1329) rfl ?_
        exact law_c35 hA.2.2.2.2.2.2.2.2.2.2.2.2.2.2.2.2.2.2.2.2.2.2.2.2.2.2.2.2.2.2.2.2.2.2.2.2.1 (by omega) g1 g2 g3 g4 (by omega) (by omega) hnext u hI
      by_cases hc36 : x = 36
      · refine r_tabIn dL_law_39 (off := 1303) (by rw [hc36]; decide) (by rw [hc36]; decide) (by rw [hc36]; rfl) (tgt := 1342) rfl ?_
        exact law_c36 hA.2.2.2.2.2.2.2.2.2.2.2.2.2.2.2.2.2.2.2.2.2.2.2.2.2.2.2.2.2.2.2.2.2.2.2.2.2.1 (by omega) g1 g2 g3 g4 (by omega) (by omega) hnext u hI
      by_cases hc37 : x = 37
      · refine r_tabIn dL_law_39 (off := 1352) (by rw [hc37]; decide) (by rw [hc37]; decide) (by rw [hc37]; rfl) (tgt := 1391) rfl ?_
        exact law_c37 hA.2.2.2.2.2.2.2.2.2.2.2.2.2.2.2.2.2.2.2.2.2.2.2.2.2.2.2.2.2.2.2.2.2.2.2.2.2.2.1 (by omega) g1 g2 g3 g4 (by omega) (by omega) hnext u hI
      by_cases hc38 : x = 38
      · refine r_tabIn dL_law_39 (off := 1365) (by rw [hc38]; decide) (by rw [hc38]; decide) (by rw [hc38]; rfl) (tgt := 1404) rfl ?_
        exact law_c38 hA.2.2.2.2.2.2.2.2.2.2.2.2.2.2.2.2.2.2.2.2.2.2.2.2.2.2.2.2.2.2.2.2.2.2.2.2.2.2.2.1 (by omega) g1 g2 g3 g4 (by omega) (by omega) hnext u hI
      by_cases hc39 : x = 39
      · refine r_tabIn dL_law_39 (off := 1390) (by rw [hc39]; decide) (by rw [hc39]; decide) (by rw [hc39]; rfl) (tgt := 1429) rfl ?_
        exact law_c39 hA.2.2.2.2.2.2.2.2.2.2.2.2.2.2.2.2.2.2.2.2.2.2.2.2.2.2.2.2.2.2.2.2.2.2.2.2.2.2.2.2.1 (by omega) g1 g2 g3 g4 (by omega) (by omega) hnext u hI
      by_cases hc40 : x = 40
      · refine r_tabIn dL_law_39 (off := 1427) (by rw [hc40]; decide) (by rw [hc40]; decide) (by rw [hc40]; rfl) (tgt := 1466) rfl ?_
        exact law_c40 hA.2.2.2.2.2.2.2.2.2.2.2.2.2.2.2.2.2.2.2.2.2.2.2.2.2.2.2.2.2.2.2.2.2.2.2.2.2.2.2.2.2.1 (by omega) g1 g2 g3 g4 (by omega) (by omega) hnext u hI
      by_cases hc41 : x = 41
      · refine r_tabIn dL_law_39 (off := 1452) (by rw [hc41]; decide) (by rw [hc41]; decide) (by rw [hc41]; rfl) (tgt := 1491) rfl ?_
        exact law_c41 hA.2.2.2.2.2.2.2.2.2.2.2.2.2.2.2.2.2.2.2.2.2.2.2.2.2.2.2.2.2.2.2.2.2.2.2.2.2.2.2.2.2.2.1 (by omega) g1 g2 g3 g4 (by omega) (by omega) hnext u hI
      by_cases hc42 : x = 42
      · refine r_tabIn dL_law_39 (off := 1477) (by rw [hc42]; decide) (by rw [hc42]; decide) (by rw [hc42]; rfl) (tgt := 1516) rfl ?_
        exact law_c42 hA.2.2.2.2.2.2.2.2.2.2.2.2.2.2.2.2.2.2.2.2.2.2.2.2.2.2.2.2.2.2.2.2.2.2.2.2.2.2.2.2.2.2.2.1 (by omega) g1 g2 g3 g4 (by omega) (by omega) hnext u hI
      by_cases hc43 : x = 43
      · refine r_tabIn dL_law_39 (off := 1502) (by rw [hc43]; decide) (by rw [hc43]; decide) (by rw [hc43]; rfl) (tgt := 1541) rfl ?_
        exact law_c43 hA.2.2.2.2.2.2.2.2.2.2.2.2.2.2.2.2.2.2.2.2.2.2.2.2.2.2.2.2.2.2.2.2.2.2.2.2.2.2.2.2.2.2.2.2 (by omega) g1 g2 g3 g4 (by omega) (by omega) hnext u hI
      have hn0 := ne_int hc0
      rw [show (0 : Int32).toInt = 0 from rfl] at hn0
      have hn1 := ne_int hc1
      rw [show (1 : Int32).toInt = 1 from rfl] at hn1
      have hn2 := ne_int hc2
      rw [show (2 : Int32).toInt = 2 from rfl] at hn2
      have hn3 := ne_int hc3
      rw [show (3 : Int32).toInt = 3 from rfl] at hn3
      have hn4 := ne_int hc4
      rw [show (4 : Int32).toInt = 4 from rfl] at hn4
      have hn5 := ne_int hc5
      rw [show (5 : Int32).toInt = 5 from rfl] at hn5
      have hn6 := ne_int hc6
      rw [show (6 : Int32).toInt = 6 from rfl] at hn6
      have hn7 := ne_int hc7
      rw [show (7 : Int32).toInt = 7 from rfl] at hn7
      have hn8 := ne_int hc8
      rw [show (8 : Int32).toInt = 8 from rfl] at hn8
      have hn9 := ne_int hc9
      rw [show (9 : Int32).toInt = 9 from rfl] at hn9
      have hn10 := ne_int hc10
      rw [show (10 : Int32).toInt = 10 from rfl] at hn10
      have hn11 := ne_int hc11
      rw [show (11 : Int32).toInt = 11 from rfl] at hn11
      have hn12 := ne_int hc12
      rw [show (12 : Int32).toInt = 12 from rfl] at hn12
      have hn13 := ne_int hc13
      rw [show (13 : Int32).toInt = 13 from rfl] at hn13
      have hn14 := ne_int hc14
      rw [show (14 : Int32).toInt = 14 from rfl] at hn14
      have hn15 := ne_int hc15
      rw [show (15 : Int32).toInt = 15 from rfl] at hn15
      have hn16 := ne_int hc16
      rw [show (16 : Int32).toInt = 16 from rfl] at hn16
      have hn17 := ne_int hc17
      rw [show (17 : Int32).toInt = 17 from rfl] at hn17
      have hn18 := ne_int hc18
      rw [show (18 : Int32).toInt = 18 from rfl] at hn18
      have hn19 := ne_int hc19
      rw [show (19 : Int32).toInt = 19 from rfl] at hn19
      have hn20 := ne_int hc20
      rw [show (20 : Int32).toInt = 20 from rfl] at hn20
      have hn21 := ne_int hc21
      rw [show (21 : Int32).toInt = 21 from rfl] at hn21
      have hn22 := ne_int hc22
      rw [show (22 : Int32).toInt = 22 from rfl] at hn22
      have hn23 := ne_int hc23
      rw [show (23 : Int32).toInt = 23 from rfl] at hn23
      have hn24 := ne_int hc24
      rw [show (24 : Int32).toInt = 24 from rfl] at hn24
      have hn25 := ne_int hc25
      rw [show (25 : Int32).toInt = 25 from rfl] at hn25
      have hn26 := ne_int hc26
      rw [show (26 : Int32).toInt = 26 from rfl] at hn26
      have hn27 := ne_int hc27
      rw [show (27 : Int32).toInt = 27 from rfl] at hn27
      have hn28 := ne_int hc28
      rw [show (28 : Int32).toInt = 28 from rfl] at hn28
      have hn29 := ne_int hc29
      rw [show (29 : Int32).toInt = 29 from rfl] at hn29
      have hn30 := ne_int hc30
      rw [show (30 : Int32).toInt = 30 from rfl] at hn30
      have hn31 := ne_int hc31
      rw [show (31 : Int32).toInt = 31 from rfl] at hn31
      have hn32 := ne_int hc32
      rw [show (32 : Int32).toInt = 32 from rfl] at hn32
      have hn33 := ne_int hc33
      rw [show (33 : Int32).toInt = 33 from rfl] at hn33
      have hn34 := ne_int hc34
      rw [show (34 : Int32).toInt = 34 from rfl] at hn34
      have hn35 := ne_int hc35
      rw [show (35 : Int32).toInt = 35 from rfl] at hn35
      have hn36 := ne_int hc36
      rw [show (36 : Int32).toInt = 36 from rfl] at hn36
      have hn37 := ne_int hc37
      rw [show (37 : Int32).toInt = 37 from rfl] at hn37
      have hn38 := ne_int hc38
      rw [show (38 : Int32).toInt = 38 from rfl] at hn38
      have hn39 := ne_int hc39
      rw [show (39 : Int32).toInt = 39 from rfl] at hn39
      have hn40 := ne_int hc40
      rw [show (40 : Int32).toInt = 40 from rfl] at hn40
      have hn41 := ne_int hc41
      rw [show (41 : Int32).toInt = 41 from rfl] at hn41
      have hn42 := ne_int hc42
      rw [show (42 : Int32).toInt = 42 from rfl] at hn42
      have hn43 := ne_int hc43
      rw [show (43 : Int32).toInt = 43 from rfl] at hn43
      refine r_tabOut dL_law_39 (by omega) (tgt := 1596) rfl ?_
      exact hnext u _ _ (hA.1 _ _ hI) (by omega) (by omega)
