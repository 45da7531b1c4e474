/-! ===== the law: its cases ===== -/
theorem ml_CustomValleyLaw_13 : Cond.methodLink "CustomValleyLaw" 13 yX11_feed ∈ TB := (tb_3 100 rfl rfl)
theorem mvX11_feed : MV mX11_feed 5 := ⟨⟨(tb_3 103 rfl rfl), (tb_1 1 rfl rfl), ⟨by decide, by decide, by decide +kernel⟩, pl_CustomValley, by decide⟩, (tb_3 101 rfl rfl), (tb_3 102 rfl rfl)⟩
theorem ml_CustomValleyLaw_17 : Cond.methodLink "CustomValleyLaw" 17 yX13_feed ∈ TB := (tb_7 180 rfl rfl)
theorem mvX13_feed : MV mX13_feed 5 := ⟨⟨(tb_7 183 rfl rfl), (tb_1 16 rfl rfl), ⟨by decide, by decide, by decide +kernel⟩, pl_CustomValleyModel, by decide⟩, (tb_7 181 rfl rfl), (tb_7 182 rfl rfl)⟩
theorem ml_CustomValleyLaw_18 : Cond.methodLink "CustomValleyLaw" 18 yX11_end ∈ TB := (tb_3 108 rfl rfl)
theorem mvX11_end : MV mX11_end 1 := ⟨⟨(tb_3 111 rfl rfl), (tb_1 1 rfl rfl), ⟨by decide, by decide, by decide +kernel⟩, pl_CustomValley, by decide⟩, (tb_3 109 rfl rfl), (tb_3 110 rfl rfl)⟩
theorem ml_CustomValleyLaw_22 : Cond.methodLink "CustomValleyLaw" 22 yX13_end ∈ TB := (tb_7 188 rfl rfl)
theorem mvX13_end : MV mX13_end 1 := ⟨⟨(tb_7 191 rfl rfl), (tb_1 16 rfl rfl), ⟨by decide, by decide, by decide +kernel⟩, pl_CustomValleyModel, by decide⟩, (tb_7 189 rfl rfl), (tb_7 190 rfl rfl)⟩
theorem ml_CustomValleyLaw_23 : Cond.methodLink "CustomValleyLaw" 23 yX11_valley ∈ TB := (tb_3 112 rfl rfl)
theorem mvX11_valley : MV mX11_valley 0 := ⟨⟨(tb_3 115 rfl rfl), (tb_1 1 rfl rfl), ⟨by decide, by decide, by decide +kernel⟩, pl_CustomValley, by decide⟩, (tb_3 113 rfl rfl), (tb_3 114 rfl rfl)⟩
theorem ml_CustomValleyLaw_27 : Cond.methodLink "CustomValleyLaw" 27 yX13_valley ∈ TB := (tb_7 195 rfl rfl)
theorem ml_CustomValleyLaw_28 : Cond.methodLink "CustomValleyLaw" 28 yX11_fault ∈ TB := (tb_4 49 rfl rfl)
theorem mvX11_fault : MV mX11_fault 1 := ⟨⟨(tb_4 52 rfl rfl), (tb_1 1 rfl rfl), ⟨by decide, by decide, by decide +kernel⟩, pl_CustomValley, by decide⟩, (tb_4 50 rfl rfl), (tb_4 51 rfl rfl)⟩
theorem ml_CustomValleyLaw_31 : Cond.methodLink "CustomValleyLaw" 31 yX13_fault ∈ TB := (tb_8 50 rfl rfl)
theorem mvX13_fault : MV mX13_fault 1 := ⟨⟨(tb_8 53 rfl rfl), (tb_1 16 rfl rfl), ⟨by decide, by decide, by decide +kernel⟩, pl_CustomValleyModel, by decide⟩, (tb_8 51 rfl rfl), (tb_8 52 rfl rfl)⟩
theorem ml_CustomValleyLaw_32 : Cond.methodLink "CustomValleyLaw" 32 yX11_told ∈ TB := (tb_4 53 rfl rfl)
theorem mvX11_told : MV mX11_told 1 := ⟨⟨(tb_4 56 rfl rfl), (tb_1 1 rfl rfl), ⟨by decide, by decide, by decide +kernel⟩, pl_CustomValley, by decide⟩, (tb_4 54 rfl rfl), (tb_4 55 rfl rfl)⟩
theorem ml_CustomValleyLaw_35 : Cond.methodLink "CustomValleyLaw" 35 yX13_told ∈ TB := (tb_8 54 rfl rfl)
theorem mvX13_told : MV mX13_told 1 := ⟨⟨(tb_8 57 rfl rfl), (tb_1 16 rfl rfl), ⟨by decide, by decide, by decide +kernel⟩, pl_CustomValleyModel, by decide⟩, (tb_8 55 rfl rfl), (tb_8 56 rfl rfl)⟩
theorem ml_CustomValleyLaw_36 : Cond.methodLink "CustomValleyLaw" 36 yX11_habit ∈ TB := (tb_4 68 rfl rfl)
theorem mvX11_habit : MV mX11_habit 2 := ⟨⟨(tb_4 71 rfl rfl), (tb_1 1 rfl rfl), ⟨by decide, by decide, by decide +kernel⟩, pl_CustomValley, by decide⟩, (tb_4 69 rfl rfl), (tb_4 70 rfl rfl)⟩
theorem ml_CustomValleyLaw_40 : Cond.methodLink "CustomValleyLaw" 40 yX13_habit ∈ TB := (tb_8 73 rfl rfl)
theorem mvX13_habit : MV mX13_habit 2 := ⟨⟨(tb_8 76 rfl rfl), (tb_1 16 rfl rfl), ⟨by decide, by decide, by decide +kernel⟩, pl_CustomValleyModel, by decide⟩, (tb_8 74 rfl rfl), (tb_8 75 rfl rfl)⟩
theorem ml_CustomValleyLaw_41 : Cond.methodLink "CustomValleyLaw" 41 yX11_worth ∈ TB := (tb_4 74 rfl rfl)
theorem mvX11_worth : MV mX11_worth 2 := ⟨⟨(tb_4 77 rfl rfl), (tb_1 1 rfl rfl), ⟨by decide, by decide, by decide +kernel⟩, pl_CustomValley, by decide⟩, (tb_4 75 rfl rfl), (tb_4 76 rfl rfl)⟩
theorem ml_CustomValleyLaw_44 : Cond.methodLink "CustomValleyLaw" 44 yX13_worth ∈ TB := (tb_8 93 rfl rfl)
theorem mvX13_worth : MV mX13_worth 2 := ⟨⟨(tb_8 96 rfl rfl), (tb_1 16 rfl rfl), ⟨by decide, by decide, by decide +kernel⟩, pl_CustomValleyModel, by decide⟩, (tb_8 94 rfl rfl), (tb_8 95 rfl rfl)⟩
theorem ml_CustomValleyLaw_45 : Cond.methodLink "CustomValleyLaw" 45 yX11_answers ∈ TB := (tb_4 82 rfl rfl)
theorem mvX11_answers : MV mX11_answers 2 := ⟨⟨(tb_4 85 rfl rfl), (tb_1 1 rfl rfl), ⟨by decide, by decide, by decide +kernel⟩, pl_CustomValley, by decide⟩, (tb_4 83 rfl rfl), (tb_4 84 rfl rfl)⟩
theorem ml_CustomValleyLaw_48 : Cond.methodLink "CustomValleyLaw" 48 yX13_answers ∈ TB := (tb_8 101 rfl rfl)
theorem mvX13_answers : MV mX13_answers 2 := ⟨⟨(tb_8 104 rfl rfl), (tb_1 16 rfl rfl), ⟨by decide, by decide, by decide +kernel⟩, pl_CustomValleyModel, by decide⟩, (tb_8 102 rfl rfl), (tb_8 103 rfl rfl)⟩
theorem ml_CustomValleyLaw_49 : Cond.methodLink "CustomValleyLaw" 49 yX11_move ∈ TB := (tb_4 179 rfl rfl)
theorem mvX11_move : MV mX11_move 3 := ⟨⟨(tb_4 182 rfl rfl), (tb_1 1 rfl rfl), ⟨by decide, by decide, by decide +kernel⟩, pl_CustomValley, by decide⟩, (tb_4 180 rfl rfl), (tb_4 181 rfl rfl)⟩
theorem ml_CustomValleyLaw_53 : Cond.methodLink "CustomValleyLaw" 53 yX13_move ∈ TB := (tb_8 122 rfl rfl)
theorem mvX13_move : MV mX13_move 3 := ⟨⟨(tb_8 125 rfl rfl), (tb_1 16 rfl rfl), ⟨by decide, by decide, by decide +kernel⟩, pl_CustomValleyModel, by decide⟩, (tb_8 123 rfl rfl), (tb_8 124 rfl rfl)⟩
theorem ml_CustomValleyLaw_54 : Cond.methodLink "CustomValleyLaw" 54 yX11_rests ∈ TB := (tb_4 188 rfl rfl)
theorem mvX11_rests : MV mX11_rests 0 := ⟨⟨(tb_4 191 rfl rfl), (tb_1 1 rfl rfl), ⟨by decide, by decide, by decide +kernel⟩, pl_CustomValley, by decide⟩, (tb_4 189 rfl rfl), (tb_4 190 rfl rfl)⟩
theorem ml_CustomValleyLaw_57 : Cond.methodLink "CustomValleyLaw" 57 yX13_rests ∈ TB := (tb_8 134 rfl rfl)
theorem mvX13_rests : MV mX13_rests 0 := ⟨⟨(tb_8 137 rfl rfl), (tb_1 16 rfl rfl), ⟨by decide, by decide, by decide +kernel⟩, pl_CustomValleyModel, by decide⟩, (tb_8 135 rfl rfl), (tb_8 136 rfl rfl)⟩
theorem ml_CustomValleyLaw_58 : Cond.methodLink "CustomValleyLaw" 58 yX11_rest ∈ TB := (tb_4 192 rfl rfl)
theorem mvX11_rest : MV mX11_rest 2 := ⟨⟨(tb_4 195 rfl rfl), (tb_1 1 rfl rfl), ⟨by decide, by decide, by decide +kernel⟩, pl_CustomValley, by decide⟩, (tb_4 193 rfl rfl), (tb_4 194 rfl rfl)⟩
theorem ml_CustomValleyLaw_61 : Cond.methodLink "CustomValleyLaw" 61 yX13_rest ∈ TB := (tb_8 186 rfl rfl)
theorem mvX13_rest : MV mX13_rest 2 := ⟨⟨(tb_8 189 rfl rfl), (tb_1 16 rfl rfl), ⟨by decide, by decide, by decide +kernel⟩, pl_CustomValleyModel, by decide⟩, (tb_8 187 rfl rfl), (tb_8 188 rfl rfl)⟩
theorem ml_CustomValleyLaw_62 : Cond.methodLink "CustomValleyLaw" 62 yX11_restOf ∈ TB := (tb_4 208 rfl rfl)
theorem mvX11_restOf : MV mX11_restOf 1 := ⟨⟨(tb_4 211 rfl rfl), (tb_1 1 rfl rfl), ⟨by decide, by decide, by decide +kernel⟩, pl_CustomValley, by decide⟩, (tb_4 209 rfl rfl), (tb_4 210 rfl rfl)⟩
theorem ml_CustomValleyLaw_65 : Cond.methodLink "CustomValleyLaw" 65 yX13_restOf ∈ TB := (tb_8 194 rfl rfl)
theorem mvX13_restOf : MV mX13_restOf 1 := ⟨⟨(tb_8 197 rfl rfl), (tb_1 16 rfl rfl), ⟨by decide, by decide, by decide +kernel⟩, pl_CustomValleyModel, by decide⟩, (tb_8 195 rfl rfl), (tb_8 196 rfl rfl)⟩
theorem ml_CustomValleyLaw_66 : Cond.methodLink "CustomValleyLaw" 66 yX11_comes ∈ TB := (tb_4 212 rfl rfl)
theorem mvX11_comes : MV mX11_comes 2 := ⟨⟨(tb_4 215 rfl rfl), (tb_1 1 rfl rfl), ⟨by decide, by decide, by decide +kernel⟩, pl_CustomValley, by decide⟩, (tb_4 213 rfl rfl), (tb_4 214 rfl rfl)⟩
theorem ml_CustomValleyLaw_69 : Cond.methodLink "CustomValleyLaw" 69 yX13_comes ∈ TB := (tb_8 198 rfl rfl)
theorem mvX13_comes : MV mX13_comes 2 := ⟨⟨(tb_8 201 rfl rfl), (tb_1 16 rfl rfl), ⟨by decide, by decide, by decide +kernel⟩, pl_CustomValleyModel, by decide⟩, (tb_8 199 rfl rfl), (tb_8 200 rfl rfl)⟩
theorem ml_CustomValleyLaw_70 : Cond.methodLink "CustomValleyLaw" 70 yX11_fewest ∈ TB := (tb_5 8 rfl rfl)
theorem mvX11_fewest : MV mX11_fewest 2 := ⟨⟨(tb_5 11 rfl rfl), (tb_1 1 rfl rfl), ⟨by decide, by decide, by decide +kernel⟩, pl_CustomValley, by decide⟩, (tb_5 9 rfl rfl), (tb_5 10 rfl rfl)⟩
theorem ml_CustomValleyLaw_73 : Cond.methodLink "CustomValleyLaw" 73 yX13_fewest ∈ TB := (tb_8 202 rfl rfl)
theorem mvX13_fewest : MV mX13_fewest 2 := ⟨⟨(tb_8 205 rfl rfl), (tb_1 16 rfl rfl), ⟨by decide, by decide, by decide +kernel⟩, pl_CustomValleyModel, by decide⟩, (tb_8 203 rfl rfl), (tb_8 204 rfl rfl)⟩
theorem ml_CustomValleyLaw_74 : Cond.methodLink "CustomValleyLaw" 74 yX11_way ∈ TB := (tb_5 33 rfl rfl)
theorem mvX11_way : MV mX11_way 1 := ⟨⟨(tb_5 36 rfl rfl), (tb_1 1 rfl rfl), ⟨by decide, by decide, by decide +kernel⟩, pl_CustomValley, by decide⟩, (tb_5 34 rfl rfl), (tb_5 35 rfl rfl)⟩
theorem ml_CustomValleyLaw_77 : Cond.methodLink "CustomValleyLaw" 77 yX13_way ∈ TB := (tb_8 223 rfl rfl)
theorem mvX13_way : MV mX13_way 1 := ⟨⟨(tb_8 226 rfl rfl), (tb_1 16 rfl rfl), ⟨by decide, by decide, by decide +kernel⟩, pl_CustomValleyModel, by decide⟩, (tb_8 224 rfl rfl), (tb_8 225 rfl rfl)⟩
theorem ml_CustomValleyLaw_78 : Cond.methodLink "CustomValleyLaw" 78 yX11_between ∈ TB := (tb_5 37 rfl rfl)
theorem mvX11_between : MV mX11_between 2 := ⟨⟨(tb_5 40 rfl rfl), (tb_1 1 rfl rfl), ⟨by decide, by decide, by decide +kernel⟩, pl_CustomValley, by decide⟩, (tb_5 38 rfl rfl), (tb_5 39 rfl rfl)⟩
theorem ml_CustomValleyLaw_81 : Cond.methodLink "CustomValleyLaw" 81 yX13_between ∈ TB := (tb_8 227 rfl rfl)
theorem mvX13_between : MV mX13_between 2 := ⟨⟨(tb_8 230 rfl rfl), (tb_1 16 rfl rfl), ⟨by decide, by decide, by decide +kernel⟩, pl_CustomValleyModel, by decide⟩, (tb_8 228 rfl rfl), (tb_8 229 rfl rfl)⟩
theorem ml_CustomValleyLaw_82 : Cond.methodLink "CustomValleyLaw" 82 yX11_tree ∈ TB := (tb_5 41 rfl rfl)
theorem mvX11_tree : MV mX11_tree 1 := ⟨⟨(tb_5 44 rfl rfl), (tb_1 1 rfl rfl), ⟨by decide, by decide, by decide +kernel⟩, pl_CustomValley, by decide⟩, (tb_5 42 rfl rfl), (tb_5 43 rfl rfl)⟩
theorem ml_CustomValleyLaw_85 : Cond.methodLink "CustomValleyLaw" 85 yX13_tree ∈ TB := (tb_8 239 rfl rfl)
theorem mvX13_tree : MV mX13_tree 1 := ⟨⟨(tb_9 2 rfl rfl), (tb_1 16 rfl rfl), ⟨by decide, by decide, by decide +kernel⟩, pl_CustomValleyModel, by decide⟩, (tb_9 0 rfl rfl), (tb_9 1 rfl rfl)⟩
theorem ml_CustomValleyLaw_86 : Cond.methodLink "CustomValleyLaw" 86 yX11_treeTo ∈ TB := (tb_5 87 rfl rfl)
theorem mvX11_treeTo : MV mX11_treeTo 1 := ⟨⟨(tb_5 90 rfl rfl), (tb_1 1 rfl rfl), ⟨by decide, by decide, by decide +kernel⟩, pl_CustomValley, by decide⟩, (tb_5 88 rfl rfl), (tb_5 89 rfl rfl)⟩
theorem ml_CustomValleyLaw_89 : Cond.methodLink "CustomValleyLaw" 89 yX13_treeTo ∈ TB := (tb_9 31 rfl rfl)
theorem mvX13_treeTo : MV mX13_treeTo 1 := ⟨⟨(tb_9 34 rfl rfl), (tb_1 16 rfl rfl), ⟨by decide, by decide, by decide +kernel⟩, pl_CustomValleyModel, by decide⟩, (tb_9 32 rfl rfl), (tb_9 33 rfl rfl)⟩
theorem ml_CustomValleyLaw_90 : Cond.methodLink "CustomValleyLaw" 90 yX11_winners ∈ TB := (tb_5 95 rfl rfl)
theorem mvX11_winners : MV mX11_winners 0 := ⟨⟨(tb_5 98 rfl rfl), (tb_1 1 rfl rfl), ⟨by decide, by decide, by decide +kernel⟩, pl_CustomValley, by decide⟩, (tb_5 96 rfl rfl), (tb_5 97 rfl rfl)⟩
theorem ml_CustomValleyLaw_93 : Cond.methodLink "CustomValleyLaw" 93 yX13_winners ∈ TB := (tb_9 35 rfl rfl)
theorem mvX13_winners : MV mX13_winners 0 := ⟨⟨(tb_9 38 rfl rfl), (tb_1 16 rfl rfl), ⟨by decide, by decide, by decide +kernel⟩, pl_CustomValleyModel, by decide⟩, (tb_9 36 rfl rfl), (tb_9 37 rfl rfl)⟩
theorem ml_CustomValleyLaw_94 : Cond.methodLink "CustomValleyLaw" 94 yX11_radius ∈ TB := (tb_5 104 rfl rfl)
theorem mvX11_radius : MV mX11_radius 1 := ⟨⟨(tb_5 107 rfl rfl), (tb_1 1 rfl rfl), ⟨by decide, by decide, by decide +kernel⟩, pl_CustomValley, by decide⟩, (tb_5 105 rfl rfl), (tb_5 106 rfl rfl)⟩
theorem ml_CustomValleyLaw_97 : Cond.methodLink "CustomValleyLaw" 97 yX13_radius ∈ TB := (tb_9 43 rfl rfl)
theorem mvX13_radius : MV mX13_radius 1 := ⟨⟨(tb_9 46 rfl rfl), (tb_1 16 rfl rfl), ⟨by decide, by decide, by decide +kernel⟩, pl_CustomValleyModel, by decide⟩, (tb_9 44 rfl rfl), (tb_9 45 rfl rfl)⟩
theorem ml_CustomValleyLaw_98 : Cond.methodLink "CustomValleyLaw" 98 yX11_coradius ∈ TB := (tb_5 120 rfl rfl)
theorem mvX11_coradius : MV mX11_coradius 1 := ⟨⟨(tb_5 123 rfl rfl), (tb_1 1 rfl rfl), ⟨by decide, by decide, by decide +kernel⟩, pl_CustomValley, by decide⟩, (tb_5 121 rfl rfl), (tb_5 122 rfl rfl)⟩
theorem ml_CustomValleyLaw_101 : Cond.methodLink "CustomValleyLaw" 101 yX13_coradius ∈ TB := (tb_9 51 rfl rfl)
theorem mvX13_coradius : MV mX13_coradius 1 := ⟨⟨(tb_9 54 rfl rfl), (tb_1 16 rfl rfl), ⟨by decide, by decide, by decide +kernel⟩, pl_CustomValleyModel, by decide⟩, (tb_9 52 rfl rfl), (tb_9 53 rfl rfl)⟩
theorem ml_CustomValleyLaw_102 : Cond.methodLink "CustomValleyLaw" 102 yX11_shortly ∈ TB := (tb_5 131 rfl rfl)
theorem mvX11_shortly : MV mX11_shortly 0 := ⟨⟨(tb_5 134 rfl rfl), (tb_1 1 rfl rfl), ⟨by decide, by decide, by decide +kernel⟩, pl_CustomValley, by decide⟩, (tb_5 132 rfl rfl), (tb_5 133 rfl rfl)⟩
theorem ml_CustomValleyLaw_105 : Cond.methodLink "CustomValleyLaw" 105 yX13_shortly ∈ TB := (tb_9 59 rfl rfl)
theorem mvX13_shortly : MV mX13_shortly 0 := ⟨⟨(tb_9 62 rfl rfl), (tb_1 16 rfl rfl), ⟨by decide, by decide, by decide +kernel⟩, pl_CustomValleyModel, by decide⟩, (tb_9 60 rfl rfl), (tb_9 61 rfl rfl)⟩
theorem ml_CustomValleyLaw_106 : Cond.methodLink "CustomValleyLaw" 106 yX11_carried ∈ TB := (tb_5 139 rfl rfl)
theorem mvX11_carried : MV mX11_carried 2 := ⟨⟨(tb_5 142 rfl rfl), (tb_1 1 rfl rfl), ⟨by decide, by decide, by decide +kernel⟩, pl_CustomValley, by decide⟩, (tb_5 140 rfl rfl), (tb_5 141 rfl rfl)⟩
theorem ml_CustomValleyLaw_109 : Cond.methodLink "CustomValleyLaw" 109 yX13_carried ∈ TB := (tb_9 67 rfl rfl)
theorem mvX13_carried : MV mX13_carried 2 := ⟨⟨(tb_9 70 rfl rfl), (tb_1 16 rfl rfl), ⟨by decide, by decide, by decide +kernel⟩, pl_CustomValleyModel, by decide⟩, (tb_9 68 rfl rfl), (tb_9 69 rfl rfl)⟩
theorem ml_CustomValleyLaw_110 : Cond.methodLink "CustomValleyLaw" 110 yX11_bound ∈ TB := (tb_5 149 rfl rfl)
theorem mvX11_bound : MV mX11_bound 1 := ⟨⟨(tb_5 152 rfl rfl), (tb_1 1 rfl rfl), ⟨by decide, by decide, by decide +kernel⟩, pl_CustomValley, by decide⟩, (tb_5 150 rfl rfl), (tb_5 151 rfl rfl)⟩
theorem ml_CustomValleyLaw_113 : Cond.methodLink "CustomValleyLaw" 113 yX13_bound ∈ TB := (tb_9 75 rfl rfl)
theorem mvX13_bound : MV mX13_bound 1 := ⟨⟨(tb_9 78 rfl rfl), (tb_1 16 rfl rfl), ⟨by decide, by decide, by decide +kernel⟩, pl_CustomValleyModel, by decide⟩, (tb_9 76 rfl rfl), (tb_9 77 rfl rfl)⟩
theorem ml_CustomValleyLaw_114 : Cond.methodLink "CustomValleyLaw" 114 yX11_gift ∈ TB := (tb_5 163 rfl rfl)
theorem mvX11_gift : MV mX11_gift 1 := ⟨⟨(tb_5 166 rfl rfl), (tb_1 1 rfl rfl), ⟨by decide, by decide, by decide +kernel⟩, pl_CustomValley, by decide⟩, (tb_5 164 rfl rfl), (tb_5 165 rfl rfl)⟩
theorem ml_CustomValleyLaw_117 : Cond.methodLink "CustomValleyLaw" 117 yX13_gift ∈ TB := (tb_9 83 rfl rfl)
theorem mvX13_gift : MV mX13_gift 1 := ⟨⟨(tb_9 86 rfl rfl), (tb_1 16 rfl rfl), ⟨by decide, by decide, by decide +kernel⟩, pl_CustomValleyModel, by decide⟩, (tb_9 84 rfl rfl), (tb_9 85 rfl rfl)⟩
theorem ml_CustomValleyLaw_118 : Cond.methodLink "CustomValleyLaw" 118 yX11_flow ∈ TB := (tb_5 171 rfl rfl)
theorem mvX11_flow : MV mX11_flow 3 := ⟨⟨(tb_5 174 rfl rfl), (tb_1 1 rfl rfl), ⟨by decide, by decide, by decide +kernel⟩, pl_CustomValley, by decide⟩, (tb_5 172 rfl rfl), (tb_5 173 rfl rfl)⟩
theorem ml_CustomValleyLaw_121 : Cond.methodLink "CustomValleyLaw" 121 yX13_flow ∈ TB := (tb_9 87 rfl rfl)
theorem mvX13_flow : MV mX13_flow 3 := ⟨⟨(tb_9 90 rfl rfl), (tb_1 16 rfl rfl), ⟨by decide, by decide, by decide +kernel⟩, pl_CustomValleyModel, by decide⟩, (tb_9 88 rfl rfl), (tb_9 89 rfl rfl)⟩
theorem ml_CustomValleyLaw_122 : Cond.methodLink "CustomValleyLaw" 122 yX11_parts ∈ TB := (tb_5 201 rfl rfl)
theorem mvX11_parts : MV mX11_parts 1 := ⟨⟨(tb_5 204 rfl rfl), (tb_1 1 rfl rfl), ⟨by decide, by decide, by decide +kernel⟩, pl_CustomValley, by decide⟩, (tb_5 202 rfl rfl), (tb_5 203 rfl rfl)⟩
theorem ml_CustomValleyLaw_125 : Cond.methodLink "CustomValleyLaw" 125 yX13_parts ∈ TB := (tb_9 98 rfl rfl)
theorem mvX13_parts : MV mX13_parts 1 := ⟨⟨(tb_9 101 rfl rfl), (tb_1 16 rfl rfl), ⟨by decide, by decide, by decide +kernel⟩, pl_CustomValleyModel, by decide⟩, (tb_9 99 rfl rfl), (tb_9 100 rfl rfl)⟩
theorem ml_CustomValleyLaw_126 : Cond.methodLink "CustomValleyLaw" 126 yX11_partsOf ∈ TB := (tb_5 205 rfl rfl)
theorem mvX11_partsOf : MV mX11_partsOf 1 := ⟨⟨(tb_5 208 rfl rfl), (tb_1 1 rfl rfl), ⟨by decide, by decide, by decide +kernel⟩, pl_CustomValley, by decide⟩, (tb_5 206 rfl rfl), (tb_5 207 rfl rfl)⟩
theorem ml_CustomValleyLaw_129 : Cond.methodLink "CustomValleyLaw" 129 yX13_partsOf ∈ TB := (tb_9 102 rfl rfl)
theorem mvX13_partsOf : MV mX13_partsOf 1 := ⟨⟨(tb_9 105 rfl rfl), (tb_1 16 rfl rfl), ⟨by decide, by decide, by decide +kernel⟩, pl_CustomValleyModel, by decide⟩, (tb_9 103 rfl rfl), (tb_9 104 rfl rfl)⟩
theorem ml_CustomValleyLaw_130 : Cond.methodLink "CustomValleyLaw" 130 yX11_run ∈ TB := (tb_5 209 rfl rfl)
theorem mvX11_run : MV mX11_run 4 := ⟨⟨(tb_5 212 rfl rfl), (tb_1 1 rfl rfl), ⟨by decide, by decide, by decide +kernel⟩, pl_CustomValley, by decide⟩, (tb_5 210 rfl rfl), (tb_5 211 rfl rfl)⟩
theorem ml_CustomValleyLaw_134 : Cond.methodLink "CustomValleyLaw" 134 yX13_run ∈ TB := (tb_9 106 rfl rfl)
theorem mvX13_run : MV mX13_run 4 := ⟨⟨(tb_9 109 rfl rfl), (tb_1 16 rfl rfl), ⟨by decide, by decide, by decide +kernel⟩, pl_CustomValleyModel, by decide⟩, (tb_9 107 rfl rfl), (tb_9 108 rfl rfl)⟩
theorem ml_CustomValleyLaw_135 : Cond.methodLink "CustomValleyLaw" 135 yX11_ran ∈ TB := (tb_6 1 rfl rfl)
theorem mvX11_ran : MV mX11_ran 1 := ⟨⟨(tb_6 4 rfl rfl), (tb_1 1 rfl rfl), ⟨by decide, by decide, by decide +kernel⟩, pl_CustomValley, by decide⟩, (tb_6 2 rfl rfl), (tb_6 3 rfl rfl)⟩
theorem ml_CustomValleyLaw_138 : Cond.methodLink "CustomValleyLaw" 138 yX13_ran ∈ TB := (tb_9 121 rfl rfl)
theorem mvX13_ran : MV mX13_ran 1 := ⟨⟨(tb_9 124 rfl rfl), (tb_1 16 rfl rfl), ⟨by decide, by decide, by decide +kernel⟩, pl_CustomValleyModel, by decide⟩, (tb_9 122 rfl rfl), (tb_9 123 rfl rfl)⟩
theorem ml_CustomValleyLaw_139 : Cond.methodLink "CustomValleyLaw" 139 yX11_judge ∈ TB := (tb_6 5 rfl rfl)
theorem mvX11_judge : MV mX11_judge 1 := ⟨⟨(tb_6 8 rfl rfl), (tb_1 1 rfl rfl), ⟨by decide, by decide, by decide +kernel⟩, pl_CustomValley, by decide⟩, (tb_6 6 rfl rfl), (tb_6 7 rfl rfl)⟩
theorem ml_CustomValleyLaw_142 : Cond.methodLink "CustomValleyLaw" 142 yX13_judge ∈ TB := (tb_9 125 rfl rfl)
theorem mvX13_judge : MV mX13_judge 1 := ⟨⟨(tb_9 128 rfl rfl), (tb_1 16 rfl rfl), ⟨by decide, by decide, by decide +kernel⟩, pl_CustomValleyModel, by decide⟩, (tb_9 126 rfl rfl), (tb_9 127 rfl rfl)⟩
theorem ml_CustomValleyLaw_143 : Cond.methodLink "CustomValleyLaw" 143 yX11_judged ∈ TB := (tb_6 16 rfl rfl)
theorem mvX11_judged : MV mX11_judged 1 := ⟨⟨(tb_6 19 rfl rfl), (tb_1 1 rfl rfl), ⟨by decide, by decide, by decide +kernel⟩, pl_CustomValley, by decide⟩, (tb_6 17 rfl rfl), (tb_6 18 rfl rfl)⟩
theorem ml_CustomValleyLaw_146 : Cond.methodLink "CustomValleyLaw" 146 yX13_judged ∈ TB := (tb_9 129 rfl rfl)
theorem mvX13_judged : MV mX13_judged 1 := ⟨⟨(tb_9 132 rfl rfl), (tb_1 16 rfl rfl), ⟨by decide, by decide, by decide +kernel⟩, pl_CustomValleyModel, by decide⟩, (tb_9 130 rfl rfl), (tb_9 131 rfl rfl)⟩
theorem ml_CustomValleyLaw_147 : Cond.methodLink "CustomValleyLaw" 147 yX11_see ∈ TB := (tb_6 20 rfl rfl)
theorem mvX11_see : MV mX11_see 3 := ⟨⟨(tb_6 23 rfl rfl), (tb_1 1 rfl rfl), ⟨by decide, by decide, by decide +kernel⟩, pl_CustomValley, by decide⟩, (tb_6 21 rfl rfl), (tb_6 22 rfl rfl)⟩
theorem ml_CustomValleyLaw_150 : Cond.methodLink "CustomValleyLaw" 150 yX13_see ∈ TB := (tb_9 133 rfl rfl)
theorem mvX13_see : MV mX13_see 3 := ⟨⟨(tb_9 136 rfl rfl), (tb_1 16 rfl rfl), ⟨by decide, by decide, by decide +kernel⟩, pl_CustomValleyModel, by decide⟩, (tb_9 134 rfl rfl), (tb_9 135 rfl rfl)⟩
theorem ml_CustomValleyLaw_151 : Cond.methodLink "CustomValleyLaw" 151 yX11_right ∈ TB := (tb_6 36 rfl rfl)
theorem mvX11_right : MV mX11_right 3 := ⟨⟨(tb_6 39 rfl rfl), (tb_1 1 rfl rfl), ⟨by decide, by decide, by decide +kernel⟩, pl_CustomValley, by decide⟩, (tb_6 37 rfl rfl), (tb_6 38 rfl rfl)⟩
theorem ml_CustomValleyLaw_154 : Cond.methodLink "CustomValleyLaw" 154 yX13_right ∈ TB := (tb_9 138 rfl rfl)
theorem mvX13_right : MV mX13_right 3 := ⟨⟨(tb_9 141 rfl rfl), (tb_1 16 rfl rfl), ⟨by decide, by decide, by decide +kernel⟩, pl_CustomValleyModel, by decide⟩, (tb_9 139 rfl rfl), (tb_9 140 rfl rfl)⟩
theorem ml_CustomValleyLaw_155 : Cond.methodLink "CustomValleyLaw" 155 yX11_explained ∈ TB := (tb_6 48 rfl rfl)
theorem mvX11_explained : MV mX11_explained 2 := ⟨⟨(tb_6 51 rfl rfl), (tb_1 1 rfl rfl), ⟨by decide, by decide, by decide +kernel⟩, pl_CustomValley, by decide⟩, (tb_6 49 rfl rfl), (tb_6 50 rfl rfl)⟩
theorem ml_CustomValleyLaw_158 : Cond.methodLink "CustomValleyLaw" 158 yX13_explained ∈ TB := (tb_9 142 rfl rfl)
theorem mvX13_explained : MV mX13_explained 2 := ⟨⟨(tb_9 145 rfl rfl), (tb_1 16 rfl rfl), ⟨by decide, by decide, by decide +kernel⟩, pl_CustomValleyModel, by decide⟩, (tb_9 143 rfl rfl), (tb_9 144 rfl rfl)⟩
theorem ml_CustomValleyLaw_159 : Cond.methodLink "CustomValleyLaw" 159 yX11_likeliest ∈ TB := (tb_6 61 rfl rfl)
theorem mvX11_likeliest : MV mX11_likeliest 1 := ⟨⟨(tb_6 64 rfl rfl), (tb_1 1 rfl rfl), ⟨by decide, by decide, by decide +kernel⟩, pl_CustomValley, by decide⟩, (tb_6 62 rfl rfl), (tb_6 63 rfl rfl)⟩
theorem ml_CustomValleyLaw_162 : Cond.methodLink "CustomValleyLaw" 162 yX13_likeliest ∈ TB := (tb_9 154 rfl rfl)
theorem mvX13_likeliest : MV mX13_likeliest 1 := ⟨⟨(tb_9 157 rfl rfl), (tb_1 16 rfl rfl), ⟨by decide, by decide, by decide +kernel⟩, pl_CustomValleyModel, by decide⟩, (tb_9 155 rfl rfl), (tb_9 156 rfl rfl)⟩
theorem ml_CustomValleyLaw_163 : Cond.methodLink "CustomValleyLaw" 163 yX11_count ∈ TB := (tb_6 65 rfl rfl)
theorem mvX11_count : MV mX11_count 1 := ⟨⟨(tb_6 68 rfl rfl), (tb_1 1 rfl rfl), ⟨by decide, by decide, by decide +kernel⟩, pl_CustomValley, by decide⟩, (tb_6 66 rfl rfl), (tb_6 67 rfl rfl)⟩
theorem ml_CustomValleyLaw_166 : Cond.methodLink "CustomValleyLaw" 166 yX13_count ∈ TB := (tb_9 158 rfl rfl)
theorem mvX13_count : MV mX13_count 1 := ⟨⟨(tb_9 161 rfl rfl), (tb_1 16 rfl rfl), ⟨by decide, by decide, by decide +kernel⟩, pl_CustomValleyModel, by decide⟩, (tb_9 159 rfl rfl), (tb_9 160 rfl rfl)⟩
section Law1
variable {G : GG} {A : Nat → Prop} {p : Program} {l : Launch} {e : Env} {R : Room} {s : State} {mid : MethodId} {args : Array Value} {below : List Frame} {meth : Method} {c : Code} {cells slots : Nat} {Z : State → Prop} {σ : St} {L : Nat} {xs : Nat → Int32}
theorem law_0 {V : Vy} {i : Int} (hC : CX mL_law G A p R s mid args meth c) (hX : SQ mL_law G A s mid ∧ cells ≤ R.cells ∧ slots ≤ R.slots) (hY : SCX G A s L xs) (hL : L ≤ 3072) (hi : 0 ≤ i) (hi5 : i + 5 < (L : Int)) (hI : INV V σ) (kn : ∀ τ V, INV V τ → WL mL_law G A p l e R s mid args below meth c cells slots Z 1247 [vR 1000 0, vR 12 0, vR 14 0, vI i] [] τ) : WL mL_law G A p l e R s mid args below meth c cells slots Z 196 [vR 1000 0, vR 12 0, vR 14 0, vI i] [] σ := by
  refine wl_aload_n hC dL_law_196 rfl rfl ?_
  refine wl_aload_n hC dL_law_197 rfl rfl ?_
  refine wl_iload_n hC dL_law_198 rfl rfl ?_
  refine wl_iconst hC dL_law_199 rfl ?_
  refine wl_iadd hC dL_law_200 ?_ (h1 := by omega) (h2 := by omega)
  refine wl_sld hC hY dL_law_201 (by omega) (by omega) ?_
  refine wl_aload_n hC dL_law_202 rfl rfl ?_
  refine wl_iload_n hC dL_law_203 rfl rfl ?_
  refine wl_iconst hC dL_law_204 rfl ?_
  refine wl_iadd hC dL_law_205 ?_ (h1 := by omega) (h2 := by omega)
  refine wl_sld hC hY dL_law_206 (by omega) (by omega) ?_
  refine wl_aload_n hC dL_law_207 rfl rfl ?_
  refine wl_iload_n hC dL_law_208 rfl rfl ?_
  refine wl_iconst hC dL_law_209 rfl ?_
  refine wl_iadd hC dL_law_210 ?_ (h1 := by omega) (h2 := by omega)
  refine wl_sld hC hY dL_law_211 (by omega) (by omega) ?_
  refine wl_aload_n hC dL_law_212 rfl rfl ?_
  refine wl_iload_n hC dL_law_213 rfl rfl ?_
  refine wl_iconst hC dL_law_214 rfl ?_
  refine wl_iadd hC dL_law_215 ?_ (h1 := by omega) (h2 := by omega)
  refine wl_sld hC hY dL_law_216 (by omega) (by omega) ?_
  refine wl_aload_n hC dL_law_217 rfl rfl ?_
  refine wl_iload_n hC dL_law_218 rfl rfl ?_
  refine wl_iconst hC dL_law_219 rfl ?_
  refine wl_iadd hC dL_law_220 ?_ (h1 := by omega) (h2 := by omega)
  refine wl_sld hC hY dL_law_221 (by omega) (by omega) ?_
  refine wl_inv (N := mX11_feed) hC hX [vI (xs (i + 1).toNat).toInt, vI (xs (i + 2).toNat).toInt, vI (xs (i + 3).toNat).toInt, vI (xs (i + 4).toNat).toInt, vI (xs (i + 5).toNat).toInt] dL_law_222 ml_CustomValleyLaw_13 mvX11_feed rfl rfl rfl rfl rfl (Nat.le_of_ble_eq_true rfl) (Nat.le_of_ble_eq_true rfl) (by decide) (by decide) (by decide) (pr_feed hI) (fun y τ hy => ?_)
  refine wl_aload_n hC dL_law_225 rfl rfl ?_
  refine wl_aload_n hC dL_law_226 rfl rfl ?_
  refine wl_iload_n hC dL_law_227 rfl rfl ?_
  refine wl_iconst hC dL_law_228 rfl ?_
  refine wl_iadd hC dL_law_229 ?_ (h1 := by omega) (h2 := by omega)
  refine wl_sld hC hY dL_law_230 (by omega) (by omega) ?_
  refine wl_aload_n hC dL_law_231 rfl rfl ?_
  refine wl_iload_n hC dL_law_232 rfl rfl ?_
  refine wl_iconst hC dL_law_233 rfl ?_
  refine wl_iadd hC dL_law_234 ?_ (h1 := by omega) (h2 := by omega)
  refine wl_sld hC hY dL_law_235 (by omega) (by omega) ?_
  refine wl_aload_n hC dL_law_236 rfl rfl ?_
  refine wl_iload_n hC dL_law_237 rfl rfl ?_
  refine wl_iconst hC dL_law_238 rfl ?_
  refine wl_iadd hC dL_law_239 ?_ (h1 := by omega) (h2 := by omega)
  refine wl_sld hC hY dL_law_240 (by omega) (by omega) ?_
  refine wl_aload_n hC dL_law_241 rfl rfl ?_
  refine wl_iload_n hC dL_law_242 rfl rfl ?_
  refine wl_iconst hC dL_law_243 rfl ?_
  refine wl_iadd hC dL_law_244 ?_ (h1 := by omega) (h2 := by omega)
  refine wl_sld hC hY dL_law_245 (by omega) (by omega) ?_
  refine wl_aload_n hC dL_law_246 rfl rfl ?_
  refine wl_iload_n hC dL_law_247 rfl rfl ?_
  refine wl_iconst hC dL_law_248 rfl ?_
  refine wl_iadd hC dL_law_249 ?_ (h1 := by omega) (h2 := by omega)
  refine wl_sld hC hY dL_law_250 (by omega) (by omega) ?_
  refine wl_inv (QN := fun z υ => z = y ∧ ∃ V, INV V υ) (N := mX13_feed) hC hX [vI (xs (i + 1).toNat).toInt, vI (xs (i + 2).toNat).toInt, vI (xs (i + 3).toNat).toInt, vI (xs (i + 4).toNat).toInt, vI (xs (i + 5).toNat).toInt] dL_law_251 ml_CustomValleyLaw_17 mvX13_feed rfl rfl rfl rfl rfl (Nat.le_of_ble_eq_true rfl) (Nat.le_of_ble_eq_true rfl) (by decide) (by decide) (by decide) (WP.mono hy (fun r υ hr => ⟨y, hr.1, rfl, hr.2⟩)) (fun z υ hz => ?_)
  obtain ⟨V2, hV2⟩ := hz.2
  exact wl_icmp_eq hC (tgt := 1247) dL_law_254 (by decide) (fun _ => kn υ V2 hV2) (fun q => absurd hz.1.symm q)
theorem law_1 {V : Vy} {i : Int} (hC : CX mL_law G A p R s mid args meth c) (hX : SQ mL_law G A s mid ∧ cells ≤ R.cells ∧ slots ≤ R.slots) (hY : SCX G A s L xs) (hL : L ≤ 3072) (hi : 0 ≤ i) (hi5 : i + 5 < (L : Int)) (hI : INV V σ) (kn : ∀ τ V, INV V τ → WL mL_law G A p l e R s mid args below meth c cells slots Z 1247 [vR 1000 0, vR 12 0, vR 14 0, vI i] [] τ) : WL mL_law G A p l e R s mid args below meth c cells slots Z 259 [vR 1000 0, vR 12 0, vR 14 0, vI i] [] σ := by
  refine wl_aload_n hC dL_law_259 rfl rfl ?_
  refine wl_aload_n hC dL_law_260 rfl rfl ?_
  refine wl_iload_n hC dL_law_261 rfl rfl ?_
  refine wl_iconst hC dL_law_262 rfl ?_
  refine wl_iadd hC dL_law_263 ?_ (h1 := by omega) (h2 := by omega)
  refine wl_sld hC hY dL_law_264 (by omega) (by omega) ?_
  refine wl_inv (N := mX11_end) hC hX [vI (xs (i + 1).toNat).toInt] dL_law_265 ml_CustomValleyLaw_18 mvX11_end rfl rfl rfl rfl rfl (Nat.le_of_ble_eq_true rfl) (Nat.le_of_ble_eq_true rfl) (by decide) (by decide) (by decide) (pr_end hI) (fun y τ hy => ?_)
  refine wl_aload_n hC dL_law_268 rfl rfl ?_
  refine wl_aload_n hC dL_law_269 rfl rfl ?_
  refine wl_iload_n hC dL_law_270 rfl rfl ?_
  refine wl_iconst hC dL_law_271 rfl ?_
  refine wl_iadd hC dL_law_272 ?_ (h1 := by omega) (h2 := by omega)
  refine wl_sld hC hY dL_law_273 (by omega) (by omega) ?_
  refine wl_inv (QN := fun z υ => z = y ∧ ∃ V, INV V υ) (N := mX13_end) hC hX [vI (xs (i + 1).toNat).toInt] dL_law_274 ml_CustomValleyLaw_22 mvX13_end rfl rfl rfl rfl rfl (Nat.le_of_ble_eq_true rfl) (Nat.le_of_ble_eq_true rfl) (by decide) (by decide) (by decide) (WP.mono hy (fun r υ hr => ⟨y, hr.1, rfl, hr.2⟩)) (fun z υ hz => ?_)
  obtain ⟨V2, hV2⟩ := hz.2
  exact wl_icmp_eq hC (tgt := 1247) dL_law_277 (by decide) (fun _ => kn υ V2 hV2) (fun q => absurd hz.1.symm q)
theorem law_2 {V : Vy} {i : Int} (hC : CX mL_law G A p R s mid args meth c) (hX : SQ mL_law G A s mid ∧ cells ≤ R.cells ∧ slots ≤ R.slots) (hY : SCX G A s L xs) (hL : L ≤ 3072) (hi : 0 ≤ i) (hi5 : i + 5 < (L : Int)) (hI : INV V σ) (kn : ∀ τ V, INV V τ → WL mL_law G A p l e R s mid args below meth c cells slots Z 1247 [vR 1000 0, vR 12 0, vR 14 0, vI i] [] τ) : WL mL_law G A p l e R s mid args below meth c cells slots Z 282 [vR 1000 0, vR 12 0, vR 14 0, vI i] [] σ := by
  refine wl_aload_n hC dL_law_282 rfl rfl ?_
  refine wl_inv (N := mX11_valley) hC hX [] dL_law_283 ml_CustomValleyLaw_23 mvX11_valley rfl rfl rfl rfl rfl (Nat.le_of_ble_eq_true rfl) (Nat.le_of_ble_eq_true rfl) (by decide) (by decide) (by decide) (pr_valley hI) (fun y τ hy => ?_)
  refine wl_aload_n hC dL_law_286 rfl rfl ?_
  refine wl_invG (QN := fun z υ => z = y ∧ ∃ V, INV V υ) (N := mX13_valley) (hh := [(0, 9, 12, 213)]) hC hX [] dL_law_287 ml_CustomValleyLaw_27 (NW.w hC.2.2.2.2.1 cwX13_valley) (tb_1 16 rfl rfl) ⟨by decide, by decide, by decide +kernel⟩ pl_CustomValleyModel (by decide) (tb_7 196 rfl rfl) (tb_7 197 rfl rfl) rfl rfl rfl rfl rfl (Nat.le_of_ble_eq_true rfl) (Nat.le_of_ble_eq_true rfl) (by decide) (by decide) (by decide) (WP.mono hy (fun r υ hr => ⟨y, hr.1, rfl, hr.2⟩)) (fun z υ hz => ?_)
  obtain ⟨V2, hV2⟩ := hz.2
  exact wl_icmp_eq hC (tgt := 1247) dL_law_290 (by decide) (fun _ => kn υ V2 hV2) (fun q => absurd hz.1.symm q)
theorem law_3 {V : Vy} {i : Int} (hC : CX mL_law G A p R s mid args meth c) (hX : SQ mL_law G A s mid ∧ cells ≤ R.cells ∧ slots ≤ R.slots) (hY : SCX G A s L xs) (hL : L ≤ 3072) (hi : 0 ≤ i) (hi5 : i + 5 < (L : Int)) (hI : INV V σ) (kn : ∀ τ V, INV V τ → WL mL_law G A p l e R s mid args below meth c cells slots Z 1247 [vR 1000 0, vR 12 0, vR 14 0, vI i] [] τ) : WL mL_law G A p l e R s mid args below meth c cells slots Z 295 [vR 1000 0, vR 12 0, vR 14 0, vI i] [] σ := by
  refine wl_aload_n hC dL_law_295 rfl rfl ?_
  refine wl_aload_n hC dL_law_296 rfl rfl ?_
  refine wl_iload_n hC dL_law_297 rfl rfl ?_
  refine wl_iconst hC dL_law_298 rfl ?_
  refine wl_iadd hC dL_law_299 ?_ (h1 := by omega) (h2 := by omega)
  refine wl_sld hC hY dL_law_300 (by omega) (by omega) ?_
  refine wl_inv (N := mX11_fault) hC hX [vI (xs (i + 1).toNat).toInt] dL_law_301 ml_CustomValleyLaw_28 mvX11_fault rfl rfl rfl rfl rfl (Nat.le_of_ble_eq_true rfl) (Nat.le_of_ble_eq_true rfl) (by decide) (by decide) (by decide) (pr_fault hI) (fun y τ hy => ?_)
  refine wl_aload_n hC dL_law_304 rfl rfl ?_
  refine wl_aload_n hC dL_law_305 rfl rfl ?_
  refine wl_iload_n hC dL_law_306 rfl rfl ?_
  refine wl_iconst hC dL_law_307 rfl ?_
  refine wl_iadd hC dL_law_308 ?_ (h1 := by omega) (h2 := by omega)
  refine wl_sld hC hY dL_law_309 (by omega) (by omega) ?_
  refine wl_inv (QN := fun z υ => z = y ∧ ∃ V, INV V υ) (N := mX13_fault) hC hX [vI (xs (i + 1).toNat).toInt] dL_law_310 ml_CustomValleyLaw_31 mvX13_fault rfl rfl rfl rfl rfl (Nat.le_of_ble_eq_true rfl) (Nat.le_of_ble_eq_true rfl) (by decide) (by decide) (by decide) (WP.mono hy (fun r υ hr => ⟨y, hr.1, rfl, hr.2⟩)) (fun z υ hz => ?_)
  obtain ⟨V2, hV2⟩ := hz.2
  exact wl_icmp_eq hC (tgt := 1247) dL_law_313 (by decide) (fun _ => kn υ V2 hV2) (fun q => absurd hz.1.symm q)
theorem law_4 {V : Vy} {i : Int} (hC : CX mL_law G A p R s mid args meth c) (hX : SQ mL_law G A s mid ∧ cells ≤ R.cells ∧ slots ≤ R.slots) (hY : SCX G A s L xs) (hL : L ≤ 3072) (hi : 0 ≤ i) (hi5 : i + 5 < (L : Int)) (hI : INV V σ) (kn : ∀ τ V, INV V τ → WL mL_law G A p l e R s mid args below meth c cells slots Z 1247 [vR 1000 0, vR 12 0, vR 14 0, vI i] [] τ) : WL mL_law G A p l e R s mid args below meth c cells slots Z 318 [vR 1000 0, vR 12 0, vR 14 0, vI i] [] σ := by
  refine wl_aload_n hC dL_law_318 rfl rfl ?_
  refine wl_aload_n hC dL_law_319 rfl rfl ?_
  refine wl_iload_n hC dL_law_320 rfl rfl ?_
  refine wl_iconst hC dL_law_321 rfl ?_
  refine wl_iadd hC dL_law_322 ?_ (h1 := by omega) (h2 := by omega)
  refine wl_sld hC hY dL_law_323 (by omega) (by omega) ?_
  refine wl_inv (N := mX11_told) hC hX [vI (xs (i + 1).toNat).toInt] dL_law_324 ml_CustomValleyLaw_32 mvX11_told rfl rfl rfl rfl rfl (Nat.le_of_ble_eq_true rfl) (Nat.le_of_ble_eq_true rfl) (by decide) (by decide) (by decide) (pr_told (i32_in _) hI) (fun y τ hy => ?_)
  refine wl_aload_n hC dL_law_327 rfl rfl ?_
  refine wl_aload_n hC dL_law_328 rfl rfl ?_
  refine wl_iload_n hC dL_law_329 rfl rfl ?_
  refine wl_iconst hC dL_law_330 rfl ?_
  refine wl_iadd hC dL_law_331 ?_ (h1 := by omega) (h2 := by omega)
  refine wl_sld hC hY dL_law_332 (by omega) (by omega) ?_
  refine wl_inv (QN := fun z υ => z = y ∧ ∃ V, INV V υ) (N := mX13_told) hC hX [vI (xs (i + 1).toNat).toInt] dL_law_333 ml_CustomValleyLaw_35 mvX13_told rfl rfl rfl rfl rfl (Nat.le_of_ble_eq_true rfl) (Nat.le_of_ble_eq_true rfl) (by decide) (by decide) (by decide) (WP.mono hy (fun r υ hr => ⟨y, hr.1, rfl, hr.2⟩)) (fun z υ hz => ?_)
  obtain ⟨V2, hV2⟩ := hz.2
  exact wl_icmp_eq hC (tgt := 1247) dL_law_336 (by decide) (fun _ => kn υ V2 hV2) (fun q => absurd hz.1.symm q)
theorem law_5 {V : Vy} {i : Int} (hC : CX mL_law G A p R s mid args meth c) (hX : SQ mL_law G A s mid ∧ cells ≤ R.cells ∧ slots ≤ R.slots) (hY : SCX G A s L xs) (hL : L ≤ 3072) (hi : 0 ≤ i) (hi5 : i + 5 < (L : Int)) (hI : INV V σ) (kn : ∀ τ V, INV V τ → WL mL_law G A p l e R s mid args below meth c cells slots Z 1247 [vR 1000 0, vR 12 0, vR 14 0, vI i] [] τ) : WL mL_law G A p l e R s mid args below meth c cells slots Z 341 [vR 1000 0, vR 12 0, vR 14 0, vI i] [] σ := by
  refine wl_aload_n hC dL_law_341 rfl rfl ?_
  refine wl_aload_n hC dL_law_342 rfl rfl ?_
  refine wl_iload_n hC dL_law_343 rfl rfl ?_
  refine wl_iconst hC dL_law_344 rfl ?_
  refine wl_iadd hC dL_law_345 ?_ (h1 := by omega) (h2 := by omega)
  refine wl_sld hC hY dL_law_346 (by omega) (by omega) ?_
  refine wl_aload_n hC dL_law_347 rfl rfl ?_
  refine wl_iload_n hC dL_law_348 rfl rfl ?_
  refine wl_iconst hC dL_law_349 rfl ?_
  refine wl_iadd hC dL_law_350 ?_ (h1 := by omega) (h2 := by omega)
  refine wl_sld hC hY dL_law_351 (by omega) (by omega) ?_
  refine wl_inv (N := mX11_habit) hC hX [vI (xs (i + 1).toNat).toInt, vI (xs (i + 2).toNat).toInt] dL_law_352 ml_CustomValleyLaw_36 mvX11_habit rfl rfl rfl rfl rfl (Nat.le_of_ble_eq_true rfl) (Nat.le_of_ble_eq_true rfl) (by decide) (by decide) (by decide) (pr_habit hI) (fun y τ hy => ?_)
  refine wl_aload_n hC dL_law_355 rfl rfl ?_
  refine wl_aload_n hC dL_law_356 rfl rfl ?_
  refine wl_iload_n hC dL_law_357 rfl rfl ?_
  refine wl_iconst hC dL_law_358 rfl ?_
  refine wl_iadd hC dL_law_359 ?_ (h1 := by omega) (h2 := by omega)
  refine wl_sld hC hY dL_law_360 (by omega) (by omega) ?_
  refine wl_aload_n hC dL_law_361 rfl rfl ?_
  refine wl_iload_n hC dL_law_362 rfl rfl ?_
  refine wl_iconst hC dL_law_363 rfl ?_
  refine wl_iadd hC dL_law_364 ?_ (h1 := by omega) (h2 := by omega)
  refine wl_sld hC hY dL_law_365 (by omega) (by omega) ?_
  refine wl_inv (QN := fun z υ => z = y ∧ ∃ V, INV V υ) (N := mX13_habit) hC hX [vI (xs (i + 1).toNat).toInt, vI (xs (i + 2).toNat).toInt] dL_law_366 ml_CustomValleyLaw_40 mvX13_habit rfl rfl rfl rfl rfl (Nat.le_of_ble_eq_true rfl) (Nat.le_of_ble_eq_true rfl) (by decide) (by decide) (by decide) (WP.mono hy (fun r υ hr => ⟨y, hr.1, rfl, hr.2⟩)) (fun z υ hz => ?_)
  obtain ⟨V2, hV2⟩ := hz.2
  exact wl_icmp_eq hC (tgt := 1247) dL_law_369 (by decide) (fun _ => kn υ V2 hV2) (fun q => absurd hz.1.symm q)
theorem law_6 {V : Vy} {i : Int} (hC : CX mL_law G A p R s mid args meth c) (hX : SQ mL_law G A s mid ∧ cells ≤ R.cells ∧ slots ≤ R.slots) (hY : SCX G A s L xs) (hL : L ≤ 3072) (hi : 0 ≤ i) (hi5 : i + 5 < (L : Int)) (hI : INV V σ) (kn : ∀ τ V, INV V τ → WL mL_law G A p l e R s mid args below meth c cells slots Z 1247 [vR 1000 0, vR 12 0, vR 14 0, vI i] [] τ) : WL mL_law G A p l e R s mid args below meth c cells slots Z 374 [vR 1000 0, vR 12 0, vR 14 0, vI i] [] σ := by
  refine wl_aload_n hC dL_law_374 rfl rfl ?_
  refine wl_aload_n hC dL_law_375 rfl rfl ?_
  refine wl_iload_n hC dL_law_376 rfl rfl ?_
  refine wl_iconst hC dL_law_377 rfl ?_
  refine wl_iadd hC dL_law_378 ?_ (h1 := by omega) (h2 := by omega)
  refine wl_sld hC hY dL_law_379 (by omega) (by omega) ?_
  refine wl_aload_n hC dL_law_380 rfl rfl ?_
  refine wl_iload_n hC dL_law_381 rfl rfl ?_
  refine wl_iconst hC dL_law_382 rfl ?_
  refine wl_iadd hC dL_law_383 ?_ (h1 := by omega) (h2 := by omega)
  refine wl_sld hC hY dL_law_384 (by omega) (by omega) ?_
  refine wl_inv (N := mX11_worth) hC hX [vI (xs (i + 1).toNat).toInt, vI (xs (i + 2).toNat).toInt] dL_law_385 ml_CustomValleyLaw_41 mvX11_worth rfl rfl rfl rfl rfl (Nat.le_of_ble_eq_true rfl) (Nat.le_of_ble_eq_true rfl) (by decide) (by decide) (by decide) (pr_worth hI) (fun y τ hy => ?_)
  refine wl_aload_n hC dL_law_388 rfl rfl ?_
  refine wl_aload_n hC dL_law_389 rfl rfl ?_
  refine wl_iload_n hC dL_law_390 rfl rfl ?_
  refine wl_iconst hC dL_law_391 rfl ?_
  refine wl_iadd hC dL_law_392 ?_ (h1 := by omega) (h2 := by omega)
  refine wl_sld hC hY dL_law_393 (by omega) (by omega) ?_
  refine wl_aload_n hC dL_law_394 rfl rfl ?_
  refine wl_iload_n hC dL_law_395 rfl rfl ?_
  refine wl_iconst hC dL_law_396 rfl ?_
  refine wl_iadd hC dL_law_397 ?_ (h1 := by omega) (h2 := by omega)
  refine wl_sld hC hY dL_law_398 (by omega) (by omega) ?_
  refine wl_inv (QN := fun z υ => z = y ∧ ∃ V, INV V υ) (N := mX13_worth) hC hX [vI (xs (i + 1).toNat).toInt, vI (xs (i + 2).toNat).toInt] dL_law_399 ml_CustomValleyLaw_44 mvX13_worth rfl rfl rfl rfl rfl (Nat.le_of_ble_eq_true rfl) (Nat.le_of_ble_eq_true rfl) (by decide) (by decide) (by decide) (WP.mono hy (fun r υ hr => ⟨y, hr.1, rfl, hr.2⟩)) (fun z υ hz => ?_)
  obtain ⟨V2, hV2⟩ := hz.2
  exact wl_icmp_eq hC (tgt := 1247) dL_law_402 (by decide) (fun _ => kn υ V2 hV2) (fun q => absurd hz.1.symm q)
theorem law_7 {V : Vy} {i : Int} (hC : CX mL_law G A p R s mid args meth c) (hX : SQ mL_law G A s mid ∧ cells ≤ R.cells ∧ slots ≤ R.slots) (hY : SCX G A s L xs) (hL : L ≤ 3072) (hi : 0 ≤ i) (hi5 : i + 5 < (L : Int)) (hI : INV V σ) (kn : ∀ τ V, INV V τ → WL mL_law G A p l e R s mid args below meth c cells slots Z 1247 [vR 1000 0, vR 12 0, vR 14 0, vI i] [] τ) : WL mL_law G A p l e R s mid args below meth c cells slots Z 407 [vR 1000 0, vR 12 0, vR 14 0, vI i] [] σ := by
  refine wl_aload_n hC dL_law_407 rfl rfl ?_
  refine wl_aload_n hC dL_law_408 rfl rfl ?_
  refine wl_iload_n hC dL_law_409 rfl rfl ?_
  refine wl_iconst hC dL_law_410 rfl ?_
  refine wl_iadd hC dL_law_411 ?_ (h1 := by omega) (h2 := by omega)
  refine wl_sld hC hY dL_law_412 (by omega) (by omega) ?_
  refine wl_aload_n hC dL_law_413 rfl rfl ?_
  refine wl_iload_n hC dL_law_414 rfl rfl ?_
  refine wl_iconst hC dL_law_415 rfl ?_
  refine wl_iadd hC dL_law_416 ?_ (h1 := by omega) (h2 := by omega)
  refine wl_sld hC hY dL_law_417 (by omega) (by omega) ?_
  refine wl_inv (N := mX11_answers) hC hX [vI (xs (i + 1).toNat).toInt, vI (xs (i + 2).toNat).toInt] dL_law_418 ml_CustomValleyLaw_45 mvX11_answers rfl rfl rfl rfl rfl (Nat.le_of_ble_eq_true rfl) (Nat.le_of_ble_eq_true rfl) (by decide) (by decide) (by decide) (pr_answers hI) (fun y τ hy => ?_)
  refine wl_aload_n hC dL_law_421 rfl rfl ?_
  refine wl_aload_n hC dL_law_422 rfl rfl ?_
  refine wl_iload_n hC dL_law_423 rfl rfl ?_
  refine wl_iconst hC dL_law_424 rfl ?_
  refine wl_iadd hC dL_law_425 ?_ (h1 := by omega) (h2 := by omega)
  refine wl_sld hC hY dL_law_426 (by omega) (by omega) ?_
  refine wl_aload_n hC dL_law_427 rfl rfl ?_
  refine wl_iload_n hC dL_law_428 rfl rfl ?_
  refine wl_iconst hC dL_law_429 rfl ?_
  refine wl_iadd hC dL_law_430 ?_ (h1 := by omega) (h2 := by omega)
  refine wl_sld hC hY dL_law_431 (by omega) (by omega) ?_
  refine wl_inv (QN := fun z υ => z = y ∧ ∃ V, INV V υ) (N := mX13_answers) hC hX [vI (xs (i + 1).toNat).toInt, vI (xs (i + 2).toNat).toInt] dL_law_432 ml_CustomValleyLaw_48 mvX13_answers rfl rfl rfl rfl rfl (Nat.le_of_ble_eq_true rfl) (Nat.le_of_ble_eq_true rfl) (by decide) (by decide) (by decide) (WP.mono hy (fun r υ hr => ⟨y, hr.1, rfl, hr.2⟩)) (fun z υ hz => ?_)
  obtain ⟨V2, hV2⟩ := hz.2
  exact wl_icmp_eq hC (tgt := 1247) dL_law_435 (by decide) (fun _ => kn υ V2 hV2) (fun q => absurd hz.1.symm q)
theorem law_8 {V : Vy} {i : Int} (hC : CX mL_law G A p R s mid args meth c) (hX : SQ mL_law G A s mid ∧ cells ≤ R.cells ∧ slots ≤ R.slots) (hY : SCX G A s L xs) (hL : L ≤ 3072) (hi : 0 ≤ i) (hi5 : i + 5 < (L : Int)) (hI : INV V σ) (kn : ∀ τ V, INV V τ → WL mL_law G A p l e R s mid args below meth c cells slots Z 1247 [vR 1000 0, vR 12 0, vR 14 0, vI i] [] τ) : WL mL_law G A p l e R s mid args below meth c cells slots Z 440 [vR 1000 0, vR 12 0, vR 14 0, vI i] [] σ := by
  refine wl_aload_n hC dL_law_440 rfl rfl ?_
  refine wl_aload_n hC dL_law_441 rfl rfl ?_
  refine wl_iload_n hC dL_law_442 rfl rfl ?_
  refine wl_iconst hC dL_law_443 rfl ?_
  refine wl_iadd hC dL_law_444 ?_ (h1 := by omega) (h2 := by omega)
  refine wl_sld hC hY dL_law_445 (by omega) (by omega) ?_
  refine wl_aload_n hC dL_law_446 rfl rfl ?_
  refine wl_iload_n hC dL_law_447 rfl rfl ?_
  refine wl_iconst hC dL_law_448 rfl ?_
  refine wl_iadd hC dL_law_449 ?_ (h1 := by omega) (h2 := by omega)
  refine wl_sld hC hY dL_law_450 (by omega) (by omega) ?_
  refine wl_aload_n hC dL_law_451 rfl rfl ?_
  refine wl_iload_n hC dL_law_452 rfl rfl ?_
  refine wl_iconst hC dL_law_453 rfl ?_
  refine wl_iadd hC dL_law_454 ?_ (h1 := by omega) (h2 := by omega)
  refine wl_sld hC hY dL_law_455 (by omega) (by omega) ?_
  refine wl_inv (N := mX11_move) hC hX [vI (xs (i + 1).toNat).toInt, vI (xs (i + 2).toNat).toInt, vI (xs (i + 3).toNat).toInt] dL_law_456 ml_CustomValleyLaw_49 mvX11_move rfl rfl rfl rfl rfl (Nat.le_of_ble_eq_true rfl) (Nat.le_of_ble_eq_true rfl) (by decide) (by decide) (by decide) (pr_move hI) (fun y τ hy => ?_)
  refine wl_aload_n hC dL_law_459 rfl rfl ?_
  refine wl_aload_n hC dL_law_460 rfl rfl ?_
  refine wl_iload_n hC dL_law_461 rfl rfl ?_
  refine wl_iconst hC dL_law_462 rfl ?_
  refine wl_iadd hC dL_law_463 ?_ (h1 := by omega) (h2 := by omega)
  refine wl_sld hC hY dL_law_464 (by omega) (by omega) ?_
  refine wl_aload_n hC dL_law_465 rfl rfl ?_
  refine wl_iload_n hC dL_law_466 rfl rfl ?_
  refine wl_iconst hC dL_law_467 rfl ?_
  refine wl_iadd hC dL_law_468 ?_ (h1 := by omega) (h2 := by omega)
  refine wl_sld hC hY dL_law_469 (by omega) (by omega) ?_
  refine wl_aload_n hC dL_law_470 rfl rfl ?_
  refine wl_iload_n hC dL_law_471 rfl rfl ?_
  refine wl_iconst hC dL_law_472 rfl ?_
  refine wl_iadd hC dL_law_473 ?_ (h1 := by omega) (h2 := by omega)
  refine wl_sld hC hY dL_law_474 (by omega) (by omega) ?_
  refine wl_inv (QN := fun z υ => z = y ∧ ∃ V, INV V υ) (N := mX13_move) hC hX [vI (xs (i + 1).toNat).toInt, vI (xs (i + 2).toNat).toInt, vI (xs (i + 3).toNat).toInt] dL_law_475 ml_CustomValleyLaw_53 mvX13_move rfl rfl rfl rfl rfl (Nat.le_of_ble_eq_true rfl) (Nat.le_of_ble_eq_true rfl) (by decide) (by decide) (by decide) (WP.mono hy (fun r υ hr => ⟨y, hr.1, rfl, hr.2⟩)) (fun z υ hz => ?_)
  obtain ⟨V2, hV2⟩ := hz.2
  exact wl_icmp_eq hC (tgt := 1247) dL_law_478 (by decide) (fun _ => kn υ V2 hV2) (fun q => absurd hz.1.symm q)
theorem law_9 {V : Vy} {i : Int} (hC : CX mL_law G A p R s mid args meth c) (hX : SQ mL_law G A s mid ∧ cells ≤ R.cells ∧ slots ≤ R.slots) (hY : SCX G A s L xs) (hL : L ≤ 3072) (hi : 0 ≤ i) (hi5 : i + 5 < (L : Int)) (hI : INV V σ) (kn : ∀ τ V, INV V τ → WL mL_law G A p l e R s mid args below meth c cells slots Z 1247 [vR 1000 0, vR 12 0, vR 14 0, vI i] [] τ) : WL mL_law G A p l e R s mid args below meth c cells slots Z 483 [vR 1000 0, vR 12 0, vR 14 0, vI i] [] σ := by
  refine wl_aload_n hC dL_law_483 rfl rfl ?_
  refine wl_inv (N := mX11_rests) hC hX [] dL_law_484 ml_CustomValleyLaw_54 mvX11_rests rfl rfl rfl rfl rfl (Nat.le_of_ble_eq_true rfl) (Nat.le_of_ble_eq_true rfl) (by decide) (by decide) (by decide) (pr_rests hI) (fun y τ hy => ?_)
  refine wl_aload_n hC dL_law_487 rfl rfl ?_
  refine wl_inv (QN := fun z υ => z = y ∧ ∃ V, INV V υ) (N := mX13_rests) hC hX [] dL_law_488 ml_CustomValleyLaw_57 mvX13_rests rfl rfl rfl rfl rfl (Nat.le_of_ble_eq_true rfl) (Nat.le_of_ble_eq_true rfl) (by decide) (by decide) (by decide) (WP.mono hy (fun r υ hr => ⟨y, hr.1, rfl, hr.2⟩)) (fun z υ hz => ?_)
  obtain ⟨V2, hV2⟩ := hz.2
  exact wl_icmp_eq hC (tgt := 1247) dL_law_491 (by decide) (fun _ => kn υ V2 hV2) (fun q => absurd hz.1.symm q)
theorem law_10 {V : Vy} {i : Int} (hC : CX mL_law G A p R s mid args meth c) (hX : SQ mL_law G A s mid ∧ cells ≤ R.cells ∧ slots ≤ R.slots) (hY : SCX G A s L xs) (hL : L ≤ 3072) (hi : 0 ≤ i) (hi5 : i + 5 < (L : Int)) (hI : INV V σ) (kn : ∀ τ V, INV V τ → WL mL_law G A p l e R s mid args below meth c cells slots Z 1247 [vR 1000 0, vR 12 0, vR 14 0, vI i] [] τ) : WL mL_law G A p l e R s mid args below meth c cells slots Z 496 [vR 1000 0, vR 12 0, vR 14 0, vI i] [] σ := by
  refine wl_aload_n hC dL_law_496 rfl rfl ?_
  refine wl_aload_n hC dL_law_497 rfl rfl ?_
  refine wl_iload_n hC dL_law_498 rfl rfl ?_
  refine wl_iconst hC dL_law_499 rfl ?_
  refine wl_iadd hC dL_law_500 ?_ (h1 := by omega) (h2 := by omega)
  refine wl_sld hC hY dL_law_501 (by omega) (by omega) ?_
  refine wl_aload_n hC dL_law_502 rfl rfl ?_
  refine wl_iload_n hC dL_law_503 rfl rfl ?_
  refine wl_iconst hC dL_law_504 rfl ?_
  refine wl_iadd hC dL_law_505 ?_ (h1 := by omega) (h2 := by omega)
  refine wl_sld hC hY dL_law_506 (by omega) (by omega) ?_
  refine wl_inv (N := mX11_rest) hC hX [vI (xs (i + 1).toNat).toInt, vI (xs (i + 2).toNat).toInt] dL_law_507 ml_CustomValleyLaw_58 mvX11_rest rfl rfl rfl rfl rfl (Nat.le_of_ble_eq_true rfl) (Nat.le_of_ble_eq_true rfl) (by decide) (by decide) (by decide) (pr_rest (i32_in _) hI) (fun y τ hy => ?_)
  refine wl_aload_n hC dL_law_510 rfl rfl ?_
  refine wl_aload_n hC dL_law_511 rfl rfl ?_
  refine wl_iload_n hC dL_law_512 rfl rfl ?_
  refine wl_iconst hC dL_law_513 rfl ?_
  refine wl_iadd hC dL_law_514 ?_ (h1 := by omega) (h2 := by omega)
  refine wl_sld hC hY dL_law_515 (by omega) (by omega) ?_
  refine wl_aload_n hC dL_law_516 rfl rfl ?_
  refine wl_iload_n hC dL_law_517 rfl rfl ?_
  refine wl_iconst hC dL_law_518 rfl ?_
  refine wl_iadd hC dL_law_519 ?_ (h1 := by omega) (h2 := by omega)
  refine wl_sld hC hY dL_law_520 (by omega) (by omega) ?_
  refine wl_inv (QN := fun z υ => z = y ∧ ∃ V, INV V υ) (N := mX13_rest) hC hX [vI (xs (i + 1).toNat).toInt, vI (xs (i + 2).toNat).toInt] dL_law_521 ml_CustomValleyLaw_61 mvX13_rest rfl rfl rfl rfl rfl (Nat.le_of_ble_eq_true rfl) (Nat.le_of_ble_eq_true rfl) (by decide) (by decide) (by decide) (WP.mono hy (fun r υ hr => ⟨y, hr.1, rfl, hr.2⟩)) (fun z υ hz => ?_)
  obtain ⟨V2, hV2⟩ := hz.2
  exact wl_icmp_eq hC (tgt := 1247) dL_law_524 (by decide) (fun _ => kn υ V2 hV2) (fun q => absurd hz.1.symm q)
theorem law_11 {V : Vy} {i : Int} (hC : CX mL_law G A p R s mid args meth c) (hX : SQ mL_law G A s mid ∧ cells ≤ R.cells ∧ slots ≤ R.slots) (hY : SCX G A s L xs) (hL : L ≤ 3072) (hi : 0 ≤ i) (hi5 : i + 5 < (L : Int)) (hI : INV V σ) (kn : ∀ τ V, INV V τ → WL mL_law G A p l e R s mid args below meth c cells slots Z 1247 [vR 1000 0, vR 12 0, vR 14 0, vI i] [] τ) : WL mL_law G A p l e R s mid args below meth c cells slots Z 529 [vR 1000 0, vR 12 0, vR 14 0, vI i] [] σ := by
  refine wl_aload_n hC dL_law_529 rfl rfl ?_
  refine wl_aload_n hC dL_law_530 rfl rfl ?_
  refine wl_iload_n hC dL_law_531 rfl rfl ?_
  refine wl_iconst hC dL_law_532 rfl ?_
  refine wl_iadd hC dL_law_533 ?_ (h1 := by omega) (h2 := by omega)
  refine wl_sld hC hY dL_law_534 (by omega) (by omega) ?_
  refine wl_inv (N := mX11_restOf) hC hX [vI (xs (i + 1).toNat).toInt] dL_law_535 ml_CustomValleyLaw_62 mvX11_restOf rfl rfl rfl rfl rfl (Nat.le_of_ble_eq_true rfl) (Nat.le_of_ble_eq_true rfl) (by decide) (by decide) (by decide) (pr_restOf hI) (fun y τ hy => ?_)
  refine wl_aload_n hC dL_law_538 rfl rfl ?_
  refine wl_aload_n hC dL_law_539 rfl rfl ?_
  refine wl_iload_n hC dL_law_540 rfl rfl ?_
  refine wl_iconst hC dL_law_541 rfl ?_
  refine wl_iadd hC dL_law_542 ?_ (h1 := by omega) (h2 := by omega)
  refine wl_sld hC hY dL_law_543 (by omega) (by omega) ?_
  refine wl_inv (QN := fun z υ => z = y ∧ ∃ V, INV V υ) (N := mX13_restOf) hC hX [vI (xs (i + 1).toNat).toInt] dL_law_544 ml_CustomValleyLaw_65 mvX13_restOf rfl rfl rfl rfl rfl (Nat.le_of_ble_eq_true rfl) (Nat.le_of_ble_eq_true rfl) (by decide) (by decide) (by decide) (WP.mono hy (fun r υ hr => ⟨y, hr.1, rfl, hr.2⟩)) (fun z υ hz => ?_)
  obtain ⟨V2, hV2⟩ := hz.2
  exact wl_icmp_eq hC (tgt := 1247) dL_law_547 (by decide) (fun _ => kn υ V2 hV2) (fun q => absurd hz.1.symm q)
theorem law_12 {V : Vy} {i : Int} (hC : CX mL_law G A p R s mid args meth c) (hX : SQ mL_law G A s mid ∧ cells ≤ R.cells ∧ slots ≤ R.slots) (hY : SCX G A s L xs) (hL : L ≤ 3072) (hi : 0 ≤ i) (hi5 : i + 5 < (L : Int)) (hI : INV V σ) (kn : ∀ τ V, INV V τ → WL mL_law G A p l e R s mid args below meth c cells slots Z 1247 [vR 1000 0, vR 12 0, vR 14 0, vI i] [] τ) : WL mL_law G A p l e R s mid args below meth c cells slots Z 552 [vR 1000 0, vR 12 0, vR 14 0, vI i] [] σ := by
  refine wl_aload_n hC dL_law_552 rfl rfl ?_
  refine wl_aload_n hC dL_law_553 rfl rfl ?_
  refine wl_iload_n hC dL_law_554 rfl rfl ?_
  refine wl_iconst hC dL_law_555 rfl ?_
  refine wl_iadd hC dL_law_556 ?_ (h1 := by omega) (h2 := by omega)
  refine wl_sld hC hY dL_law_557 (by omega) (by omega) ?_
  refine wl_aload_n hC dL_law_558 rfl rfl ?_
  refine wl_iload_n hC dL_law_559 rfl rfl ?_
  refine wl_iconst hC dL_law_560 rfl ?_
  refine wl_iadd hC dL_law_561 ?_ (h1 := by omega) (h2 := by omega)
  refine wl_sld hC hY dL_law_562 (by omega) (by omega) ?_
  refine wl_inv (N := mX11_comes) hC hX [vI (xs (i + 1).toNat).toInt, vI (xs (i + 2).toNat).toInt] dL_law_563 ml_CustomValleyLaw_66 mvX11_comes rfl rfl rfl rfl rfl (Nat.le_of_ble_eq_true rfl) (Nat.le_of_ble_eq_true rfl) (by decide) (by decide) (by decide) (pr_comes hI) (fun y τ hy => ?_)
  refine wl_aload_n hC dL_law_566 rfl rfl ?_
  refine wl_aload_n hC dL_law_567 rfl rfl ?_
  refine wl_iload_n hC dL_law_568 rfl rfl ?_
  refine wl_iconst hC dL_law_569 rfl ?_
  refine wl_iadd hC dL_law_570 ?_ (h1 := by omega) (h2 := by omega)
  refine wl_sld hC hY dL_law_571 (by omega) (by omega) ?_
  refine wl_aload_n hC dL_law_572 rfl rfl ?_
  refine wl_iload_n hC dL_law_573 rfl rfl ?_
  refine wl_iconst hC dL_law_574 rfl ?_
  refine wl_iadd hC dL_law_575 ?_ (h1 := by omega) (h2 := by omega)
  refine wl_sld hC hY dL_law_576 (by omega) (by omega) ?_
  refine wl_inv (QN := fun z υ => z = y ∧ ∃ V, INV V υ) (N := mX13_comes) hC hX [vI (xs (i + 1).toNat).toInt, vI (xs (i + 2).toNat).toInt] dL_law_577 ml_CustomValleyLaw_69 mvX13_comes rfl rfl rfl rfl rfl (Nat.le_of_ble_eq_true rfl) (Nat.le_of_ble_eq_true rfl) (by decide) (by decide) (by decide) (WP.mono hy (fun r υ hr => ⟨y, hr.1, rfl, hr.2⟩)) (fun z υ hz => ?_)
  obtain ⟨V2, hV2⟩ := hz.2
  exact wl_icmp_eq hC (tgt := 1247) dL_law_580 (by decide) (fun _ => kn υ V2 hV2) (fun q => absurd hz.1.symm q)
theorem law_13 {V : Vy} {i : Int} (hC : CX mL_law G A p R s mid args meth c) (hX : SQ mL_law G A s mid ∧ cells ≤ R.cells ∧ slots ≤ R.slots) (hY : SCX G A s L xs) (hL : L ≤ 3072) (hi : 0 ≤ i) (hi5 : i + 5 < (L : Int)) (hI : INV V σ) (kn : ∀ τ V, INV V τ → WL mL_law G A p l e R s mid args below meth c cells slots Z 1247 [vR 1000 0, vR 12 0, vR 14 0, vI i] [] τ) : WL mL_law G A p l e R s mid args below meth c cells slots Z 585 [vR 1000 0, vR 12 0, vR 14 0, vI i] [] σ := by
  refine wl_aload_n hC dL_law_585 rfl rfl ?_
  refine wl_aload_n hC dL_law_586 rfl rfl ?_
  refine wl_iload_n hC dL_law_587 rfl rfl ?_
  refine wl_iconst hC dL_law_588 rfl ?_
  refine wl_iadd hC dL_law_589 ?_ (h1 := by omega) (h2 := by omega)
  refine wl_sld hC hY dL_law_590 (by omega) (by omega) ?_
  refine wl_aload_n hC dL_law_591 rfl rfl ?_
  refine wl_iload_n hC dL_law_592 rfl rfl ?_
  refine wl_iconst hC dL_law_593 rfl ?_
  refine wl_iadd hC dL_law_594 ?_ (h1 := by omega) (h2 := by omega)
  refine wl_sld hC hY dL_law_595 (by omega) (by omega) ?_
  refine wl_inv (N := mX11_fewest) hC hX [vI (xs (i + 1).toNat).toInt, vI (xs (i + 2).toNat).toInt] dL_law_596 ml_CustomValleyLaw_70 mvX11_fewest rfl rfl rfl rfl rfl (Nat.le_of_ble_eq_true rfl) (Nat.le_of_ble_eq_true rfl) (by decide) (by decide) (by decide) (pr_fewest hI) (fun y τ hy => ?_)
  refine wl_aload_n hC dL_law_599 rfl rfl ?_
  refine wl_aload_n hC dL_law_600 rfl rfl ?_
  refine wl_iload_n hC dL_law_601 rfl rfl ?_
  refine wl_iconst hC dL_law_602 rfl ?_
  refine wl_iadd hC dL_law_603 ?_ (h1 := by omega) (h2 := by omega)
  refine wl_sld hC hY dL_law_604 (by omega) (by omega) ?_
  refine wl_aload_n hC dL_law_605 rfl rfl ?_
  refine wl_iload_n hC dL_law_606 rfl rfl ?_
  refine wl_iconst hC dL_law_607 rfl ?_
  refine wl_iadd hC dL_law_608 ?_ (h1 := by omega) (h2 := by omega)
  refine wl_sld hC hY dL_law_609 (by omega) (by omega) ?_
  refine wl_inv (QN := fun z υ => z = y ∧ ∃ V, INV V υ) (N := mX13_fewest) hC hX [vI (xs (i + 1).toNat).toInt, vI (xs (i + 2).toNat).toInt] dL_law_610 ml_CustomValleyLaw_73 mvX13_fewest rfl rfl rfl rfl rfl (Nat.le_of_ble_eq_true rfl) (Nat.le_of_ble_eq_true rfl) (by decide) (by decide) (by decide) (WP.mono hy (fun r υ hr => ⟨y, hr.1, rfl, hr.2⟩)) (fun z υ hz => ?_)
  obtain ⟨V2, hV2⟩ := hz.2
  exact wl_icmp_eq hC (tgt := 1247) dL_law_613 (by decide) (fun _ => kn υ V2 hV2) (fun q => absurd hz.1.symm q)
theorem law_14 {V : Vy} {i : Int} (hC : CX mL_law G A p R s mid args meth c) (hX : SQ mL_law G A s mid ∧ cells ≤ R.cells ∧ slots ≤ R.slots) (hY : SCX G A s L xs) (hL : L ≤ 3072) (hi : 0 ≤ i) (hi5 : i + 5 < (L : Int)) (hI : INV V σ) (kn : ∀ τ V, INV V τ → WL mL_law G A p l e R s mid args below meth c cells slots Z 1247 [vR 1000 0, vR 12 0, vR 14 0, vI i] [] τ) : WL mL_law G A p l e R s mid args below meth c cells slots Z 618 [vR 1000 0, vR 12 0, vR 14 0, vI i] [] σ := by
  refine wl_aload_n hC dL_law_618 rfl rfl ?_
  refine wl_aload_n hC dL_law_619 rfl rfl ?_
  refine wl_iload_n hC dL_law_620 rfl rfl ?_
  refine wl_iconst hC dL_law_621 rfl ?_
  refine wl_iadd hC dL_law_622 ?_ (h1 := by omega) (h2 := by omega)
  refine wl_sld hC hY dL_law_623 (by omega) (by omega) ?_
  refine wl_inv (N := mX11_way) hC hX [vI (xs (i + 1).toNat).toInt] dL_law_624 ml_CustomValleyLaw_74 mvX11_way rfl rfl rfl rfl rfl (Nat.le_of_ble_eq_true rfl) (Nat.le_of_ble_eq_true rfl) (by decide) (by decide) (by decide) (pr_way hI) (fun y τ hy => ?_)
  refine wl_aload_n hC dL_law_627 rfl rfl ?_
  refine wl_aload_n hC dL_law_628 rfl rfl ?_
  refine wl_iload_n hC dL_law_629 rfl rfl ?_
  refine wl_iconst hC dL_law_630 rfl ?_
  refine wl_iadd hC dL_law_631 ?_ (h1 := by omega) (h2 := by omega)
  refine wl_sld hC hY dL_law_632 (by omega) (by omega) ?_
  refine wl_inv (QN := fun z υ => z = y ∧ ∃ V, INV V υ) (N := mX13_way) hC hX [vI (xs (i + 1).toNat).toInt] dL_law_633 ml_CustomValleyLaw_77 mvX13_way rfl rfl rfl rfl rfl (Nat.le_of_ble_eq_true rfl) (Nat.le_of_ble_eq_true rfl) (by decide) (by decide) (by decide) (WP.mono hy (fun r υ hr => ⟨y, hr.1, rfl, hr.2⟩)) (fun z υ hz => ?_)
  obtain ⟨V2, hV2⟩ := hz.2
  exact wl_icmp_eq hC (tgt := 1247) dL_law_636 (by decide) (fun _ => kn υ V2 hV2) (fun q => absurd hz.1.symm q)
theorem law_15 {V : Vy} {i : Int} (hC : CX mL_law G A p R s mid args meth c) (hX : SQ mL_law G A s mid ∧ cells ≤ R.cells ∧ slots ≤ R.slots) (hY : SCX G A s L xs) (hL : L ≤ 3072) (hi : 0 ≤ i) (hi5 : i + 5 < (L : Int)) (hI : INV V σ) (kn : ∀ τ V, INV V τ → WL mL_law G A p l e R s mid args below meth c cells slots Z 1247 [vR 1000 0, vR 12 0, vR 14 0, vI i] [] τ) : WL mL_law G A p l e R s mid args below meth c cells slots Z 641 [vR 1000 0, vR 12 0, vR 14 0, vI i] [] σ := by
  refine wl_aload_n hC dL_law_641 rfl rfl ?_
  refine wl_aload_n hC dL_law_642 rfl rfl ?_
  refine wl_iload_n hC dL_law_643 rfl rfl ?_
  refine wl_iconst hC dL_law_644 rfl ?_
  refine wl_iadd hC dL_law_645 ?_ (h1 := by omega) (h2 := by omega)
  refine wl_sld hC hY dL_law_646 (by omega) (by omega) ?_
  refine wl_aload_n hC dL_law_647 rfl rfl ?_
  refine wl_iload_n hC dL_law_648 rfl rfl ?_
  refine wl_iconst hC dL_law_649 rfl ?_
  refine wl_iadd hC dL_law_650 ?_ (h1 := by omega) (h2 := by omega)
  refine wl_sld hC hY dL_law_651 (by omega) (by omega) ?_
  refine wl_inv (N := mX11_between) hC hX [vI (xs (i + 1).toNat).toInt, vI (xs (i + 2).toNat).toInt] dL_law_652 ml_CustomValleyLaw_78 mvX11_between rfl rfl rfl rfl rfl (Nat.le_of_ble_eq_true rfl) (Nat.le_of_ble_eq_true rfl) (by decide) (by decide) (by decide) (pr_between hI) (fun y τ hy => ?_)
  refine wl_aload_n hC dL_law_655 rfl rfl ?_
  refine wl_aload_n hC dL_law_656 rfl rfl ?_
  refine wl_iload_n hC dL_law_657 rfl rfl ?_
  refine wl_iconst hC dL_law_658 rfl ?_
  refine wl_iadd hC dL_law_659 ?_ (h1 := by omega) (h2 := by omega)
  refine wl_sld hC hY dL_law_660 (by omega) (by omega) ?_
  refine wl_aload_n hC dL_law_661 rfl rfl ?_
  refine wl_iload_n hC dL_law_662 rfl rfl ?_
  refine wl_iconst hC dL_law_663 rfl ?_
  refine wl_iadd hC dL_law_664 ?_ (h1 := by omega) (h2 := by omega)
  refine wl_sld hC hY dL_law_665 (by omega) (by omega) ?_
  refine wl_inv (QN := fun z υ => z = y ∧ ∃ V, INV V υ) (N := mX13_between) hC hX [vI (xs (i + 1).toNat).toInt, vI (xs (i + 2).toNat).toInt] dL_law_666 ml_CustomValleyLaw_81 mvX13_between rfl rfl rfl rfl rfl (Nat.le_of_ble_eq_true rfl) (Nat.le_of_ble_eq_true rfl) (by decide) (by decide) (by decide) (WP.mono hy (fun r υ hr => ⟨y, hr.1, rfl, hr.2⟩)) (fun z υ hz => ?_)
  obtain ⟨V2, hV2⟩ := hz.2
  exact wl_icmp_eq hC (tgt := 1247) dL_law_669 (by decide) (fun _ => kn υ V2 hV2) (fun q => absurd hz.1.symm q)
theorem law_16 {V : Vy} {i : Int} (hC : CX mL_law G A p R s mid args meth c) (hX : SQ mL_law G A s mid ∧ cells ≤ R.cells ∧ slots ≤ R.slots) (hY : SCX G A s L xs) (hL : L ≤ 3072) (hi : 0 ≤ i) (hi5 : i + 5 < (L : Int)) (hI : INV V σ) (kn : ∀ τ V, INV V τ → WL mL_law G A p l e R s mid args below meth c cells slots Z 1247 [vR 1000 0, vR 12 0, vR 14 0, vI i] [] τ) : WL mL_law G A p l e R s mid args below meth c cells slots Z 674 [vR 1000 0, vR 12 0, vR 14 0, vI i] [] σ := by
  refine wl_aload_n hC dL_law_674 rfl rfl ?_
  refine wl_aload_n hC dL_law_675 rfl rfl ?_
  refine wl_iload_n hC dL_law_676 rfl rfl ?_
  refine wl_iconst hC dL_law_677 rfl ?_
  refine wl_iadd hC dL_law_678 ?_ (h1 := by omega) (h2 := by omega)
  refine wl_sld hC hY dL_law_679 (by omega) (by omega) ?_
  refine wl_inv (N := mX11_tree) hC hX [vI (xs (i + 1).toNat).toInt] dL_law_680 ml_CustomValleyLaw_82 mvX11_tree rfl rfl rfl rfl rfl (Nat.le_of_ble_eq_true rfl) (Nat.le_of_ble_eq_true rfl) (by decide) (by decide) (by decide) (pr_tree hI) (fun y τ hy => ?_)
  refine wl_aload_n hC dL_law_683 rfl rfl ?_
  refine wl_aload_n hC dL_law_684 rfl rfl ?_
  refine wl_iload_n hC dL_law_685 rfl rfl ?_
  refine wl_iconst hC dL_law_686 rfl ?_
  refine wl_iadd hC dL_law_687 ?_ (h1 := by omega) (h2 := by omega)
  refine wl_sld hC hY dL_law_688 (by omega) (by omega) ?_
  refine wl_inv (QN := fun z υ => z = y ∧ ∃ V, INV V υ) (N := mX13_tree) hC hX [vI (xs (i + 1).toNat).toInt] dL_law_689 ml_CustomValleyLaw_85 mvX13_tree rfl rfl rfl rfl rfl (Nat.le_of_ble_eq_true rfl) (Nat.le_of_ble_eq_true rfl) (by decide) (by decide) (by decide) (WP.mono hy (fun r υ hr => ⟨y, hr.1, rfl, hr.2⟩)) (fun z υ hz => ?_)
  obtain ⟨V2, hV2⟩ := hz.2
  exact wl_icmp_eq hC (tgt := 1247) dL_law_692 (by decide) (fun _ => kn υ V2 hV2) (fun q => absurd hz.1.symm q)
theorem law_17 {V : Vy} {i : Int} (hC : CX mL_law G A p R s mid args meth c) (hX : SQ mL_law G A s mid ∧ cells ≤ R.cells ∧ slots ≤ R.slots) (hY : SCX G A s L xs) (hL : L ≤ 3072) (hi : 0 ≤ i) (hi5 : i + 5 < (L : Int)) (hI : INV V σ) (kn : ∀ τ V, INV V τ → WL mL_law G A p l e R s mid args below meth c cells slots Z 1247 [vR 1000 0, vR 12 0, vR 14 0, vI i] [] τ) : WL mL_law G A p l e R s mid args below meth c cells slots Z 697 [vR 1000 0, vR 12 0, vR 14 0, vI i] [] σ := by
  refine wl_aload_n hC dL_law_697 rfl rfl ?_
  refine wl_aload_n hC dL_law_698 rfl rfl ?_
  refine wl_iload_n hC dL_law_699 rfl rfl ?_
  refine wl_iconst hC dL_law_700 rfl ?_
  refine wl_iadd hC dL_law_701 ?_ (h1 := by omega) (h2 := by omega)
  refine wl_sld hC hY dL_law_702 (by omega) (by omega) ?_
  refine wl_inv (N := mX11_treeTo) hC hX [vI (xs (i + 1).toNat).toInt] dL_law_703 ml_CustomValleyLaw_86 mvX11_treeTo rfl rfl rfl rfl rfl (Nat.le_of_ble_eq_true rfl) (Nat.le_of_ble_eq_true rfl) (by decide) (by decide) (by decide) (pr_treeTo hI) (fun y τ hy => ?_)
  refine wl_aload_n hC dL_law_706 rfl rfl ?_
  refine wl_aload_n hC dL_law_707 rfl rfl ?_
  refine wl_iload_n hC dL_law_708 rfl rfl ?_
  refine wl_iconst hC dL_law_709 rfl ?_
  refine wl_iadd hC dL_law_710 ?_ (h1 := by omega) (h2 := by omega)
  refine wl_sld hC hY dL_law_711 (by omega) (by omega) ?_
  refine wl_inv (QN := fun z υ => z = y ∧ ∃ V, INV V υ) (N := mX13_treeTo) hC hX [vI (xs (i + 1).toNat).toInt] dL_law_712 ml_CustomValleyLaw_89 mvX13_treeTo rfl rfl rfl rfl rfl (Nat.le_of_ble_eq_true rfl) (Nat.le_of_ble_eq_true rfl) (by decide) (by decide) (by decide) (WP.mono hy (fun r υ hr => ⟨y, hr.1, rfl, hr.2⟩)) (fun z υ hz => ?_)
  obtain ⟨V2, hV2⟩ := hz.2
  exact wl_icmp_eq hC (tgt := 1247) dL_law_715 (by decide) (fun _ => kn υ V2 hV2) (fun q => absurd hz.1.symm q)
theorem law_18 {V : Vy} {i : Int} (hC : CX mL_law G A p R s mid args meth c) (hX : SQ mL_law G A s mid ∧ cells ≤ R.cells ∧ slots ≤ R.slots) (hY : SCX G A s L xs) (hL : L ≤ 3072) (hi : 0 ≤ i) (hi5 : i + 5 < (L : Int)) (hI : INV V σ) (kn : ∀ τ V, INV V τ → WL mL_law G A p l e R s mid args below meth c cells slots Z 1247 [vR 1000 0, vR 12 0, vR 14 0, vI i] [] τ) : WL mL_law G A p l e R s mid args below meth c cells slots Z 720 [vR 1000 0, vR 12 0, vR 14 0, vI i] [] σ := by
  refine wl_aload_n hC dL_law_720 rfl rfl ?_
  refine wl_inv (N := mX11_winners) hC hX [] dL_law_721 ml_CustomValleyLaw_90 mvX11_winners rfl rfl rfl rfl rfl (Nat.le_of_ble_eq_true rfl) (Nat.le_of_ble_eq_true rfl) (by decide) (by decide) (by decide) (pr_winners hI) (fun y τ hy => ?_)
  refine wl_aload_n hC dL_law_724 rfl rfl ?_
  refine wl_inv (QN := fun z υ => z = y ∧ ∃ V, INV V υ) (N := mX13_winners) hC hX [] dL_law_725 ml_CustomValleyLaw_93 mvX13_winners rfl rfl rfl rfl rfl (Nat.le_of_ble_eq_true rfl) (Nat.le_of_ble_eq_true rfl) (by decide) (by decide) (by decide) (WP.mono hy (fun r υ hr => ⟨y, hr.1, rfl, hr.2⟩)) (fun z υ hz => ?_)
  obtain ⟨V2, hV2⟩ := hz.2
  exact wl_icmp_eq hC (tgt := 1247) dL_law_728 (by decide) (fun _ => kn υ V2 hV2) (fun q => absurd hz.1.symm q)
end Law1
