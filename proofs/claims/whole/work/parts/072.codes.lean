/-! each method's code word stands in the table -/
set_option maxRecDepth 100000 in
theorem am_kc_100 : lw_tbl[(am_mp 100).2.1]? = some (.code (am_y 100) (am_b 100) (am_L 100) (am_r 100)) := rfl
set_option maxRecDepth 100000 in
theorem am_kc_101 : lw_tbl[(am_mp 101).2.1]? = some (.code (am_y 101) (am_b 101) (am_L 101) (am_r 101)) := rfl
set_option maxRecDepth 100000 in
theorem am_kc_102 : lw_tbl[(am_mp 102).2.1]? = some (.code (am_y 102) (am_b 102) (am_L 102) (am_r 102)) := rfl
set_option maxRecDepth 100000 in
theorem am_kc_103 : lw_tbl[(am_mp 103).2.1]? = some (.code (am_y 103) (am_b 103) (am_L 103) (am_r 103)) := rfl
set_option maxRecDepth 100000 in
theorem am_kc_104 : lw_tbl[(am_mp 104).2.1]? = some (.code (am_y 104) (am_b 104) (am_L 104) (am_r 104)) := rfl
set_option maxRecDepth 100000 in
theorem am_kc_105 : lw_tbl[(am_mp 105).2.1]? = some (.code (am_y 105) (am_b 105) (am_L 105) (am_r 105)) := rfl
set_option maxRecDepth 100000 in
theorem am_kc_106 : lw_tbl[(am_mp 106).2.1]? = some (.code (am_y 106) (am_b 106) (am_L 106) (am_r 106)) := rfl
set_option maxRecDepth 100000 in
theorem am_kc_107 : lw_tbl[(am_mp 107).2.1]? = some (.code (am_y 107) (am_b 107) (am_L 107) (am_r 107)) := rfl
set_option maxRecDepth 100000 in
theorem am_kc_108 : lw_tbl[(am_mp 108).2.1]? = some (.code (am_y 108) (am_b 108) (am_L 108) (am_r 108)) := rfl
set_option maxRecDepth 100000 in
theorem am_kc_109 : lw_tbl[(am_mp 109).2.1]? = some (.code (am_y 109) (am_b 109) (am_L 109) (am_r 109)) := rfl
set_option maxRecDepth 100000 in
theorem am_kc_110 : lw_tbl[(am_mp 110).2.1]? = some (.code (am_y 110) (am_b 110) (am_L 110) (am_r 110)) := rfl
set_option maxRecDepth 100000 in
theorem am_kc_111 : lw_tbl[(am_mp 111).2.1]? = some (.code (am_y 111) (am_b 111) (am_L 111) (am_r 111)) := rfl
set_option maxRecDepth 100000 in
theorem am_kc_112 : lw_tbl[(am_mp 112).2.1]? = some (.code (am_y 112) (am_b 112) (am_L 112) (am_r 112)) := rfl
set_option maxRecDepth 100000 in
theorem am_kc_113 : lw_tbl[(am_mp 113).2.1]? = some (.code (am_y 113) (am_b 113) (am_L 113) (am_r 113)) := rfl
set_option maxRecDepth 100000 in
theorem am_kc_114 : lw_tbl[(am_mp 114).2.1]? = some (.code (am_y 114) (am_b 114) (am_L 114) (am_r 114)) := rfl
set_option maxRecDepth 100000 in
theorem am_kc_115 : lw_tbl[(am_mp 115).2.1]? = some (.code (am_y 115) (am_b 115) (am_L 115) (am_r 115)) := rfl
set_option maxRecDepth 100000 in
theorem am_kc_116 : lw_tbl[(am_mp 116).2.1]? = some (.code (am_y 116) (am_b 116) (am_L 116) (am_r 116)) := rfl
set_option maxRecDepth 100000 in
theorem am_kc_117 : lw_tbl[(am_mp 117).2.1]? = some (.code (am_y 117) (am_b 117) (am_L 117) (am_r 117)) := rfl
set_option maxRecDepth 100000 in
theorem am_kc_118 : lw_tbl[(am_mp 118).2.1]? = some (.code (am_y 118) (am_b 118) (am_L 118) (am_r 118)) := rfl
set_option maxRecDepth 100000 in
theorem am_kc_119 : lw_tbl[(am_mp 119).2.1]? = some (.code (am_y 119) (am_b 119) (am_L 119) (am_r 119)) := rfl
set_option maxRecDepth 100000 in
theorem am_kc_120 : lw_tbl[(am_mp 120).2.1]? = some (.code (am_y 120) (am_b 120) (am_L 120) (am_r 120)) := rfl
set_option maxRecDepth 100000 in
theorem am_kc_121 : lw_tbl[(am_mp 121).2.1]? = some (.code (am_y 121) (am_b 121) (am_L 121) (am_r 121)) := rfl
set_option maxRecDepth 100000 in
theorem am_kc_122 : lw_tbl[(am_mp 122).2.1]? = some (.code (am_y 122) (am_b 122) (am_L 122) (am_r 122)) := rfl
set_option maxRecDepth 100000 in
theorem am_kc_123 : lw_tbl[(am_mp 123).2.1]? = some (.code (am_y 123) (am_b 123) (am_L 123) (am_r 123)) := rfl
set_option maxRecDepth 100000 in
theorem am_kc_124 : lw_tbl[(am_mp 124).2.1]? = some (.code (am_y 124) (am_b 124) (am_L 124) (am_r 124)) := rfl
set_option maxRecDepth 100000 in
theorem am_kc_125 : lw_tbl[(am_mp 125).2.1]? = some (.code (am_y 125) (am_b 125) (am_L 125) (am_r 125)) := rfl
set_option maxRecDepth 100000 in
theorem am_kc_126 : lw_tbl[(am_mp 126).2.1]? = some (.code (am_y 126) (am_b 126) (am_L 126) (am_r 126)) := rfl
set_option maxRecDepth 100000 in
theorem am_kc_127 : lw_tbl[(am_mp 127).2.1]? = some (.code (am_y 127) (am_b 127) (am_L 127) (am_r 127)) := rfl
set_option maxRecDepth 100000 in
theorem am_kc_128 : lw_tbl[(am_mp 128).2.1]? = some (.code (am_y 128) (am_b 128) (am_L 128) (am_r 128)) := rfl
set_option maxRecDepth 100000 in
theorem am_kc_129 : lw_tbl[(am_mp 129).2.1]? = some (.code (am_y 129) (am_b 129) (am_L 129) (am_r 129)) := rfl
set_option maxRecDepth 100000 in
theorem am_kc_130 : lw_tbl[(am_mp 130).2.1]? = some (.code (am_y 130) (am_b 130) (am_L 130) (am_r 130)) := rfl
set_option maxRecDepth 100000 in
theorem am_kc_131 : lw_tbl[(am_mp 131).2.1]? = some (.code (am_y 131) (am_b 131) (am_L 131) (am_r 131)) := rfl
set_option maxRecDepth 100000 in
theorem am_kc_132 : lw_tbl[(am_mp 132).2.1]? = some (.code (am_y 132) (am_b 132) (am_L 132) (am_r 132)) := rfl
set_option maxRecDepth 100000 in
theorem am_kc_133 : lw_tbl[(am_mp 133).2.1]? = some (.code (am_y 133) (am_b 133) (am_L 133) (am_r 133)) := rfl
set_option maxRecDepth 100000 in
theorem am_kc_134 : lw_tbl[(am_mp 134).2.1]? = some (.code (am_y 134) (am_b 134) (am_L 134) (am_r 134)) := rfl
set_option maxRecDepth 100000 in
theorem am_kc_135 : lw_tbl[(am_mp 135).2.1]? = some (.code (am_y 135) (am_b 135) (am_L 135) (am_r 135)) := rfl
set_option maxRecDepth 100000 in
theorem am_kc_136 : lw_tbl[(am_mp 136).2.1]? = some (.code (am_y 136) (am_b 136) (am_L 136) (am_r 136)) := rfl
set_option maxRecDepth 100000 in
theorem am_kc_137 : lw_tbl[(am_mp 137).2.1]? = some (.code (am_y 137) (am_b 137) (am_L 137) (am_r 137)) := rfl
set_option maxRecDepth 100000 in
theorem am_kc_138 : lw_tbl[(am_mp 138).2.1]? = some (.code (am_y 138) (am_b 138) (am_L 138) (am_r 138)) := rfl
set_option maxRecDepth 100000 in
theorem am_kc_139 : lw_tbl[(am_mp 139).2.1]? = some (.code (am_y 139) (am_b 139) (am_L 139) (am_r 139)) := rfl
set_option maxRecDepth 100000 in
theorem am_kc_140 : lw_tbl[(am_mp 140).2.1]? = some (.code (am_y 140) (am_b 140) (am_L 140) (am_r 140)) := rfl
set_option maxRecDepth 100000 in
theorem am_kc_141 : lw_tbl[(am_mp 141).2.1]? = some (.code (am_y 141) (am_b 141) (am_L 141) (am_r 141)) := rfl
set_option maxRecDepth 100000 in
theorem am_kc_142 : lw_tbl[(am_mp 142).2.1]? = some (.code (am_y 142) (am_b 142) (am_L 142) (am_r 142)) := rfl
set_option maxRecDepth 100000 in
theorem am_kc_143 : lw_tbl[(am_mp 143).2.1]? = some (.code (am_y 143) (am_b 143) (am_L 143) (am_r 143)) := rfl
set_option maxRecDepth 100000 in
theorem am_kc_144 : lw_tbl[(am_mp 144).2.1]? = some (.code (am_y 144) (am_b 144) (am_L 144) (am_r 144)) := rfl
set_option maxRecDepth 100000 in
theorem am_kc_145 : lw_tbl[(am_mp 145).2.1]? = some (.code (am_y 145) (am_b 145) (am_L 145) (am_r 145)) := rfl
set_option maxRecDepth 100000 in
theorem am_kc_146 : lw_tbl[(am_mp 146).2.1]? = some (.code (am_y 146) (am_b 146) (am_L 146) (am_r 146)) := rfl
set_option maxRecDepth 100000 in
theorem am_kc_147 : lw_tbl[(am_mp 147).2.1]? = some (.code (am_y 147) (am_b 147) (am_L 147) (am_r 147)) := rfl
set_option maxRecDepth 100000 in
theorem am_kc_148 : lw_tbl[(am_mp 148).2.1]? = some (.code (am_y 148) (am_b 148) (am_L 148) (am_r 148)) := rfl
set_option maxRecDepth 100000 in
theorem am_kc_149 : lw_tbl[(am_mp 149).2.1]? = some (.code (am_y 149) (am_b 149) (am_L 149) (am_r 149)) := rfl
set_option maxRecDepth 100000 in
theorem am_kc2 : ∀ k, k < 50 → lw_tbl[(am_mp (100 + k)).2.1]? = some (.code (am_y (100 + k)) (am_b (100 + k)) (am_L (100 + k)) (am_r (100 + k))) := by
  intro k hk
  match k, hk with
  | 0, _ => exact am_kc_100
  | 1, _ => exact am_kc_101
  | 2, _ => exact am_kc_102
  | 3, _ => exact am_kc_103
  | 4, _ => exact am_kc_104
  | 5, _ => exact am_kc_105
  | 6, _ => exact am_kc_106
  | 7, _ => exact am_kc_107
  | 8, _ => exact am_kc_108
  | 9, _ => exact am_kc_109
  | 10, _ => exact am_kc_110
  | 11, _ => exact am_kc_111
  | 12, _ => exact am_kc_112
  | 13, _ => exact am_kc_113
  | 14, _ => exact am_kc_114
  | 15, _ => exact am_kc_115
  | 16, _ => exact am_kc_116
  | 17, _ => exact am_kc_117
  | 18, _ => exact am_kc_118
  | 19, _ => exact am_kc_119
  | 20, _ => exact am_kc_120
  | 21, _ => exact am_kc_121
  | 22, _ => exact am_kc_122
  | 23, _ => exact am_kc_123
  | 24, _ => exact am_kc_124
  | 25, _ => exact am_kc_125
  | 26, _ => exact am_kc_126
  | 27, _ => exact am_kc_127
  | 28, _ => exact am_kc_128
  | 29, _ => exact am_kc_129
  | 30, _ => exact am_kc_130
  | 31, _ => exact am_kc_131
  | 32, _ => exact am_kc_132
  | 33, _ => exact am_kc_133
  | 34, _ => exact am_kc_134
  | 35, _ => exact am_kc_135
  | 36, _ => exact am_kc_136
  | 37, _ => exact am_kc_137
  | 38, _ => exact am_kc_138
  | 39, _ => exact am_kc_139
  | 40, _ => exact am_kc_140
  | 41, _ => exact am_kc_141
  | 42, _ => exact am_kc_142
  | 43, _ => exact am_kc_143
  | 44, _ => exact am_kc_144
  | 45, _ => exact am_kc_145
  | 46, _ => exact am_kc_146
  | 47, _ => exact am_kc_147
  | 48, _ => exact am_kc_148
  | 49, _ => exact am_kc_149
  | k + 50, h => exact absurd h (by omega)
