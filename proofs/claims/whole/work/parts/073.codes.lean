/-! each method's code word stands in the table -/
set_option maxRecDepth 100000 in
theorem am_kc_150 : lw_tbl[(am_mp 150).2.1]? = some (.code (am_y 150) (am_b 150) (am_L 150) (am_r 150)) := rfl
set_option maxRecDepth 100000 in
theorem am_kc_151 : lw_tbl[(am_mp 151).2.1]? = some (.code (am_y 151) (am_b 151) (am_L 151) (am_r 151)) := rfl
set_option maxRecDepth 100000 in
theorem am_kc_152 : lw_tbl[(am_mp 152).2.1]? = some (.code (am_y 152) (am_b 152) (am_L 152) (am_r 152)) := rfl
set_option maxRecDepth 100000 in
theorem am_kc_153 : lw_tbl[(am_mp 153).2.1]? = some (.code (am_y 153) (am_b 153) (am_L 153) (am_r 153)) := rfl
set_option maxRecDepth 100000 in
theorem am_kc_154 : lw_tbl[(am_mp 154).2.1]? = some (.code (am_y 154) (am_b 154) (am_L 154) (am_r 154)) := rfl
set_option maxRecDepth 100000 in
theorem am_kc_155 : lw_tbl[(am_mp 155).2.1]? = some (.code (am_y 155) (am_b 155) (am_L 155) (am_r 155)) := rfl
set_option maxRecDepth 100000 in
theorem am_kc_156 : lw_tbl[(am_mp 156).2.1]? = some (.code (am_y 156) (am_b 156) (am_L 156) (am_r 156)) := rfl
set_option maxRecDepth 100000 in
theorem am_kc_157 : lw_tbl[(am_mp 157).2.1]? = some (.code (am_y 157) (am_b 157) (am_L 157) (am_r 157)) := rfl
set_option maxRecDepth 100000 in
theorem am_kc_158 : lw_tbl[(am_mp 158).2.1]? = some (.code (am_y 158) (am_b 158) (am_L 158) (am_r 158)) := rfl
set_option maxRecDepth 100000 in
theorem am_kc_159 : lw_tbl[(am_mp 159).2.1]? = some (.code (am_y 159) (am_b 159) (am_L 159) (am_r 159)) := rfl
set_option maxRecDepth 100000 in
theorem am_kc_160 : lw_tbl[(am_mp 160).2.1]? = some (.code (am_y 160) (am_b 160) (am_L 160) (am_r 160)) := rfl
set_option maxRecDepth 100000 in
theorem am_kc_161 : lw_tbl[(am_mp 161).2.1]? = some (.code (am_y 161) (am_b 161) (am_L 161) (am_r 161)) := rfl
set_option maxRecDepth 100000 in
theorem am_kc_162 : lw_tbl[(am_mp 162).2.1]? = some (.code (am_y 162) (am_b 162) (am_L 162) (am_r 162)) := rfl
set_option maxRecDepth 100000 in
theorem am_kc_163 : lw_tbl[(am_mp 163).2.1]? = some (.code (am_y 163) (am_b 163) (am_L 163) (am_r 163)) := rfl
set_option maxRecDepth 100000 in
theorem am_kc_164 : lw_tbl[(am_mp 164).2.1]? = some (.code (am_y 164) (am_b 164) (am_L 164) (am_r 164)) := rfl
set_option maxRecDepth 100000 in
theorem am_kc_165 : lw_tbl[(am_mp 165).2.1]? = some (.code (am_y 165) (am_b 165) (am_L 165) (am_r 165)) := rfl
set_option maxRecDepth 100000 in
theorem am_kc_166 : lw_tbl[(am_mp 166).2.1]? = some (.code (am_y 166) (am_b 166) (am_L 166) (am_r 166)) := rfl
set_option maxRecDepth 100000 in
theorem am_kc_167 : lw_tbl[(am_mp 167).2.1]? = some (.code (am_y 167) (am_b 167) (am_L 167) (am_r 167)) := rfl
set_option maxRecDepth 100000 in
theorem am_kc_168 : lw_tbl[(am_mp 168).2.1]? = some (.code (am_y 168) (am_b 168) (am_L 168) (am_r 168)) := rfl
set_option maxRecDepth 100000 in
theorem am_kc_169 : lw_tbl[(am_mp 169).2.1]? = some (.code (am_y 169) (am_b 169) (am_L 169) (am_r 169)) := rfl
set_option maxRecDepth 100000 in
theorem am_kc_170 : lw_tbl[(am_mp 170).2.1]? = some (.code (am_y 170) (am_b 170) (am_L 170) (am_r 170)) := rfl
set_option maxRecDepth 100000 in
theorem am_kc_171 : lw_tbl[(am_mp 171).2.1]? = some (.code (am_y 171) (am_b 171) (am_L 171) (am_r 171)) := rfl
set_option maxRecDepth 100000 in
theorem am_kc_172 : lw_tbl[(am_mp 172).2.1]? = some (.code (am_y 172) (am_b 172) (am_L 172) (am_r 172)) := rfl
set_option maxRecDepth 100000 in
theorem am_kc_173 : lw_tbl[(am_mp 173).2.1]? = some (.code (am_y 173) (am_b 173) (am_L 173) (am_r 173)) := rfl
set_option maxRecDepth 100000 in
theorem am_kc_174 : lw_tbl[(am_mp 174).2.1]? = some (.code (am_y 174) (am_b 174) (am_L 174) (am_r 174)) := rfl
set_option maxRecDepth 100000 in
theorem am_kc_175 : lw_tbl[(am_mp 175).2.1]? = some (.code (am_y 175) (am_b 175) (am_L 175) (am_r 175)) := rfl
set_option maxRecDepth 100000 in
theorem am_kc_176 : lw_tbl[(am_mp 176).2.1]? = some (.code (am_y 176) (am_b 176) (am_L 176) (am_r 176)) := rfl
set_option maxRecDepth 100000 in
theorem am_kc_177 : lw_tbl[(am_mp 177).2.1]? = some (.code (am_y 177) (am_b 177) (am_L 177) (am_r 177)) := rfl
set_option maxRecDepth 100000 in
theorem am_kc_178 : lw_tbl[(am_mp 178).2.1]? = some (.code (am_y 178) (am_b 178) (am_L 178) (am_r 178)) := rfl
set_option maxRecDepth 100000 in
theorem am_kc_179 : lw_tbl[(am_mp 179).2.1]? = some (.code (am_y 179) (am_b 179) (am_L 179) (am_r 179)) := rfl
set_option maxRecDepth 100000 in
theorem am_kc_180 : lw_tbl[(am_mp 180).2.1]? = some (.code (am_y 180) (am_b 180) (am_L 180) (am_r 180)) := rfl
set_option maxRecDepth 100000 in
theorem am_kc_181 : lw_tbl[(am_mp 181).2.1]? = some (.code (am_y 181) (am_b 181) (am_L 181) (am_r 181)) := rfl
set_option maxRecDepth 100000 in
theorem am_kc_182 : lw_tbl[(am_mp 182).2.1]? = some (.code (am_y 182) (am_b 182) (am_L 182) (am_r 182)) := rfl
set_option maxRecDepth 100000 in
theorem am_kc_183 : lw_tbl[(am_mp 183).2.1]? = some (.code (am_y 183) (am_b 183) (am_L 183) (am_r 183)) := rfl
set_option maxRecDepth 100000 in
theorem am_kc_184 : lw_tbl[(am_mp 184).2.1]? = some (.code (am_y 184) (am_b 184) (am_L 184) (am_r 184)) := rfl
set_option maxRecDepth 100000 in
theorem am_kc_185 : lw_tbl[(am_mp 185).2.1]? = some (.code (am_y 185) (am_b 185) (am_L 185) (am_r 185)) := rfl
set_option maxRecDepth 100000 in
theorem am_kc_186 : lw_tbl[(am_mp 186).2.1]? = some (.code (am_y 186) (am_b 186) (am_L 186) (am_r 186)) := rfl
set_option maxRecDepth 100000 in
theorem am_kc_187 : lw_tbl[(am_mp 187).2.1]? = some (.code (am_y 187) (am_b 187) (am_L 187) (am_r 187)) := rfl
set_option maxRecDepth 100000 in
theorem am_kc_188 : lw_tbl[(am_mp 188).2.1]? = some (.code (am_y 188) (am_b 188) (am_L 188) (am_r 188)) := rfl
set_option maxRecDepth 100000 in
theorem am_kc_189 : lw_tbl[(am_mp 189).2.1]? = some (.code (am_y 189) (am_b 189) (am_L 189) (am_r 189)) := rfl
set_option maxRecDepth 100000 in
theorem am_kc_190 : lw_tbl[(am_mp 190).2.1]? = some (.code (am_y 190) (am_b 190) (am_L 190) (am_r 190)) := rfl
set_option maxRecDepth 100000 in
theorem am_kc_191 : lw_tbl[(am_mp 191).2.1]? = some (.code (am_y 191) (am_b 191) (am_L 191) (am_r 191)) := rfl
set_option maxRecDepth 100000 in
theorem am_kc_192 : lw_tbl[(am_mp 192).2.1]? = some (.code (am_y 192) (am_b 192) (am_L 192) (am_r 192)) := rfl
set_option maxRecDepth 100000 in
theorem am_kc_193 : lw_tbl[(am_mp 193).2.1]? = some (.code (am_y 193) (am_b 193) (am_L 193) (am_r 193)) := rfl
set_option maxRecDepth 100000 in
theorem am_kc_194 : lw_tbl[(am_mp 194).2.1]? = some (.code (am_y 194) (am_b 194) (am_L 194) (am_r 194)) := rfl
set_option maxRecDepth 100000 in
theorem am_kc_195 : lw_tbl[(am_mp 195).2.1]? = some (.code (am_y 195) (am_b 195) (am_L 195) (am_r 195)) := rfl
set_option maxRecDepth 100000 in
theorem am_kc_196 : lw_tbl[(am_mp 196).2.1]? = some (.code (am_y 196) (am_b 196) (am_L 196) (am_r 196)) := rfl
set_option maxRecDepth 100000 in
theorem am_kc_197 : lw_tbl[(am_mp 197).2.1]? = some (.code (am_y 197) (am_b 197) (am_L 197) (am_r 197)) := rfl
set_option maxRecDepth 100000 in
theorem am_kc_198 : lw_tbl[(am_mp 198).2.1]? = some (.code (am_y 198) (am_b 198) (am_L 198) (am_r 198)) := rfl
set_option maxRecDepth 100000 in
theorem am_kc_199 : lw_tbl[(am_mp 199).2.1]? = some (.code (am_y 199) (am_b 199) (am_L 199) (am_r 199)) := rfl
set_option maxRecDepth 100000 in
theorem am_kc3 : ∀ k, k < 50 → lw_tbl[(am_mp (150 + k)).2.1]? = some (.code (am_y (150 + k)) (am_b (150 + k)) (am_L (150 + k)) (am_r (150 + k))) := by
  intro k hk
  match k, hk with
  | 0, _ => exact am_kc_150
  | 1, _ => exact am_kc_151
  | 2, _ => exact am_kc_152
  | 3, _ => exact am_kc_153
  | 4, _ => exact am_kc_154
  | 5, _ => exact am_kc_155
  | 6, _ => exact am_kc_156
  | 7, _ => exact am_kc_157
  | 8, _ => exact am_kc_158
  | 9, _ => exact am_kc_159
  | 10, _ => exact am_kc_160
  | 11, _ => exact am_kc_161
  | 12, _ => exact am_kc_162
  | 13, _ => exact am_kc_163
  | 14, _ => exact am_kc_164
  | 15, _ => exact am_kc_165
  | 16, _ => exact am_kc_166
  | 17, _ => exact am_kc_167
  | 18, _ => exact am_kc_168
  | 19, _ => exact am_kc_169
  | 20, _ => exact am_kc_170
  | 21, _ => exact am_kc_171
  | 22, _ => exact am_kc_172
  | 23, _ => exact am_kc_173
  | 24, _ => exact am_kc_174
  | 25, _ => exact am_kc_175
  | 26, _ => exact am_kc_176
  | 27, _ => exact am_kc_177
  | 28, _ => exact am_kc_178
  | 29, _ => exact am_kc_179
  | 30, _ => exact am_kc_180
  | 31, _ => exact am_kc_181
  | 32, _ => exact am_kc_182
  | 33, _ => exact am_kc_183
  | 34, _ => exact am_kc_184
  | 35, _ => exact am_kc_185
  | 36, _ => exact am_kc_186
  | 37, _ => exact am_kc_187
  | 38, _ => exact am_kc_188
  | 39, _ => exact am_kc_189
  | 40, _ => exact am_kc_190
  | 41, _ => exact am_kc_191
  | 42, _ => exact am_kc_192
  | 43, _ => exact am_kc_193
  | 44, _ => exact am_kc_194
  | 45, _ => exact am_kc_195
  | 46, _ => exact am_kc_196
  | 47, _ => exact am_kc_197
  | 48, _ => exact am_kc_198
  | 49, _ => exact am_kc_199
  | k + 50, h => exact absurd h (by omega)
