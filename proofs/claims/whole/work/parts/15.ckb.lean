/-! the code words of the methods (but the law itself), and the words of calls, stand in the tables -/
theorem ck0 : wAt (1, 56) = some (cdW mt0) := rfl
theorem ck1 : wAt (4, 148) = some (cdW mt1) := rfl
theorem ck2 : wAt (4, 136) = some (cdW mt2) := rfl
theorem ck3 : wAt (4, 140) = some (cdW mt3) := rfl
theorem ck4 : wAt (3, 119) = some (cdW mt4) := rfl
theorem ck5 : wAt (3, 138) = some (cdW mt5) := rfl
theorem ck6 : wAt (3, 141) = some (cdW mt6) := rfl
theorem ck7 : wAt (3, 145) = some (cdW mt7) := rfl
theorem ck8 : wAt (3, 172) = some (cdW mt8) := rfl
theorem ck9 : wAt (3, 148) = some (cdW mt9) := rfl
theorem ck10 : wAt (3, 152) = some (cdW mt10) := rfl
theorem ck11 : wAt (3, 169) = some (cdW mt11) := rfl
theorem ck12 : wAt (3, 161) = some (cdW mt12) := rfl
theorem ck13 : wAt (1, 125) = some (cdW mt13) := rfl
theorem ck14 : wAt (4, 5) = some (cdW mt14) := rfl
theorem ck15 : wAt (4, 12) = some (cdW mt15) := rfl
theorem ck16 : wAt (4, 16) = some (cdW mt16) := rfl
theorem ck17 : wAt (4, 20) = some (cdW mt17) := rfl
theorem ck18 : wAt (4, 62) = some (cdW mt18) := rfl
theorem ck19 : wAt (4, 24) = some (cdW mt19) := rfl
theorem ck20 : wAt (4, 34) = some (cdW mt20) := rfl
theorem ck21 : wAt (4, 58) = some (cdW mt21) := rfl
theorem ck22 : wAt (4, 38) = some (cdW mt22) := rfl
theorem ck23 : wAt (4, 42) = some (cdW mt23) := rfl
theorem ck24 : wAt (4, 46) = some (cdW mt24) := rfl
theorem ck25 : wAt (4, 50) = some (cdW mt25) := rfl
theorem ck26 : wAt (4, 54) = some (cdW mt26) := rfl
theorem ck27 : wAt (1, 185) = some (cdW mt27) := rfl
theorem ck28 : wAt (2, 193) = some (cdW mt28) := rfl
theorem ck29 : wAt (3, 88) = some (cdW mt29) := rfl
theorem ck30 : wAt (5, 69) = some (cdW mt30) := rfl
theorem ck31 : wAt (1, 230) = some (cdW mt31) := rfl
theorem ck32 : wAt (2, 185) = some (cdW mt32) := rfl
theorem ck33 : wAt (4, 183) = some (cdW mt33) := rfl
theorem ck34 : wAt (1, 144) = some (cdW mt34) := rfl
theorem ck35 : wAt (3, 181) = some (cdW mt35) := rfl
theorem ck36 : wAt (3, 184) = some (cdW mt36) := rfl
theorem ck37 : wAt (3, 187) = some (cdW mt37) := rfl
theorem ck38 : wAt (3, 208) = some (cdW mt38) := rfl
theorem ck39 : wAt (3, 201) = some (cdW mt39) := rfl
theorem ck40 : wAt (4, 84) = some (cdW mt40) := rfl
theorem ck41 : wAt (4, 88) = some (cdW mt41) := rfl
theorem ck42 : wAt (4, 95) = some (cdW mt42) := rfl
theorem ck43 : wAt (4, 92) = some (cdW mt43) := rfl
theorem ck44 : wAt (4, 99) = some (cdW mt44) := rfl
theorem ck45 : wAt (4, 103) = some (cdW mt45) := rfl
theorem ck46 : wAt (4, 107) = some (cdW mt46) := rfl
theorem ck47 : wAt (4, 111) = some (cdW mt47) := rfl
theorem ck48 : wAt (4, 119) = some (cdW mt48) := rfl
theorem ck49 : wAt (4, 127) = some (cdW mt49) := rfl
theorem ck50 : wAt (2, 209) = some (cdW mt50) := rfl
theorem ck51 : wAt (2, 212) = some (cdW mt51) := rfl
theorem ck52 : wAt (2, 215) = some (cdW mt52) := rfl
theorem ck53 : wAt (2, 218) = some (cdW mt53) := rfl
theorem ck54 : wAt (3, 43) = some (cdW mt54) := rfl
theorem ck55 : wAt (3, 46) = some (cdW mt55) := rfl
theorem ck56 : wAt (3, 49) = some (cdW mt56) := rfl
theorem ck57 : wAt (4, 186) = some (cdW mt57) := rfl
theorem ck58 : wAt (4, 189) = some (cdW mt58) := rfl
theorem ck59 : wAt (2, 50) = some (cdW mt59) := rfl
theorem ck60 : wAt (4, 156) = some (cdW mt60) := rfl
theorem ck61 : wAt (4, 179) = some (cdW mt61) := rfl
theorem ck62 : wAt (4, 207) = some (cdW mt62) := rfl
theorem ck63 : wAt (4, 221) = some (cdW mt63) := rfl
theorem ck64 : wAt (4, 216) = some (cdW mt64) := rfl
theorem ck65 : wAt (5, 77) = some (cdW mt65) := rfl
theorem ck66 : wAt (1, 76) = some (cdW mt66) := rfl
theorem ck67 : wAt (2, 163) = some (cdW mt67) := rfl
theorem ck68 : wAt (2, 170) = some (cdW mt68) := rfl
theorem ck69 : wAt (2, 173) = some (cdW mt69) := rfl
theorem ck70 : wAt (3, 165) = some (cdW mt70) := rfl
theorem ck71 : wAt (2, 177) = some (cdW mt71) := rfl
theorem ck72 : wAt (2, 223) = some (cdW mt72) := rfl
theorem ck73 : wAt (3, 40) = some (cdW mt73) := rfl
theorem ck74 : wAt (3, 62) = some (cdW mt74) := rfl
theorem ck75 : wAt (3, 76) = some (cdW mt75) := rfl
theorem ck76 : wAt (3, 35) = some (cdW mt76) := rfl
theorem ck77 : wAt (3, 57) = some (cdW mt77) := rfl
theorem ck78 : wAt (3, 66) = some (cdW mt78) := rfl
theorem ck79 : wAt (3, 158) = some (cdW mt79) := rfl
theorem ck80 : wAt (3, 71) = some (cdW mt80) := rfl
theorem ck81 : wAt (3, 92) = some (cdW mt81) := rfl
theorem ck82 : wAt (1, 161) = some (cdW mt82) := rfl
theorem ck83 : wAt (5, 11) = some (cdW mt83) := rfl
theorem ck84 : wAt (5, 16) = some (cdW mt84) := rfl
theorem ck85 : wAt (5, 20) = some (cdW mt85) := rfl
theorem ck86 : wAt (5, 25) = some (cdW mt86) := rfl
theorem ck87 : wAt (5, 39) = some (cdW mt87) := rfl
theorem ck88 : wAt (5, 44) = some (cdW mt88) := rfl
theorem ck89 : wAt (5, 52) = some (cdW mt89) := rfl
theorem ck90 : wAt (5, 61) = some (cdW mt90) := rfl
theorem ck91 : wAt (1, 44) = some (cdW mt91) := rfl
theorem ck92 : wAt (2, 139) = some (cdW mt92) := rfl
theorem ck93 : wAt (2, 147) = some (cdW mt93) := rfl
theorem ck94 : wAt (2, 198) = some (cdW mt94) := rfl
theorem ck95 : wAt (3, 135) = some (cdW mt95) := rfl
theorem ck96 : wAt (3, 178) = some (cdW mt96) := rfl
theorem ck97 : wAt (3, 213) = some (cdW mt97) := rfl
theorem ck98 : wAt (3, 217) = some (cdW mt98) := rfl
theorem ck99 : wAt (3, 221) = some (cdW mt99) := rfl
theorem ck100 : wAt (3, 225) = some (cdW mt100) := rfl
theorem ck101 : wAt (3, 229) = some (cdW mt101) := rfl
theorem ck102 : wAt (3, 233) = some (cdW mt102) := rfl
theorem ck103 : wAt (4, 67) = some (cdW mt103) := rfl
theorem ck104 : wAt (4, 72) = some (cdW mt104) := rfl
theorem ck105 : wAt (4, 123) = some (cdW mt105) := rfl
theorem ck106 : wAt (4, 76) = some (cdW mt106) := rfl
theorem ck107 : wAt (4, 132) = some (cdW mt107) := rfl
theorem ck108 : wAt (5, 97) = some (cdW mt108) := rfl
theorem ck109 : wAt (4, 144) = some (cdW mt109) := rfl
theorem ck110 : wAt (4, 152) = some (cdW mt110) := rfl
theorem ck111 : wAt (4, 163) = some (cdW mt111) := rfl
theorem ck112 : wAt (4, 167) = some (cdW mt112) := rfl
theorem ck113 : wAt (4, 199) = some (cdW mt113) := rfl
theorem ck114 : wAt (4, 203) = some (cdW mt114) := rfl
theorem ck115 : wAt (4, 211) = some (cdW mt115) := rfl
theorem ck116 : wAt (4, 226) = some (cdW mt116) := rfl
theorem ck117 : wAt (4, 230) = some (cdW mt117) := rfl
theorem ck118 : wAt (5, 3) = some (cdW mt118) := rfl
theorem ck119 : wAt (5, 30) = some (cdW mt119) := rfl
theorem ck120 : wAt (5, 48) = some (cdW mt120) := rfl
theorem ck121 : wAt (5, 57) = some (cdW mt121) := rfl
theorem ck122 : wAt (5, 65) = some (cdW mt122) := rfl
theorem ck123 : wAt (5, 85) = some (cdW mt123) := rfl
theorem ck124 : wAt (5, 89) = some (cdW mt124) := rfl
theorem ck125 : wAt (2, 143) = some (cdW mt125) := rfl
theorem ck126 : wAt (2, 155) = some (cdW mt126) := rfl
theorem ck127 : wAt (2, 189) = some (cdW mt127) := rfl
theorem ck128 : wAt (3, 84) = some (cdW mt128) := rfl
theorem ck129 : wAt (2, 206) = some (cdW mt129) := rfl
theorem ck130 : wAt (4, 171) = some (cdW mt130) := rfl
theorem ck131 : wAt (5, 7) = some (cdW mt131) := rfl
theorem ck132 : wAt (2, 151) = some (cdW mt132) := rfl
theorem ck133 : wAt (4, 8) = some (cdW mt133) := rfl
theorem ck134 : wAt (2, 181) = some (cdW mt134) := rfl
theorem ck135 : wAt (4, 1) = some (cdW mt135) := rfl
theorem ck136 : wAt (3, 237) = some (cdW mt136) := rfl
theorem ck137 : wAt (2, 202) = some (cdW mt137) := rfl
theorem ck138 : wAt (2, 159) = some (cdW mt138) := rfl
theorem ck139 : wAt (3, 80) = some (cdW mt139) := rfl
theorem ck140 : wAt (4, 80) = some (cdW mt140) := rfl
theorem ck141 : wAt (4, 175) = some (cdW mt141) := rfl
theorem ck142 : wAt (4, 234) = some (cdW mt142) := rfl
theorem ck143 : wAt (4, 239) = some (cdW mt143) := rfl
theorem ck144 : wAt (5, 34) = some (cdW mt144) := rfl
theorem ck145 : wAt (5, 81) = some (cdW mt145) := rfl
theorem ck146 : wAt (5, 73) = some (cdW mt146) := rfl
theorem ck147 : wAt (5, 209) = some (cdW mt147) := rfl
theorem ck148 : wAt (7, 123) = some (cdW mt148) := rfl
theorem ck149 : wAt (7, 183) = some (cdW mt149) := rfl
theorem ck150 : wAt (5, 239) = some (cdW mt150) := rfl
theorem ck151 : wAt (7, 166) = some (cdW mt151) := rfl
theorem ck152 : wAt (7, 36) = some (cdW mt152) := rfl
theorem ck153 : wAt (7, 104) = some (cdW mt153) := rfl
theorem ck154 : wAt (5, 188) = some (cdW mt154) := rfl
theorem ck155 : wAt (6, 44) = some (cdW mt155) := rfl
theorem ck156 : wAt (8, 233) = some (cdW mt156) := rfl
theorem ck157 : wAt (9, 9) = some (cdW mt157) := rfl
theorem ck158 : wAt (9, 32) = some (cdW mt158) := rfl
theorem ck159 : wAt (9, 46) = some (cdW mt159) := rfl
theorem ck160 : wAt (9, 41) = some (cdW mt160) := rfl
theorem ck161 : wAt (8, 34) = some (cdW mt161) := rfl
theorem ck162 : wAt (5, 164) = some (cdW mt162) := rfl
theorem ck163 : wAt (6, 223) = some (cdW mt163) := rfl
theorem ck164 : wAt (7, 31) = some (cdW mt164) := rfl
theorem ck165 : wAt (7, 19) = some (cdW mt165) := rfl
theorem ck166 : wAt (7, 114) = some (cdW mt166) := rfl
theorem ck167 : wAt (6, 219) = some (cdW mt167) := rfl
theorem ck168 : wAt (9, 20) = some (cdW mt168) := rfl
theorem ck169 : wAt (5, 169) = some (cdW mt169) := rfl
theorem ck170 : wAt (7, 15) = some (cdW mt170) := rfl
theorem ck171 : wAt (6, 204) = some (cdW mt171) := rfl
theorem ck172 : wAt (7, 80) = some (cdW mt172) := rfl
theorem ck173 : wAt (6, 239) = some (cdW mt173) := rfl
theorem ck174 : wAt (7, 2) = some (cdW mt174) := rfl
theorem ck175 : wAt (7, 5) = some (cdW mt175) := rfl
theorem ck176 : wAt (7, 74) = some (cdW mt176) := rfl
theorem ck177 : wAt (6, 235) = some (cdW mt177) := rfl
theorem ck178 : wAt (6, 231) = some (cdW mt178) := rfl
theorem ck179 : wAt (7, 71) = some (cdW mt179) := rfl
theorem ck180 : wAt (7, 84) = some (cdW mt180) := rfl
theorem ck181 : wAt (7, 88) = some (cdW mt181) := rfl
theorem ck182 : wAt (7, 96) = some (cdW mt182) := rfl
theorem ck183 : wAt (7, 100) = some (cdW mt183) := rfl
theorem ck184 : wAt (7, 58) = some (cdW mt184) := rfl
theorem ck185 : wAt (7, 62) = some (cdW mt185) := rfl
theorem ck186 : wAt (7, 66) = some (cdW mt186) := rfl
theorem ck187 : wAt (9, 13) = some (cdW mt187) := rfl
theorem ck188 : wAt (9, 17) = some (cdW mt188) := rfl
theorem ck189 : wAt (7, 132) = some (cdW mt189) := rfl
theorem ck190 : wAt (7, 178) = some (cdW mt190) := rfl
theorem ck191 : wAt (8, 183) = some (cdW mt191) := rfl
theorem ck192 : wAt (8, 179) = some (cdW mt192) := rfl
theorem ck193 : wAt (8, 114) = some (cdW mt193) := rfl
theorem ck194 : wAt (8, 176) = some (cdW mt194) := rfl
theorem ck195 : wAt (8, 170) = some (cdW mt195) := rfl
theorem ck196 : wAt (8, 118) = some (cdW mt196) := rfl
theorem ck197 : wAt (8, 111) = some (cdW mt197) := rfl
theorem ck198 : wAt (8, 103) = some (cdW mt198) := rfl
theorem ck199 : wAt (8, 187) = some (cdW mt199) := rfl
theorem ck200 : wAt (8, 107) = some (cdW mt200) := rfl
theorem ck201 : wAt (8, 63) = some (cdW mt201) := rfl
theorem ck202 : wAt (8, 74) = some (cdW mt202) := rfl
theorem ck203 : wAt (8, 200) = some (cdW mt203) := rfl
theorem ck204 : wAt (8, 204) = some (cdW mt204) := rfl
theorem ck205 : wAt (6, 208) = some (cdW mt205) := rfl
theorem ck206 : wAt (6, 216) = some (cdW mt206) := rfl
theorem ck207 : wAt (7, 27) = some (cdW mt207) := rfl
theorem ck208 : wAt (6, 227) = some (cdW mt208) := rfl
theorem ck209 : wAt (7, 9) = some (cdW mt209) := rfl
theorem ck210 : wAt (6, 212) = some (cdW mt210) := rfl
theorem ck211 : wAt (7, 110) = some (cdW mt211) := rfl
theorem ck212 : wAt (7, 23) = some (cdW mt212) := rfl
theorem ck213 : wAt (7, 118) = some (cdW mt213) := rfl
theorem ck214 : wAt (8, 29) = some (cdW mt214) := rfl
theorem ck215 : wAt (8, 79) = some (cdW mt215) := rfl
theorem ck216 : wAt (8, 83) = some (cdW mt216) := rfl
theorem ck217 : wAt (8, 87) = some (cdW mt217) := rfl
theorem ck218 : wAt (8, 91) = some (cdW mt218) := rfl
theorem ck219 : wAt (8, 95) = some (cdW mt219) := rfl
theorem ck220 : wAt (8, 99) = some (cdW mt220) := rfl
theorem ck221 : wAt (8, 192) = some (cdW mt221) := rfl
theorem ck222 : wAt (8, 196) = some (cdW mt222) := rfl
theorem ck223 : wAt (8, 208) = some (cdW mt223) := rfl
theorem ck224 : wAt (8, 213) = some (cdW mt224) := rfl
theorem ck225 : wAt (8, 217) = some (cdW mt225) := rfl
theorem ck226 : wAt (8, 221) = some (cdW mt226) := rfl
theorem ck227 : wAt (8, 225) = some (cdW mt227) := rfl
theorem ck228 : wAt (8, 229) = some (cdW mt228) := rfl
theorem ck229 : wAt (8, 237) = some (cdW mt229) := rfl
theorem ck230 : wAt (9, 5) = some (cdW mt230) := rfl
theorem ck231 : wAt (9, 1) = some (cdW mt231) := rfl
theorem ck232 : wAt (9, 24) = some (cdW mt232) := rfl
theorem ck233 : wAt (9, 28) = some (cdW mt233) := rfl
theorem ck234 : wAt (9, 37) = some (cdW mt234) := rfl
theorem ck235 : wAt (9, 51) = some (cdW mt235) := rfl
theorem ck236 : wAt (9, 59) = some (cdW mt236) := rfl
theorem ck237 : wAt (9, 55) = some (cdW mt237) := rfl
theorem ck238 : wAt (9, 67) = some (cdW mt238) := rfl
theorem ck239 : wAt (9, 71) = some (cdW mt239) := rfl
theorem ck240 : wAt (9, 63) = some (cdW mt240) := rfl
theorem ck241 : wAt (9, 75) = some (cdW mt241) := rfl
theorem ck242 : wAt (9, 79) = some (cdW mt242) := rfl
theorem ck243 : wAt (9, 83) = some (cdW mt243) := rfl
theorem ck244 : wAt (9, 87) = some (cdW mt244) := rfl
theorem ck245 : wAt (9, 91) = some (cdW mt245) := rfl
theorem ck246 : wAt (4, 192) = some (cdW mt246) := rfl
theorem ck247 : wAt (7, 143) = some (cdW mt247) := rfl
theorem ck248 : wAt (7, 140) = some (cdW mt248) := rfl
theorem ck249 : wAt (8, 127) = some (cdW mt249) := rfl
theorem ck250 : wAt (8, 151) = some (cdW mt250) := rfl
theorem ck251 : wAt (8, 160) = some (cdW mt251) := rfl
theorem ck252 : wAt (8, 164) = some (cdW mt252) := rfl
theorem ck253 : wAt (7, 137) = some (cdW mt253) := rfl
theorem ck254 : wAt (7, 217) = some (cdW mt254) := rfl
theorem ck255 : wAt (7, 213) = some (cdW mt255) := rfl
theorem ck256 : wAt (7, 209) = some (cdW mt256) := rfl
theorem ck257 : wAt (7, 205) = some (cdW mt257) := rfl
theorem ck258 : wAt (8, 122) = some (cdW mt258) := rfl
theorem ck259 : wAt (4, 30) = some (cdW mt259) := rfl
theorem ck260 : wAt (4, 27) = some (cdW mt260) := rfl
theorem ck261 : wAt (4, 159) = some (cdW mt261) := rfl
theorem ck262 : wAt (4, 114) = some (cdW mt262) := rfl
theorem ck263 : wAt (3, 111) = some (cdW mt263) := rfl
theorem ck264 : wAt (3, 97) = some (cdW mt264) := rfl
theorem ck265 : wAt (7, 220) = some (cdW mt265) := rfl
theorem ck266 : wAt (7, 227) = some (cdW mt266) := rfl
theorem ck267 : wAt (5, 92) = some (cdW mt267) := rfl
def lawI : Nat := 268
def CKOK (q : MTY) : Prop := cdW q ∈ lw_tbl
def CKL_0 : List MTY := [mt0, mt1, mt2, mt3, mt4, mt5, mt6, mt7, mt8, mt9, mt10, mt11, mt12, mt13, mt14, mt15]
theorem CKL_0_ok : ∀ q ∈ CKL_0, CKOK q := List.forall_mem_cons.mpr ⟨wAt_in ck0, List.forall_mem_cons.mpr ⟨wAt_in ck1, List.forall_mem_cons.mpr ⟨wAt_in ck2, List.forall_mem_cons.mpr ⟨wAt_in ck3, List.forall_mem_cons.mpr ⟨wAt_in ck4, List.forall_mem_cons.mpr ⟨wAt_in ck5, List.forall_mem_cons.mpr ⟨wAt_in ck6, List.forall_mem_cons.mpr ⟨wAt_in ck7, List.forall_mem_cons.mpr ⟨wAt_in ck8, List.forall_mem_cons.mpr ⟨wAt_in ck9, List.forall_mem_cons.mpr ⟨wAt_in ck10, List.forall_mem_cons.mpr ⟨wAt_in ck11, List.forall_mem_cons.mpr ⟨wAt_in ck12, List.forall_mem_cons.mpr ⟨wAt_in ck13, List.forall_mem_cons.mpr ⟨wAt_in ck14, List.forall_mem_cons.mpr ⟨wAt_in ck15, fun _ h => absurd h List.not_mem_nil⟩⟩⟩⟩⟩⟩⟩⟩⟩⟩⟩⟩⟩⟩⟩⟩
def CKL_1 : List MTY := [mt16, mt17, mt18, mt19, mt20, mt21, mt22, mt23, mt24, mt25, mt26, mt27, mt28, mt29, mt30, mt31]
theorem CKL_1_ok : ∀ q ∈ CKL_1, CKOK q := List.forall_mem_cons.mpr ⟨wAt_in ck16, List.forall_mem_cons.mpr ⟨wAt_in ck17, List.forall_mem_cons.mpr ⟨wAt_in ck18, List.forall_mem_cons.mpr ⟨wAt_in ck19, List.forall_mem_cons.mpr ⟨wAt_in ck20, List.forall_mem_cons.mpr ⟨wAt_in ck21, List.forall_mem_cons.mpr ⟨wAt_in ck22, List.forall_mem_cons.mpr ⟨wAt_in ck23, List.forall_mem_cons.mpr ⟨wAt_in ck24, List.forall_mem_cons.mpr ⟨wAt_in ck25, List.forall_mem_cons.mpr ⟨wAt_in ck26, List.forall_mem_cons.mpr ⟨wAt_in ck27, List.forall_mem_cons.mpr ⟨wAt_in ck28, List.forall_mem_cons.mpr ⟨wAt_in ck29, List.forall_mem_cons.mpr ⟨wAt_in ck30, List.forall_mem_cons.mpr ⟨wAt_in ck31, fun _ h => absurd h List.not_mem_nil⟩⟩⟩⟩⟩⟩⟩⟩⟩⟩⟩⟩⟩⟩⟩⟩
def CKL_2 : List MTY := [mt32, mt33, mt34, mt35, mt36, mt37, mt38, mt39, mt40, mt41, mt42, mt43, mt44, mt45, mt46, mt47]
theorem CKL_2_ok : ∀ q ∈ CKL_2, CKOK q := List.forall_mem_cons.mpr ⟨wAt_in ck32, List.forall_mem_cons.mpr ⟨wAt_in ck33, List.forall_mem_cons.mpr ⟨wAt_in ck34, List.forall_mem_cons.mpr ⟨wAt_in ck35, List.forall_mem_cons.mpr ⟨wAt_in ck36, List.forall_mem_cons.mpr ⟨wAt_in ck37, List.forall_mem_cons.mpr ⟨wAt_in ck38, List.forall_mem_cons.mpr ⟨wAt_in ck39, List.forall_mem_cons.mpr ⟨wAt_in ck40, List.forall_mem_cons.mpr ⟨wAt_in ck41, List.forall_mem_cons.mpr ⟨wAt_in ck42, List.forall_mem_cons.mpr ⟨wAt_in ck43, List.forall_mem_cons.mpr ⟨wAt_in ck44, List.forall_mem_cons.mpr ⟨wAt_in ck45, List.forall_mem_cons.mpr ⟨wAt_in ck46, List.forall_mem_cons.mpr ⟨wAt_in ck47, fun _ h => absurd h List.not_mem_nil⟩⟩⟩⟩⟩⟩⟩⟩⟩⟩⟩⟩⟩⟩⟩⟩
def CKL_3 : List MTY := [mt48, mt49, mt50, mt51, mt52, mt53, mt54, mt55, mt56, mt57, mt58, mt59, mt60, mt61, mt62, mt63]
theorem CKL_3_ok : ∀ q ∈ CKL_3, CKOK q := List.forall_mem_cons.mpr ⟨wAt_in ck48, List.forall_mem_cons.mpr ⟨wAt_in ck49, List.forall_mem_cons.mpr ⟨wAt_in ck50, List.forall_mem_cons.mpr ⟨wAt_in ck51, List.forall_mem_cons.mpr ⟨wAt_in ck52, List.forall_mem_cons.mpr ⟨wAt_in ck53, List.forall_mem_cons.mpr ⟨wAt_in ck54, List.forall_mem_cons.mpr ⟨wAt_in ck55, List.forall_mem_cons.mpr ⟨wAt_in ck56, List.forall_mem_cons.mpr ⟨wAt_in ck57, List.forall_mem_cons.mpr ⟨wAt_in ck58, List.forall_mem_cons.mpr ⟨wAt_in ck59, List.forall_mem_cons.mpr ⟨wAt_in ck60, List.forall_mem_cons.mpr ⟨wAt_in ck61, List.forall_mem_cons.mpr ⟨wAt_in ck62, List.forall_mem_cons.mpr ⟨wAt_in ck63, fun _ h => absurd h List.not_mem_nil⟩⟩⟩⟩⟩⟩⟩⟩⟩⟩⟩⟩⟩⟩⟩⟩
def CKL_4 : List MTY := [mt64, mt65, mt66, mt67, mt68, mt69, mt70, mt71, mt72, mt73, mt74, mt75, mt76, mt77, mt78, mt79]
theorem CKL_4_ok : ∀ q ∈ CKL_4, CKOK q := List.forall_mem_cons.mpr ⟨wAt_in ck64, List.forall_mem_cons.mpr ⟨wAt_in ck65, List.forall_mem_cons.mpr ⟨wAt_in ck66, List.forall_mem_cons.mpr ⟨wAt_in ck67, List.forall_mem_cons.mpr ⟨wAt_in ck68, List.forall_mem_cons.mpr ⟨wAt_in ck69, List.forall_mem_cons.mpr ⟨wAt_in ck70, List.forall_mem_cons.mpr ⟨wAt_in ck71, List.forall_mem_cons.mpr ⟨wAt_in ck72, List.forall_mem_cons.mpr ⟨wAt_in ck73, List.forall_mem_cons.mpr ⟨wAt_in ck74, List.forall_mem_cons.mpr ⟨wAt_in ck75, List.forall_mem_cons.mpr ⟨wAt_in ck76, List.forall_mem_cons.mpr ⟨wAt_in ck77, List.forall_mem_cons.mpr ⟨wAt_in ck78, List.forall_mem_cons.mpr ⟨wAt_in ck79, fun _ h => absurd h List.not_mem_nil⟩⟩⟩⟩⟩⟩⟩⟩⟩⟩⟩⟩⟩⟩⟩⟩
def CKL_5 : List MTY := [mt80, mt81, mt82, mt83, mt84, mt85, mt86, mt87, mt88, mt89, mt90, mt91, mt92, mt93, mt94, mt95]
theorem CKL_5_ok : ∀ q ∈ CKL_5, CKOK q := List.forall_mem_cons.mpr ⟨wAt_in ck80, List.forall_mem_cons.mpr ⟨wAt_in ck81, List.forall_mem_cons.mpr ⟨wAt_in ck82, List.forall_mem_cons.mpr ⟨wAt_in ck83, List.forall_mem_cons.mpr ⟨wAt_in ck84, List.forall_mem_cons.mpr ⟨wAt_in ck85, List.forall_mem_cons.mpr ⟨wAt_in ck86, List.forall_mem_cons.mpr ⟨wAt_in ck87, List.forall_mem_cons.mpr ⟨wAt_in ck88, List.forall_mem_cons.mpr ⟨wAt_in ck89, List.forall_mem_cons.mpr ⟨wAt_in ck90, List.forall_mem_cons.mpr ⟨wAt_in ck91, List.forall_mem_cons.mpr ⟨wAt_in ck92, List.forall_mem_cons.mpr ⟨wAt_in ck93, List.forall_mem_cons.mpr ⟨wAt_in ck94, List.forall_mem_cons.mpr ⟨wAt_in ck95, fun _ h => absurd h List.not_mem_nil⟩⟩⟩⟩⟩⟩⟩⟩⟩⟩⟩⟩⟩⟩⟩⟩
def CKL_6 : List MTY := [mt96, mt97, mt98, mt99, mt100, mt101, mt102, mt103, mt104, mt105, mt106, mt107, mt108, mt109, mt110, mt111]
theorem CKL_6_ok : ∀ q ∈ CKL_6, CKOK q := List.forall_mem_cons.mpr ⟨wAt_in ck96, List.forall_mem_cons.mpr ⟨wAt_in ck97, List.forall_mem_cons.mpr ⟨wAt_in ck98, List.forall_mem_cons.mpr ⟨wAt_in ck99, List.forall_mem_cons.mpr ⟨wAt_in ck100, List.forall_mem_cons.mpr ⟨wAt_in ck101, List.forall_mem_cons.mpr ⟨wAt_in ck102, List.forall_mem_cons.mpr ⟨wAt_in ck103, List.forall_mem_cons.mpr ⟨wAt_in ck104, List.forall_mem_cons.mpr ⟨wAt_in ck105, List.forall_mem_cons.mpr ⟨wAt_in ck106, List.forall_mem_cons.mpr ⟨wAt_in ck107, List.forall_mem_cons.mpr ⟨wAt_in ck108, List.forall_mem_cons.mpr ⟨wAt_in ck109, List.forall_mem_cons.mpr ⟨wAt_in ck110, List.forall_mem_cons.mpr ⟨wAt_in ck111, fun _ h => absurd h List.not_mem_nil⟩⟩⟩⟩⟩⟩⟩⟩⟩⟩⟩⟩⟩⟩⟩⟩
def CKL_7 : List MTY := [mt112, mt113, mt114, mt115, mt116, mt117, mt118, mt119, mt120, mt121, mt122, mt123, mt124, mt125, mt126, mt127]
theorem CKL_7_ok : ∀ q ∈ CKL_7, CKOK q := List.forall_mem_cons.mpr ⟨wAt_in ck112, List.forall_mem_cons.mpr ⟨wAt_in ck113, List.forall_mem_cons.mpr ⟨wAt_in ck114, List.forall_mem_cons.mpr ⟨wAt_in ck115, List.forall_mem_cons.mpr ⟨wAt_in ck116, List.forall_mem_cons.mpr ⟨wAt_in ck117, List.forall_mem_cons.mpr ⟨wAt_in ck118, List.forall_mem_cons.mpr ⟨wAt_in ck119, List.forall_mem_cons.mpr ⟨wAt_in ck120, List.forall_mem_cons.mpr ⟨wAt_in ck121, List.forall_mem_cons.mpr ⟨wAt_in ck122, List.forall_mem_cons.mpr ⟨wAt_in ck123, List.forall_mem_cons.mpr ⟨wAt_in ck124, List.forall_mem_cons.mpr ⟨wAt_in ck125, List.forall_mem_cons.mpr ⟨wAt_in ck126, List.forall_mem_cons.mpr ⟨wAt_in ck127, fun _ h => absurd h List.not_mem_nil⟩⟩⟩⟩⟩⟩⟩⟩⟩⟩⟩⟩⟩⟩⟩⟩
def CKL_8 : List MTY := [mt128, mt129, mt130, mt131, mt132, mt133, mt134, mt135, mt136, mt137, mt138, mt139, mt140, mt141, mt142, mt143]
theorem CKL_8_ok : ∀ q ∈ CKL_8, CKOK q := List.forall_mem_cons.mpr ⟨wAt_in ck128, List.forall_mem_cons.mpr ⟨wAt_in ck129, List.forall_mem_cons.mpr ⟨wAt_in ck130, List.forall_mem_cons.mpr ⟨wAt_in ck131, List.forall_mem_cons.mpr ⟨wAt_in ck132, List.forall_mem_cons.mpr ⟨wAt_in ck133, List.forall_mem_cons.mpr ⟨wAt_in ck134, List.forall_mem_cons.mpr ⟨wAt_in ck135, List.forall_mem_cons.mpr ⟨wAt_in ck136, List.forall_mem_cons.mpr ⟨wAt_in ck137, List.forall_mem_cons.mpr ⟨wAt_in ck138, List.forall_mem_cons.mpr ⟨wAt_in ck139, List.forall_mem_cons.mpr ⟨wAt_in ck140, List.forall_mem_cons.mpr ⟨wAt_in ck141, List.forall_mem_cons.mpr ⟨wAt_in ck142, List.forall_mem_cons.mpr ⟨wAt_in ck143, fun _ h => absurd h List.not_mem_nil⟩⟩⟩⟩⟩⟩⟩⟩⟩⟩⟩⟩⟩⟩⟩⟩
def CKL_9 : List MTY := [mt144, mt145, mt146, mt147, mt148, mt149, mt150, mt151, mt152, mt153, mt154, mt155, mt156, mt157, mt158, mt159]
theorem CKL_9_ok : ∀ q ∈ CKL_9, CKOK q := List.forall_mem_cons.mpr ⟨wAt_in ck144, List.forall_mem_cons.mpr ⟨wAt_in ck145, List.forall_mem_cons.mpr ⟨wAt_in ck146, List.forall_mem_cons.mpr ⟨wAt_in ck147, List.forall_mem_cons.mpr ⟨wAt_in ck148, List.forall_mem_cons.mpr ⟨wAt_in ck149, List.forall_mem_cons.mpr ⟨wAt_in ck150, List.forall_mem_cons.mpr ⟨wAt_in ck151, List.forall_mem_cons.mpr ⟨wAt_in ck152, List.forall_mem_cons.mpr ⟨wAt_in ck153, List.forall_mem_cons.mpr ⟨wAt_in ck154, List.forall_mem_cons.mpr ⟨wAt_in ck155, List.forall_mem_cons.mpr ⟨wAt_in ck156, List.forall_mem_cons.mpr ⟨wAt_in ck157, List.forall_mem_cons.mpr ⟨wAt_in ck158, List.forall_mem_cons.mpr ⟨wAt_in ck159, fun _ h => absurd h List.not_mem_nil⟩⟩⟩⟩⟩⟩⟩⟩⟩⟩⟩⟩⟩⟩⟩⟩
def CKL_10 : List MTY := [mt160, mt161, mt162, mt163, mt164, mt165, mt166, mt167, mt168, mt169, mt170, mt171, mt172, mt173, mt174, mt175]
theorem CKL_10_ok : ∀ q ∈ CKL_10, CKOK q := List.forall_mem_cons.mpr ⟨wAt_in ck160, List.forall_mem_cons.mpr ⟨wAt_in ck161, List.forall_mem_cons.mpr ⟨wAt_in ck162, List.forall_mem_cons.mpr ⟨wAt_in ck163, List.forall_mem_cons.mpr ⟨wAt_in ck164, List.forall_mem_cons.mpr ⟨wAt_in ck165, List.forall_mem_cons.mpr ⟨wAt_in ck166, List.forall_mem_cons.mpr ⟨wAt_in ck167, List.forall_mem_cons.mpr ⟨wAt_in ck168, List.forall_mem_cons.mpr ⟨wAt_in ck169, List.forall_mem_cons.mpr ⟨wAt_in ck170, List.forall_mem_cons.mpr ⟨wAt_in ck171, List.forall_mem_cons.mpr ⟨wAt_in ck172, List.forall_mem_cons.mpr ⟨wAt_in ck173, List.forall_mem_cons.mpr ⟨wAt_in ck174, List.forall_mem_cons.mpr ⟨wAt_in ck175, fun _ h => absurd h List.not_mem_nil⟩⟩⟩⟩⟩⟩⟩⟩⟩⟩⟩⟩⟩⟩⟩⟩
def CKL_11 : List MTY := [mt176, mt177, mt178, mt179, mt180, mt181, mt182, mt183, mt184, mt185, mt186, mt187, mt188, mt189, mt190, mt191]
theorem CKL_11_ok : ∀ q ∈ CKL_11, CKOK q := List.forall_mem_cons.mpr ⟨wAt_in ck176, List.forall_mem_cons.mpr ⟨wAt_in ck177, List.forall_mem_cons.mpr ⟨wAt_in ck178, List.forall_mem_cons.mpr ⟨wAt_in ck179, List.forall_mem_cons.mpr ⟨wAt_in ck180, List.forall_mem_cons.mpr ⟨wAt_in ck181, List.forall_mem_cons.mpr ⟨wAt_in ck182, List.forall_mem_cons.mpr ⟨wAt_in ck183, List.forall_mem_cons.mpr ⟨wAt_in ck184, List.forall_mem_cons.mpr ⟨wAt_in ck185, List.forall_mem_cons.mpr ⟨wAt_in ck186, List.forall_mem_cons.mpr ⟨wAt_in ck187, List.forall_mem_cons.mpr ⟨wAt_in ck188, List.forall_mem_cons.mpr ⟨wAt_in ck189, List.forall_mem_cons.mpr ⟨wAt_in ck190, List.forall_mem_cons.mpr ⟨wAt_in ck191, fun _ h => absurd h List.not_mem_nil⟩⟩⟩⟩⟩⟩⟩⟩⟩⟩⟩⟩⟩⟩⟩⟩
def CKL_12 : List MTY := [mt192, mt193, mt194, mt195, mt196, mt197, mt198, mt199, mt200, mt201, mt202, mt203, mt204, mt205, mt206, mt207]
theorem CKL_12_ok : ∀ q ∈ CKL_12, CKOK q := List.forall_mem_cons.mpr ⟨wAt_in ck192, List.forall_mem_cons.mpr ⟨wAt_in ck193, List.forall_mem_cons.mpr ⟨wAt_in ck194, List.forall_mem_cons.mpr ⟨wAt_in ck195, List.forall_mem_cons.mpr ⟨wAt_in ck196, List.forall_mem_cons.mpr ⟨wAt_in ck197, List.forall_mem_cons.mpr ⟨wAt_in ck198, List.forall_mem_cons.mpr ⟨wAt_in ck199, List.forall_mem_cons.mpr ⟨wAt_in ck200, List.forall_mem_cons.mpr ⟨wAt_in ck201, List.forall_mem_cons.mpr ⟨wAt_in ck202, List.forall_mem_cons.mpr ⟨wAt_in ck203, List.forall_mem_cons.mpr ⟨wAt_in ck204, List.forall_mem_cons.mpr ⟨wAt_in ck205, List.forall_mem_cons.mpr ⟨wAt_in ck206, List.forall_mem_cons.mpr ⟨wAt_in ck207, fun _ h => absurd h List.not_mem_nil⟩⟩⟩⟩⟩⟩⟩⟩⟩⟩⟩⟩⟩⟩⟩⟩
def CKL_13 : List MTY := [mt208, mt209, mt210, mt211, mt212, mt213, mt214, mt215, mt216, mt217, mt218, mt219, mt220, mt221, mt222, mt223]
theorem CKL_13_ok : ∀ q ∈ CKL_13, CKOK q := List.forall_mem_cons.mpr ⟨wAt_in ck208, List.forall_mem_cons.mpr ⟨wAt_in ck209, List.forall_mem_cons.mpr ⟨wAt_in ck210, List.forall_mem_cons.mpr ⟨wAt_in ck211, List.forall_mem_cons.mpr ⟨wAt_in ck212, List.forall_mem_cons.mpr ⟨wAt_in ck213, List.forall_mem_cons.mpr ⟨wAt_in ck214, List.forall_mem_cons.mpr ⟨wAt_in ck215, List.forall_mem_cons.mpr ⟨wAt_in ck216, List.forall_mem_cons.mpr ⟨wAt_in ck217, List.forall_mem_cons.mpr ⟨wAt_in ck218, List.forall_mem_cons.mpr ⟨wAt_in ck219, List.forall_mem_cons.mpr ⟨wAt_in ck220, List.forall_mem_cons.mpr ⟨wAt_in ck221, List.forall_mem_cons.mpr ⟨wAt_in ck222, List.forall_mem_cons.mpr ⟨wAt_in ck223, fun _ h => absurd h List.not_mem_nil⟩⟩⟩⟩⟩⟩⟩⟩⟩⟩⟩⟩⟩⟩⟩⟩
def CKL_14 : List MTY := [mt224, mt225, mt226, mt227, mt228, mt229, mt230, mt231, mt232, mt233, mt234, mt235, mt236, mt237, mt238, mt239]
theorem CKL_14_ok : ∀ q ∈ CKL_14, CKOK q := List.forall_mem_cons.mpr ⟨wAt_in ck224, List.forall_mem_cons.mpr ⟨wAt_in ck225, List.forall_mem_cons.mpr ⟨wAt_in ck226, List.forall_mem_cons.mpr ⟨wAt_in ck227, List.forall_mem_cons.mpr ⟨wAt_in ck228, List.forall_mem_cons.mpr ⟨wAt_in ck229, List.forall_mem_cons.mpr ⟨wAt_in ck230, List.forall_mem_cons.mpr ⟨wAt_in ck231, List.forall_mem_cons.mpr ⟨wAt_in ck232, List.forall_mem_cons.mpr ⟨wAt_in ck233, List.forall_mem_cons.mpr ⟨wAt_in ck234, List.forall_mem_cons.mpr ⟨wAt_in ck235, List.forall_mem_cons.mpr ⟨wAt_in ck236, List.forall_mem_cons.mpr ⟨wAt_in ck237, List.forall_mem_cons.mpr ⟨wAt_in ck238, List.forall_mem_cons.mpr ⟨wAt_in ck239, fun _ h => absurd h List.not_mem_nil⟩⟩⟩⟩⟩⟩⟩⟩⟩⟩⟩⟩⟩⟩⟩⟩
def CKL_15 : List MTY := [mt240, mt241, mt242, mt243, mt244, mt245, mt246, mt247, mt248, mt249, mt250, mt251, mt252, mt253, mt254, mt255]
theorem CKL_15_ok : ∀ q ∈ CKL_15, CKOK q := List.forall_mem_cons.mpr ⟨wAt_in ck240, List.forall_mem_cons.mpr ⟨wAt_in ck241, List.forall_mem_cons.mpr ⟨wAt_in ck242, List.forall_mem_cons.mpr ⟨wAt_in ck243, List.forall_mem_cons.mpr ⟨wAt_in ck244, List.forall_mem_cons.mpr ⟨wAt_in ck245, List.forall_mem_cons.mpr ⟨wAt_in ck246, List.forall_mem_cons.mpr ⟨wAt_in ck247, List.forall_mem_cons.mpr ⟨wAt_in ck248, List.forall_mem_cons.mpr ⟨wAt_in ck249, List.forall_mem_cons.mpr ⟨wAt_in ck250, List.forall_mem_cons.mpr ⟨wAt_in ck251, List.forall_mem_cons.mpr ⟨wAt_in ck252, List.forall_mem_cons.mpr ⟨wAt_in ck253, List.forall_mem_cons.mpr ⟨wAt_in ck254, List.forall_mem_cons.mpr ⟨wAt_in ck255, fun _ h => absurd h List.not_mem_nil⟩⟩⟩⟩⟩⟩⟩⟩⟩⟩⟩⟩⟩⟩⟩⟩
def CKL_16 : List MTY := [mt256, mt257, mt258, mt259, mt260, mt261, mt262, mt263, mt264, mt265, mt266, mt267]
theorem CKL_16_ok : ∀ q ∈ CKL_16, CKOK q := List.forall_mem_cons.mpr ⟨wAt_in ck256, List.forall_mem_cons.mpr ⟨wAt_in ck257, List.forall_mem_cons.mpr ⟨wAt_in ck258, List.forall_mem_cons.mpr ⟨wAt_in ck259, List.forall_mem_cons.mpr ⟨wAt_in ck260, List.forall_mem_cons.mpr ⟨wAt_in ck261, List.forall_mem_cons.mpr ⟨wAt_in ck262, List.forall_mem_cons.mpr ⟨wAt_in ck263, List.forall_mem_cons.mpr ⟨wAt_in ck264, List.forall_mem_cons.mpr ⟨wAt_in ck265, List.forall_mem_cons.mpr ⟨wAt_in ck266, List.forall_mem_cons.mpr ⟨wAt_in ck267, fun _ h => absurd h List.not_mem_nil⟩⟩⟩⟩⟩⟩⟩⟩⟩⟩⟩⟩
set_option maxRecDepth 100000 in
theorem CKL_cut : MTB.take lawI = CKL_0 ++ (CKL_1 ++ (CKL_2 ++ (CKL_3 ++ (CKL_4 ++ (CKL_5 ++ (CKL_6 ++ (CKL_7 ++ (CKL_8 ++ (CKL_9 ++ (CKL_10 ++ (CKL_11 ++ (CKL_12 ++ (CKL_13 ++ (CKL_14 ++ (CKL_15 ++ (CKL_16)))))))))))))))) := rfl
theorem CKL_ok : ∀ q ∈ MTB.take lawI, CKOK q := by
  rw [CKL_cut]
  exact List.forall_mem_append.mpr ⟨CKL_0_ok, List.forall_mem_append.mpr ⟨CKL_1_ok, List.forall_mem_append.mpr ⟨CKL_2_ok, List.forall_mem_append.mpr ⟨CKL_3_ok, List.forall_mem_append.mpr ⟨CKL_4_ok, List.forall_mem_append.mpr ⟨CKL_5_ok, List.forall_mem_append.mpr ⟨CKL_6_ok, List.forall_mem_append.mpr ⟨CKL_7_ok, List.forall_mem_append.mpr ⟨CKL_8_ok, List.forall_mem_append.mpr ⟨CKL_9_ok, List.forall_mem_append.mpr ⟨CKL_10_ok, List.forall_mem_append.mpr ⟨CKL_11_ok, List.forall_mem_append.mpr ⟨CKL_12_ok, List.forall_mem_append.mpr ⟨CKL_13_ok, List.forall_mem_append.mpr ⟨CKL_14_ok, List.forall_mem_append.mpr ⟨CKL_15_ok, CKL_16_ok⟩⟩⟩⟩⟩⟩⟩⟩⟩⟩⟩⟩⟩⟩⟩⟩
theorem CK_at {mi : Nat} {r : MTY} (h : MTB[mi]? = some r) (hl : mi < lawI) : cdW r ∈ lw_tbl := by
  refine CKL_ok r (List.mem_of_getElem? (i := mi) ?_)
  rw [List.getElem?_take, if_pos hl]
  exact h
set_option maxRecDepth 100000 in
theorem ML_o0 : ((MLs.getD 0 []).all fun y => mlC 0 y.1 y.2) = true := by decide +kernel
set_option maxRecDepth 100000 in
theorem ML_o1 : ((MLs.getD 1 []).all fun y => mlC 1 y.1 y.2) = true := by decide +kernel
set_option maxRecDepth 100000 in
theorem ML_o2 : ((MLs.getD 2 []).all fun y => mlC 2 y.1 y.2) = true := by decide +kernel
set_option maxRecDepth 100000 in
theorem ML_o3 : ((MLs.getD 3 []).all fun y => mlC 3 y.1 y.2) = true := by decide +kernel
set_option maxRecDepth 100000 in
theorem ML_o4 : ((MLs.getD 4 []).all fun y => mlC 4 y.1 y.2) = true := by decide +kernel
set_option maxRecDepth 100000 in
theorem ML_o5 : ((MLs.getD 5 []).all fun y => mlC 5 y.1 y.2) = true := by decide +kernel
set_option maxRecDepth 100000 in
theorem ML_o6 : ((MLs.getD 6 []).all fun y => mlC 6 y.1 y.2) = true := by decide +kernel
set_option maxRecDepth 100000 in
theorem ML_o7 : ((MLs.getD 7 []).all fun y => mlC 7 y.1 y.2) = true := by decide +kernel
set_option maxRecDepth 100000 in
theorem ML_o8 : ((MLs.getD 8 []).all fun y => mlC 8 y.1 y.2) = true := by decide +kernel
set_option maxRecDepth 100000 in
theorem ML_o9 : ((MLs.getD 9 []).all fun y => mlC 9 y.1 y.2) = true := by decide +kernel
set_option maxRecDepth 100000 in
theorem ML_o10 : ((MLs.getD 10 []).all fun y => mlC 10 y.1 y.2) = true := by decide +kernel
set_option maxRecDepth 100000 in
theorem ML_o11 : ((MLs.getD 11 []).all fun y => mlC 11 y.1 y.2) = true := by decide +kernel
set_option maxRecDepth 100000 in
theorem ML_o12 : ((MLs.getD 12 []).all fun y => mlC 12 y.1 y.2) = true := by decide +kernel
set_option maxRecDepth 100000 in
theorem ML_o13 : ((MLs.getD 13 []).all fun y => mlC 13 y.1 y.2) = true := by decide +kernel
set_option maxRecDepth 100000 in
theorem ML_o14 : ((MLs.getD 14 []).all fun y => mlC 14 y.1 y.2) = true := by decide +kernel
set_option maxRecDepth 100000 in
theorem ML_o15 : ((MLs.getD 15 []).all fun y => mlC 15 y.1 y.2) = true := by decide +kernel
set_option maxRecDepth 100000 in
theorem ML_o16 : ((MLs.getD 16 []).all fun y => mlC 16 y.1 y.2) = true := by decide +kernel
set_option maxRecDepth 100000 in
theorem ML_o17 : ((MLs.getD 17 []).all fun y => mlC 17 y.1 y.2) = true := by decide +kernel
set_option maxRecDepth 100000 in
theorem ML_o18 : ((MLs.getD 18 []).all fun y => mlC 18 y.1 y.2) = true := by decide +kernel
set_option maxRecDepth 100000 in
theorem ML_o19 : ((MLs.getD 19 []).all fun y => mlC 19 y.1 y.2) = true := by decide +kernel
set_option maxRecDepth 100000 in
theorem ML_o20 : ((MLs.getD 20 []).all fun y => mlC 20 y.1 y.2) = true := by decide +kernel
set_option maxRecDepth 100000 in
theorem ML_o21 : ((MLs.getD 21 []).all fun y => mlC 21 y.1 y.2) = true := by decide +kernel
set_option maxRecDepth 100000 in
theorem ML_o22 : ((MLs.getD 22 []).all fun y => mlC 22 y.1 y.2) = true := by decide +kernel
set_option maxRecDepth 100000 in
theorem ML_o23 : ((MLs.getD 23 []).all fun y => mlC 23 y.1 y.2) = true := by decide +kernel
set_option maxRecDepth 100000 in
theorem ML_o24 : ((MLs.getD 24 []).all fun y => mlC 24 y.1 y.2) = true := by decide +kernel
set_option maxRecDepth 100000 in
theorem ML_o25 : ((MLs.getD 25 []).all fun y => mlC 25 y.1 y.2) = true := by decide +kernel
set_option maxRecDepth 100000 in
theorem ML_o26 : ((MLs.getD 26 []).all fun y => mlC 26 y.1 y.2) = true := by decide +kernel
set_option maxRecDepth 100000 in
theorem ML_o27 : ((MLs.getD 27 []).all fun y => mlC 27 y.1 y.2) = true := by decide +kernel
set_option maxRecDepth 100000 in
theorem ML_o28 : ((MLs.getD 28 []).all fun y => mlC 28 y.1 y.2) = true := by decide +kernel
set_option maxRecDepth 100000 in
theorem ML_o29 : ((MLs.getD 29 []).all fun y => mlC 29 y.1 y.2) = true := by decide +kernel
theorem ML_len : MLs.length = 30 := rfl
theorem ML_o (o : Nat) : ((MLs.getD o []).all fun y => mlC o y.1 y.2) = true := by
  match o with
  | 0 => exact ML_o0
  | 1 => exact ML_o1
  | 2 => exact ML_o2
  | 3 => exact ML_o3
  | 4 => exact ML_o4
  | 5 => exact ML_o5
  | 6 => exact ML_o6
  | 7 => exact ML_o7
  | 8 => exact ML_o8
  | 9 => exact ML_o9
  | 10 => exact ML_o10
  | 11 => exact ML_o11
  | 12 => exact ML_o12
  | 13 => exact ML_o13
  | 14 => exact ML_o14
  | 15 => exact ML_o15
  | 16 => exact ML_o16
  | 17 => exact ML_o17
  | 18 => exact ML_o18
  | 19 => exact ML_o19
  | 20 => exact ML_o20
  | 21 => exact ML_o21
  | 22 => exact ML_o22
  | 23 => exact ML_o23
  | 24 => exact ML_o24
  | 25 => exact ML_o25
  | 26 => exact ML_o26
  | 27 => exact ML_o27
  | 28 => exact ML_o28
  | 29 => exact ML_o29
  | o + 30 =>
    have e : MLs[o + 30]? = none := List.getElem?_eq_none (by rw [ML_len]; omega)
    rw [List.getD_eq_getElem?_getD, e]
    rfl
theorem ML_at {mi ix : Nat} {e : Nat × Nat × Nat × Nat} (h : ML mi ix = some e) : ∃ o, OWs[mi]? = some o ∧ mlC o ix e = true := by
  obtain ⟨o, q, h1, h2, h3⟩ := LKo_at h
  refine ⟨o, h1, ?_⟩
  have h4 := ML_o o
  rw [List.getD_eq_getElem?_getD, h2] at h4
  exact List.all_eq_true.mp h4 _ h3
